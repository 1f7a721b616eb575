/-! ===== reading: states of both, and the reference's steps ===== -/
theorem gd_l {c d : List Nat} {j : Nat} (h : j < c.length) : (c ++ d).getD j 0 = c.getD j 0 := by
  rw [List.getD_eq_getElem?_getD, List.getD_eq_getElem?_getD, List.getElem?_append_left h]
theorem gd_e {c : List Nat} {v : Nat} : (c ++ [v]).getD c.length 0 = v := by
  rw [List.getD_eq_getElem?_getD, List.getElem?_append_right (Nat.le_refl _), Nat.sub_self]
  rfl
theorem ln1 {c : List Nat} {v : Nat} : (c ++ [v]).length = c.length + 1 := by rw [List.length_append]; rfl
def rk (t : Nat) : Nat := match t with
  | 14 => 1
  | 15 => 2
  | 16 => 3
  | 22 => 4
  | 23 => 4
  | 20 => 5
  | 21 => 5
  | _ => 0
theorem rk_lt {t : Nat} (h : 1 ≤ rk t) : t < 24 := by
  unfold rk at h
  split at h <;> omega
theorem rk_all : ∀ t, t < 26 → rM_rankOf (rmp t) = some (nI (rk t)) := by decide +kernel
theorem rk_big {t : Nat} (h : 24 ≤ t) : rk t = 0 := by
  by_cases c : 1 ≤ rk t
  · have := rk_lt c; omega
  · omega
theorem rk_eq (t : Nat) : rM_rankOf (rmp t) = some (nI (rk t)) := by
  by_cases h : t < 26
  · exact rk_all t h
  · rw [rmp_num (by omega), rk_big (by omega)]
    decide
theorem rk_le (t : Nat) : rk t ≤ 5 := by
  unfold rk
  split <;> omega
theorem rmp_inj : ∀ a, a < 24 → ∀ b, b < 24 → rmp a = rmp b → a = b := by decide +kernel
def cen (t : Nat) : Int32 := if 26 ≤ t then nI (t - 26) else if t ≤ 10 then nI (10000 + t) else nI (20000 + t)
def ren (t : Nat) : Int32 := if 26 ≤ t then nI (t - 26) else if t ≤ 10 then -nI (t + 1) else -100 - rmp t
/-- the reference reads: tokens behind, operators that wait (the last one at the end), what is laid -/
def RS (B : Nat → Int32) (n : Nat) (M0 M : SS) (part at_ : Nat) (V e : List Nat) : Prop := M 154 16 = nI (eq_ B n at_) ∧ M 154 19 = nI (203 * part + 1 + e.length) ∧ M 154 20 = nI V.length ∧ (∀ j, j < V.length → M 164 j = rmp (V.getD j 0)) ∧ (∀ j, j < e.length → M 163 (203 * part + 1 + j) = ren (e.getD j 0)) ∧ (∀ j, j ≤ 203 * part → M 163 j = M0 163 j) ∧ (∀ x, x ≠ 154 → x ≠ 163 → x ≠ 164 → M x = M0 x) ∧ ∀ j, (j < 15 ∨ 20 < j) → M 154 j = M0 154 j
def RF (B : Nat → Int32) (n : Nat) (M0 M : SS) (at_ : Nat) : Prop := M 154 15 = nI (pq B n at_) ∧ (∀ x, x ≠ 154 → x ≠ 163 → x ≠ 164 → M x = M0 x) ∧ ∀ j, (j < 15 ∨ 20 < j) → M 154 j = M0 154 j
/-- kept by what lays and settles -/
def K2 (M M' : SS) : Prop := ∀ j, j ≠ 19 → j ≠ 20 → M' 154 j = M 154 j
section Steps
variable {B : Nat → Int32} {n : Nat} {M0 M : SS} {part at_ : Nat} {V e : List Nat}
theorem RS.lx (h : RS B n M0 M part at_ V e) (h0 : LXc M0 B n) : LXc M B n := by
  obtain ⟨h1, h2, h3, h4, h5⟩ := h0
  obtain ⟨_, _, _, _, _, _, g1, g2⟩ := h
  refine ⟨h1, by rw [g2 8 (by omega)]; exact h2, by rw [g1 160 (by decide) (by decide) (by decide)]; exact h3, h4, ?_⟩
  unfold CN
  rw [g1 161 (by decide) (by decide) (by decide), g1 162 (by decide) (by decide) (by decide)]
  exact h5
theorem RS.look (h : RS B n M0 M part at_ V e) (h0 : LXc M0 B n) : ∃ M1, rM_looks M = some M1 ∧ RS B n M0 M1 part (at_ + 1) V e ∧ M1 154 15 = nI (pq B n at_) ∧ M1 154 17 = rmp (tq B n at_) ∧ (26 ≤ tq B n at_ → M1 154 18 = nI (tq B n at_ - 26)) := by
  obtain ⟨M1, a1, a2, a3, a4, a5, a6⟩ := looks_ok (h.lx h0) h.1
  obtain ⟨r1, r2, r3, r4, r5, r6, r7, r8⟩ := h
  refine ⟨M1, a1, ⟨a4, by rw [a2.2 19 (by omega)]; exact r2, by rw [a2.2 20 (by omega)]; exact r3, ?_, ?_, ?_, fun x h1 h2 h3 => by rw [a2.1 x h1]; exact r7 x h1 h2 h3, fun j hj => by rw [a2.2 j (by omega)]; exact r8 j hj⟩, a3, a5, a6⟩
  · rw [a2.1 164 (by decide)]; exact r4
  · rw [a2.1 163 (by decide)]; exact r5
  · rw [a2.1 163 (by decide)]; exact r6
theorem RS.rf (h : RS B n M0 M part (at_ + 1) V e) (h15 : M 154 15 = nI (pq B n at_)) : RF B n M0 M at_ := ⟨h15, h.2.2.2.2.2.2.1, h.2.2.2.2.2.2.2⟩
theorem RS.push (h : RS B n M0 M part at_ V e) {t : Nat} : RS B n M0 (up (up M 164 V.length (rmp t)) 154 20 (nI (V.length + 1))) part at_ (V ++ [t]) e := by
  obtain ⟨r1, r2, r3, r4, r5, r6, r7, r8⟩ := h
  refine ⟨by rw [up_j (by decide), up_x (by decide)]; exact r1, by rw [up_j (by decide), up_x (by decide)]; exact r2, by rw [up_s, ln1], fun j hj => ?_, fun j hj => by rw [up_x (by decide), up_x (by decide)]; exact r5 j hj, fun j hj => by rw [up_x (by decide), up_x (by decide)]; exact r6 j hj, fun x h1 h2 h3 => by rw [up_o h1, up_o h3]; exact r7 x h1 h2 h3, fun j hj => by rw [up_j (by omega), up_x (by decide)]; exact r8 j hj⟩
  rw [ln1] at hj
  rw [up_x (by decide)]
  by_cases c : j = V.length
  · rw [c, up_s, gd_e]
  · rw [up_j c, gd_l (by omega)]
    exact r4 j (by omega)
theorem RS.pop {t : Nat} (h : RS B n M0 M part at_ (V ++ [t]) e) : RS B n M0 (up M 154 20 (nI V.length)) part at_ V e := by
  obtain ⟨r1, r2, r3, r4, r5, r6, r7, r8⟩ := h
  refine ⟨by rw [up_j (by decide)]; exact r1, by rw [up_j (by decide)]; exact r2, up_s, fun j hj => ?_, fun j hj => by rw [up_x (by decide)]; exact r5 j hj, fun j hj => by rw [up_x (by decide)]; exact r6 j hj, fun x h1 h2 h3 => by rw [up_o h1]; exact r7 x h1 h2 h3, fun j hj => by rw [up_j (by omega)]; exact r8 j hj⟩
  rw [up_x (by decide)]
  have := r4 j (by rw [ln1]; omega)
  rw [gd_l hj] at this
  exact this
theorem RS.lay (h : RS B n M0 M part at_ V e) {t : Nat} {v : Int32} (hv : v = ren t) (hp : part < 3) (he : e.length < 200) : ∃ M', rM_lays M v = some M' ∧ RS B n M0 M' part at_ V (e ++ [t]) ∧ K2 M M' := by
  subst hv
  obtain ⟨r1, r2, r3, r4, r5, r6, r7, r8⟩ := h
  unfold rM_lays
  rw [r2, if_pos (nI_inb (by omega) (by decide)), nI_ix (by omega), up_x (show (154 : Nat) ≠ 163 by decide), r2, nI_1]
  refine ⟨_, rfl, ⟨by rw [up_j (by decide), up_x (by decide)]; exact r1, by rw [up_s, ln1]; rfl, by rw [up_j (by decide), up_x (by decide)]; exact r3, fun j hj => by rw [up_x (by decide), up_x (by decide)]; exact r4 j hj, fun j hj => ?_, fun j hj => by rw [up_x (by decide), up_j (by omega)]; exact r6 j hj, fun x h1 h2 h3 => by rw [up_o h1, up_o h2]; exact r7 x h1 h2 h3, fun j hj => by rw [up_j (by omega), up_x (by decide)]; exact r8 j hj⟩, fun j h1 h2 => by rw [up_j h1, up_x (by decide)]⟩
  rw [ln1] at hj
  rw [up_x (by decide)]
  by_cases c : j = e.length
  · rw [c, up_s, gd_e]
  · rw [up_j (by omega), gd_l (by omega)]
    exact r5 j (by omega)
def low (V : List Nat) (r : Nat) : Prop := V = [] ∨ ∃ V' t, V = V' ++ [t] ∧ rk t < r
theorem low_m {V : List Nat} {r r' : Nat} (h : low V r) (hr : r ≤ r') : low V r' := by
  rcases h with h | ⟨V', t, h1, h2⟩
  · exact Or.inl h
  · exact Or.inr ⟨V', t, h1, by omega⟩
theorem low_p {V : List Nat} {r t : Nat} (h : rk t < r) : low (V ++ [t]) r := Or.inr ⟨V, t, rfl, h⟩
theorem lnr {V p : List Nat} : (V ++ p.reverse).length = V.length + p.length := by rw [List.length_append, List.length_reverse]
theorem rvc {V p : List Nat} {t : Nat} : V ++ (t :: p).reverse = (V ++ p.reverse) ++ [t] := by rw [List.reverse_cons, ← List.append_assoc]
theorem top_r {t : Nat} (h : RS B n M0 M part at_ (V ++ [t]) e) : M 164 V.length = rmp t := by
  have := h.2.2.2.1 V.length (by rw [ln1]; omega)
  rw [gd_e] at this
  exact this
theorem settle_go (hp : part < 3) {r : Nat} (hr : 1 ≤ r) (hl : low V r) : ∀ (p e : List Nat) (M : SS) (f : Nat), RS B n M0 M part at_ (V ++ p.reverse) e → (∀ t, t ∈ p → r ≤ rk t) → V.length + p.length + e.length ≤ 200 → p.length < f → r ≤ 5 → ∃ M', rM_settles_L0 f M (nI r) = some M' ∧ RS B n M0 M' part at_ V (e ++ p) ∧ K2 M M' := by
  intro p
  induction p with
  | nil =>
    intro e M f h _ hs hf hr5
    obtain ⟨f', rfl⟩ : ∃ f', f = f' + 1 := ⟨f - 1, by omega⟩
    rw [List.reverse_nil, List.append_nil] at h
    have hz : (([] : List Nat)).length = 0 := rfl
    refine ⟨M, ?_, by rw [List.append_nil]; exact h, fun _ _ _ => rfl⟩
    rw [rM_settles_L0, h.2.2.1]
    rcases hl with hl | ⟨V', t, hl, ht⟩
    · rw [hl, if_pos (by decide)]
    · subst hl
      have hL := ln1 (c := V') (v := t)
      rw [hL, if_neg (nI_nle (by omega) (by omega)), nI_pred, if_pos (nI_inb (by omega) (by decide)), nI_ix (by omega), top_r h, rk_eq, Option.bind_some, if_pos (nI_lt ht (by omega))]
  | cons t p ih =>
    intro e M f h hk hs hf hr5
    obtain ⟨f', rfl⟩ : ∃ f', f = f' + 1 := ⟨f - 1, by omega⟩
    have hlc : (t :: p).length = p.length + 1 := rfl
    rw [rvc] at h
    have ht := hk t (List.mem_cons_self ..)
    have h20 := h.2.2.1
    rw [ln1, lnr] at h20
    have tp := top_r h
    rw [lnr] at tp
    have hpop := h.pop
    rw [lnr] at hpop
    have rt := rk_le t
    have hnv : (-100 : Int32) - rmp t = ren t := by
      have := rk_lt (show 1 ≤ rk t by omega)
      unfold ren
      rw [if_neg (by omega), if_neg (fun z => ?_)]
      unfold rk at ht
      split at ht <;> omega
    obtain ⟨M1, g1, g2, g3⟩ := hpop.lay hnv hp (by omega)
    obtain ⟨M', i1, i2, i3⟩ := ih (e ++ [t]) M1 f' g2 (fun x hx => hk x (List.mem_cons_of_mem _ hx)) (by rw [ln1]; omega) (by omega) hr5
    refine ⟨M', ?_, by rw [List.append_assoc] at i2; exact i2, fun j h1 h2 => by rw [i3 j h1 h2, g3 j h1 h2, up_j h2]⟩
    rw [rM_settles_L0, h20, if_neg (nI_nle (by omega) (by omega)), nI_pred, if_pos (nI_inb (by omega) (by decide)), nI_ix (by omega), tp, rk_eq, Option.bind_some, if_neg (nI_nlt ht (by omega)), up_s, if_pos (nI_inb (by omega) (by decide)), nI_ix (by omega), up_x (show (164 : Nat) ≠ 154 by decide), tp, g1, Option.bind_some]
    exact i1
theorem settle_ok (hp : part < 3) {r : Nat} (hr : 1 ≤ r) (hr5 : r ≤ 5) (hl : low V r) {p : List Nat} (h : RS B n M0 M part at_ (V ++ p.reverse) e) (hk : ∀ t, t ∈ p → r ≤ rk t) (hs : V.length + p.length + e.length ≤ 200) : ∃ M', rM_settles M (nI r) = some M' ∧ RS B n M0 M' part at_ V (e ++ p) ∧ K2 M M' :=
  settle_go hp hr hl p e M FU h hk hs (by unfold FU; omega) hr5
theorem waits_go {t : Nat} (ht : t < 24) : ∀ (W : List Nat) (P : List Nat) (f : Nat), RS B n M0 M part at_ (P ++ W) e → (∀ x, x ∈ W → x < 24) → P.length + W.length ≤ 200 → W.length < f → rM_waitsOf_L4 M f (rmp t) (nI (P.count t)) (nI P.length) = some (nI ((P ++ W).count t)) := by
  intro W
  induction W with
  | nil =>
    intro P f h _ hs hf
    obtain ⟨f', rfl⟩ : ∃ f', f = f' + 1 := ⟨f - 1, by omega⟩
    rw [List.append_nil] at h ⊢
    rw [rM_waitsOf_L4, h.2.2.1, if_pos (Int32.le_refl _)]
  | cons x W ih =>
    intro P f h hx hs hf
    obtain ⟨f', rfl⟩ : ∃ f', f = f' + 1 := ⟨f - 1, by omega⟩
    have hlc : (x :: W).length = W.length + 1 := rfl
    have h20 := h.2.2.1
    rw [List.length_append, hlc] at h20
    have hx24 := hx x (List.mem_cons_self ..)
    have h' : RS B n M0 M part at_ ((P ++ [x]) ++ W) e := by rw [List.append_assoc]; exact h
    have := ih (P ++ [x]) f' h' (fun y hy => hx y (List.mem_cons_of_mem _ hy)) (by rw [ln1]; omega) (by omega)
    rw [List.append_assoc, ln1, List.count_append] at this
    have ex : M 164 P.length = rmp x := by
      have := h'.2.2.2.1 P.length (by rw [List.length_append, ln1]; omega)
      rw [gd_l (by rw [ln1]; omega), gd_e] at this
      exact this
    rw [rM_waitsOf_L4, h20, if_neg (nle (by omega) (by omega)), if_pos (nI_inb (show P.length < 200 by omega) (by decide)), nI_ix (by omega), ex]
    unfold rM_waitsOf_J28
    rw [nI_1]
    by_cases c : x = t
    · subst c
      rw [if_pos rfl]
      have e1 : List.count x [x] = 1 := by simp
      rw [e1] at this
      show rM_waitsOf_L4 M f' (rmp x) (nI (P.count x) + 1) (nI (P.length + 1)) = _
      rw [nI_1]
      exact this
    · rw [if_neg (fun z => c (rmp_inj x hx24 t ht z))]
      have e1 : List.count t [x] = 0 := by simp [c]
      rw [e1, Nat.add_zero] at this
      show rM_waitsOf_L4 M f' (rmp t) (nI (P.count t) + 0) (nI (P.length + 1)) = _
      rw [Int32.add_zero]
      exact this
theorem waits_ok (h : RS B n M0 M part at_ V e) (hv : ∀ x, x ∈ V → x < 24) (hs : V.length ≤ 200) {t : Nat} (ht : t < 24) : rM_waitsOf M (rmp t) = some (nI (V.count t)) := by
  have := waits_go (P := []) ht V FU h hv (by rw [List.length_nil]; omega) (by unfold FU; omega)
  exact this
def tst : List Nat → Bool
  | [] => false
  | t :: l => if 4 < rk t then tst l else decide (rk t = 4)
theorem tst_app {p l : List Nat} (h : tst p = true) : tst (p ++ l) = true := by
  induction p with
  | nil => cases h
  | cons t p ih =>
    have e1 : tst (t :: p) = if 4 < rk t then tst p else decide (rk t = 4) := rfl
    have e2 : tst (t :: p ++ l) = if 4 < rk t then tst (p ++ l) else decide (rk t = 4) := rfl
    rw [e1] at h
    rw [e2]
    by_cases c : 4 < rk t
    · rw [if_pos c] at h ⊢
      exact ih h
    · rw [if_neg c] at h ⊢
      exact h
theorem pm1 (n : Nat) : nI (n + 1) - 1 + (-1) = nI n - 1 := by
  rw [nI_pred, Int32.sub_eq_add_neg]
theorem tested_n (hl : low V 4) : ∀ (p : List Nat) (f : Nat), V.length + p.length ≤ 200 → (∀ j, j < (V ++ p.reverse).length → M 164 j = rmp ((V ++ p.reverse).getD j 0)) → (∀ t, t ∈ p → 4 < rk t) → p.length < f → rM_isTested_L7 M f (nI (V.length + p.length) - 1) = some false := by
  intro p
  induction p with
  | nil =>
    intro f hs h _ hf
    obtain ⟨f', rfl⟩ : ∃ f', f = f' + 1 := ⟨f - 1, by omega⟩
    rw [List.reverse_nil, List.append_nil] at h
    have hz : V.length + ([] : List Nat).length = V.length := rfl
    rw [hz] at hs ⊢
    rw [rM_isTested_L7]
    unfold rM_isTested_J30
    rcases hl with hl | ⟨V', t, hl, ht⟩
    · rw [hl, if_pos (by decide), if_pos (by decide)]
    · subst hl
      have tp := h V'.length (by rw [ln1]; omega)
      rw [gd_e] at tp
      rw [ln1] at hs ⊢
      rw [nI_pred, if_neg (nI_pos (by omega)), if_pos (nI_inb (show V'.length < 200 by omega) (by decide)), nI_ix (by omega), tp, rk_eq, Option.bind_some, if_pos (show nI (rk t) ≤ 4 from nI_le (b := 4) (by omega) (by decide)), if_neg (nI_pos (by omega)), if_pos (nI_inb (show V'.length < 200 by omega) (by decide)), Option.bind_some, if_neg (show ¬ nI (rk t) = 4 from fun z => by have := (nI_eq (a := rk t) (b := 4) (by omega) (by decide)).mp z; omega)]
  | cons t p ih =>
    intro f hs h hk hf
    obtain ⟨f', rfl⟩ : ∃ f', f = f' + 1 := ⟨f - 1, by omega⟩
    have hlc : (t :: p).length = p.length + 1 := rfl
    have ht := hk t (List.mem_cons_self ..)
    have rt := rk_le t
    have tp := h (V ++ p.reverse).length (by rw [rvc, ln1]; omega)
    rw [rvc, gd_e, lnr] at tp
    have nx := ih f' (by omega) (fun j hj => by
      have := h j (by rw [rvc, ln1]; omega)
      rw [rvc, gd_l hj] at this
      exact this) (fun x hx => hk x (List.mem_cons_of_mem _ hx)) (by omega)
    rw [hlc, show V.length + (p.length + 1) = V.length + p.length + 1 by omega, rM_isTested_L7, pm1, nI_pred, if_neg (nI_pos (by omega)), if_pos (nI_inb (show V.length + p.length < 200 by omega) (by decide)), nI_ix (by omega), tp, rk_eq, Option.bind_some, if_neg (show ¬ nI (rk t) ≤ 4 from nle (n := rk t) (i := 4) ht (by omega))]
    exact nx
theorem tested_y : ∀ (p : List Nat) (f : Nat), V.length + p.length ≤ 200 → (∀ j, j < (V ++ p.reverse).length → M 164 j = rmp ((V ++ p.reverse).getD j 0)) → tst p = true → p.length < f → rM_isTested_L7 M f (nI (V.length + p.length) - 1) = some true := by
  intro p
  induction p with
  | nil =>
    intro f _ _ h _
    cases h
  | cons t p ih =>
    intro f hs h hk hf
    obtain ⟨f', rfl⟩ : ∃ f', f = f' + 1 := ⟨f - 1, by omega⟩
    have hlc : (t :: p).length = p.length + 1 := rfl
    have rt := rk_le t
    have e1 : tst (t :: p) = if 4 < rk t then tst p else decide (rk t = 4) := rfl
    rw [e1] at hk
    have tp := h (V ++ p.reverse).length (by rw [rvc, ln1]; omega)
    rw [rvc, gd_e, lnr] at tp
    rw [hlc, show V.length + (p.length + 1) = V.length + p.length + 1 by omega, rM_isTested_L7, pm1, nI_pred, if_neg (nI_pos (by omega)), if_pos (nI_inb (show V.length + p.length < 200 by omega) (by decide)), nI_ix (by omega), tp, rk_eq, Option.bind_some]
    by_cases c : 4 < rk t
    · rw [if_pos c] at hk
      rw [if_neg (show ¬ nI (rk t) ≤ 4 from nle (n := rk t) (i := 4) c (by omega))]
      exact ih f' (by omega) (fun j hj => by
        have := h j (by rw [rvc, ln1]; omega)
        rw [rvc, gd_l hj] at this
        exact this) hk (by omega)
    · rw [if_neg c] at hk
      have e4 := of_decide_eq_true hk
      rw [if_pos (show nI (rk t) ≤ 4 from nI_le (b := 4) (by omega) (by decide))]
      unfold rM_isTested_J30
      rw [if_neg (nI_pos (by omega)), if_pos (nI_inb (show V.length + p.length < 200 by omega) (by decide)), nI_ix (by omega), tp, rk_eq, Option.bind_some, e4, if_pos (by decide)]
end Steps
