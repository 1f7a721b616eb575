/-! ===== the class reads by descent: each of its moves beside the reference's ===== -/
def wfp : List Nat → Nat → Prop
  | [], h => h = 1
  | t :: l, h => if t ≤ 10 ∨ 26 ≤ t then wfp l (h + 1) else if t = 16 then 1 ≤ h ∧ wfp l h else 2 ≤ h ∧ wfp l (h - 1)
def vt (t : Nat) : Prop := t ≤ 10 ∨ (26 ≤ t ∧ t < 10026) ∨ 1 ≤ rk t
/-- a row of code that leaves one number more -/
def EX (d : List Nat) : Prop := (∀ t, t ∈ d → vt t) ∧ ∀ l h, wfp l (h + 1) → wfp (d ++ l) h
theorem rk_mid {t : Nat} (h : 1 ≤ rk t) : ¬ (t ≤ 10 ∨ 26 ≤ t) := by
  unfold rk at h
  split at h <;> omega
theorem EX.one {t : Nat} (h : t ≤ 10 ∨ 26 ≤ t) (h2 : t < 10026) : EX [t] := by
  refine ⟨fun x hx => ?_, fun l k hw => ?_⟩
  · rw [List.mem_singleton] at hx
    rw [hx]
    rcases h with h | h
    · exact Or.inl h
    · exact Or.inr (Or.inl ⟨h, h2⟩)
  · show (if t ≤ 10 ∨ 26 ≤ t then wfp l (k + 1) else _)
    rw [if_pos h]
    exact hw
theorem EX.op {a b : List Nat} {t : Nat} (ha : EX a) (hb : EX b) (ht : 1 ≤ rk t) (h16 : t ≠ 16) : EX (a ++ (b ++ [t])) := by
  refine ⟨fun x hx => ?_, fun l k hw => ?_⟩
  · rw [List.mem_append, List.mem_append, List.mem_singleton] at hx
    rcases hx with hx | hx | hx
    · exact ha.1 x hx
    · exact hb.1 x hx
    · rw [hx]; exact Or.inr (Or.inr ht)
  · rw [List.append_assoc, List.append_assoc]
    refine ha.2 _ k (hb.2 _ (k + 1) ?_)
    show (if t ≤ 10 ∨ 26 ≤ t then _ else if t = 16 then _ else 2 ≤ k + 1 + 1 ∧ wfp l (k + 1 + 1 - 1))
    rw [if_neg (rk_mid ht), if_neg h16]
    exact ⟨by omega, hw⟩
theorem EX.no {a : List Nat} (ha : EX a) : EX (a ++ [16]) := by
  refine ⟨fun x hx => ?_, fun l k hw => ?_⟩
  · rw [List.mem_append, List.mem_singleton] at hx
    rcases hx with hx | hx
    · exact ha.1 x hx
    · rw [hx]; exact Or.inr (Or.inr (by decide))
  · rw [List.append_assoc]
    refine ha.2 _ k ?_
    show (if (16 : Nat) ≤ 10 ∨ 26 ≤ 16 then _ else if (16 : Nat) = 16 then 1 ≤ k + 1 ∧ wfp l (k + 1) else _)
    rw [if_neg (by decide), if_pos rfl]
    exact ⟨by omega, hw⟩
/-- the tokens stand in the class -/
def TK (S0 : SS) (B : Nat → Int32) (n N : Nat) : Prop := N ≤ 200 ∧ S0 137 4 = nI N ∧ (∀ i, i ≤ N → S0 139 i = nI (tq B n i)) ∧ tq B n N = 24 ∧ ∀ i, i < N → tq B n i ≠ 24 ∧ tq B n i < 10026
def CF (S0 S : SS) (at_ : Nat) : Prop := S 137 5 = nI at_ ∧ (∃ m, m ≤ 200 ∧ S 137 7 = nI m) ∧ (∀ x, x ≠ 137 → x ≠ 141 → S x = S0 x) ∧ ∀ i, i ≠ 5 → i ≠ 7 → S 137 i = S0 137 i
def CS (S0 S : SS) (at_ : Nat) (c : List Nat) : Prop := CF S0 S at_ ∧ S 137 7 = nI c.length ∧ ∀ j, j < c.length → S 141 j = cen (c.getD j 0)
section Cls
variable {B : Nat → Int32} {n N : Nat} {S0 S : SS} {at_ : Nat} {c : List Nat}
theorem TK.lt (hT : TK S0 B n N) {i : Nat} (hi : i ≤ N) : tq B n i < 10026 := by
  by_cases e : i = N
  · rw [e, hT.2.2.2.1]
    decide
  · exact (hT.2.2.2.2 i (by omega)).2
theorem TK.in_ (hT : TK S0 B n N) {i : Nat} (hi : i ≤ N) (h : tq B n i ≠ 24) : i < N := by
  by_cases e : i = N
  · rw [e, hT.2.2.2.1] at h
    exact absurd rfl h
  · omega
theorem CF.tok (hT : TK S0 B n N) (h : CF S0 S at_) (ha : at_ ≤ N) : S 139 at_ = nI (tq B n at_) := by
  rw [h.2.2.1 139 (by decide) (by decide)]
  exact hT.2.2.1 at_ ha
theorem CF.inb (hT : TK S0 B n N) (h : CF S0 S at_) (ha : at_ ≤ N) : inb (S 137 5) 201 ∧ ix (S 137 5) = at_ := by
  have := hT.1
  rw [h.1]
  exact ⟨nI_inb (by omega) (by decide), nI_ix (by omega)⟩
theorem pass_y (hT : TK S0 B n N) (h : CS S0 S at_ c) (ha : at_ < N) {t : Nat} (ht : tq B n at_ = t) : ∃ S', cScribe_passes S (nI t) = some (true, S') ∧ CS S0 S' (at_ + 1) c := by
  have hN := hT.1
  have hi := h.1.inb hT (by omega)
  unfold cScribe_passes
  rw [if_pos hi.1, hi.2, h.1.tok hT (by omega), if_pos (by rw [ht]), h.1.1, h.1.2.2.2 4 (by decide) (by decide), hT.2.1, if_pos (nI_lt ha (by omega)), nI_1]
  refine ⟨_, rfl, ⟨up_s, ?_, fun x h1 h2 => by rw [up_o h1]; exact h.1.2.2.1 x h1 h2, fun i h1 h2 => by rw [up_j h1]; exact h.1.2.2.2 i h1 h2⟩, by rw [up_j (by decide)]; exact h.2.1, fun j hj => by rw [up_x (by decide)]; exact h.2.2 j hj⟩
  obtain ⟨m, h1, h2⟩ := h.1.2.1
  exact ⟨m, h1, by rw [up_j (by decide)]; exact h2⟩
theorem pass_n (hT : TK S0 B n N) (h : CF S0 S at_) (ha : at_ ≤ N) {t : Nat} (ht : tq B n at_ ≠ t) (h2 : t < 20000) : cScribe_passes S (nI t) = some (false, S) := by
  have hi := h.inb hT ha
  have hl := hT.lt ha
  unfold cScribe_passes
  rw [if_pos hi.1, hi.2, h.tok hT ha, if_neg (fun z => ht ((nI_eq (by omega) (by omega)).mp z))]
theorem write_y (h : CS S0 S at_ c) (hl : c.length < 200) {t : Nat} {v : Int32} (hv : v = cen t) : ∃ S', cScribe_write S v = some S' ∧ CS S0 S' at_ (c ++ [t]) := by
  subst hv
  unfold cScribe_write
  rw [h.2.1, if_neg (show ¬ (200 : Int32) ≤ nI c.length from nle (n := 200) hl (by decide)), if_pos (nI_inb hl (by decide)), nI_ix (by omega), up_x (show (137 : Nat) ≠ 141 by decide), h.2.1, nI_1]
  refine ⟨_, rfl, ⟨by rw [up_j (by decide), up_x (by decide)]; exact h.1.1, ⟨c.length + 1, by omega, up_s⟩, fun x h1 h2 => by rw [up_o h1, up_o h2]; exact h.1.2.2.1 x h1 h2, fun i h1 h2 => by rw [up_j h2, up_x (by decide)]; exact h.1.2.2.2 i h1 h2⟩, by rw [up_s, ln1], fun j hj => ?_⟩
  rw [ln1] at hj
  rw [up_x (by decide)]
  by_cases e : j = c.length
  · rw [e, up_s, gd_e]
  · rw [up_j e, gd_l (by omega)]
    exact h.2.2 j (by omega)
theorem write_f (h : CF S0 S at_) (v : Int32) : ∃ S', cScribe_write S v = some S' ∧ CF S0 S' at_ := by
  obtain ⟨m, h1, h2⟩ := h.2.1
  unfold cScribe_write
  rw [h2]
  by_cases e : m < 200
  · rw [if_neg (show ¬ (200 : Int32) ≤ nI m from nle (n := 200) e (by decide)), if_pos (nI_inb e (by decide)), nI_ix (by omega), up_x (show (137 : Nat) ≠ 141 by decide), h2, nI_1]
    exact ⟨_, rfl, by rw [up_j (by decide), up_x (by decide)]; exact h.1, ⟨m + 1, by omega, up_s⟩, fun x h1 h2 => by rw [up_o h1, up_o h2]; exact h.2.2.1 x h1 h2, fun i h1 h2 => by rw [up_j h2, up_x (by decide)]; exact h.2.2.2 i h1 h2⟩
  · rw [if_pos (show (200 : Int32) ≤ nI m from nI_le (a := 200) (by omega) (by omega))]
    exact ⟨S, rfl, h⟩
end Cls
/-- what comes of a piece that is read from `at_` on, begun at `b`: both go through, with `p` waiting, or both end at the same token -/
def Out (B : Nat → Int32) (n N : Nat) (S0 M0 : SS) (part : Nat) (o : Option (Bool × SS)) (b at_ : Nat) (M : SS) (a2 a3 : Int32) (c V e : List Nat) (Fo : List Nat → Nat → Prop) : Prop :=
  (∃ S' k d p M' a3', o = some (true, S') ∧ b < at_ + k ∧ at_ + k ≤ N ∧ CS S0 S' (at_ + k) (c ++ (d ++ p)) ∧ b + d.length + p.length ≤ at_ + k ∧ (∀ f, rM_readsE_L20 (f + k) M (nI part) a2 a3 = rM_readsE_L20 f M' (nI part) 0 a3') ∧ RS B n M0 M' part (at_ + k) (V ++ p.reverse) (e ++ d) ∧ EX (d ++ p) ∧ Fo p (at_ + k)) ∨
  (∃ S' k M', o = some (false, S') ∧ at_ + k ≤ N ∧ CF S0 S' (at_ + k) ∧ (∀ f, rM_readsE_L20 (f + k + 1) M (nI part) a2 a3 = some (false, M')) ∧ RF B n M0 M' (at_ + k))
section Sim
variable {B : Nat → Int32} {n N : Nat} {S0 M0 : SS} {part : Nat}
theorem Out.after {o : Option (Bool × SS)} {b at_ k : Nat} {M M1 : SS} {a2 a3 a2' a3' : Int32} {c V e : List Nat} {Fo : List Nat → Nat → Prop} (h : Out B n N S0 M0 part o b (at_ + k) M1 a2' a3' c V e Fo) (hr : ∀ f, rM_readsE_L20 (f + k) M (nI part) a2 a3 = rM_readsE_L20 f M1 (nI part) a2' a3') : Out B n N S0 M0 part o b at_ M a2 a3 c V e Fo := by
  rcases h with ⟨S', k', d, p, M', a, h1, h2, h3, h4, h5, h6, h7, h8, h9⟩ | ⟨S', k', M', h1, h2, h3, h4, h5⟩
  · rw [Nat.add_assoc] at h2 h3 h4 h7 h9
    refine Or.inl ⟨S', k + k', d, p, M', a, h1, h2, h3, h4, by omega, fun f => ?_, h7, h8, h9⟩
    rw [show f + (k + k') = (f + k') + k by omega, hr, h6]
  · rw [Nat.add_assoc] at h2 h3 h5
    refine Or.inr ⟨S', k + k', M', h1, h2, h3, fun f => ?_, h5⟩
    rw [show f + (k + k') + 1 = (f + k' + 1) + k by omega, hr, h4]
/-- where a piece may begin -/
def Pre (B : Nat → Int32) (n N : Nat) (S0 M0 : SS) (part : Nat) (S : SS) (at_ : Nat) (c : List Nat) (M : SS) (V e : List Nat) (k : Nat) : Prop := CS S0 S at_ c ∧ RS B n M0 M part at_ V e ∧ at_ ≤ N ∧ c.length ≤ at_ ∧ V.length + e.length ≤ at_ ∧ (∀ x, x ∈ V → x < 24) ∧ V.count 17 + V.count 16 = k
def FoR (B : Nat → Int32) (n r : Nat) (p : List Nat) (a : Nat) : Prop := (∀ x, x ∈ p → r ≤ rk x) ∧ tq B n a ≠ 20 ∧ tq B n a ≠ 21 ∧ (r ≤ 3 → (tq B n a = 22 ∨ tq B n a = 23) → tst p = true) ∧ (r ≤ 2 → tq B n a ≠ 15) ∧ (r ≤ 1 → tq B n a ≠ 14)
def HG (B : Nat → Int32) (n N : Nat) (S0 M0 : SS) (part : Nat) (g : SS → Int32 → Option (Bool × SS)) (k r lo : Nat) : Prop := ∀ S at_ c M V e, Pre B n N S0 M0 part S at_ c M V e k → low V lo → Out B n N S0 M0 part (g S (nI k)) at_ at_ M 1 1 c V e (FoR B n r)
variable {fE fN : SS → Int32 → Option (Bool × SS)}
theorem cnt_a {V : List Nat} {t : Nat} : (V ++ [t]).count 17 + (V ++ [t]).count 16 = V.count 17 + V.count 16 + (if t = 17 ∨ t = 16 then 1 else 0) := by
  rw [List.count_append, List.count_append]
  by_cases h1 : t = 17
  · subst h1
    have e1 : List.count 17 [17] = 1 := by decide
    have e2 : List.count 16 [17] = 0 := by decide
    rw [e1, e2, if_pos (Or.inl rfl)]
    omega
  · by_cases h2 : t = 16
    · subst h2
      have e1 : List.count 17 [16] = 0 := by decide
      have e2 : List.count 16 [16] = 1 := by decide
      rw [e1, e2, if_pos (Or.inr rfl)]
      omega
    · have e1 : List.count 17 [t] = 0 := by simp [h1]
      have e2 : List.count 16 [t] = 0 := by simp [h2]
      rw [e1, e2, if_neg (fun z => z.elim h1 h2)]
      omega
theorem mem_a {V : List Nat} {t : Nat} (h : ∀ x, x ∈ V → x < 24) (ht : t < 24) : ∀ x, x ∈ V ++ [t] → x < 24 := by
  intro x hx
  rw [List.mem_append, List.mem_singleton] at hx
  rcases hx with hx | hx
  · exact h x hx
  · rw [hx]; exact ht
theorem mem_p {V p : List Nat} (h : ∀ x, x ∈ V → x < 24) (hp : ∀ x, x ∈ p → 1 ≤ rk x) : ∀ x, x ∈ V ++ p.reverse → x < 24 := by
  intro x hx
  rw [List.mem_append, List.mem_reverse] at hx
  rcases hx with hx | hx
  · exact h x hx
  · exact rk_lt (hp x hx)
theorem rk_cases : ∀ t, t < 26 → rk t = 0 ∨ t = 14 ∨ t = 15 ∨ t = 16 ∨ t = 20 ∨ t = 21 ∨ t = 22 ∨ t = 23 := by decide
theorem rk_cs (t : Nat) : rk t = 0 ∨ t = 14 ∨ t = 15 ∨ t = 16 ∨ t = 20 ∨ t = 21 ∨ t = 22 ∨ t = 23 := by
  by_cases h : t < 26
  · exact rk_cases t h
  · exact Or.inl (rk_big (by omega))
theorem rv1 {V p : List Nat} {t : Nat} : V ++ [t] ++ p.reverse = V ++ (p ++ [t]).reverse := by
  rw [List.reverse_append, List.append_assoc]
  rfl
theorem tst_rel {p : List Nat} {t : Nat} (h : ∀ x, x ∈ p → 4 < rk x) (ht : rk t = 4) : tst (p ++ [t]) = true := by
  induction p with
  | nil =>
    show (if 4 < rk t then tst [] else decide (rk t = 4)) = true
    rw [if_neg (by omega), decide_eq_true ht]
  | cons x p ih =>
    show (if 4 < rk x then tst (p ++ [t]) else _) = true
    rw [if_pos (h x (List.mem_cons_self ..))]
    exact ih (fun y hy => h y (List.mem_cons_of_mem _ hy))
theorem one_ok (hT : TK S0 B n N) (hX : LXc M0 B n) (hpt : part < 3) {k : Nat} (hk : k ≤ 4) (hE : k < 4 → HG B n N S0 M0 part fE (k + 1) 1 1) {S : SS} {at_ : Nat} {c : List Nat} {M : SS} {V e : List Nat} {a3 : Int32} (hP : Pre B n N S0 M0 part S at_ c M V e k) (h16 : tq B n at_ = 16 → a3 = 0) : Out B n N S0 M0 part (cScribe_one fE fN S (nI k)) at_ at_ M 1 a3 c V e (fun p _ => p = []) := by
  obtain ⟨hC, hR, ha, hc, hve, hv, hcn⟩ := hP
  have hN := hT.1
  have hi := hC.1.inb hT ha
  have tok := hC.1.tok hT ha
  have hl := hT.lt ha
  have oper : (tq B n at_ ≤ 10 ∨ 26 ≤ tq B n at_) → ∀ v : Int32, v = cen (tq B n at_) → Out B n N S0 M0 part ((cScribe_write S v).bind fun p14 => (cScribe_passes p14 (nI (tq B n at_))).bind fun p15 => some (p15.1, p15.2)) at_ at_ M 1 a3 c V e (fun p _ => p = []) := by
    intro ho v hvv
    have haN : at_ < N := hT.in_ ha (by omega)
    obtain ⟨S1, w1, w2⟩ := write_y hC (by omega) hvv
    obtain ⟨S2, q1, q2⟩ := pass_y hT w2 haN rfl
    obtain ⟨M1, m1, m2⟩ := mv_one hR hX hpt (by omega) ho hl
    refine Or.inl ⟨S2, 1, [tq B n at_], [], M1, a3, ?_, by omega, by omega, by rw [List.append_nil]; exact q2, by rw [List.length_singleton, List.length_nil]; omega, fun f => m1 f a3, by rw [List.reverse_nil, List.append_nil]; exact m2, EX.one ho hl, rfl⟩
    rw [w1, Option.bind_some, q1, Option.bind_some]
  unfold cScribe_one
  rw [if_pos hi.1, hi.2, tok]
  by_cases c26 : tq B n at_ < 26
  · rw [if_pos (show nI (tq B n at_) < 26 from nI_lt (b := 26) c26 (by decide))]
    by_cases c10 : 10 < tq B n at_
    · rw [if_pos (show (10 : Int32) < nI (tq B n at_) from nI_lt (a := 10) c10 (by omega))]
      by_cases c17 : tq B n at_ = 17
      · have haN : at_ < N := hT.in_ ha (by omega)
        rw [if_pos (show nI (tq B n at_) = 17 by rw [c17]; rfl)]
        by_cases ck : k < 4
        · obtain ⟨S1, q1, q2⟩ := pass_y hT hC haN c17
          obtain ⟨M1, m1, m2⟩ := mv_open hR hX hv (by omega) (a3 := a3) (Or.inl c17) (by omega)
          rw [c17] at m2
          rw [if_neg (show ¬ (4 : Int32) ≤ nI k from nle (n := 4) ck (by decide)), show cScribe_passes S 17 = _ from q1, Option.bind_some, if_pos rfl, nI_1]
          refine Out.after (k := 1) (M1 := M1) (a2' := 1) (a3' := 1) ?_ m1
          have r := hE ck S1 (at_ + 1) c M1 (V ++ [17]) e ⟨q2, m2, by omega, by omega, by rw [ln1]; omega, mem_a hv (by decide), by rw [cnt_a, if_pos (Or.inl rfl)]; omega⟩ (low_p (by decide))
          rcases r with ⟨S2, k2, d, p, M2, a, h1, h2, h3, h4, h5, h6, h7, h8, h9⟩ | ⟨S2, k2, M2, h1, h2, h3, h4, h5⟩
          · dsimp only
            rw [h1, Option.bind_some, if_pos rfl]
            dsimp only
            have mp : ∀ x, x ∈ V ++ [17] ++ p.reverse → x < 24 := mem_p (mem_a hv (by decide)) h9.1
            by_cases c18 : tq B n (at_ + 1 + k2) = 18
            · obtain ⟨S3, q3, q4⟩ := pass_y hT h4 (hT.in_ h3 (by omega)) c18
              obtain ⟨M3, m3, m4⟩ := mv_close h7 hX hpt mp (by rw [List.length_append]; omega) h9.1 c18
              rw [show cScribe_passes S2 18 = _ from q3, Option.bind_some, if_pos rfl]
              have := hT.in_ h3 (by omega)
              refine Or.inl ⟨S3, k2 + 1, d ++ p, [], M3, a, rfl, by omega, by omega, by rw [List.append_nil]; exact q4, by rw [List.length_append, List.length_nil]; omega, fun f => ?_, by rw [List.reverse_nil, List.append_nil, ← List.append_assoc]; exact m4, by rw [List.append_nil]; exact h8, rfl⟩
              rw [show f + (k2 + 1) = (f + 1) + k2 by omega, h6, m3]
            · have q3 := pass_n hT h4.1 h3 c18 (by decide)
              rw [show cScribe_passes S2 18 = _ from q3, Option.bind_some, if_neg Bool.false_ne_true]
              have cp := cnt_pos (a := 17) (l := V) (r := p.reverse)
              obtain ⟨M3, m3, m4⟩ := mv_0F h7 hX mp (by rw [ln1]; omega) (fun z => absurd z c18) (fun _ => cp) (by
                obtain ⟨_, f1, f2, f3, f4, f5⟩ := h9
                rcases rk_cs (tq B n (at_ + 1 + k2)) with z | z | z | z | z | z | z | z
                · exact Or.inl z
                · exact absurd z (f5 (by decide))
                · exact absurd z (f4 (by decide))
                · exact Or.inr (Or.inl z)
                · exact absurd z f1
                · exact absurd z f2
                · exact Or.inr (Or.inr ⟨by rw [z]; rfl, f3 (by decide) (Or.inl z)⟩)
                · exact Or.inr (Or.inr ⟨by rw [z]; rfl, f3 (by decide) (Or.inr z)⟩))
              refine Or.inr ⟨S2, k2, M3, rfl, h3, h4.1, fun f => ?_, m4⟩
              rw [show f + k2 + 1 = (f + 1) + k2 by omega, h6, m3]
          · dsimp only
            rw [h1, Option.bind_some, if_neg Bool.false_ne_true]
            exact Or.inr ⟨S2, k2, M2, rfl, h2, h3, h4, h5⟩
        · rw [if_pos (show (4 : Int32) ≤ nI k from nI_le (a := 4) (by omega) (by omega))]
          obtain ⟨M1, m1, m2⟩ := mv_openF hR hX hv (by omega) (a3 := a3) (Or.inl c17) (by omega)
          exact Or.inr ⟨S, 0, M1, rfl, ha, hC.1, m1, m2⟩
      · rw [if_neg (show ¬ nI (tq B n at_) = 17 from fun z => c17 ((nI_eq (b := 17) (by omega) (by decide)).mp z))]
        obtain ⟨M1, m1, m2⟩ := mv_wantF hR hX (a3 := a3) (by omega) c26 c17 h16
        exact Or.inr ⟨S, 0, M1, rfl, ha, hC.1, m1, m2⟩
    · rw [if_neg (show ¬ (10 : Int32) < nI (tq B n at_) from nI_nlt (a := 10) (by omega) (by decide))]
      refine oper (Or.inl (by omega)) _ ?_
      unfold cen
      rw [if_neg (by omega), if_pos (by omega), show (10000 : Int32) = nI 10000 from rfl, nI_add]
  · rw [if_neg (show ¬ nI (tq B n at_) < 26 from nI_nlt (b := 26) (by omega) (by omega))]
    refine oper (Or.inr (by omega)) _ ?_
    unfold cen
    rw [if_pos (by omega), show (26 : Int32) = nI 26 from rfl, pk_sub (by omega)]
theorem cen_op {t : Nat} (h : 1 ≤ rk t) : (20000 : Int32) + nI t = cen t := by
  have := rk_mid h
  unfold cen
  rw [if_neg (by omega), if_neg (by omega), show (20000 : Int32) = nI 20000 from rfl, nI_add]
theorem total_f (f : Nat) (S : SS) (a i : Int32) : cScribe_total_L8 fE fN (f + 1) S a false i = some (false, S) := by
  rw [cScribe_total_L8, if_neg (show ¬ false = true by decide), ite_self]
theorem total_go (hT : TK S0 B n N) (hX : LXc M0 B n) (hpt : part < 3) {k : Nat} (hk : k ≤ 4) (hE : k < 4 → HG B n N S0 M0 part fE (k + 1) 1 1) {b : Nat} {c V e : List Nat} (hc : c.length ≤ b) (hve : V.length + e.length ≤ b) (hv : ∀ x, x ∈ V → x < 24) (hcn : V.count 17 + V.count 16 = k) (hlo : low V 5) : ∀ m i at_ S d p M a3 f, at_ + m = N → m < f → i < at_ → CS S0 S at_ (c ++ (d ++ p)) → RS B n M0 M part at_ (V ++ p.reverse) (e ++ d) → EX (d ++ p) → b < at_ → b + d.length + p.length ≤ at_ → (∀ x, x ∈ p → 5 ≤ rk x) → Out B n N S0 M0 part (cScribe_total_L8 fE fN f S (nI k) true (nI i)) b at_ M 0 a3 c V e (FoR B n 5) := by
  have hN := hT.1
  intro m
  induction m using Nat.strongRecOn with
  | _ m ih =>
  intro i at_ S d p M a3 f hm hf hia hC hR hEX hb hbl hp
  obtain ⟨f', rfl⟩ : ∃ f', f = f' + 1 := ⟨f - 1, by omega⟩
  have hi := hC.1.inb hT (by omega)
  have tok := hC.1.tok hT (by omega)
  have hl := hT.lt (i := at_) (by omega)
  rw [cScribe_total_L8, if_neg (show ¬ (200 : Int32) ≤ nI i from nle (n := 200) (by omega) (by decide)), if_pos rfl, if_pos hi.1, hi.2, tok]
  by_cases c2 : tq B n at_ = 20 ∨ tq B n at_ = 21
  · have haN : at_ < N := hT.in_ (by omega) (by omega)
    have e1 : (if nI (tq B n at_) = 20 then cScribe_total_J47 fE fN (cScribe_total_L8 fE fN f') S (nI k) (nI i) (nI (tq B n at_)) else if nI (tq B n at_) = 21 then cScribe_total_J47 fE fN (cScribe_total_L8 fE fN f') S (nI k) (nI i) (nI (tq B n at_)) else some (true, S)) = cScribe_total_J47 fE fN (cScribe_total_L8 fE fN f') S (nI k) (nI i) (nI (tq B n at_)) := by
      rcases c2 with c2 | c2
      · rw [if_pos (by rw [c2]; rfl)]
      · rw [if_neg (by rw [c2]; decide), if_pos (by rw [c2]; rfl)]
    rw [e1]
    generalize ht : tq B n at_ = t at *
    have hrk : rk t = 5 := by rcases c2 with c2 | c2 <;> rw [c2] <;> rfl
    obtain ⟨S1, q1, q2⟩ := pass_y hT hC haN ht
    have hop := mv_op (p := p) hR hX hpt (by rw [List.length_append]; omega) (by rw [ht, hrk]; decide) (by omega) (fun x hx => by rw [ht, hrk]; exact hp x hx) (by rw [ht, hrk]; exact hlo) (fun z => by rw [ht, hrk] at z; omega)
    rw [ht, hrk] at hop
    obtain ⟨M1, m1, m2⟩ := hop
    unfold cScribe_total_J47
    rw [q1, Option.bind_some, if_pos rfl]
    dsimp only
    refine Out.after (k := 1) (M1 := M1) (a2' := 1) (a3' := 0) ?_ (fun f => m1 f a3)
    have r := one_ok (fN := fN) hT hX hpt hk hE (S := S1) (at_ := at_ + 1) (c := c ++ (d ++ p)) (M := M1) (V := V ++ [t]) (e := e ++ d ++ p) (a3 := 0) ⟨q2, m2, by omega, by rw [List.length_append, List.length_append]; omega, by rw [ln1, List.length_append, List.length_append]; omega, mem_a hv (by omega), by rw [cnt_a, if_neg (by omega)]; omega⟩ (fun _ => rfl)
    rcases r with ⟨S2, k2, d2, p2, M2, a, h1, h2, h3, h4, h5, h6, h7, h8, h9⟩ | ⟨S2, k2, M2, h1, h2, h3, h4, h5⟩
    · subst h9
      rw [List.append_nil] at h4 h8
      rw [List.reverse_nil, List.append_nil] at h7
      rw [List.length_nil] at h5
      rw [h1, Option.bind_some, if_pos rfl]
      unfold cScribe_total_J69
      obtain ⟨S3, w1, w2⟩ := write_y h4 (by rw [List.length_append, List.length_append, List.length_append]; omega) (cen_op (t := t) (by omega))
      dsimp only
      rw [w1, Option.bind_some, nI_1]
      have eC : c ++ (d ++ p) ++ d2 ++ [t] = c ++ ((d ++ p ++ d2) ++ [t]) := by simp only [List.append_assoc]
      have eR : e ++ d ++ p ++ d2 = e ++ (d ++ p ++ d2) := by simp only [List.append_assoc]
      have eX : (d ++ p ++ d2) ++ [t] = (d ++ p) ++ (d2 ++ [t]) := by simp only [List.append_assoc]
      rw [eC] at w2
      rw [eR] at h7
      refine Out.after (k := k2) (M1 := M2) (a2' := 0) (a3' := a) ?_ h6
      refine ih (N - (at_ + 1 + k2)) (by omega) (i + 1) (at_ + 1 + k2) S3 (d ++ p ++ d2) [t] M2 a f' (by omega) (by omega) (by omega) w2 h7 (by rw [eX]; exact hEX.op h8 (by omega) (by omega)) (by omega) ?_ ?_
      · rw [List.length_append, List.length_append, List.length_singleton]
        omega
      · intro x hx
        rw [List.mem_singleton] at hx
        rw [hx]
        omega
    · rw [h1, Option.bind_some, if_neg Bool.false_ne_true]
      unfold cScribe_total_J68 cScribe_total_J69
      obtain ⟨S3, w1, w2⟩ := write_f h3 (20000 + nI t)
      obtain ⟨f2, rfl⟩ : ∃ f2, f' = f2 + 1 := ⟨f' - 1, by omega⟩
      dsimp only
      rw [w1, Option.bind_some, total_f]
      exact Or.inr ⟨S3, k2, M2, rfl, h2, w2, h4, h5⟩
  · rw [if_neg (show ¬ nI (tq B n at_) = 20 from fun z => c2 (Or.inl ((nI_eq (b := 20) (by omega) (by decide)).mp z))), if_neg (show ¬ nI (tq B n at_) = 21 from fun z => c2 (Or.inr ((nI_eq (b := 21) (by omega) (by decide)).mp z)))]
    exact Or.inl ⟨S, 0, d, p, M, a3, rfl, hb, by omega, hC, hbl, fun f => rfl, hR, hEX, hp, fun z => c2 (Or.inl z), fun z => c2 (Or.inr z), fun z => absurd z (by decide), fun z => absurd z (by decide), fun z => absurd z (by decide)⟩
theorem total_ok (hT : TK S0 B n N) (hX : LXc M0 B n) (hpt : part < 3) {k : Nat} (hk : k ≤ 4) (hE : k < 4 → HG B n N S0 M0 part fE (k + 1) 1 1) {S : SS} {at_ : Nat} {c : List Nat} {M : SS} {V e : List Nat} {a3 : Int32} (hP : Pre B n N S0 M0 part S at_ c M V e k) (hlo : low V 5) (h16 : tq B n at_ = 16 → a3 = 0) : Out B n N S0 M0 part (cScribe_total fE fN S (nI k)) at_ at_ M 1 a3 c V e (FoR B n 5) := by
  have hN := hT.1
  unfold cScribe_total
  have r := one_ok (fN := fN) hT hX hpt hk hE hP h16
  obtain ⟨hC, hR, ha, hc, hve, hv, hcn⟩ := hP
  rcases r with ⟨S2, k2, d2, p2, M2, a, h1, h2, h3, h4, h5, h6, h7, h8, h9⟩ | ⟨S2, k2, M2, h1, h2, h3, h4, h5⟩
  · subst h9
    rw [h1, Option.bind_some]
    refine Out.after (k := k2) (M1 := M2) (a2' := 0) (a3' := a) ?_ h6
    exact total_go hT hX hpt hk hE hc hve hv hcn hlo (N - (at_ + k2)) 0 (at_ + k2) S2 d2 [] M2 a FU (by omega) (by unfold FU; omega) (by omega) h4 h7 h8 h2 h5 (fun x hx => absurd hx List.not_mem_nil)
  · rw [h1, Option.bind_some]
    unfold FU
    dsimp only
    rw [total_f]
    exact Or.inr ⟨S2, k2, M2, rfl, h2, h3, h4, h5⟩
end Sim
