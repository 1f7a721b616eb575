/-! ===== negated, both, either beside the reference ===== -/
section Sim2
variable {B : Nat → Int32} {n N : Nat} {S0 M0 : SS} {part : Nat} {fE fN : SS → Int32 → Option (Bool × SS)}
theorem neg43_f {S : SS} {at_ : Nat} (h : CF S0 S at_) : ∃ S', cScribe_negated_J42 fE fN S = some (false, S') ∧ CF S0 S' at_ := by
  obtain ⟨S', w1, w2⟩ := write_f h 20016
  refine ⟨S', ?_, w2⟩
  unfold cScribe_negated_J42 cScribe_negated_J43
  rw [w1, Option.bind_some]
theorem neg107_f {S : SS} {at_ : Nat} (h : CF S0 S at_) (a : Int32) : ∃ S', cScribe_negated_J107 fE fN S a = some (false, S') ∧ CF S0 S' at_ := by
  obtain ⟨S', w1, w2⟩ := write_f h (20000 + a)
  refine ⟨S', ?_, w2⟩
  unfold cScribe_negated_J107 cScribe_negated_J108
  rw [w1, Option.bind_some]
theorem negated_ok (hT : TK S0 B n N) (hX : LXc M0 B n) (hpt : part < 3) {k : Nat} (hk : k ≤ 4) (hE : k < 4 → HG B n N S0 M0 part fE (k + 1) 1 1) (hN : k < 4 → HG B n N S0 M0 part fN (k + 1) 3 4) : HG B n N S0 M0 part (cScribe_negated fE fN) k 3 4 := by
  intro S at_ c M V e hP hlo
  have hP' := hP
  obtain ⟨hC, hR, ha, hc, hve, hv, hcn⟩ := hP
  have h200 := hT.1
  have hi := hC.1.inb hT ha
  have tok := hC.1.tok hT ha
  have hl := hT.lt ha
  unfold cScribe_negated
  rw [if_pos hi.1, hi.2, tok]
  by_cases c16 : tq B n at_ = 16
  · have haN : at_ < N := hT.in_ ha (by omega)
    rw [if_pos (show nI (tq B n at_) = 16 by rw [c16]; rfl)]
    by_cases ck : k < 4
    · obtain ⟨S1, q1, q2⟩ := pass_y hT hC haN c16
      obtain ⟨M1, m1, m2⟩ := mv_open hR hX hv (by omega) (a3 := 1) (Or.inr ⟨c16, rfl⟩) (by omega)
      rw [c16] at m2
      rw [if_neg (show ¬ (4 : Int32) ≤ nI k from nle (n := 4) ck (by decide)), show cScribe_passes S 16 = _ from q1, Option.bind_some, if_pos rfl, nI_1]
      refine Out.after (k := 1) (M1 := M1) (a2' := 1) (a3' := 1) ?_ m1
      have r := hN ck S1 (at_ + 1) c M1 (V ++ [16]) e ⟨q2, m2, by omega, by omega, by rw [ln1]; omega, mem_a hv (by decide), by rw [cnt_a, if_pos (Or.inr rfl)]; omega⟩ (low_p (by decide))
      rcases r with ⟨S2, k2, d, p, M2, a, h1, h2, h3, h4, h5, h6, h7, h8, h9⟩ | ⟨S2, k2, M2, h1, h2, h3, h4, h5⟩
      · dsimp only
        rw [h1, Option.bind_some, if_pos rfl]
        unfold cScribe_negated_J43
        obtain ⟨S3, w1, w2⟩ := write_y h4 (by rw [List.length_append, List.length_append]; omega) (show (20016 : Int32) = cen 16 from rfl)
        dsimp only
        rw [w1, Option.bind_some]
        rw [rv1] at h7
        have eC : c ++ (d ++ p) ++ [16] = c ++ (d ++ (p ++ [16])) := by simp only [List.append_assoc]
        have eX : (d ++ p) ++ [16] = d ++ (p ++ [16]) := by simp only [List.append_assoc]
        rw [eC] at w2
        obtain ⟨f0, f1, f2, f3, f4, f5⟩ := h9
        refine Or.inl ⟨S3, k2, d, p ++ [16], M2, a, rfl, by omega, h3, w2, by rw [ln1]; omega, h6, h7, by rw [← eX]; exact h8.no, fun x hx => ?_, f1, f2, fun z1 z2 => tst_app (f3 z1 z2), f4, f5⟩
        rw [List.mem_append, List.mem_singleton] at hx
        rcases hx with hx | hx
        · exact f0 x hx
        · rw [hx]; decide
      · dsimp only
        rw [h1, Option.bind_some, if_neg Bool.false_ne_true]
        obtain ⟨S3, w1, w2⟩ := neg43_f (fE := fE) (fN := fN) h3
        dsimp only
        rw [w1]
        exact Or.inr ⟨S3, k2, M2, rfl, h2, w2, h4, h5⟩
    · rw [if_pos (show (4 : Int32) ≤ nI k from nI_le (a := 4) (by omega) (by omega))]
      obtain ⟨M1, m1, m2⟩ := mv_openF hR hX hv (by omega) (a3 := 1) (Or.inr ⟨c16, rfl⟩) (by omega)
      obtain ⟨S3, w1, w2⟩ := neg43_f (fE := fE) (fN := fN) hC.1
      rw [w1]
      exact Or.inr ⟨S3, 0, M1, rfl, ha, w2, m1, m2⟩
  · rw [if_neg (show ¬ nI (tq B n at_) = 16 from fun z => c16 ((nI_eq (b := 16) (by omega) (by decide)).mp z))]
    have r := total_ok (fN := fN) hT hX hpt hk hE hP' (low_m hlo (by decide)) (a3 := 1) (fun z => absurd z c16)
    rcases r with ⟨S1, k1, d, p, M1, a, h1, h2, h3, h4, h5, h6, h7, h8, h9⟩ | ⟨S1, k1, M1, h1, h2, h3, h4, h5⟩
    · rw [h1, Option.bind_some, if_pos rfl]
      dsimp only
      have hi1 := h4.1.inb hT h3
      have tok1 := h4.1.tok hT h3
      have hl1 := hT.lt h3
      obtain ⟨f0, f1, f2, f3, f4, f5⟩ := h9
      rw [if_pos hi1.1, hi1.2]
      simp only [tok1]
      refine Out.after (k := k1) (M1 := M1) (a2' := 0) (a3' := a) ?_ h6
      by_cases c2 : tq B n (at_ + k1) = 22 ∨ tq B n (at_ + k1) = 23
      · have haN : at_ + k1 < N := hT.in_ h3 (by omega)
        have e1 : (if nI (tq B n (at_ + k1)) = 22 then cScribe_negated_J87 fE fN S1 (nI k) (nI (tq B n (at_ + k1))) else if nI (tq B n (at_ + k1)) = 23 then cScribe_negated_J87 fE fN S1 (nI k) (nI (tq B n (at_ + k1))) else some (true, S1)) = cScribe_negated_J87 fE fN S1 (nI k) (nI (tq B n (at_ + k1))) := by
          rcases c2 with c2 | c2
          · rw [if_pos (by rw [c2]; rfl)]
          · rw [if_neg (by rw [c2]; decide), if_pos (by rw [c2]; rfl)]
        rw [e1]
        generalize ht : tq B n (at_ + k1) = t at *
        have hrk : rk t = 4 := by rcases c2 with c2 | c2 <;> rw [c2] <;> rfl
        obtain ⟨S2, q1, q2⟩ := pass_y hT h4 haN ht
        have hop := mv_op (p := p) h7 hX hpt (by rw [List.length_append]; omega) (by rw [ht, hrk]; decide) (by omega) (fun x hx => by rw [ht, hrk]; have := f0 x hx; omega) (by rw [ht, hrk]; exact hlo) (fun _ x hx => by have := f0 x hx; omega)
        rw [ht, hrk] at hop
        obtain ⟨M2, m1, m2⟩ := hop
        unfold cScribe_negated_J87
        rw [q1, Option.bind_some, if_pos rfl]
        dsimp only
        refine Out.after (k := 1) (M1 := M2) (a2' := 1) (a3' := 0) ?_ (fun f => m1 f a)
        have r := total_ok (fN := fN) hT hX hpt hk hE (S := S2) (at_ := at_ + k1 + 1) (c := c ++ (d ++ p)) (M := M2) (V := V ++ [t]) (e := e ++ d ++ p) (a3 := 0) ⟨q2, m2, by omega, by rw [List.length_append, List.length_append]; omega, by rw [ln1, List.length_append, List.length_append]; omega, mem_a hv (by omega), by rw [cnt_a, if_neg (by omega)]; omega⟩ (low_p (by omega)) (fun _ => rfl)
        rcases r with ⟨S3, k3, d3, p3, M3, a', g1, g2, g3, g4, g5, g6, g7, g8, g9⟩ | ⟨S3, k3, M3, g1, g2, g3, g4, g5⟩
        · rw [g1, Option.bind_some, if_pos rfl]
          unfold cScribe_negated_J108
          obtain ⟨S4, w1, w2⟩ := write_y g4 (by rw [List.length_append, List.length_append, List.length_append, List.length_append]; omega) (cen_op (t := t) (by omega))
          dsimp only
          rw [w1, Option.bind_some]
          rw [rv1] at g7
          have eC : c ++ (d ++ p) ++ (d3 ++ p3) ++ [t] = c ++ ((d ++ p ++ d3) ++ (p3 ++ [t])) := by simp only [List.append_assoc]
          have eR : e ++ d ++ p ++ d3 = e ++ (d ++ p ++ d3) := by simp only [List.append_assoc]
          have eX : (d ++ p ++ d3) ++ (p3 ++ [t]) = (d ++ p) ++ ((d3 ++ p3) ++ [t]) := by simp only [List.append_assoc]
          rw [eC] at w2
          rw [eR] at g7
          obtain ⟨i0, i1, i2, i3, i4, i5⟩ := g9
          refine Or.inl ⟨S4, k3, d ++ p ++ d3, p3 ++ [t], M3, a', rfl, by omega, g3, w2, by rw [ln1, List.length_append, List.length_append]; omega, g6, g7, by rw [eX]; exact h8.op g8 (by omega) (by omega), fun x hx => ?_, i1, i2, fun _ _ => tst_rel (fun x hx => by have := i0 x hx; omega) hrk, fun z => absurd z (by decide), fun z => absurd z (by decide)⟩
          rw [List.mem_append, List.mem_singleton] at hx
          rcases hx with hx | hx
          · have := i0 x hx
            omega
          · rw [hx]; omega
        · rw [g1, Option.bind_some, if_neg Bool.false_ne_true]
          obtain ⟨S4, w1, w2⟩ := neg107_f (fE := fE) (fN := fN) g3 (nI t)
          dsimp only
          rw [w1]
          exact Or.inr ⟨S4, k3, M3, rfl, g2, w2, g4, g5⟩
      · rw [if_neg (show ¬ nI (tq B n (at_ + k1)) = 22 from fun z => c2 (Or.inl ((nI_eq (b := 22) (by omega) (by decide)).mp z))), if_neg (show ¬ nI (tq B n (at_ + k1)) = 23 from fun z => c2 (Or.inr ((nI_eq (b := 23) (by omega) (by decide)).mp z)))]
        exact Or.inl ⟨S1, 0, d, p, M1, a, rfl, h2, h3, h4, h5, fun f => rfl, h7, h8, fun x hx => by have := f0 x hx; omega, f1, f2, fun _ z => absurd z c2, fun z => absurd z (by decide), fun z => absurd z (by decide)⟩
    · rw [h1, Option.bind_some, if_neg Bool.false_ne_true]
      exact Or.inr ⟨S1, k1, M1, rfl, h2, h3, h4, h5⟩
def gL (t o : Int32) (g : SS → Int32 → Option (Bool × SS)) : Nat → SS → Int32 → Bool → Int32 → Option (Bool × SS)
  | 0, _, _, _, _ => none
  | n + 1, S, a1, a2, a3 =>
    if (200 : Int32) ≤ a3 then
      some (a2, S)
    else
      if a2 = true then
        (cScribe_passes S t).bind fun p4 =>
        if p4.1 = true then
          (g p4.2 a1).bind fun p6 =>
          (cScribe_write p6.2 o).bind fun p7 =>
          gL t o g n p7 a1 p6.1 (a3 + 1)
        else
          some (a2, p4.2)
      else
        some (a2, S)
theorem both_gL : ∀ f S a1 a2 a3, cScribe_both_L8 fE fN f S a1 a2 a3 = gL 15 20015 fN f S a1 a2 a3 := by
  intro f
  induction f with
  | zero => intro S a1 a2 a3; rfl
  | succ f ih =>
    intro S a1 a2 a3
    rw [cScribe_both_L8, gL]
    simp only [ih]
theorem either_gL : ∀ f S a1 a2 a3, cScribe_either_L8 fE fN f S a1 a2 a3 = gL 14 20014 (cScribe_both fE fN) f S a1 a2 a3 := by
  intro f
  induction f with
  | zero => intro S a1 a2 a3; rfl
  | succ f ih =>
    intro S a1 a2 a3
    rw [cScribe_either_L8, gL]
    simp only [ih]
theorem gL_f {g : SS → Int32 → Option (Bool × SS)} (t o : Int32) (f : Nat) (S : SS) (a i : Int32) : gL t o g (f + 1) S a false i = some (false, S) := by
  rw [gL, if_neg (show ¬ false = true by decide), ite_self]
theorem gL_go (hT : TK S0 B n N) (hX : LXc M0 B n) (hpt : part < 3) {k : Nat} {g : SS → Int32 → Option (Bool × SS)} {t r lo : Nat} (ht : (t = 14 ∧ r = 1) ∨ (t = 15 ∧ r = 2)) (hlr : r < lo) (hg : HG B n N S0 M0 part g k (r + 1) lo) {b : Nat} {c V e : List Nat} (hc : c.length ≤ b) (hve : V.length + e.length ≤ b) (hv : ∀ x, x ∈ V → x < 24) (hcn : V.count 17 + V.count 16 = k) (hlo : low V r) : ∀ m i at_ S d p M a3 f, at_ + m = N → m < f → i < at_ → CS S0 S at_ (c ++ (d ++ p)) → RS B n M0 M part at_ (V ++ p.reverse) (e ++ d) → EX (d ++ p) → b < at_ → b + d.length + p.length ≤ at_ → (∀ x, x ∈ p → r ≤ rk x) → FoR B n (r + 1) [] at_ ∨ True → tq B n at_ ≠ 20 → tq B n at_ ≠ 21 → ((tq B n at_ = 22 ∨ tq B n at_ = 23) → tst p = true) → (r = 1 → tq B n at_ ≠ 15) → Out B n N S0 M0 part (gL (nI t) (nI (20000 + t)) g f S (nI k) true (nI i)) b at_ M 0 a3 c V e (FoR B n r) := by
  have hN := hT.1
  have hrk : rk t = r := by rcases ht with ⟨h1, h2⟩ | ⟨h1, h2⟩ <;> rw [h1, h2] <;> rfl
  have ht' : t = 14 ∨ t = 15 := by omega
  intro m
  induction m using Nat.strongRecOn with
  | _ m ih =>
  intro i at_ S d p M a3 f hm hf hia hC hR hEX hb hbl hp _ n20 n21 nrel n15
  obtain ⟨f', rfl⟩ : ∃ f', f = f' + 1 := ⟨f - 1, by omega⟩
  have hl := hT.lt (i := at_) (by omega)
  rw [gL, if_neg (show ¬ (200 : Int32) ≤ nI i from nle (n := 200) (by omega) (by decide)), if_pos rfl]
  by_cases c2 : tq B n at_ = t
  · have haN : at_ < N := hT.in_ (by omega) (by omega)
    obtain ⟨S1, q1, q2⟩ := pass_y hT hC haN c2
    have hop := mv_op (p := p) hR hX hpt (by rw [List.length_append]; omega) (by rw [c2, hrk]; omega) (by omega) (fun x hx => by rw [c2, hrk]; exact hp x hx) (by rw [c2, hrk]; exact hlo) (fun z => by rw [c2, hrk] at z; omega)
    rw [c2, hrk] at hop
    obtain ⟨M1, m1, m2⟩ := hop
    rw [show b2i (decide (r < 3)) = 1 by rw [decide_eq_true (by omega)]; rfl] at m1
    rw [q1, Option.bind_some, if_pos rfl]
    dsimp only
    refine Out.after (k := 1) (M1 := M1) (a2' := 1) (a3' := 1) ?_ (fun f => m1 f a3)
    have r_ := hg S1 (at_ + 1) (c ++ (d ++ p)) M1 (V ++ [t]) (e ++ d ++ p) ⟨q2, m2, by omega, by rw [List.length_append, List.length_append]; omega, by rw [ln1, List.length_append, List.length_append]; omega, mem_a hv (by omega), by rw [cnt_a, if_neg (by omega)]; omega⟩ (low_p (by omega))
    rcases r_ with ⟨S2, k2, d2, p2, M2, a, h1, h2, h3, h4, h5, h6, h7, h8, h9⟩ | ⟨S2, k2, M2, h1, h2, h3, h4, h5⟩
    · rw [h1, Option.bind_some]
      have hv20 : nI (20000 + t) = cen t := by
        rw [← cen_op (t := t) (by omega), show (20000 : Int32) = nI 20000 from rfl, nI_add]
      obtain ⟨S3, w1, w2⟩ := write_y h4 (by rw [List.length_append, List.length_append, List.length_append, List.length_append]; omega) hv20
      dsimp only
      rw [w1, Option.bind_some, nI_1]
      rw [rv1] at h7
      have eC : c ++ (d ++ p) ++ (d2 ++ p2) ++ [t] = c ++ ((d ++ p ++ d2) ++ (p2 ++ [t])) := by simp only [List.append_assoc]
      have eR : e ++ d ++ p ++ d2 = e ++ (d ++ p ++ d2) := by simp only [List.append_assoc]
      have eX : (d ++ p ++ d2) ++ (p2 ++ [t]) = (d ++ p) ++ ((d2 ++ p2) ++ [t]) := by simp only [List.append_assoc]
      rw [eC] at w2
      rw [eR] at h7
      obtain ⟨i0, i1, i2, i3, i4, i5⟩ := h9
      refine Out.after (k := k2) (M1 := M2) (a2' := 0) (a3' := a) ?_ h6
      refine ih (N - (at_ + 1 + k2)) (by omega) (i + 1) (at_ + 1 + k2) S3 (d ++ p ++ d2) (p2 ++ [t]) M2 a f' (by omega) (by omega) (by omega) w2 h7 (by rw [eX]; exact hEX.op h8 (by omega) (by omega)) (by omega) ?_ ?_ (Or.inr trivial) i1 i2 (fun z => tst_app (i3 (by omega) z)) (fun z => i4 (by omega))
      · rw [ln1, List.length_append, List.length_append]
        omega
      · intro x hx
        rw [List.mem_append, List.mem_singleton] at hx
        rcases hx with hx | hx
        · have := i0 x hx
          omega
        · rw [hx]; omega
    · rw [h1, Option.bind_some]
      obtain ⟨S3, w1, w2⟩ := write_f h3 (nI (20000 + t))
      obtain ⟨f2, rfl⟩ : ∃ f2, f' = f2 + 1 := ⟨f' - 1, by omega⟩
      dsimp only
      rw [w1, Option.bind_some, gL_f]
      exact Or.inr ⟨S3, k2, M2, rfl, h2, w2, h4, h5⟩
  · rw [pass_n hT hC.1 (by omega) c2 (by omega), Option.bind_some, if_neg Bool.false_ne_true]
    refine Or.inl ⟨S, 0, d, p, M, a3, rfl, hb, by omega, hC, hbl, fun f => rfl, hR, hEX, hp, n20, n21, fun _ z => nrel z, fun z => ?_, fun z => ?_⟩
    · rcases ht with ⟨h1, h2⟩ | ⟨h1, h2⟩
      · exact n15 h2
      · rw [← h1]; exact c2
    · rcases ht with ⟨h1, h2⟩ | ⟨h1, h2⟩
      · rw [← h1]; exact c2
      · omega
theorem chain_ok (hT : TK S0 B n N) (hX : LXc M0 B n) (hpt : part < 3) {k : Nat} {g : SS → Int32 → Option (Bool × SS)} {t r lo : Nat} (ht : (t = 14 ∧ r = 1) ∨ (t = 15 ∧ r = 2)) (hlr : r < lo) (hg : HG B n N S0 M0 part g k (r + 1) lo) : HG B n N S0 M0 part (fun S a => (g S a).bind fun p1 => gL (nI t) (nI (20000 + t)) g FU p1.2 a p1.1 0) k r r := by
  intro S at_ c M V e hP hlo
  have h200 := hT.1
  have r_ := hg S at_ c M V e hP (low_m hlo (by omega))
  obtain ⟨hC, hR, ha, hc, hve, hv, hcn⟩ := hP
  dsimp only
  rcases r_ with ⟨S2, k2, d2, p2, M2, a, h1, h2, h3, h4, h5, h6, h7, h8, h9⟩ | ⟨S2, k2, M2, h1, h2, h3, h4, h5⟩
  · rw [h1, Option.bind_some]
    obtain ⟨i0, i1, i2, i3, i4, i5⟩ := h9
    refine Out.after (k := k2) (M1 := M2) (a2' := 0) (a3' := a) ?_ h6
    exact gL_go hT hX hpt ht hlr hg hc hve hv hcn hlo (N - (at_ + k2)) 0 (at_ + k2) S2 d2 p2 M2 a FU (by omega) (by unfold FU; omega) (by omega) h4 h7 h8 h2 h5 (fun x hx => by have := i0 x hx; omega) (Or.inr trivial) i1 i2 (fun z => i3 (by omega) z) (fun z => i4 (by omega))
  · rw [h1, Option.bind_some]
    unfold FU
    dsimp only
    rw [gL_f]
    exact Or.inr ⟨S2, k2, M2, rfl, h2, h3, h4, h5⟩
theorem both_ok (hT : TK S0 B n N) (hX : LXc M0 B n) (hpt : part < 3) {k : Nat} (hN : HG B n N S0 M0 part fN k 3 4) : HG B n N S0 M0 part (cScribe_both fE fN) k 2 2 := by
  have := chain_ok hT hX hpt (t := 15) (r := 2) (lo := 4) (Or.inr ⟨rfl, rfl⟩) (by decide) hN
  intro S at_ c M V e hP hlo
  have q := this S at_ c M V e hP hlo
  unfold cScribe_both
  simp only [both_gL]
  exact q
theorem either_ok (hT : TK S0 B n N) (hX : LXc M0 B n) (hpt : part < 3) {k : Nat} (hN : HG B n N S0 M0 part fN k 3 4) : HG B n N S0 M0 part (cScribe_either fE fN) k 1 1 := by
  have := chain_ok hT hX hpt (t := 14) (r := 1) (lo := 2) (Or.inl ⟨rfl, rfl⟩) (by decide) (both_ok (fE := fE) hT hX hpt hN)
  intro S at_ c M V e hP hlo
  have q := this S at_ c M V e hP hlo
  unfold cScribe_either
  simp only [either_gL]
  exact q
theorem rPar_ok (hT : TK S0 B n N) (hX : LXc M0 B n) (hpt : part < 3) : ∀ j k, k + j = 4 → (∀ m, 2 * j + 1 ≤ m → HG B n N S0 M0 part (rPar m false) k 3 4) ∧ ∀ m, 2 * j + 2 ≤ m → HG B n N S0 M0 part (rPar m true) k 1 1 := by
  intro j
  induction j with
  | zero =>
    intro k hk
    have hF : ∀ m, 2 * 0 + 1 ≤ m → HG B n N S0 M0 part (rPar m false) k 3 4 := by
      intro m hm
      obtain ⟨m', rfl⟩ : ∃ m', m = m' + 1 := ⟨m - 1, by omega⟩
      exact negated_ok (fE := rPar m' true) (fN := rPar m' false) hT hX hpt (by omega) (fun z => absurd z (by omega)) (fun z => absurd z (by omega))
    refine ⟨hF, fun m hm => ?_⟩
    obtain ⟨m', rfl⟩ : ∃ m', m = m' + 1 := ⟨m - 1, by omega⟩
    exact either_ok (fE := rPar m' true) hT hX hpt (hF m' (by omega))
  | succ j ih =>
    intro k hk
    obtain ⟨i1, i2⟩ := ih (k + 1) (by omega)
    have hF : ∀ m, 2 * (j + 1) + 1 ≤ m → HG B n N S0 M0 part (rPar m false) k 3 4 := by
      intro m hm
      obtain ⟨m', rfl⟩ : ∃ m', m = m' + 1 := ⟨m - 1, by omega⟩
      exact negated_ok (fE := rPar m' true) (fN := rPar m' false) hT hX hpt (by omega) (fun _ => i2 m' (by omega)) (fun _ => i1 m' (by omega))
    refine ⟨hF, fun m hm => ?_⟩
    obtain ⟨m', rfl⟩ : ∃ m', m = m' + 1 := ⟨m - 1, by omega⟩
    exact either_ok (fE := rPar m' true) hT hX hpt (hF m' (by omega))
theorem eitherR_ok (hT : TK S0 B n N) (hX : LXc M0 B n) (hpt : part < 3) : HG B n N S0 M0 part cScribe_either_r 0 1 1 :=
  either_ok (fE := rPar 40 true) hT hX hpt ((rPar_ok hT hX hpt 4 0 rfl).1 40 (by decide))
end Sim2
