/-! ===== text, which makes a new text ===== -/
def cD_text (S : SS) (T : TS) (X : XS) (a1 : Int32) : Option (Int32 × SS × TS × XS) :=
  (cD_within a1 (0 : Int32) (4 : Int32)).bind fun p1 =>
  if p1 = true then
    (cScribe_reads S).bind fun p2 =>
    if 0 ≤ p2.1 then
      some (p2.1, up p2.2 137 1 0, T, X)
    else
      if inb (p2.2 137 7) 200 ∧ X.2 % 2 = 0 ∧ inb a1 5 then
        some (p2.1, up (txS p2.2 (172 + X.2) (ix (p2.2 137 7))) 137 1 0, upTT T 14 (ix a1) (172 + X.2), txX X (ix (p2.2 137 7)))
      else none
  else
    (cD_found S (-100001 : Int32)).bind fun p3 =>
    some (p3.1, p3.2, T, X)
theorem t_cD_text {l : Launch} {G : aG} {d : Nat} {Q : Option Value → aHeap → Prop} {sl : Nat} {sx : Nat → Int32} {S : SS} {K : KS} {T : TS} {X : XS} {M : SS} {a1 : Int32} {p : Int32 × SS × TS × XS} (hd : cD_text S T X a1 = some p) (hQ : Q (some (.int p.1)) (LH (old0 sl sx) p.2.1 K p.2.2.1 p.2.2.2 M)) : aCall l G (d + 126) 2 203 63 [.ref 8, .int a1] (LH (old0 sl sx) S K T X M) Q := by
  refine aCall.of (by decide) (Nat.le_of_ble_eq_true rfl) ?_
  refine aAt.sub [(0, .ref 8), (1, .int a1)] rfl ?_
  unfold cD_text at hd
  refine s_iload_n f_63_0 rfl ?_
  refine k_iconst (v := 0) f_63_1 (by decide) ?_
  refine k_iconst (v := 4) f_63_2 (by decide) ?_
  replace hd := obind hd
  obtain ⟨p1, e1, hd⟩ := hd
  refine L_stat (As := [.int a1, .int 0, .int 4]) f_63_3 ca_0_75 rfl rfl (Nat.le_of_ble_eq_true rfl) ?_
  refine t_cD_within e1 ?_
  refine z_if_ne 16 f_63_6 (by decide) (fun c => ?_) (fun c => ?_)
  · replace hd := ite_p c hd
    replace hd := obind hd
    obtain ⟨⟨f, S1⟩, e2, hd⟩ := hd
    refine s_aload_n f_63_16 rfl ?_
    refine L_getR f_63_17 fd_0_40 (obL (by decide)) (by decide) (by decide : rf 8 4 = 137) ?_
    refine L_virt (As := []) f_63_20 ca_0_275 rfl rfl (obL (by decide)) (by decide) (Nat.le_of_ble_eq_true rfl) ?_
    refine t_cScribe_reads e2 ?_
    refine s_istore_n f_63_23 (by decide) ?_
    refine aAt.sub [(0, .ref 8), (1, .int a1), (2, .int f)] rfl ?_
    refine s_iload_n f_63_24 rfl ?_
    dsimp only at hd
    refine s_if_ge 44 f_63_25 (by decide) (fun c2 => ?_) (fun c2 => ?_)
    · replace hd := ite_p c2 hd
      refine s_aload_n f_63_44 rfl ?_
      refine L_getR f_63_45 fd_0_40 (obL (by decide)) (by decide) (by decide : rf 8 4 = 137) ?_
      refine k_iconst (v := 0) f_63_48 (by decide) ?_
      refine C_putI f_63_49 fd_0_272 (ocl (by decide)) (by decide) (Or.inl rfl) (by decide) ?_
      refine s_iload_n f_63_52 rfl ?_
      refine s_ireturn f_63_53 rfl rfl ?_
      cases hd
      exact hQ
    · replace hd := ite_n c2 hd
      replace hd := gd hd
      obtain ⟨⟨g1, g2, g3⟩, hd⟩ := hd
      refine s_aload_n f_63_28 rfl ?_
      refine L_getR f_63_29 fd_0_10 (obL (by decide)) (by decide) (by decide : rf 8 0 = 9) ?_
      refine L_getR f_63_32 fd_0_278 (obL (by decide)) (by decide) (by decide : rf 9 4 = 14) ?_
      refine s_iload_n f_63_35 rfl ?_
      refine s_aload_n f_63_36 rfl ?_
      refine L_getR f_63_37 fd_0_40 (obL (by decide)) (by decide) (by decide : rf 8 4 = 137) ?_
      have hx : (LH (old0 sl sx) S1 K T X M).2 137 = (kd 137, ln X.1 137, fun j => sv (jn S1 M) K (tV T) 137 j) := lay_2 (by decide)
      refine s_virt (mc' := 2) (ms' := 203) (x := 137) (As := []) f_63_40 ca_0_282 rfl rfl (by decide) (show 137 < 172 + X.2 by omega) (by rw [hx]; rfl) (by decide) (Nat.le_of_ble_eq_true rfl) (by decide) (by decide) ?_
      refine t_written (d := d + 123) g2 (inb_lt g1) (inb_nI g1) ?_
      have ht : tok (txX X (ix (S1 137 7))) (172 + X.2) := ⟨by omega, by show 172 + X.2 + 1 < 172 + (X.2 + 2); omega, by omega, by
        show (if 172 + X.2 + 1 = 173 + X.2 then _ else _) ≤ 200
        rw [if_pos (by omega)]
        exact Nat.le_of_lt (inb_lt g1)⟩
      refine aAt.stk (tv (172 + X.2) :: .int a1 :: .ref 14 :: []) (by rw [tv1 (by omega)]; rfl) ?_
      refine C_aastore (n := 5) (q := ix a1) (t := 172 + X.2) f_63_43 (ocl (by decide)) (rfl : ln _ 14 = 5) (Nat.le_of_ble_eq_true rfl) rfl rfl g3 (Or.inr ht) ?_
      refine s_aload_n f_63_44 rfl ?_
      refine L_getR f_63_45 fd_0_40 (obL (by decide)) (by decide) (by decide : rf 8 4 = 137) ?_
      refine k_iconst (v := 0) f_63_48 (by decide) ?_
      refine C_putI f_63_49 fd_0_272 (ocl (by decide)) (by decide) (Or.inl rfl) (by decide) ?_
      refine s_iload_n f_63_52 rfl ?_
      refine s_ireturn f_63_53 rfl rfl ?_
      cases hd
      exact hQ
  · replace hd := ite_n c hd
    replace hd := obind hd
    obtain ⟨p3, e3, hd⟩ := hd
    refine s_aload_n f_63_9 rfl ?_
    refine s_ldc f_63_10 ko_0_83 ?_
    refine L_virt (As := [.int (-100001)]) f_63_12 ca_0_84 rfl rfl (obL (by decide)) (by decide) (Nat.le_of_ble_eq_true rfl) ?_
    refine t_cD_found e3 ?_
    refine s_ireturn f_63_15 rfl rfl ?_
    cases hd
    exact hQ
