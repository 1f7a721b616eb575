def rM_lawOf_J58 (M : SS) (k5 : Int32 → Int32 → Int32 → Int32 → Option (Int32)) (a1 : Int32) (a2 : Int32) (a4 : Int32) (w0 : Int32) : Option (Int32) :=
  k5 a1 a2 w0 (a4 + 1)
theorem t_rM_lawOf_J58 {l : Launch} {G : aG} {d : Nat} {Q : Option Value → aHeap → Prop} {sl : Nat} {sx : Nat → Int32} {S : SS} {K : KS} {T : TS} {X : XS} {M : SS} {k5 : Int32 → Int32 → Int32 → Int32 → Option (Int32)} (hk5 : ∀ (a1 : Int32) (a2 : Int32) (a3 : Int32) (a4 : Int32) (p : Int32), k5 a1 a2 a3 a4 = some p → Q (some (.int p)) (LH (old0 sl sx) S K T X M) → aAt l G d 0 0 239 5 [(0, .ref 154), (1, .int a1), (2, .int a2), (3, .int a3), (4, .int a4)] [] 0 0 (LH (old0 sl sx) S K T X M) Q) : ∀ (a1 : Int32) (a2 : Int32) (a4 : Int32) (w0 : Int32) (p : Int32), rM_lawOf_J58 M k5 a1 a2 a4 w0 = some p → Q (some (.int p)) (LH (old0 sl sx) S K T X M) → aAt l G d 0 0 239 58 [(0, .ref 154), (1, .int a1), (2, .int a2), (4, .int a4)] [.int w0] 0 0 (LH (old0 sl sx) S K T X M) Q := by
  intro a1 a2 a4 w0 p hd hQ
  unfold rM_lawOf_J58 at hd
  refine s_istore_n f_239_58 (by decide) ?_
  refine k_iinc (w := 1) f_239_59 rfl (by decide) (by decide) ?_
  refine s_goto 5 f_239_62 (by decide) ?_
  refine aAt.sub [(0, .ref 154), (1, .int a1), (2, .int a2), (3, .int w0), (4, .int (a4 + 1))] rfl ?_
  exact hk5 _ _ _ _  _ hd hQ
def rM_lawOf_J57 (M : SS) (k5 : Int32 → Int32 → Int32 → Int32 → Option (Int32)) (a1 : Int32) (a2 : Int32) (a3 : Int32) (a4 : Int32) : Option (Int32) :=
  rM_lawOf_J58 M k5 a1 a2 a4 a3
theorem t_rM_lawOf_J57 {l : Launch} {G : aG} {d : Nat} {Q : Option Value → aHeap → Prop} {sl : Nat} {sx : Nat → Int32} {S : SS} {K : KS} {T : TS} {X : XS} {M : SS} {k5 : Int32 → Int32 → Int32 → Int32 → Option (Int32)} (hk5 : ∀ (a1 : Int32) (a2 : Int32) (a3 : Int32) (a4 : Int32) (p : Int32), k5 a1 a2 a3 a4 = some p → Q (some (.int p)) (LH (old0 sl sx) S K T X M) → aAt l G d 0 0 239 5 [(0, .ref 154), (1, .int a1), (2, .int a2), (3, .int a3), (4, .int a4)] [] 0 0 (LH (old0 sl sx) S K T X M) Q) : ∀ (a1 : Int32) (a2 : Int32) (a3 : Int32) (a4 : Int32) (p : Int32), rM_lawOf_J57 M k5 a1 a2 a3 a4 = some p → Q (some (.int p)) (LH (old0 sl sx) S K T X M) → aAt l G d 0 0 239 57 [(0, .ref 154), (1, .int a1), (2, .int a2), (3, .int a3), (4, .int a4)] [] 0 0 (LH (old0 sl sx) S K T X M) Q := by
  intro a1 a2 a3 a4 p hd hQ
  unfold rM_lawOf_J57 at hd
  refine s_iload_n f_239_57 rfl ?_
  refine aAt.sub [(0, .ref 154), (1, .int a1), (2, .int a2), (4, .int a4)] rfl ?_
  exact t_rM_lawOf_J58 hk5 _ _ _ _  _ hd hQ
def rM_lawOf_L5 (M : SS) : Nat → Int32 → Int32 → Int32 → Int32 → Option (Int32)
  | 0, _, _, _, _ => none
  | n + 1, a1, a2, a3, a4 =>
    if (M 155 4) ≤ a4 then
      some a3
    else
      if inb ((382 : Int32) + ((2 : Int32) * a4)) 10759 then
        if (M 155 (ix ((382 : Int32) + ((2 : Int32) * a4)))) = a1 then
          if inb (((382 : Int32) + ((2 : Int32) * a4)) + (1 : Int32)) 10759 then
            if a2 < (M 155 (ix (((382 : Int32) + ((2 : Int32) * a4)) + (1 : Int32)))) then
              rM_lawOf_J57 M (rM_lawOf_L5 M  n) a1 a2 a3 a4
            else
              rM_lawOf_J58 M (rM_lawOf_L5 M  n) a1 a2 a4 a4
          else none
        else
          rM_lawOf_J57 M (rM_lawOf_L5 M  n) a1 a2 a3 a4
      else none
theorem t_rM_lawOf_L5 {l : Launch} {G : aG} {d : Nat} {Q : Option Value → aHeap → Prop} {sl : Nat} {sx : Nat → Int32} {S : SS} {K : KS} {T : TS} {X : XS} {M : SS} : ∀ (n : Nat), ∀ (a1 : Int32) (a2 : Int32) (a3 : Int32) (a4 : Int32) (p : Int32), rM_lawOf_L5 M n a1 a2 a3 a4 = some p → Q (some (.int p)) (LH (old0 sl sx) S K T X M) → aAt l G d 0 0 239 5 [(0, .ref 154), (1, .int a1), (2, .int a2), (3, .int a3), (4, .int a4)] [] 0 0 (LH (old0 sl sx) S K T X M) Q := by
  intro n
  induction n with
  | zero =>
    intro a1 a2 a3 a4 p hd hQ
    rw [rM_lawOf_L5] at hd
    cases hd
  | succ n ih =>
    intro a1 a2 a3 a4 p hd hQ
    rw [rM_lawOf_L5] at hd
    refine s_iload f_239_5 rfl ?_
    refine s_aload_n f_239_7 rfl ?_
    refine L_getR f_239_8 fd_12_7 (obL (by decide)) (by decide) (by decide : rf 154 0 = 155) ?_
    refine k_iconst (v := 4) f_239_11 (by decide) ?_
    refine M_iaload (q := 4) f_239_12 ⟨by decide, by decide, by decide, fun _ => rfl⟩ (Nat.le_of_ble_eq_true rfl : 10759 < 2 ^ 31) (by decide) (by decide) ?_
    refine s_icmp_ge 65 f_239_13 (by decide) (fun c1 => ?_) (fun c1 => ?_)
    · replace hd := ite_p c1 hd
      refine s_iload_n f_239_65 rfl ?_
      refine s_ireturn f_239_66 rfl rfl ?_
      cases hd
      exact hQ
    · replace hd := ite_n c1 hd
      refine s_aload_n f_239_16 rfl ?_
      refine L_getR f_239_17 fd_12_7 (obL (by decide)) (by decide) (by decide : rf 154 0 = 155) ?_
      refine k_sipush (v := 382) f_239_20 (by decide) ?_
      refine k_iconst (v := 2) f_239_23 (by decide) ?_
      refine s_iload f_239_24 rfl ?_
      refine s_imul f_239_26 ?_
      refine s_iadd f_239_27 ?_
      replace hd := gd hd
      obtain ⟨g2, hd⟩ := hd
      refine M_iaload (q := (ix ((382 : Int32) + ((2 : Int32) * a4)))) f_239_28 ⟨by decide, by decide, by decide, fun _ => rfl⟩ (Nat.le_of_ble_eq_true rfl : 10759 < 2 ^ 31) rfl g2 ?_
      refine s_iload_n f_239_29 rfl ?_
      refine s_icmp_ne 57 f_239_30 (by decide) (fun c3 => ?_) (fun c3 => ?_)
      · replace hd := ite_n c3 hd
        refine aAt.sub [(0, .ref 154), (1, .int a1), (2, .int a2), (3, .int a3), (4, .int a4)] rfl ?_
        exact t_rM_lawOf_J57 ih _ _ _ _  _ hd hQ
      · replace hd := ite_p c3 hd
        refine s_aload_n f_239_33 rfl ?_
        refine L_getR f_239_34 fd_12_7 (obL (by decide)) (by decide) (by decide : rf 154 0 = 155) ?_
        refine k_sipush (v := 382) f_239_37 (by decide) ?_
        refine k_iconst (v := 2) f_239_40 (by decide) ?_
        refine s_iload f_239_41 rfl ?_
        refine s_imul f_239_43 ?_
        refine s_iadd f_239_44 ?_
        refine k_iconst (v := 1) f_239_45 (by decide) ?_
        refine s_iadd f_239_46 ?_
        replace hd := gd hd
        obtain ⟨g4, hd⟩ := hd
        refine M_iaload (q := (ix (((382 : Int32) + ((2 : Int32) * a4)) + (1 : Int32)))) f_239_47 ⟨by decide, by decide, by decide, fun _ => rfl⟩ (Nat.le_of_ble_eq_true rfl : 10759 < 2 ^ 31) rfl g4 ?_
        refine s_iload_n f_239_48 rfl ?_
        refine s_icmp_gt 57 f_239_49 (by decide) (fun c5 => ?_) (fun c5 => ?_)
        · replace hd := ite_p c5 hd
          refine aAt.sub [(0, .ref 154), (1, .int a1), (2, .int a2), (3, .int a3), (4, .int a4)] rfl ?_
          exact t_rM_lawOf_J57 ih _ _ _ _  _ hd hQ
        · replace hd := ite_n c5 hd
          refine s_iload f_239_52 rfl ?_
          refine s_goto 58 f_239_54 (by decide) ?_
          refine aAt.sub [(0, .ref 154), (1, .int a1), (2, .int a2), (4, .int a4)] rfl ?_
          exact t_rM_lawOf_J58 ih _ _ _ _  _ hd hQ
def rM_lawOf (M : SS) (a1 : Int32) (a2 : Int32) : Option (Int32) :=
  rM_lawOf_L5 M FU a1 a2 (-1 : Int32) (0 : Int32)
theorem t_rM_lawOf {l : Launch} {G : aG} {d : Nat} {Q : Option Value → aHeap → Prop} {sl : Nat} {sx : Nat → Int32} {S : SS} {K : KS} {T : TS} {X : XS} {M : SS} {a1 : Int32} {a2 : Int32} {p : Int32} (hd : rM_lawOf M a1 a2 = some p) (hQ : Q (some (.int p)) (LH (old0 sl sx) S K T X M)) : aCall l G d 0 0 239 [.ref 154, .int a1, .int a2] (LH (old0 sl sx) S K T X M) Q := by
  refine aCall.of (by decide) (Nat.le_of_ble_eq_true rfl) ?_
  refine aAt.sub [(0, .ref 154), (1, .int a1), (2, .int a2)] rfl ?_
  unfold rM_lawOf at hd
  refine k_iconst (v := (-1)) f_239_0 (by decide) ?_
  refine s_istore_n f_239_1 (by decide) ?_
  refine k_iconst (v := 0) f_239_2 (by decide) ?_
  refine s_istore f_239_3 (by decide) ?_
  refine aAt.sub [(0, .ref 154), (1, .int a1), (2, .int a2), (3, .int (-1 : Int32)), (4, .int (0 : Int32))] rfl ?_
  exact t_rM_lawOf_L5 FU _ _ _ _  _ hd hQ

def rM_law_J14 (M : SS) : Option (Int32 × SS) :=
  (rM_finds M (-100001 : Int32)).bind fun p3 =>
  some (p3.1, p3.2)
theorem t_rM_law_J14 {l : Launch} {G : aG} {d : Nat} {Q : Option Value → aHeap → Prop} {sl : Nat} {sx : Nat → Int32} {S : SS} {K : KS} {T : TS} {X : XS} : ∀ (M : SS) (p : Int32 × SS), rM_law_J14 M = some p → Q (some (.int p.1)) (LH (old0 sl sx) S K T X p.2) → aAt l G (d + 2) 0 0 238 14 [(0, .ref 154)] [] 0 0 (LH (old0 sl sx) S K T X M) Q := by
  intro M p hd hQ
  unfold rM_law_J14 at hd
  refine s_aload_n f_238_14 rfl ?_
  refine s_ldc f_238_15 ko_12_77 ?_
  replace hd := obind hd
  obtain ⟨p3, e3, hd⟩ := hd
  refine L_virt (As := [.int (-100001 : Int32)]) f_238_17 ca_12_78 rfl rfl (obL (by decide)) (by decide) (Nat.le_of_ble_eq_true rfl) ?_
  refine t_rM_finds e3 ?_
  refine s_ireturn f_238_20 rfl rfl ?_
  cases hd
  exact hQ
def rM_law (M : SS) (a1 : Int32) (a2 : Int32) : Option (Int32 × SS) :=
  (rM_isBench a1).bind fun p1 =>
  if p1 = true then
    (rM_isYear a2).bind fun p4 =>
    if p4 = true then
      (rM_lawOf M a1 a2).bind fun p6 =>
      if 0 ≤ p6 then
        some (p6, M)
      else
        (rM_finds M (-100006 : Int32)).bind fun p8 =>
        some (p8.1, p8.2)
    else
      rM_law_J14 M
  else
    rM_law_J14 M
theorem t_rM_law {l : Launch} {G : aG} {d : Nat} {Q : Option Value → aHeap → Prop} {sl : Nat} {sx : Nat → Int32} {S : SS} {K : KS} {T : TS} {X : XS} {M : SS} {a1 : Int32} {a2 : Int32} {p : Int32 × SS} (hd : rM_law M a1 a2 = some p) (hQ : Q (some (.int p.1)) (LH (old0 sl sx) S K T X p.2)) : aCall l G (d + 2) 0 0 238 [.ref 154, .int a1, .int a2] (LH (old0 sl sx) S K T X M) Q := by
  refine aCall.of (by decide) (Nat.le_of_ble_eq_true rfl) ?_
  refine aAt.sub [(0, .ref 154), (1, .int a1), (2, .int a2)] rfl ?_
  unfold rM_law at hd
  refine s_iload_n f_238_0 rfl ?_
  replace hd := obind hd
  obtain ⟨p1, e1, hd⟩ := hd
  refine L_stat (As := [.int a1]) f_238_1 ca_12_161 rfl rfl (Nat.le_of_ble_eq_true rfl) ?_
  refine t_rM_isBench e1 ?_
  refine z_if_eq 14 f_238_4 (by decide) (fun c2 => ?_) (fun c2 => ?_)
  · replace hd := ite_n c2 hd
    refine aAt.sub [(0, .ref 154)] rfl ?_
    exact t_rM_law_J14 _  _ hd hQ
  · replace hd := ite_p c2 hd
    refine s_iload_n f_238_7 rfl ?_
    replace hd := obind hd
    obtain ⟨p4, e4, hd⟩ := hd
    refine L_stat (As := [.int a2]) f_238_8 ca_12_164 rfl rfl (Nat.le_of_ble_eq_true rfl) ?_
    refine t_rM_isYear e4 ?_
    refine z_if_ne 21 f_238_11 (by decide) (fun c5 => ?_) (fun c5 => ?_)
    · replace hd := ite_p c5 hd
      refine s_aload_n f_238_21 rfl ?_
      refine s_iload_n f_238_22 rfl ?_
      refine s_iload_n f_238_23 rfl ?_
      replace hd := obind hd
      obtain ⟨p6, e6, hd⟩ := hd
      refine L_virt (As := [.int a1, .int a2]) f_238_24 ca_12_235 rfl rfl (obL (by decide)) (by decide) (Nat.le_of_ble_eq_true rfl) ?_
      refine t_rM_lawOf e6 ?_
      refine s_istore_n f_238_27 (by decide) ?_
      refine s_iload_n f_238_28 rfl ?_
      refine s_if_ge 41 f_238_29 (by decide) (fun c7 => ?_) (fun c7 => ?_)
      · replace hd := ite_p c7 hd
        refine s_iload_n f_238_41 rfl ?_
        refine s_ireturn f_238_42 rfl rfl ?_
        cases hd
        exact hQ
      · replace hd := ite_n c7 hd
        refine s_aload_n f_238_32 rfl ?_
        refine s_ldc f_238_33 ko_12_131 ?_
        replace hd := obind hd
        obtain ⟨p8, e8, hd⟩ := hd
        refine L_virt (As := [.int (-100006 : Int32)]) f_238_35 ca_12_78 rfl rfl (obL (by decide)) (by decide) (Nat.le_of_ble_eq_true rfl) ?_
        refine t_rM_finds e8 ?_
        refine s_goto 42 f_238_38 (by decide) ?_
        refine s_ireturn f_238_42 rfl rfl ?_
        cases hd
        exact hQ
    · replace hd := ite_n c5 hd
      refine aAt.sub [(0, .ref 154)] rfl ?_
      exact t_rM_law_J14 _  _ hd hQ

def rM_isAsked (M : SS) (a1 : Int32) (a2 : Int32) (a3 : Int32) : Option (Bool) :=
  (rM_isPaper M a1).bind fun p1 =>
  if p1 = true then
    (rM_isBench a2).bind fun p3 =>
    if p3 = true then
      (rM_isYear a3).bind fun p5 =>
      if p5 = true then
        (rM_of M a1 (5 : Int32)).bind fun p7 =>
        if a3 < p7 then
          some false
        else
          some true
      else
        some false
    else
      some false
  else
    some false
theorem t_rM_isAsked {l : Launch} {G : aG} {d : Nat} {Q : Option Value → aHeap → Prop} {sl : Nat} {sx : Nat → Int32} {S : SS} {K : KS} {T : TS} {X : XS} {M : SS} {a1 : Int32} {a2 : Int32} {a3 : Int32} {p : Bool} (hd : rM_isAsked M a1 a2 a3 = some p) (hQ : Q (some (.int (b2i p))) (LH (old0 sl sx) S K T X M)) : aCall l G (d + 2) 0 0 241 [.ref 154, .int a1, .int a2, .int a3] (LH (old0 sl sx) S K T X M) Q := by
  refine aCall.of (by decide) (Nat.le_of_ble_eq_true rfl) ?_
  refine aAt.sub [(0, .ref 154), (1, .int a1), (2, .int a2), (3, .int a3)] rfl ?_
  unfold rM_isAsked at hd
  refine s_aload_n f_241_0 rfl ?_
  refine s_iload_n f_241_1 rfl ?_
  replace hd := obind hd
  obtain ⟨p1, e1, hd⟩ := hd
  refine L_virt (As := [.int a1]) f_241_2 ca_12_144 rfl rfl (obL (by decide)) (by decide) (Nat.le_of_ble_eq_true rfl) ?_
  refine t_rM_isPaper e1 ?_
  refine z_if_eq 36 f_241_5 (by decide) (fun c2 => ?_) (fun c2 => ?_)
  · replace hd := ite_n c2 hd
    refine k_iconst (v := 0) f_241_36 (by decide) ?_
    refine s_iretB (b := false) f_241_37 rfl ?_
    cases hd
    exact hQ
  · replace hd := ite_p c2 hd
    refine s_iload_n f_241_8 rfl ?_
    replace hd := obind hd
    obtain ⟨p3, e3, hd⟩ := hd
    refine L_stat (As := [.int a2]) f_241_9 ca_12_161 rfl rfl (Nat.le_of_ble_eq_true rfl) ?_
    refine t_rM_isBench e3 ?_
    refine z_if_eq 36 f_241_12 (by decide) (fun c4 => ?_) (fun c4 => ?_)
    · replace hd := ite_n c4 hd
      refine k_iconst (v := 0) f_241_36 (by decide) ?_
      refine s_iretB (b := false) f_241_37 rfl ?_
      cases hd
      exact hQ
    · replace hd := ite_p c4 hd
      refine s_iload_n f_241_15 rfl ?_
      replace hd := obind hd
      obtain ⟨p5, e5, hd⟩ := hd
      refine L_stat (As := [.int a3]) f_241_16 ca_12_164 rfl rfl (Nat.le_of_ble_eq_true rfl) ?_
      refine t_rM_isYear e5 ?_
      refine z_if_eq 36 f_241_19 (by decide) (fun c6 => ?_) (fun c6 => ?_)
      · replace hd := ite_n c6 hd
        refine k_iconst (v := 0) f_241_36 (by decide) ?_
        refine s_iretB (b := false) f_241_37 rfl ?_
        cases hd
        exact hQ
      · replace hd := ite_p c6 hd
        refine s_iload_n f_241_22 rfl ?_
        refine s_aload_n f_241_23 rfl ?_
        refine s_iload_n f_241_24 rfl ?_
        refine k_iconst (v := 5) f_241_25 (by decide) ?_
        replace hd := obind hd
        obtain ⟨p7, e7, hd⟩ := hd
        refine L_virt (As := [.int a1, .int (5 : Int32)]) f_241_26 ca_12_98 rfl rfl (obL (by decide)) (by decide) (Nat.le_of_ble_eq_true rfl) ?_
        refine t_rM_of e7 ?_
        refine s_icmp_lt 36 f_241_29 (by decide) (fun c8 => ?_) (fun c8 => ?_)
        · replace hd := ite_p c8 hd
          refine k_iconst (v := 0) f_241_36 (by decide) ?_
          refine s_iretB (b := false) f_241_37 rfl ?_
          cases hd
          exact hQ
        · replace hd := ite_n c8 hd
          refine k_iconst (v := 1) f_241_32 (by decide) ?_
          refine s_goto 37 f_241_33 (by decide) ?_
          refine s_iretB (b := true) f_241_37 rfl ?_
          cases hd
          exact hQ

def rM_done_J60 : Option (Int32) :=
  some (1 : Int32)
theorem t_rM_done_J60 {l : Launch} {G : aG} {d : Nat} {Q : Option Value → aHeap → Prop} {sl : Nat} {sx : Nat → Int32} {S : SS} {K : KS} {T : TS} {X : XS} {M : SS} : ∀ (p : Int32), rM_done_J60 = some p → Q (some (.int p)) (LH (old0 sl sx) S K T X M) → aAt l G d 0 0 245 60 [] [] 0 0 (LH (old0 sl sx) S K T X M) Q := by
  intro p hd hQ
  unfold rM_done_J60 at hd
  refine k_iconst (v := 1) f_245_60 (by decide) ?_
  refine s_goto 65 f_245_61 (by decide) ?_
  refine s_ireturn f_245_65 rfl rfl ?_
  cases hd
  exact hQ
def rM_done (a0 : Int32) (a1 : Int32) (a2 : Int32) : Option (Int32) :=
  if a0 = 15 then
    if a1 = 0 then
      if a2 = 0 then
        some (0 : Int32)
      else
        rM_done_J60 
    else
      rM_done_J60 
  else
    if a0 = 16 then
      if a1 = 0 then
        some (0 : Int32)
      else
        if a2 = 0 then
          some (0 : Int32)
        else
          some (1 : Int32)
    else
      if a0 = 143 then
        some (a1 + a2)
      else
        if a0 = 160 then
          if a2 ≤ a1 then
            some (0 : Int32)
          else
            some (1 : Int32)
        else
          if a0 = 161 then
            if a1 = a2 then
              some (1 : Int32)
            else
              some (0 : Int32)
          else
            some (a1 - a2)
theorem t_rM_done {l : Launch} {G : aG} {d : Nat} {Q : Option Value → aHeap → Prop} {sl : Nat} {sx : Nat → Int32} {S : SS} {K : KS} {T : TS} {X : XS} {M : SS} {a0 : Int32} {a1 : Int32} {a2 : Int32} {p : Int32} (hd : rM_done a0 a1 a2 = some p) (hQ : Q (some (.int p)) (LH (old0 sl sx) S K T X M)) : aCall l G d 0 0 245 [.int a0, .int a1, .int a2] (LH (old0 sl sx) S K T X M) Q := by
  refine aCall.of (by decide) (Nat.le_of_ble_eq_true rfl) ?_
  refine aAt.sub [(0, .int a0), (1, .int a1), (2, .int a2)] rfl ?_
  unfold rM_done at hd
  refine s_iload_n f_245_0 rfl ?_
  by_cases c1 : a0 = 15
  · replace hd := ite_p c1 hd
    refine s_lookJ (off := 51) (15 : Int32) 52 c1 f_245_1 (by decide) (by decide) (by decide) ?_
    refine s_iload_n f_245_52 rfl ?_
    refine s_if_ne 60 f_245_53 (by decide) (fun c2 => ?_) (fun c2 => ?_)
    · replace hd := ite_n c2 hd
      refine aAt.sub [] rfl ?_
      exact t_rM_done_J60   _ hd hQ
    · replace hd := ite_p c2 hd
      refine s_iload_n f_245_56 rfl ?_
      refine s_if_eq 64 f_245_57 (by decide) (fun c3 => ?_) (fun c3 => ?_)
      · replace hd := ite_p c3 hd
        refine k_iconst (v := 0) f_245_64 (by decide) ?_
        refine s_ireturn f_245_65 rfl rfl ?_
        cases hd
        exact hQ
      · replace hd := ite_n c3 hd
        refine aAt.sub [] rfl ?_
        exact t_rM_done_J60   _ hd hQ
  replace hd := ite_n c1 hd
  by_cases c4 : a0 = 16
  · replace hd := ite_p c4 hd
    refine s_lookJ (off := 65) (16 : Int32) 66 c4 f_245_1 (by decide) (by decide) (by decide) ?_
    refine s_iload_n f_245_66 rfl ?_
    refine s_if_eq 78 f_245_67 (by decide) (fun c5 => ?_) (fun c5 => ?_)
    · replace hd := ite_p c5 hd
      refine k_iconst (v := 0) f_245_78 (by decide) ?_
      refine s_ireturn f_245_79 rfl rfl ?_
      cases hd
      exact hQ
    · replace hd := ite_n c5 hd
      refine s_iload_n f_245_70 rfl ?_
      refine s_if_eq 78 f_245_71 (by decide) (fun c6 => ?_) (fun c6 => ?_)
      · replace hd := ite_p c6 hd
        refine k_iconst (v := 0) f_245_78 (by decide) ?_
        refine s_ireturn f_245_79 rfl rfl ?_
        cases hd
        exact hQ
      · replace hd := ite_n c6 hd
        refine k_iconst (v := 1) f_245_74 (by decide) ?_
        refine s_goto 79 f_245_75 (by decide) ?_
        refine s_ireturn f_245_79 rfl rfl ?_
        cases hd
        exact hQ
  replace hd := ite_n c4 hd
  by_cases c7 : a0 = 143
  · replace hd := ite_p c7 hd
    refine s_lookJ (off := 101) (143 : Int32) 102 c7 f_245_1 (by decide) (by decide) (by decide) ?_
    refine s_iload_n f_245_102 rfl ?_
    refine s_iload_n f_245_103 rfl ?_
    refine s_iadd f_245_104 ?_
    refine s_ireturn f_245_105 rfl rfl ?_
    cases hd
    exact hQ
  replace hd := ite_n c7 hd
  by_cases c8 : a0 = 160
  · replace hd := ite_p c8 hd
    refine s_lookJ (off := 79) (160 : Int32) 80 c8 f_245_1 (by decide) (by decide) (by decide) ?_
    refine s_iload_n f_245_80 rfl ?_
    refine s_iload_n f_245_81 rfl ?_
    refine s_icmp_ge 89 f_245_82 (by decide) (fun c9 => ?_) (fun c9 => ?_)
    · replace hd := ite_p c9 hd
      refine k_iconst (v := 0) f_245_89 (by decide) ?_
      refine s_ireturn f_245_90 rfl rfl ?_
      cases hd
      exact hQ
    · replace hd := ite_n c9 hd
      refine k_iconst (v := 1) f_245_85 (by decide) ?_
      refine s_goto 90 f_245_86 (by decide) ?_
      refine s_ireturn f_245_90 rfl rfl ?_
      cases hd
      exact hQ
  replace hd := ite_n c8 hd
  by_cases c10 : a0 = 161
  · replace hd := ite_p c10 hd
    refine s_lookJ (off := 90) (161 : Int32) 91 c10 f_245_1 (by decide) (by decide) (by decide) ?_
    refine s_iload_n f_245_91 rfl ?_
    refine s_iload_n f_245_92 rfl ?_
    refine s_icmp_ne 100 f_245_93 (by decide) (fun c11 => ?_) (fun c11 => ?_)
    · replace hd := ite_n c11 hd
      refine k_iconst (v := 0) f_245_100 (by decide) ?_
      refine s_ireturn f_245_101 rfl rfl ?_
      cases hd
      exact hQ
    · replace hd := ite_p c11 hd
      refine k_iconst (v := 1) f_245_96 (by decide) ?_
      refine s_goto 101 f_245_97 (by decide) ?_
      refine s_ireturn f_245_101 rfl rfl ?_
      cases hd
      exact hQ
  replace hd := ite_n c10 hd
  refine s_lookup 106 f_245_1 (by decide) (by show (if (15 : Int) = _ then (51 : Int) else if (16 : Int) = _ then (65 : Int) else if (143 : Int) = _ then (101 : Int) else if (160 : Int) = _ then (79 : Int) else if (161 : Int) = _ then (90 : Int) else (105 : Int)) = (105 : Int); rw [if_neg (lk_n c1 (by decide)), if_neg (lk_n c4 (by decide)), if_neg (lk_n c7 (by decide)), if_neg (lk_n c8 (by decide)), if_neg (lk_n c10 (by decide))]) (by decide) ?_
  refine s_iload_n f_245_106 rfl ?_
  refine s_iload_n f_245_107 rfl ?_
  refine s_isub f_245_108 ?_
  refine s_ireturn f_245_109 rfl rfl ?_
  cases hd
  exact hQ

def rM_isSo_J159 (k26 : SS → Int32 → Int32 → Int32 → Option (Bool × SS)) (M : SS) (a3 : Int32) (a4 : Int32) (a5 : Int32) : Option (Bool × SS) :=
  k26 M a3 a4 (a5 + 1)
theorem t_rM_isSo_J159 {l : Launch} {G : aG} {d : Nat} {Q : Option Value → aHeap → Prop} {sl : Nat} {sx : Nat → Int32} {S : SS} {K : KS} {T : TS} {X : XS} {k26 : SS → Int32 → Int32 → Int32 → Option (Bool × SS)} (hk26 : ∀ (M : SS) (a3 : Int32) (a4 : Int32) (a5 : Int32) (p : Bool × SS), k26 M a3 a4 a5 = some p → Q (some (.int (b2i p.1))) (LH (old0 sl sx) S K T X p.2) → aAt l G (d + 1) 0 0 244 26 [(0, .ref 154), (3, .int a3), (4, .int a4), (5, .int a5)] [] 0 0 (LH (old0 sl sx) S K T X M) Q) : ∀ (M : SS) (a3 : Int32) (a4 : Int32) (a5 : Int32) (p : Bool × SS), rM_isSo_J159 k26 M a3 a4 a5 = some p → Q (some (.int (b2i p.1))) (LH (old0 sl sx) S K T X p.2) → aAt l G (d + 1) 0 0 244 159 [(0, .ref 154), (3, .int a3), (4, .int a4), (5, .int a5)] [] 0 0 (LH (old0 sl sx) S K T X M) Q := by
  intro M a3 a4 a5 p hd hQ
  unfold rM_isSo_J159 at hd
  refine k_iinc (w := 1) f_244_159 rfl (by decide) (by decide) ?_
  refine s_goto 26 f_244_162 (by decide) ?_
  refine aAt.sub [(0, .ref 154), (3, .int a3), (4, .int a4), (5, .int (a5 + 1))] rfl ?_
  exact hk26 _ _ _ _  _ hd hQ
def rM_isSo_J119 (k26 : SS → Int32 → Int32 → Int32 → Option (Bool × SS)) (M : SS) (a3 : Int32) (a4 : Int32) (a5 : Int32) (w1 : Int32) (w2 : Bool) : Option (Bool × SS) :=
  if inb w1 200 then
    rM_isSo_J159 k26 (up M 165 (ix w1) (b2i w2)) a3 a4 a5
  else none
theorem t_rM_isSo_J119 {l : Launch} {G : aG} {d : Nat} {Q : Option Value → aHeap → Prop} {sl : Nat} {sx : Nat → Int32} {S : SS} {K : KS} {T : TS} {X : XS} {k26 : SS → Int32 → Int32 → Int32 → Option (Bool × SS)} (hk26 : ∀ (M : SS) (a3 : Int32) (a4 : Int32) (a5 : Int32) (p : Bool × SS), k26 M a3 a4 a5 = some p → Q (some (.int (b2i p.1))) (LH (old0 sl sx) S K T X p.2) → aAt l G (d + 1) 0 0 244 26 [(0, .ref 154), (3, .int a3), (4, .int a4), (5, .int a5)] [] 0 0 (LH (old0 sl sx) S K T X M) Q) : ∀ (M : SS) (a3 : Int32) (a4 : Int32) (a5 : Int32) (w1 : Int32) (w2 : Bool) (p : Bool × SS), rM_isSo_J119 k26 M a3 a4 a5 w1 w2 = some p → Q (some (.int (b2i p.1))) (LH (old0 sl sx) S K T X p.2) → aAt l G (d + 1) 0 0 244 119 [(0, .ref 154), (3, .int a3), (4, .int a4), (5, .int a5)] [.int (b2i w2), .int w1, .ref 165] 0 0 (LH (old0 sl sx) S K T X M) Q := by
  intro M a3 a4 a5 w1 w2 p hd hQ
  unfold rM_isSo_J119 at hd
  replace hd := gd hd
  obtain ⟨g12, hd⟩ := hd
  refine M_iastore (q := (ix w1)) f_244_119 ⟨by decide, by decide, by decide, fun _ => rfl⟩ (Nat.le_of_ble_eq_true rfl : 200 < 2 ^ 31) rfl g12 ?_
  refine s_goto 159 f_244_120 (by decide) ?_
  refine aAt.sub [(0, .ref 154), (3, .int a3), (4, .int a4), (5, .int a5)] rfl ?_
  exact t_rM_isSo_J159 hk26 _ _ _ _  _ hd hQ
def rM_isSo_J80 (k26 : SS → Int32 → Int32 → Int32 → Option (Bool × SS)) (M : SS) (a3 : Int32) (a4 : Int32) (a5 : Int32) (w1 : Int32) (w2 : Int32) : Option (Bool × SS) :=
  if inb w1 200 then
    rM_isSo_J159 k26 (up M 165 (ix w1) w2) a3 (a4 + 1) a5
  else none
theorem t_rM_isSo_J80 {l : Launch} {G : aG} {d : Nat} {Q : Option Value → aHeap → Prop} {sl : Nat} {sx : Nat → Int32} {S : SS} {K : KS} {T : TS} {X : XS} {k26 : SS → Int32 → Int32 → Int32 → Option (Bool × SS)} (hk26 : ∀ (M : SS) (a3 : Int32) (a4 : Int32) (a5 : Int32) (p : Bool × SS), k26 M a3 a4 a5 = some p → Q (some (.int (b2i p.1))) (LH (old0 sl sx) S K T X p.2) → aAt l G (d + 1) 0 0 244 26 [(0, .ref 154), (3, .int a3), (4, .int a4), (5, .int a5)] [] 0 0 (LH (old0 sl sx) S K T X M) Q) : ∀ (M : SS) (a3 : Int32) (a4 : Int32) (a5 : Int32) (w1 : Int32) (w2 : Int32) (p : Bool × SS), rM_isSo_J80 k26 M a3 a4 a5 w1 w2 = some p → Q (some (.int (b2i p.1))) (LH (old0 sl sx) S K T X p.2) → aAt l G (d + 1) 0 0 244 80 [(0, .ref 154), (3, .int a3), (4, .int a4), (5, .int a5)] [.int w2, .int w1, .ref 165] 0 0 (LH (old0 sl sx) S K T X M) Q := by
  intro M a3 a4 a5 w1 w2 p hd hQ
  unfold rM_isSo_J80 at hd
  replace hd := gd hd
  obtain ⟨g14, hd⟩ := hd
  refine M_iastore (q := (ix w1)) f_244_80 ⟨by decide, by decide, by decide, fun _ => rfl⟩ (Nat.le_of_ble_eq_true rfl : 200 < 2 ^ 31) rfl g14 ?_
  refine k_iinc (w := 1) f_244_81 rfl (by decide) (by decide) ?_
  refine s_goto 159 f_244_84 (by decide) ?_
  refine aAt.sub [(0, .ref 154), (3, .int a3), (4, .int (a4 + 1)), (5, .int a5)] rfl ?_
  exact t_rM_isSo_J159 hk26 _ _ _ _  _ hd hQ
def rM_isSo_L26 : Nat → SS → Int32 → Int32 → Int32 → Option (Bool × SS)
  | 0, _, _, _, _ => none
  | n + 1, M, a3, a4, a5 =>
    if inb a3 10759 then
      if (a3 + (M 155 (ix a3))) < a5 then
        if (M 165 0) = 0 then
          some (false, M)
        else
          some (true, M)
      else
        if inb a5 10759 then
          if (M 155 (ix a5)) ≤ (-100 : Int32) then
            if (M 155 (ix a5)) = (-117 : Int32) then
              if inb (a4 - (1 : Int32)) 200 then
                if (M 165 (ix (a4 - (1 : Int32)))) = 0 then
                  rM_isSo_J119 (rM_isSo_L26  n) M a3 a4 a5 (a4 - (1 : Int32)) true
                else
                  rM_isSo_J119 (rM_isSo_L26  n) M a3 a4 a5 (a4 - (1 : Int32)) false
              else none
            else
              if inb ((a4 + (-1)) - (1 : Int32)) 200 then
                if inb (a4 + (-1)) 200 then
                  (rM_done ((-100 : Int32) - (M 155 (ix a5))) (M 165 (ix ((a4 + (-1)) - (1 : Int32)))) (M 165 (ix (a4 + (-1))))).bind fun p9 =>
                  rM_isSo_J159 (rM_isSo_L26  n) (up M 165 (ix ((a4 + (-1)) - (1 : Int32))) p9) a3 (a4 + (-1)) a5
                else none
              else none
          else
            if 0 ≤ (M 155 (ix a5)) then
              rM_isSo_J80 (rM_isSo_L26  n) M a3 a4 a5 a4 (M 155 (ix a5))
            else
              if inb ((-1 : Int32) - (M 155 (ix a5))) 11 then
                rM_isSo_J80 (rM_isSo_L26  n) M a3 a4 a5 a4 (M 166 (ix ((-1 : Int32) - (M 155 (ix a5)))))
              else none
        else none
    else none
theorem t_rM_isSo_L26 {l : Launch} {G : aG} {d : Nat} {Q : Option Value → aHeap → Prop} {sl : Nat} {sx : Nat → Int32} {S : SS} {K : KS} {T : TS} {X : XS} : ∀ (n : Nat), ∀ (M : SS) (a3 : Int32) (a4 : Int32) (a5 : Int32) (p : Bool × SS), rM_isSo_L26 n M a3 a4 a5 = some p → Q (some (.int (b2i p.1))) (LH (old0 sl sx) S K T X p.2) → aAt l G (d + 1) 0 0 244 26 [(0, .ref 154), (3, .int a3), (4, .int a4), (5, .int a5)] [] 0 0 (LH (old0 sl sx) S K T X M) Q := by
  intro n
  induction n with
  | zero =>
    intro M a3 a4 a5 p hd hQ
    rw [rM_isSo_L26] at hd
    cases hd
  | succ n ih =>
    intro M a3 a4 a5 p hd hQ
    rw [rM_isSo_L26] at hd
    refine s_iload f_244_26 rfl ?_
    refine s_iload_n f_244_28 rfl ?_
    refine s_aload_n f_244_29 rfl ?_
    refine L_getR f_244_30 fd_12_7 (obL (by decide)) (by decide) (by decide : rf 154 0 = 155) ?_
    refine s_iload_n f_244_33 rfl ?_
    replace hd := gd hd
    obtain ⟨g1, hd⟩ := hd
    refine M_iaload (q := (ix a3)) f_244_34 ⟨by decide, by decide, by decide, fun _ => rfl⟩ (Nat.le_of_ble_eq_true rfl : 10759 < 2 ^ 31) rfl g1 ?_
    refine s_iadd f_244_35 ?_
    refine s_icmp_gt 165 f_244_36 (by decide) (fun c2 => ?_) (fun c2 => ?_)
    · replace hd := ite_p c2 hd
      refine s_aload_n f_244_165 rfl ?_
      refine L_getR f_244_166 fd_12_43 (obL (by decide)) (by decide) (by decide : rf 154 13 = 165) ?_
      refine k_iconst (v := 0) f_244_169 (by decide) ?_
      refine M_iaload (q := 0) f_244_170 ⟨by decide, by decide, by decide, fun _ => rfl⟩ (Nat.le_of_ble_eq_true rfl : 200 < 2 ^ 31) (by decide) (by decide) ?_
      refine s_if_eq 178 f_244_171 (by decide) (fun c3 => ?_) (fun c3 => ?_)
      · replace hd := ite_p c3 hd
        refine k_iconst (v := 0) f_244_178 (by decide) ?_
        refine s_iretB (b := false) f_244_179 rfl ?_
        cases hd
        exact hQ
      · replace hd := ite_n c3 hd
        refine k_iconst (v := 1) f_244_174 (by decide) ?_
        refine s_goto 179 f_244_175 (by decide) ?_
        refine s_iretB (b := true) f_244_179 rfl ?_
        cases hd
        exact hQ
    · replace hd := ite_n c2 hd
      refine s_aload_n f_244_39 rfl ?_
      refine L_getR f_244_40 fd_12_7 (obL (by decide)) (by decide) (by decide : rf 154 0 = 155) ?_
      refine s_iload f_244_43 rfl ?_
      replace hd := gd hd
      obtain ⟨g4, hd⟩ := hd
      refine M_iaload (q := (ix a5)) f_244_45 ⟨by decide, by decide, by decide, fun _ => rfl⟩ (Nat.le_of_ble_eq_true rfl : 10759 < 2 ^ 31) rfl g4 ?_
      refine s_istore f_244_46 (by decide) ?_
      refine s_iload f_244_48 rfl ?_
      refine k_bipush (v := (-100)) f_244_50 (by decide) ?_
      refine s_icmp_le 87 f_244_52 (by decide) (fun c5 => ?_) (fun c5 => ?_)
      · replace hd := ite_p c5 hd
        refine s_iload f_244_87 rfl ?_
        refine k_bipush (v := (-117)) f_244_89 (by decide) ?_
        refine s_icmp_ne 123 f_244_91 (by decide) (fun c6 => ?_) (fun c6 => ?_)
        · replace hd := ite_n c6 hd
          refine k_iinc (w := (-1)) f_244_123 rfl (by decide) (by decide) ?_
          refine s_aload_n f_244_126 rfl ?_
          refine L_getR f_244_127 fd_12_43 (obL (by decide)) (by decide) (by decide : rf 154 13 = 165) ?_
          refine s_iload f_244_130 rfl ?_
          refine k_iconst (v := 1) f_244_132 (by decide) ?_
          refine s_isub f_244_133 ?_
          refine k_bipush (v := (-100)) f_244_134 (by decide) ?_
          refine s_iload f_244_136 rfl ?_
          refine s_isub f_244_138 ?_
          refine s_aload_n f_244_139 rfl ?_
          refine L_getR f_244_140 fd_12_43 (obL (by decide)) (by decide) (by decide : rf 154 13 = 165) ?_
          refine s_iload f_244_143 rfl ?_
          refine k_iconst (v := 1) f_244_145 (by decide) ?_
          refine s_isub f_244_146 ?_
          replace hd := gd hd
          obtain ⟨g7, hd⟩ := hd
          refine M_iaload (q := (ix ((a4 + (-1)) - (1 : Int32)))) f_244_147 ⟨by decide, by decide, by decide, fun _ => rfl⟩ (Nat.le_of_ble_eq_true rfl : 200 < 2 ^ 31) rfl g7 ?_
          refine s_aload_n f_244_148 rfl ?_
          refine L_getR f_244_149 fd_12_43 (obL (by decide)) (by decide) (by decide : rf 154 13 = 165) ?_
          refine s_iload f_244_152 rfl ?_
          replace hd := gd hd
          obtain ⟨g8, hd⟩ := hd
          refine M_iaload (q := (ix (a4 + (-1)))) f_244_154 ⟨by decide, by decide, by decide, fun _ => rfl⟩ (Nat.le_of_ble_eq_true rfl : 200 < 2 ^ 31) rfl g8 ?_
          replace hd := obind hd
          obtain ⟨p9, e9, hd⟩ := hd
          refine L_stat (As := [.int ((-100 : Int32) - (M 155 (ix a5))), .int (M 165 (ix ((a4 + (-1)) - (1 : Int32)))), .int (M 165 (ix (a4 + (-1))))]) f_244_155 ca_12_232 rfl rfl (Nat.le_of_ble_eq_true rfl) ?_
          refine t_rM_done e9 ?_
          refine M_iastore (q := (ix ((a4 + (-1)) - (1 : Int32)))) f_244_158 ⟨by decide, by decide, by decide, fun _ => rfl⟩ (Nat.le_of_ble_eq_true rfl : 200 < 2 ^ 31) rfl g7 ?_
          refine aAt.sub [(0, .ref 154), (3, .int a3), (4, .int (a4 + (-1))), (5, .int a5)] rfl ?_
          exact t_rM_isSo_J159 ih _ _ _ _  _ hd hQ
        · replace hd := ite_p c6 hd
          refine s_aload_n f_244_94 rfl ?_
          refine L_getR f_244_95 fd_12_43 (obL (by decide)) (by decide) (by decide : rf 154 13 = 165) ?_
          refine s_iload f_244_98 rfl ?_
          refine k_iconst (v := 1) f_244_100 (by decide) ?_
          refine s_isub f_244_101 ?_
          refine s_aload_n f_244_102 rfl ?_
          refine L_getR f_244_103 fd_12_43 (obL (by decide)) (by decide) (by decide : rf 154 13 = 165) ?_
          refine s_iload f_244_106 rfl ?_
          refine k_iconst (v := 1) f_244_108 (by decide) ?_
          refine s_isub f_244_109 ?_
          replace hd := gd hd
          obtain ⟨g10, hd⟩ := hd
          refine M_iaload (q := (ix (a4 - (1 : Int32)))) f_244_110 ⟨by decide, by decide, by decide, fun _ => rfl⟩ (Nat.le_of_ble_eq_true rfl : 200 < 2 ^ 31) rfl g10 ?_
          refine s_if_ne 118 f_244_111 (by decide) (fun c11 => ?_) (fun c11 => ?_)
          · replace hd := ite_n c11 hd
            refine k_iconst (v := 0) f_244_118 (by decide) ?_
            refine aAt.sub [(0, .ref 154), (3, .int a3), (4, .int a4), (5, .int a5)] rfl ?_
            exact t_rM_isSo_J119 ih _ _ _ _ _ _  _ hd hQ
          · replace hd := ite_p c11 hd
            refine k_iconst (v := 1) f_244_114 (by decide) ?_
            refine s_goto 119 f_244_115 (by decide) ?_
            refine aAt.sub [(0, .ref 154), (3, .int a3), (4, .int a4), (5, .int a5)] rfl ?_
            exact t_rM_isSo_J119 ih _ _ _ _ _ _  _ hd hQ
      · replace hd := ite_n c5 hd
        refine s_aload_n f_244_55 rfl ?_
        refine L_getR f_244_56 fd_12_43 (obL (by decide)) (by decide) (by decide : rf 154 13 = 165) ?_
        refine s_iload f_244_59 rfl ?_
        refine s_iload f_244_61 rfl ?_
        refine s_if_ge 78 f_244_63 (by decide) (fun c13 => ?_) (fun c13 => ?_)
        · replace hd := ite_p c13 hd
          refine s_iload f_244_78 rfl ?_
          refine aAt.sub [(0, .ref 154), (3, .int a3), (4, .int a4), (5, .int a5)] rfl ?_
          exact t_rM_isSo_J80 ih _ _ _ _ _ _  _ hd hQ
        · replace hd := ite_n c13 hd
          refine s_aload_n f_244_66 rfl ?_
          refine L_getR f_244_67 fd_12_46 (obL (by decide)) (by decide) (by decide : rf 154 14 = 166) ?_
          refine k_iconst (v := (-1)) f_244_70 (by decide) ?_
          refine s_iload f_244_71 rfl ?_
          refine s_isub f_244_73 ?_
          replace hd := gd hd
          obtain ⟨g15, hd⟩ := hd
          refine M_iaload (q := (ix ((-1 : Int32) - (M 155 (ix a5))))) f_244_74 ⟨by decide, by decide, by decide, fun _ => rfl⟩ (Nat.le_of_ble_eq_true rfl : 11 < 2 ^ 31) rfl g15 ?_
          refine s_goto 80 f_244_75 (by decide) ?_
          refine aAt.sub [(0, .ref 154), (3, .int a3), (4, .int a4), (5, .int a5)] rfl ?_
          exact t_rM_isSo_J80 ih _ _ _ _ _ _  _ hd hQ
def rM_isSo (M : SS) (a1 : Int32) (a2 : Int32) : Option (Bool × SS) :=
  rM_isSo_L26 FU M (((406 : Int32) + ((609 : Int32) * ((5 : Int32) + a1))) + ((203 : Int32) * a2)) (0 : Int32) ((((406 : Int32) + ((609 : Int32) * ((5 : Int32) + a1))) + ((203 : Int32) * a2)) + (1 : Int32))
theorem t_rM_isSo {l : Launch} {G : aG} {d : Nat} {Q : Option Value → aHeap → Prop} {sl : Nat} {sx : Nat → Int32} {S : SS} {K : KS} {T : TS} {X : XS} {M : SS} {a1 : Int32} {a2 : Int32} {p : Bool × SS} (hd : rM_isSo M a1 a2 = some p) (hQ : Q (some (.int (b2i p.1))) (LH (old0 sl sx) S K T X p.2)) : aCall l G (d + 1) 0 0 244 [.ref 154, .int a1, .int a2] (LH (old0 sl sx) S K T X M) Q := by
  refine aCall.of (by decide) (Nat.le_of_ble_eq_true rfl) ?_
  refine aAt.sub [(0, .ref 154), (1, .int a1), (2, .int a2)] rfl ?_
  unfold rM_isSo at hd
  refine k_sipush (v := 406) f_244_0 (by decide) ?_
  refine k_sipush (v := 609) f_244_3 (by decide) ?_
  refine k_iconst (v := 5) f_244_6 (by decide) ?_
  refine s_iload_n f_244_7 rfl ?_
  refine s_iadd f_244_8 ?_
  refine s_imul f_244_9 ?_
  refine s_iadd f_244_10 ?_
  refine k_sipush (v := 203) f_244_11 (by decide) ?_
  refine s_iload_n f_244_14 rfl ?_
  refine s_imul f_244_15 ?_
  refine s_iadd f_244_16 ?_
  refine s_istore_n f_244_17 (by decide) ?_
  refine k_iconst (v := 0) f_244_18 (by decide) ?_
  refine s_istore f_244_19 (by decide) ?_
  refine s_iload_n f_244_21 rfl ?_
  refine k_iconst (v := 1) f_244_22 (by decide) ?_
  refine s_iadd f_244_23 ?_
  refine s_istore f_244_24 (by decide) ?_
  refine aAt.sub [(0, .ref 154), (3, .int (((406 : Int32) + ((609 : Int32) * ((5 : Int32) + a1))) + ((203 : Int32) * a2))), (4, .int (0 : Int32)), (5, .int ((((406 : Int32) + ((609 : Int32) * ((5 : Int32) + a1))) + ((203 : Int32) * a2)) + (1 : Int32)))] rfl ?_
  exact t_rM_isSo_L26 FU _ _ _ _  _ hd hQ

def rM_isClause_J180 (M : SS) (a1 : Int32) (a6 : Int32) (a7 : Int32) (w1 : Int32) (w2 : Int32) : Option (Bool × SS) :=
  if inb w1 11 then
    (rM_of (up M 166 (ix w1) w2) a1 (6 : Int32)).bind fun p19 =>
    (rM_of (up M 166 (ix w1) w2) a1 (5 : Int32)).bind fun p20 =>
    (rM_isSo (up (up M 166 (ix w1) w2) 166 10 (p19 - p20)) a7 a6).bind fun p21 =>
    some (p21.1, p21.2)
  else none
theorem t_rM_isClause_J180 {l : Launch} {G : aG} {d : Nat} {Q : Option Value → aHeap → Prop} {sl : Nat} {sx : Nat → Int32} {S : SS} {K : KS} {T : TS} {X : XS} : ∀ (M : SS) (a1 : Int32) (a6 : Int32) (a7 : Int32) (w1 : Int32) (w2 : Int32) (p : Bool × SS), rM_isClause_J180 M a1 a6 a7 w1 w2 = some p → Q (some (.int (b2i p.1))) (LH (old0 sl sx) S K T X p.2) → aAt l G (d + 2) 0 0 243 180 [(0, .ref 154), (1, .int a1), (6, .int a6), (7, .int a7)] [.int w2, .int w1, .ref 166] 0 0 (LH (old0 sl sx) S K T X M) Q := by
  intro M a1 a6 a7 w1 w2 p hd hQ
  unfold rM_isClause_J180 at hd
  replace hd := gd hd
  obtain ⟨g18, hd⟩ := hd
  refine M_iastore (q := (ix w1)) f_243_180 ⟨by decide, by decide, by decide, fun _ => rfl⟩ (Nat.le_of_ble_eq_true rfl : 11 < 2 ^ 31) rfl g18 ?_
  refine s_aload_n f_243_181 rfl ?_
  refine L_getR f_243_182 fd_12_46 (obL (by decide)) (by decide) (by decide : rf 154 14 = 166) ?_
  refine k_bipush (v := 10) f_243_185 (by decide) ?_
  refine s_aload_n f_243_187 rfl ?_
  refine s_iload_n f_243_188 rfl ?_
  refine k_bipush (v := 6) f_243_189 (by decide) ?_
  replace hd := obind hd
  obtain ⟨p19, e19, hd⟩ := hd
  refine L_virt (As := [.int a1, .int (6 : Int32)]) f_243_191 ca_12_98 rfl rfl (obL (by decide)) (by decide) (Nat.le_of_ble_eq_true rfl) ?_
  refine t_rM_of e19 ?_
  refine s_aload_n f_243_194 rfl ?_
  refine s_iload_n f_243_195 rfl ?_
  refine k_iconst (v := 5) f_243_196 (by decide) ?_
  replace hd := obind hd
  obtain ⟨p20, e20, hd⟩ := hd
  refine L_virt (As := [.int a1, .int (5 : Int32)]) f_243_197 ca_12_98 rfl rfl (obL (by decide)) (by decide) (Nat.le_of_ble_eq_true rfl) ?_
  refine t_rM_of e20 ?_
  refine s_isub f_243_200 ?_
  refine M_iastore (q := 10) f_243_201 ⟨by decide, by decide, by decide, fun _ => rfl⟩ (Nat.le_of_ble_eq_true rfl : 11 < 2 ^ 31) (by decide) (by decide) ?_
  refine s_aload_n f_243_202 rfl ?_
  refine s_iload f_243_203 rfl ?_
  refine s_iload f_243_205 rfl ?_
  replace hd := obind hd
  obtain ⟨p21, e21, hd⟩ := hd
  refine L_virt (As := [.int a7, .int a6]) f_243_207 ca_12_238 rfl rfl (obL (by decide)) (by decide) (Nat.le_of_ble_eq_true rfl) ?_
  refine t_rM_isSo e21 ?_
  refine s_iretB (b := p21.1) f_243_210 rfl ?_
  cases hd
  exact hQ
def rM_isClause_J119 (M : SS) (a1 : Int32) (a3 : Int32) (a6 : Int32) (a7 : Int32) (a8 : Int32) (w1 : Int32) (w2 : Int32) : Option (Bool × SS) :=
  if inb w1 11 then
    (rM_of (up (up M 166 (ix w1) w2) 166 7 a3) a1 (1 : Int32)).bind fun p12 =>
    (rM_own (up (up M 166 (ix w1) w2) 166 7 a3) p12 (4 : Int32)).bind fun p13 =>
    (rM_of (up (up M 166 (ix w1) w2) 166 7 a3) a1 (2 : Int32)).bind fun p14 =>
    (rM_own (up (up M 166 (ix w1) w2) 166 7 a3) p14 (4 : Int32)).bind fun p15 =>
    if 0 ≤ a8 then
      (rM_ofField (up (up (up M 166 (ix w1) w2) 166 7 a3) 166 8 (p13 ||| p15)) a8 (3 : Int32)).bind fun p17 =>
      rM_isClause_J180 (up (up (up M 166 (ix w1) w2) 166 7 a3) 166 8 (p13 ||| p15)) a1 a6 a7 (9 : Int32) p17
    else
      rM_isClause_J180 (up (up (up M 166 (ix w1) w2) 166 7 a3) 166 8 (p13 ||| p15)) a1 a6 a7 (9 : Int32) (0 : Int32)
  else none
theorem t_rM_isClause_J119 {l : Launch} {G : aG} {d : Nat} {Q : Option Value → aHeap → Prop} {sl : Nat} {sx : Nat → Int32} {S : SS} {K : KS} {T : TS} {X : XS} : ∀ (M : SS) (a1 : Int32) (a3 : Int32) (a6 : Int32) (a7 : Int32) (a8 : Int32) (w1 : Int32) (w2 : Int32) (p : Bool × SS), rM_isClause_J119 M a1 a3 a6 a7 a8 w1 w2 = some p → Q (some (.int (b2i p.1))) (LH (old0 sl sx) S K T X p.2) → aAt l G (d + 2) 0 0 243 119 [(0, .ref 154), (1, .int a1), (3, .int a3), (6, .int a6), (7, .int a7), (8, .int a8)] [.int w2, .int w1, .ref 166] 0 0 (LH (old0 sl sx) S K T X M) Q := by
  intro M a1 a3 a6 a7 a8 w1 w2 p hd hQ
  unfold rM_isClause_J119 at hd
  replace hd := gd hd
  obtain ⟨g11, hd⟩ := hd
  refine M_iastore (q := (ix w1)) f_243_119 ⟨by decide, by decide, by decide, fun _ => rfl⟩ (Nat.le_of_ble_eq_true rfl : 11 < 2 ^ 31) rfl g11 ?_
  refine s_aload_n f_243_120 rfl ?_
  refine L_getR f_243_121 fd_12_46 (obL (by decide)) (by decide) (by decide : rf 154 14 = 166) ?_
  refine k_bipush (v := 7) f_243_124 (by decide) ?_
  refine s_iload_n f_243_126 rfl ?_
  refine M_iastore (q := 7) f_243_127 ⟨by decide, by decide, by decide, fun _ => rfl⟩ (Nat.le_of_ble_eq_true rfl : 11 < 2 ^ 31) (by decide) (by decide) ?_
  refine s_aload_n f_243_128 rfl ?_
  refine L_getR f_243_129 fd_12_46 (obL (by decide)) (by decide) (by decide : rf 154 14 = 166) ?_
  refine k_bipush (v := 8) f_243_132 (by decide) ?_
  refine s_aload_n f_243_134 rfl ?_
  refine s_aload_n f_243_135 rfl ?_
  refine s_iload_n f_243_136 rfl ?_
  refine k_iconst (v := 1) f_243_137 (by decide) ?_
  replace hd := obind hd
  obtain ⟨p12, e12, hd⟩ := hd
  refine L_virt (As := [.int a1, .int (1 : Int32)]) f_243_138 ca_12_98 rfl rfl (obL (by decide)) (by decide) (Nat.le_of_ble_eq_true rfl) ?_
  refine t_rM_of e12 ?_
  refine k_iconst (v := 4) f_243_141 (by decide) ?_
  replace hd := obind hd
  obtain ⟨p13, e13, hd⟩ := hd
  refine L_virt (As := [.int p12, .int (4 : Int32)]) f_243_142 ca_12_73 rfl rfl (obL (by decide)) (by decide) (Nat.le_of_ble_eq_true rfl) ?_
  refine t_rM_own e13 ?_
  refine s_aload_n f_243_145 rfl ?_
  refine s_aload_n f_243_146 rfl ?_
  refine s_iload_n f_243_147 rfl ?_
  refine k_iconst (v := 2) f_243_148 (by decide) ?_
  replace hd := obind hd
  obtain ⟨p14, e14, hd⟩ := hd
  refine L_virt (As := [.int a1, .int (2 : Int32)]) f_243_149 ca_12_98 rfl rfl (obL (by decide)) (by decide) (Nat.le_of_ble_eq_true rfl) ?_
  refine t_rM_of e14 ?_
  refine k_iconst (v := 4) f_243_152 (by decide) ?_
  replace hd := obind hd
  obtain ⟨p15, e15, hd⟩ := hd
  refine L_virt (As := [.int p14, .int (4 : Int32)]) f_243_153 ca_12_73 rfl rfl (obL (by decide)) (by decide) (Nat.le_of_ble_eq_true rfl) ?_
  refine t_rM_own e15 ?_
  refine s_ior f_243_156 ?_
  refine M_iastore (q := 8) f_243_157 ⟨by decide, by decide, by decide, fun _ => rfl⟩ (Nat.le_of_ble_eq_true rfl : 11 < 2 ^ 31) (by decide) (by decide) ?_
  refine s_aload_n f_243_158 rfl ?_
  refine L_getR f_243_159 fd_12_46 (obL (by decide)) (by decide) (by decide : rf 154 14 = 166) ?_
  refine k_bipush (v := 9) f_243_162 (by decide) ?_
  refine s_iload f_243_164 rfl ?_
  refine s_if_ge 173 f_243_166 (by decide) (fun c16 => ?_) (fun c16 => ?_)
  · replace hd := ite_p c16 hd
    refine s_aload_n f_243_173 rfl ?_
    refine s_iload f_243_174 rfl ?_
    refine k_iconst (v := 3) f_243_176 (by decide) ?_
    replace hd := obind hd
    obtain ⟨p17, e17, hd⟩ := hd
    refine L_virt (As := [.int a8, .int (3 : Int32)]) f_243_177 ca_12_111 rfl rfl (obL (by decide)) (by decide) (Nat.le_of_ble_eq_true rfl) ?_
    refine t_rM_ofField e17 ?_
    refine aAt.sub [(0, .ref 154), (1, .int a1), (6, .int a6), (7, .int a7)] rfl ?_
    exact t_rM_isClause_J180 _ _ _ _ _ _  _ hd hQ
  · replace hd := ite_n c16 hd
    refine k_iconst (v := 0) f_243_169 (by decide) ?_
    refine s_goto 180 f_243_170 (by decide) ?_
    refine aAt.sub [(0, .ref 154), (1, .int a1), (6, .int a6), (7, .int a7)] rfl ?_
    exact t_rM_isClause_J180 _ _ _ _ _ _  _ hd hQ
def rM_isClause (M : SS) (a1 : Int32) (a2 : Int32) (a3 : Int32) (a4 : Int32) (a5 : Int32) (a6 : Int32) : Option (Bool × SS) :=
  (rM_lawOf M a4 a5).bind fun p1 =>
  (rM_of M a1 (7 : Int32)).bind fun p2 =>
  if 0 ≤ p1 then
    (rM_of (up M 166 0 a2) a1 (5 : Int32)).bind fun p4 =>
    (rM_leftOf (up (up M 166 0 a2) 166 1 (a5 - p4)) a4 a5).bind fun p5 =>
    (rM_owed (up (up (up M 166 0 a2) 166 1 (a5 - p4)) 166 2 p5) a1).bind fun p6 =>
    (rM_of (up (up (up (up M 166 0 a2) 166 1 (a5 - p4)) 166 2 p5) 166 3 p6) a1 (4 : Int32)).bind fun p7 =>
    (rM_of (up (up (up (up (up M 166 0 a2) 166 1 (a5 - p4)) 166 2 p5) 166 3 p6) 166 4 p7) a1 (3 : Int32)).bind fun p8 =>
    if 0 ≤ p2 then
      (rM_ofField (up (up (up (up (up (up M 166 0 a2) 166 1 (a5 - p4)) 166 2 p5) 166 3 p6) 166 4 p7) 166 5 p8) p2 (0 : Int32)).bind fun p10 =>
      rM_isClause_J119 (up (up (up (up (up (up M 166 0 a2) 166 1 (a5 - p4)) 166 2 p5) 166 3 p6) 166 4 p7) 166 5 p8) a1 a3 a6 p1 p2 (6 : Int32) p10
    else
      rM_isClause_J119 (up (up (up (up (up (up M 166 0 a2) 166 1 (a5 - p4)) 166 2 p5) 166 3 p6) 166 4 p7) 166 5 p8) a1 a3 a6 p1 p2 (6 : Int32) (0 : Int32)
  else
    some (false, M)
theorem t_rM_isClause {l : Launch} {G : aG} {d : Nat} {Q : Option Value → aHeap → Prop} {sl : Nat} {sx : Nat → Int32} {S : SS} {K : KS} {T : TS} {X : XS} {M : SS} {a1 : Int32} {a2 : Int32} {a3 : Int32} {a4 : Int32} {a5 : Int32} {a6 : Int32} {p : Bool × SS} (hd : rM_isClause M a1 a2 a3 a4 a5 a6 = some p) (hQ : Q (some (.int (b2i p.1))) (LH (old0 sl sx) S K T X p.2)) : aCall l G (d + 2) 0 0 243 [.ref 154, .int a1, .int a2, .int a3, .int a4, .int a5, .int a6] (LH (old0 sl sx) S K T X M) Q := by
  refine aCall.of (by decide) (Nat.le_of_ble_eq_true rfl) ?_
  refine aAt.sub [(0, .ref 154), (1, .int a1), (2, .int a2), (3, .int a3), (4, .int a4), (5, .int a5), (6, .int a6)] rfl ?_
  unfold rM_isClause at hd
  refine s_aload_n f_243_0 rfl ?_
  refine s_iload f_243_1 rfl ?_
  refine s_iload f_243_3 rfl ?_
  replace hd := obind hd
  obtain ⟨p1, e1, hd⟩ := hd
  refine L_virt (As := [.int a4, .int a5]) f_243_5 ca_12_235 rfl rfl (obL (by decide)) (by decide) (Nat.le_of_ble_eq_true rfl) ?_
  refine t_rM_lawOf e1 ?_
  refine s_istore f_243_8 (by decide) ?_
  refine s_aload_n f_243_10 rfl ?_
  refine s_iload_n f_243_11 rfl ?_
  refine k_bipush (v := 7) f_243_12 (by decide) ?_
  replace hd := obind hd
  obtain ⟨p2, e2, hd⟩ := hd
  refine L_virt (As := [.int a1, .int (7 : Int32)]) f_243_14 ca_12_98 rfl rfl (obL (by decide)) (by decide) (Nat.le_of_ble_eq_true rfl) ?_
  refine t_rM_of e2 ?_
  refine s_istore f_243_17 (by decide) ?_
  refine s_iload f_243_19 rfl ?_
  refine s_if_ge 26 f_243_21 (by decide) (fun c3 => ?_) (fun c3 => ?_)
  · replace hd := ite_p c3 hd
    refine s_aload_n f_243_26 rfl ?_
    refine L_getR f_243_27 fd_12_46 (obL (by decide)) (by decide) (by decide : rf 154 14 = 166) ?_
    refine k_iconst (v := 0) f_243_30 (by decide) ?_
    refine s_iload_n f_243_31 rfl ?_
    refine M_iastore (q := 0) f_243_32 ⟨by decide, by decide, by decide, fun _ => rfl⟩ (Nat.le_of_ble_eq_true rfl : 11 < 2 ^ 31) (by decide) (by decide) ?_
    refine s_aload_n f_243_33 rfl ?_
    refine L_getR f_243_34 fd_12_46 (obL (by decide)) (by decide) (by decide : rf 154 14 = 166) ?_
    refine k_iconst (v := 1) f_243_37 (by decide) ?_
    refine s_iload f_243_38 rfl ?_
    refine s_aload_n f_243_40 rfl ?_
    refine s_iload_n f_243_41 rfl ?_
    refine k_iconst (v := 5) f_243_42 (by decide) ?_
    replace hd := obind hd
    obtain ⟨p4, e4, hd⟩ := hd
    refine L_virt (As := [.int a1, .int (5 : Int32)]) f_243_43 ca_12_98 rfl rfl (obL (by decide)) (by decide) (Nat.le_of_ble_eq_true rfl) ?_
    refine t_rM_of e4 ?_
    refine s_isub f_243_46 ?_
    refine M_iastore (q := 1) f_243_47 ⟨by decide, by decide, by decide, fun _ => rfl⟩ (Nat.le_of_ble_eq_true rfl : 11 < 2 ^ 31) (by decide) (by decide) ?_
    refine s_aload_n f_243_48 rfl ?_
    refine L_getR f_243_49 fd_12_46 (obL (by decide)) (by decide) (by decide : rf 154 14 = 166) ?_
    refine k_iconst (v := 2) f_243_52 (by decide) ?_
    refine s_aload_n f_243_53 rfl ?_
    refine s_iload f_243_54 rfl ?_
    refine s_iload f_243_56 rfl ?_
    replace hd := obind hd
    obtain ⟨p5, e5, hd⟩ := hd
    refine L_virt (As := [.int a4, .int a5]) f_243_58 ca_12_167 rfl rfl (obL (by decide)) (by decide) (Nat.le_of_ble_eq_true rfl) ?_
    refine t_rM_leftOf e5 ?_
    refine M_iastore (q := 2) f_243_61 ⟨by decide, by decide, by decide, fun _ => rfl⟩ (Nat.le_of_ble_eq_true rfl : 11 < 2 ^ 31) (by decide) (by decide) ?_
    refine s_aload_n f_243_62 rfl ?_
    refine L_getR f_243_63 fd_12_46 (obL (by decide)) (by decide) (by decide : rf 154 14 = 166) ?_
    refine k_iconst (v := 3) f_243_66 (by decide) ?_
    refine s_aload_n f_243_67 rfl ?_
    refine s_iload_n f_243_68 rfl ?_
    replace hd := obind hd
    obtain ⟨p6, e6, hd⟩ := hd
    refine L_virt (As := [.int a1]) f_243_69 ca_12_101 rfl rfl (obL (by decide)) (by decide) (Nat.le_of_ble_eq_true rfl) ?_
    refine t_rM_owed e6 ?_
    refine M_iastore (q := 3) f_243_72 ⟨by decide, by decide, by decide, fun _ => rfl⟩ (Nat.le_of_ble_eq_true rfl : 11 < 2 ^ 31) (by decide) (by decide) ?_
    refine s_aload_n f_243_73 rfl ?_
    refine L_getR f_243_74 fd_12_46 (obL (by decide)) (by decide) (by decide : rf 154 14 = 166) ?_
    refine k_iconst (v := 4) f_243_77 (by decide) ?_
    refine s_aload_n f_243_78 rfl ?_
    refine s_iload_n f_243_79 rfl ?_
    refine k_iconst (v := 4) f_243_80 (by decide) ?_
    replace hd := obind hd
    obtain ⟨p7, e7, hd⟩ := hd
    refine L_virt (As := [.int a1, .int (4 : Int32)]) f_243_81 ca_12_98 rfl rfl (obL (by decide)) (by decide) (Nat.le_of_ble_eq_true rfl) ?_
    refine t_rM_of e7 ?_
    refine M_iastore (q := 4) f_243_84 ⟨by decide, by decide, by decide, fun _ => rfl⟩ (Nat.le_of_ble_eq_true rfl : 11 < 2 ^ 31) (by decide) (by decide) ?_
    refine s_aload_n f_243_85 rfl ?_
    refine L_getR f_243_86 fd_12_46 (obL (by decide)) (by decide) (by decide : rf 154 14 = 166) ?_
    refine k_iconst (v := 5) f_243_89 (by decide) ?_
    refine s_aload_n f_243_90 rfl ?_
    refine s_iload_n f_243_91 rfl ?_
    refine k_iconst (v := 3) f_243_92 (by decide) ?_
    replace hd := obind hd
    obtain ⟨p8, e8, hd⟩ := hd
    refine L_virt (As := [.int a1, .int (3 : Int32)]) f_243_93 ca_12_98 rfl rfl (obL (by decide)) (by decide) (Nat.le_of_ble_eq_true rfl) ?_
    refine t_rM_of e8 ?_
    refine M_iastore (q := 5) f_243_96 ⟨by decide, by decide, by decide, fun _ => rfl⟩ (Nat.le_of_ble_eq_true rfl : 11 < 2 ^ 31) (by decide) (by decide) ?_
    refine s_aload_n f_243_97 rfl ?_
    refine L_getR f_243_98 fd_12_46 (obL (by decide)) (by decide) (by decide : rf 154 14 = 166) ?_
    refine k_bipush (v := 6) f_243_101 (by decide) ?_
    refine s_iload f_243_103 rfl ?_
    refine s_if_ge 112 f_243_105 (by decide) (fun c9 => ?_) (fun c9 => ?_)
    · replace hd := ite_p c9 hd
      refine s_aload_n f_243_112 rfl ?_
      refine s_iload f_243_113 rfl ?_
      refine k_iconst (v := 0) f_243_115 (by decide) ?_
      replace hd := obind hd
      obtain ⟨p10, e10, hd⟩ := hd
      refine L_virt (As := [.int p2, .int (0 : Int32)]) f_243_116 ca_12_111 rfl rfl (obL (by decide)) (by decide) (Nat.le_of_ble_eq_true rfl) ?_
      refine t_rM_ofField e10 ?_
      refine aAt.sub [(0, .ref 154), (1, .int a1), (3, .int a3), (6, .int a6), (7, .int p1), (8, .int p2)] rfl ?_
      exact t_rM_isClause_J119 _ _ _ _ _ _ _ _  _ hd hQ
    · replace hd := ite_n c9 hd
      refine k_iconst (v := 0) f_243_108 (by decide) ?_
      refine s_goto 119 f_243_109 (by decide) ?_
      refine aAt.sub [(0, .ref 154), (1, .int a1), (3, .int a3), (6, .int a6), (7, .int p1), (8, .int p2)] rfl ?_
      exact t_rM_isClause_J119 _ _ _ _ _ _ _ _  _ hd hQ
  · replace hd := ite_n c3 hd
    refine k_iconst (v := 0) f_243_24 (by decide) ?_
    refine s_iretB (b := false) f_243_25 rfl ?_
    cases hd
    exact hQ

def rM_holds_J57 (M : SS) (a1 : Int32) (a2 : Int32) (a3 : Int32) (a4 : Int32) (a5 : Int32) (w0 : Bool) : Option (Int32 × SS) :=
  (rM_isClause M a1 a2 (1 : Int32) a3 a4 a5).bind fun p5 =>
  if p5.1 = true then
    some (((b2i w0) + (1 : Int32)), p5.2)
  else
    some (((b2i w0) + (0 : Int32)), p5.2)
theorem t_rM_holds_J57 {l : Launch} {G : aG} {d : Nat} {Q : Option Value → aHeap → Prop} {sl : Nat} {sx : Nat → Int32} {S : SS} {K : KS} {T : TS} {X : XS} : ∀ (M : SS) (a1 : Int32) (a2 : Int32) (a3 : Int32) (a4 : Int32) (a5 : Int32) (w0 : Bool) (p : Int32 × SS), rM_holds_J57 M a1 a2 a3 a4 a5 w0 = some p → Q (some (.int p.1)) (LH (old0 sl sx) S K T X p.2) → aAt l G (d + 3) 0 0 242 57 [(0, .ref 154), (1, .int a1), (2, .int a2), (3, .int a3), (4, .int a4), (5, .int a5)] [.int (b2i w0)] 0 0 (LH (old0 sl sx) S K T X M) Q := by
  intro M a1 a2 a3 a4 a5 w0 p hd hQ
  unfold rM_holds_J57 at hd
  refine s_aload_n f_242_57 rfl ?_
  refine s_iload_n f_242_58 rfl ?_
  refine s_iload_n f_242_59 rfl ?_
  refine k_iconst (v := 1) f_242_60 (by decide) ?_
  refine s_iload_n f_242_61 rfl ?_
  refine s_iload f_242_62 rfl ?_
  refine s_iload f_242_64 rfl ?_
  replace hd := obind hd
  obtain ⟨p5, e5, hd⟩ := hd
  refine L_virt (As := [.int a1, .int a2, .int (1 : Int32), .int a3, .int a4, .int a5]) f_242_66 ca_12_241 rfl rfl (obL (by decide)) (by decide) (Nat.le_of_ble_eq_true rfl) ?_
  refine t_rM_isClause e5 ?_
  refine z_if_eq 76 f_242_69 (by decide) (fun c6 => ?_) (fun c6 => ?_)
  · replace hd := ite_n c6 hd
    refine k_iconst (v := 0) f_242_76 (by decide) ?_
    refine s_iadd f_242_77 ?_
    refine s_ireturn f_242_78 rfl rfl ?_
    cases hd
    exact hQ
  · replace hd := ite_p c6 hd
    refine k_iconst (v := 1) f_242_72 (by decide) ?_
    refine s_goto 77 f_242_73 (by decide) ?_
    refine s_iadd f_242_77 ?_
    refine s_ireturn f_242_78 rfl rfl ?_
    cases hd
    exact hQ
def rM_holds (M : SS) (a1 : Int32) (a2 : Int32) (a3 : Int32) (a4 : Int32) (a5 : Int32) : Option (Int32 × SS) :=
  (rM_of M a1 (8 : Int32)).bind fun p1 =>
  if (2 : Int32) ≤ p1 then
    (rM_isClause M a1 a2 (0 : Int32) a3 a4 a5).bind fun p3 =>
    if p3.1 = true then
      rM_holds_J57 p3.2 a1 a2 a3 a4 a5 true
    else
      rM_holds_J57 p3.2 a1 a2 a3 a4 a5 false
  else
    (rM_isClause M a1 a2 p1 a3 a4 a5).bind fun p7 =>
    if p7.1 = true then
      some ((2 : Int32), p7.2)
    else
      some ((0 : Int32), p7.2)
theorem t_rM_holds {l : Launch} {G : aG} {d : Nat} {Q : Option Value → aHeap → Prop} {sl : Nat} {sx : Nat → Int32} {S : SS} {K : KS} {T : TS} {X : XS} {M : SS} {a1 : Int32} {a2 : Int32} {a3 : Int32} {a4 : Int32} {a5 : Int32} {p : Int32 × SS} (hd : rM_holds M a1 a2 a3 a4 a5 = some p) (hQ : Q (some (.int p.1)) (LH (old0 sl sx) S K T X p.2)) : aCall l G (d + 3) 0 0 242 [.ref 154, .int a1, .int a2, .int a3, .int a4, .int a5] (LH (old0 sl sx) S K T X M) Q := by
  refine aCall.of (by decide) (Nat.le_of_ble_eq_true rfl) ?_
  refine aAt.sub [(0, .ref 154), (1, .int a1), (2, .int a2), (3, .int a3), (4, .int a4), (5, .int a5)] rfl ?_
  unfold rM_holds at hd
  refine s_aload_n f_242_0 rfl ?_
  refine s_iload_n f_242_1 rfl ?_
  refine k_bipush (v := 8) f_242_2 (by decide) ?_
  replace hd := obind hd
  obtain ⟨p1, e1, hd⟩ := hd
  refine L_virt (As := [.int a1, .int (8 : Int32)]) f_242_4 ca_12_98 rfl rfl (obL (by decide)) (by decide) (Nat.le_of_ble_eq_true rfl) ?_
  refine t_rM_of e1 ?_
  refine s_istore f_242_7 (by decide) ?_
  refine s_iload f_242_9 rfl ?_
  refine k_iconst (v := 2) f_242_11 (by decide) ?_
  refine s_icmp_ge 37 f_242_12 (by decide) (fun c2 => ?_) (fun c2 => ?_)
  · replace hd := ite_p c2 hd
    refine s_aload_n f_242_37 rfl ?_
    refine s_iload_n f_242_38 rfl ?_
    refine s_iload_n f_242_39 rfl ?_
    refine k_iconst (v := 0) f_242_40 (by decide) ?_
    refine s_iload_n f_242_41 rfl ?_
    refine s_iload f_242_42 rfl ?_
    refine s_iload f_242_44 rfl ?_
    replace hd := obind hd
    obtain ⟨p3, e3, hd⟩ := hd
    refine L_virt (As := [.int a1, .int a2, .int (0 : Int32), .int a3, .int a4, .int a5]) f_242_46 ca_12_241 rfl rfl (obL (by decide)) (by decide) (Nat.le_of_ble_eq_true rfl) ?_
    refine t_rM_isClause e3 ?_
    refine z_if_eq 56 f_242_49 (by decide) (fun c4 => ?_) (fun c4 => ?_)
    · replace hd := ite_n c4 hd
      refine k_iconst (v := 0) f_242_56 (by decide) ?_
      refine aAt.sub [(0, .ref 154), (1, .int a1), (2, .int a2), (3, .int a3), (4, .int a4), (5, .int a5)] rfl ?_
      exact t_rM_holds_J57 _ _ _ _ _ _ _  _ hd hQ
    · replace hd := ite_p c4 hd
      refine k_iconst (v := 1) f_242_52 (by decide) ?_
      refine s_goto 57 f_242_53 (by decide) ?_
      refine aAt.sub [(0, .ref 154), (1, .int a1), (2, .int a2), (3, .int a3), (4, .int a4), (5, .int a5)] rfl ?_
      exact t_rM_holds_J57 _ _ _ _ _ _ _  _ hd hQ
  · replace hd := ite_n c2 hd
    refine s_aload_n f_242_15 rfl ?_
    refine s_iload_n f_242_16 rfl ?_
    refine s_iload_n f_242_17 rfl ?_
    refine s_iload f_242_18 rfl ?_
    refine s_iload_n f_242_20 rfl ?_
    refine s_iload f_242_21 rfl ?_
    refine s_iload f_242_23 rfl ?_
    replace hd := obind hd
    obtain ⟨p7, e7, hd⟩ := hd
    refine L_virt (As := [.int a1, .int a2, .int p1, .int a3, .int a4, .int a5]) f_242_25 ca_12_241 rfl rfl (obL (by decide)) (by decide) (Nat.le_of_ble_eq_true rfl) ?_
    refine t_rM_isClause e7 ?_
    refine z_if_eq 35 f_242_28 (by decide) (fun c8 => ?_) (fun c8 => ?_)
    · replace hd := ite_n c8 hd
      refine k_iconst (v := 0) f_242_35 (by decide) ?_
      refine s_ireturn f_242_36 rfl rfl ?_
      cases hd
      exact hQ
    · replace hd := ite_p c8 hd
      refine k_iconst (v := 2) f_242_31 (by decide) ?_
      refine s_goto 36 f_242_32 (by decide) ?_
      refine s_ireturn f_242_36 rfl rfl ?_
      cases hd
      exact hQ

def rM_falls (M : SS) (a1 : Int32) (a2 : Int32) (a3 : Int32) : Option (Int32 × SS) :=
  (rM_isAsked M a1 a2 a3).bind fun p1 =>
  if p1 = true then
    (rM_of M a1 (0 : Int32)).bind fun p4 =>
    (rM_holds M a1 p4 a2 a3 (0 : Int32)).bind fun p5 =>
    some (p5.1, p5.2)
  else
    (rM_finds M (-100001 : Int32)).bind fun p3 =>
    some (p3.1, p3.2)
theorem t_rM_falls {l : Launch} {G : aG} {d : Nat} {Q : Option Value → aHeap → Prop} {sl : Nat} {sx : Nat → Int32} {S : SS} {K : KS} {T : TS} {X : XS} {M : SS} {a1 : Int32} {a2 : Int32} {a3 : Int32} {p : Int32 × SS} (hd : rM_falls M a1 a2 a3 = some p) (hQ : Q (some (.int p.1)) (LH (old0 sl sx) S K T X p.2)) : aCall l G (d + 4) 0 0 240 [.ref 154, .int a1, .int a2, .int a3] (LH (old0 sl sx) S K T X M) Q := by
  refine aCall.of (by decide) (Nat.le_of_ble_eq_true rfl) ?_
  refine aAt.sub [(0, .ref 154), (1, .int a1), (2, .int a2), (3, .int a3)] rfl ?_
  unfold rM_falls at hd
  refine s_aload_n f_240_0 rfl ?_
  refine s_iload_n f_240_1 rfl ?_
  refine s_iload_n f_240_2 rfl ?_
  refine s_iload_n f_240_3 rfl ?_
  replace hd := obind hd
  obtain ⟨p1, e1, hd⟩ := hd
  refine L_virt (As := [.int a1, .int a2, .int a3]) f_240_4 ca_12_245 rfl rfl (obL (by decide)) (by decide) (Nat.le_of_ble_eq_true rfl) ?_
  refine t_rM_isAsked e1 ?_
  refine z_if_eq 27 f_240_7 (by decide) (fun c2 => ?_) (fun c2 => ?_)
  · replace hd := ite_n c2 hd
    refine s_aload_n f_240_27 rfl ?_
    refine s_ldc f_240_28 ko_12_77 ?_
    replace hd := obind hd
    obtain ⟨p3, e3, hd⟩ := hd
    refine L_virt (As := [.int (-100001 : Int32)]) f_240_30 ca_12_78 rfl rfl (obL (by decide)) (by decide) (Nat.le_of_ble_eq_true rfl) ?_
    refine t_rM_finds e3 ?_
    refine s_ireturn f_240_33 rfl rfl ?_
    cases hd
    exact hQ
  · replace hd := ite_p c2 hd
    refine s_aload_n f_240_10 rfl ?_
    refine s_iload_n f_240_11 rfl ?_
    refine s_aload_n f_240_12 rfl ?_
    refine s_iload_n f_240_13 rfl ?_
    refine k_iconst (v := 0) f_240_14 (by decide) ?_
    replace hd := obind hd
    obtain ⟨p4, e4, hd⟩ := hd
    refine L_virt (As := [.int a1, .int (0 : Int32)]) f_240_15 ca_12_98 rfl rfl (obL (by decide)) (by decide) (Nat.le_of_ble_eq_true rfl) ?_
    refine t_rM_of e4 ?_
    refine s_iload_n f_240_18 rfl ?_
    refine s_iload_n f_240_19 rfl ?_
    refine k_iconst (v := 0) f_240_20 (by decide) ?_
    replace hd := obind hd
    obtain ⟨p5, e5, hd⟩ := hd
    refine L_virt (As := [.int a1, .int p4, .int a2, .int a3, .int (0 : Int32)]) f_240_21 ca_12_248 rfl rfl (obL (by decide)) (by decide) (Nat.le_of_ble_eq_true rfl) ?_
    refine t_rM_holds e5 ?_
    refine s_goto 33 f_240_24 (by decide) ?_
    refine s_ireturn f_240_33 rfl rfl ?_
    cases hd
    exact hQ

def rM_truly (M : SS) (a1 : Int32) (a2 : Int32) (a3 : Int32) : Option (Int32 × SS) :=
  (rM_isAsked M a1 a2 a3).bind fun p1 =>
  if p1 = true then
    (rM_of M a1 (0 : Int32)).bind fun p4 =>
    (rM_holds M a1 p4 a2 a3 (2 : Int32)).bind fun p5 =>
    some (p5.1, p5.2)
  else
    (rM_finds M (-100001 : Int32)).bind fun p3 =>
    some (p3.1, p3.2)
theorem t_rM_truly {l : Launch} {G : aG} {d : Nat} {Q : Option Value → aHeap → Prop} {sl : Nat} {sx : Nat → Int32} {S : SS} {K : KS} {T : TS} {X : XS} {M : SS} {a1 : Int32} {a2 : Int32} {a3 : Int32} {p : Int32 × SS} (hd : rM_truly M a1 a2 a3 = some p) (hQ : Q (some (.int p.1)) (LH (old0 sl sx) S K T X p.2)) : aCall l G (d + 4) 0 0 246 [.ref 154, .int a1, .int a2, .int a3] (LH (old0 sl sx) S K T X M) Q := by
  refine aCall.of (by decide) (Nat.le_of_ble_eq_true rfl) ?_
  refine aAt.sub [(0, .ref 154), (1, .int a1), (2, .int a2), (3, .int a3)] rfl ?_
  unfold rM_truly at hd
  refine s_aload_n f_246_0 rfl ?_
  refine s_iload_n f_246_1 rfl ?_
  refine s_iload_n f_246_2 rfl ?_
  refine s_iload_n f_246_3 rfl ?_
  replace hd := obind hd
  obtain ⟨p1, e1, hd⟩ := hd
  refine L_virt (As := [.int a1, .int a2, .int a3]) f_246_4 ca_12_245 rfl rfl (obL (by decide)) (by decide) (Nat.le_of_ble_eq_true rfl) ?_
  refine t_rM_isAsked e1 ?_
  refine z_if_eq 27 f_246_7 (by decide) (fun c2 => ?_) (fun c2 => ?_)
  · replace hd := ite_n c2 hd
    refine s_aload_n f_246_27 rfl ?_
    refine s_ldc f_246_28 ko_12_77 ?_
    replace hd := obind hd
    obtain ⟨p3, e3, hd⟩ := hd
    refine L_virt (As := [.int (-100001 : Int32)]) f_246_30 ca_12_78 rfl rfl (obL (by decide)) (by decide) (Nat.le_of_ble_eq_true rfl) ?_
    refine t_rM_finds e3 ?_
    refine s_ireturn f_246_33 rfl rfl ?_
    cases hd
    exact hQ
  · replace hd := ite_p c2 hd
    refine s_aload_n f_246_10 rfl ?_
    refine s_iload_n f_246_11 rfl ?_
    refine s_aload_n f_246_12 rfl ?_
    refine s_iload_n f_246_13 rfl ?_
    refine k_iconst (v := 0) f_246_14 (by decide) ?_
    replace hd := obind hd
    obtain ⟨p4, e4, hd⟩ := hd
    refine L_virt (As := [.int a1, .int (0 : Int32)]) f_246_15 ca_12_98 rfl rfl (obL (by decide)) (by decide) (Nat.le_of_ble_eq_true rfl) ?_
    refine t_rM_of e4 ?_
    refine s_iload_n f_246_18 rfl ?_
    refine s_iload_n f_246_19 rfl ?_
    refine k_iconst (v := 2) f_246_20 (by decide) ?_
    replace hd := obind hd
    obtain ⟨p5, e5, hd⟩ := hd
    refine L_virt (As := [.int a1, .int p4, .int a2, .int a3, .int (2 : Int32)]) f_246_21 ca_12_248 rfl rfl (obL (by decide)) (by decide) (Nat.le_of_ble_eq_true rfl) ?_
    refine t_rM_holds e5 ?_
    refine s_goto 33 f_246_24 (by decide) ?_
    refine s_ireturn f_246_33 rfl rfl ?_
    cases hd
    exact hQ

def rM_goesBack_L39 : Nat → SS → Int32 → Int32 → Int32 → Int32 → Int32 → Option (Bool × SS)
  | 0, _, _, _, _, _, _ => none
  | n + 1, M, a1, a2, a3, a4, a5 =>
    if (11 : Int32) ≤ a5 then
      (rM_leftOf M a2 a3).bind fun p8 =>
      (rM_ofField (up M 166 2 p8) a1 (0 : Int32)).bind fun p9 =>
      (rM_ofField (up (up M 166 2 p8) 166 6 p9) a1 (2 : Int32)).bind fun p10 =>
      (rM_own (up (up M 166 2 p8) 166 6 p9) p10 (4 : Int32)).bind fun p11 =>
      (rM_ofField (up (up (up M 166 2 p8) 166 6 p9) 166 8 p11) a1 (3 : Int32)).bind fun p12 =>
      (rM_isSo (up (up (up (up M 166 2 p8) 166 6 p9) 166 8 p11) 166 9 p12) a4 (1 : Int32)).bind fun p13 =>
      some (p13.1, p13.2)
    else
      if inb a5 11 then
        rM_goesBack_L39  n (up M 166 (ix a5) (0 : Int32)) a1 a2 a3 a4 (a5 + 1)
      else none
theorem t_rM_goesBack_L39 {l : Launch} {G : aG} {d : Nat} {Q : Option Value → aHeap → Prop} {sl : Nat} {sx : Nat → Int32} {S : SS} {K : KS} {T : TS} {X : XS} : ∀ (n : Nat), ∀ (M : SS) (a1 : Int32) (a2 : Int32) (a3 : Int32) (a4 : Int32) (a5 : Int32) (p : Bool × SS), rM_goesBack_L39 n M a1 a2 a3 a4 a5 = some p → Q (some (.int (b2i p.1))) (LH (old0 sl sx) S K T X p.2) → aAt l G (d + 4) 0 0 248 39 [(0, .ref 154), (1, .int a1), (2, .int a2), (3, .int a3), (4, .int a4), (5, .int a5)] [] 0 0 (LH (old0 sl sx) S K T X M) Q := by
  intro n
  induction n with
  | zero =>
    intro M a1 a2 a3 a4 a5 p hd hQ
    rw [rM_goesBack_L39] at hd
    cases hd
  | succ n ih =>
    intro M a1 a2 a3 a4 a5 p hd hQ
    rw [rM_goesBack_L39] at hd
    refine s_iload f_248_39 rfl ?_
    refine k_bipush (v := 11) f_248_41 (by decide) ?_
    refine s_icmp_ge 60 f_248_43 (by decide) (fun c7 => ?_) (fun c7 => ?_)
    · replace hd := ite_p c7 hd
      refine s_aload_n f_248_60 rfl ?_
      refine L_getR f_248_61 fd_12_46 (obL (by decide)) (by decide) (by decide : rf 154 14 = 166) ?_
      refine k_iconst (v := 2) f_248_64 (by decide) ?_
      refine s_aload_n f_248_65 rfl ?_
      refine s_iload_n f_248_66 rfl ?_
      refine s_iload_n f_248_67 rfl ?_
      replace hd := obind hd
      obtain ⟨p8, e8, hd⟩ := hd
      refine L_virt (As := [.int a2, .int a3]) f_248_68 ca_12_167 rfl rfl (obL (by decide)) (by decide) (Nat.le_of_ble_eq_true rfl) ?_
      refine t_rM_leftOf e8 ?_
      refine M_iastore (q := 2) f_248_71 ⟨by decide, by decide, by decide, fun _ => rfl⟩ (Nat.le_of_ble_eq_true rfl : 11 < 2 ^ 31) (by decide) (by decide) ?_
      refine s_aload_n f_248_72 rfl ?_
      refine L_getR f_248_73 fd_12_46 (obL (by decide)) (by decide) (by decide : rf 154 14 = 166) ?_
      refine k_bipush (v := 6) f_248_76 (by decide) ?_
      refine s_aload_n f_248_78 rfl ?_
      refine s_iload_n f_248_79 rfl ?_
      refine k_iconst (v := 0) f_248_80 (by decide) ?_
      replace hd := obind hd
      obtain ⟨p9, e9, hd⟩ := hd
      refine L_virt (As := [.int a1, .int (0 : Int32)]) f_248_81 ca_12_111 rfl rfl (obL (by decide)) (by decide) (Nat.le_of_ble_eq_true rfl) ?_
      refine t_rM_ofField e9 ?_
      refine M_iastore (q := 6) f_248_84 ⟨by decide, by decide, by decide, fun _ => rfl⟩ (Nat.le_of_ble_eq_true rfl : 11 < 2 ^ 31) (by decide) (by decide) ?_
      refine s_aload_n f_248_85 rfl ?_
      refine L_getR f_248_86 fd_12_46 (obL (by decide)) (by decide) (by decide : rf 154 14 = 166) ?_
      refine k_bipush (v := 8) f_248_89 (by decide) ?_
      refine s_aload_n f_248_91 rfl ?_
      refine s_aload_n f_248_92 rfl ?_
      refine s_iload_n f_248_93 rfl ?_
      refine k_iconst (v := 2) f_248_94 (by decide) ?_
      replace hd := obind hd
      obtain ⟨p10, e10, hd⟩ := hd
      refine L_virt (As := [.int a1, .int (2 : Int32)]) f_248_95 ca_12_111 rfl rfl (obL (by decide)) (by decide) (Nat.le_of_ble_eq_true rfl) ?_
      refine t_rM_ofField e10 ?_
      refine k_iconst (v := 4) f_248_98 (by decide) ?_
      replace hd := obind hd
      obtain ⟨p11, e11, hd⟩ := hd
      refine L_virt (As := [.int p10, .int (4 : Int32)]) f_248_99 ca_12_73 rfl rfl (obL (by decide)) (by decide) (Nat.le_of_ble_eq_true rfl) ?_
      refine t_rM_own e11 ?_
      refine M_iastore (q := 8) f_248_102 ⟨by decide, by decide, by decide, fun _ => rfl⟩ (Nat.le_of_ble_eq_true rfl : 11 < 2 ^ 31) (by decide) (by decide) ?_
      refine s_aload_n f_248_103 rfl ?_
      refine L_getR f_248_104 fd_12_46 (obL (by decide)) (by decide) (by decide : rf 154 14 = 166) ?_
      refine k_bipush (v := 9) f_248_107 (by decide) ?_
      refine s_aload_n f_248_109 rfl ?_
      refine s_iload_n f_248_110 rfl ?_
      refine k_iconst (v := 3) f_248_111 (by decide) ?_
      replace hd := obind hd
      obtain ⟨p12, e12, hd⟩ := hd
      refine L_virt (As := [.int a1, .int (3 : Int32)]) f_248_112 ca_12_111 rfl rfl (obL (by decide)) (by decide) (Nat.le_of_ble_eq_true rfl) ?_
      refine t_rM_ofField e12 ?_
      refine M_iastore (q := 9) f_248_115 ⟨by decide, by decide, by decide, fun _ => rfl⟩ (Nat.le_of_ble_eq_true rfl : 11 < 2 ^ 31) (by decide) (by decide) ?_
      refine s_aload_n f_248_116 rfl ?_
      refine s_iload f_248_117 rfl ?_
      refine k_iconst (v := 1) f_248_119 (by decide) ?_
      replace hd := obind hd
      obtain ⟨p13, e13, hd⟩ := hd
      refine L_virt (As := [.int a4, .int (1 : Int32)]) f_248_120 ca_12_238 rfl rfl (obL (by decide)) (by decide) (Nat.le_of_ble_eq_true rfl) ?_
      refine t_rM_isSo e13 ?_
      refine s_iretB (b := p13.1) f_248_123 rfl ?_
      cases hd
      exact hQ
    · replace hd := ite_n c7 hd
      refine s_aload_n f_248_46 rfl ?_
      refine L_getR f_248_47 fd_12_46 (obL (by decide)) (by decide) (by decide : rf 154 14 = 166) ?_
      refine s_iload f_248_50 rfl ?_
      refine k_iconst (v := 0) f_248_52 (by decide) ?_
      replace hd := gd hd
      obtain ⟨g14, hd⟩ := hd
      refine M_iastore (q := (ix a5)) f_248_53 ⟨by decide, by decide, by decide, fun _ => rfl⟩ (Nat.le_of_ble_eq_true rfl : 11 < 2 ^ 31) rfl g14 ?_
      refine k_iinc (w := 1) f_248_54 rfl (by decide) (by decide) ?_
      refine s_goto 39 f_248_57 (by decide) ?_
      refine aAt.sub [(0, .ref 154), (1, .int a1), (2, .int a2), (3, .int a3), (4, .int a4), (5, .int (a5 + 1))] rfl ?_
      exact ih _ _ _ _ _ _  _ hd hQ
def rM_goesBack (M : SS) (a1 : Int32) (a2 : Int32) (a3 : Int32) : Option (Bool × SS) :=
  (rM_lawOf M a2 a3).bind fun p1 =>
  if p1 < 0 then
    some (false, M)
  else
    (rM_ofField M a1 (1 : Int32)).bind fun p3 =>
    (rM_heirsOf M p3).bind fun p4 =>
    (rM_ofField p4.2 a1 (2 : Int32)).bind fun p5 =>
    if p4.1 = ((1 : Int32) <<< (p5 &&& 31)) then
      some (false, p4.2)
    else
      rM_goesBack_L39 FU p4.2 a1 a2 a3 p1 (0 : Int32)
theorem t_rM_goesBack {l : Launch} {G : aG} {d : Nat} {Q : Option Value → aHeap → Prop} {sl : Nat} {sx : Nat → Int32} {S : SS} {K : KS} {T : TS} {X : XS} {M : SS} {a1 : Int32} {a2 : Int32} {a3 : Int32} {p : Bool × SS} (hd : rM_goesBack M a1 a2 a3 = some p) (hQ : Q (some (.int (b2i p.1))) (LH (old0 sl sx) S K T X p.2)) : aCall l G (d + 4) 0 0 248 [.ref 154, .int a1, .int a2, .int a3] (LH (old0 sl sx) S K T X M) Q := by
  refine aCall.of (by decide) (Nat.le_of_ble_eq_true rfl) ?_
  refine aAt.sub [(0, .ref 154), (1, .int a1), (2, .int a2), (3, .int a3)] rfl ?_
  unfold rM_goesBack at hd
  refine s_aload_n f_248_0 rfl ?_
  refine s_iload_n f_248_1 rfl ?_
  refine s_iload_n f_248_2 rfl ?_
  replace hd := obind hd
  obtain ⟨p1, e1, hd⟩ := hd
  refine L_virt (As := [.int a2, .int a3]) f_248_3 ca_12_235 rfl rfl (obL (by decide)) (by decide) (Nat.le_of_ble_eq_true rfl) ?_
  refine t_rM_lawOf e1 ?_
  refine s_istore f_248_6 (by decide) ?_
  refine s_iload f_248_8 rfl ?_
  refine s_if_lt 34 f_248_10 (by decide) (fun c2 => ?_) (fun c2 => ?_)
  · replace hd := ite_p c2 hd
    refine k_iconst (v := 0) f_248_34 (by decide) ?_
    refine s_iretB (b := false) f_248_35 rfl ?_
    cases hd
    exact hQ
  · replace hd := ite_n c2 hd
    refine s_aload_n f_248_13 rfl ?_
    refine s_aload_n f_248_14 rfl ?_
    refine s_iload_n f_248_15 rfl ?_
    refine k_iconst (v := 1) f_248_16 (by decide) ?_
    replace hd := obind hd
    obtain ⟨p3, e3, hd⟩ := hd
    refine L_virt (As := [.int a1, .int (1 : Int32)]) f_248_17 ca_12_111 rfl rfl (obL (by decide)) (by decide) (Nat.le_of_ble_eq_true rfl) ?_
    refine t_rM_ofField e3 ?_
    replace hd := obind hd
    obtain ⟨p4, e4, hd⟩ := hd
    refine L_virt (As := [.int p3]) f_248_20 ca_12_128 rfl rfl (obL (by decide)) (by decide) (Nat.le_of_ble_eq_true rfl) ?_
    refine t_rM_heirsOf e4 ?_
    refine k_iconst (v := 1) f_248_23 (by decide) ?_
    refine s_aload_n f_248_24 rfl ?_
    refine s_iload_n f_248_25 rfl ?_
    refine k_iconst (v := 2) f_248_26 (by decide) ?_
    replace hd := obind hd
    obtain ⟨p5, e5, hd⟩ := hd
    refine L_virt (As := [.int a1, .int (2 : Int32)]) f_248_27 ca_12_111 rfl rfl (obL (by decide)) (by decide) (Nat.le_of_ble_eq_true rfl) ?_
    refine t_rM_ofField e5 ?_
    refine s_ishl f_248_30 ?_
    refine s_icmp_ne 36 f_248_31 (by decide) (fun c6 => ?_) (fun c6 => ?_)
    · replace hd := ite_n c6 hd
      refine k_iconst (v := 0) f_248_36 (by decide) ?_
      refine s_istore f_248_37 (by decide) ?_
      refine aAt.sub [(0, .ref 154), (1, .int a1), (2, .int a2), (3, .int a3), (4, .int p1), (5, .int (0 : Int32))] rfl ?_
      exact t_rM_goesBack_L39 FU _ _ _ _ _ _  _ hd hQ
    · replace hd := ite_p c6 hd
      refine k_iconst (v := 0) f_248_34 (by decide) ?_
      refine s_iretB (b := false) f_248_35 rfl ?_
      cases hd
      exact hQ

def rM_back_J22 (M : SS) : Option (Int32 × SS) :=
  (rM_finds M (-100001 : Int32)).bind fun p3 =>
  some (p3.1, p3.2)
theorem t_rM_back_J22 {l : Launch} {G : aG} {d : Nat} {Q : Option Value → aHeap → Prop} {sl : Nat} {sx : Nat → Int32} {S : SS} {K : KS} {T : TS} {X : XS} : ∀ (M : SS) (p : Int32 × SS), rM_back_J22 M = some p → Q (some (.int p.1)) (LH (old0 sl sx) S K T X p.2) → aAt l G (d + 5) 0 0 247 22 [(0, .ref 154)] [] 0 0 (LH (old0 sl sx) S K T X M) Q := by
  intro M p hd hQ
  unfold rM_back_J22 at hd
  refine s_aload_n f_247_22 rfl ?_
  refine s_ldc f_247_23 ko_12_77 ?_
  replace hd := obind hd
  obtain ⟨p3, e3, hd⟩ := hd
  refine L_virt (As := [.int (-100001 : Int32)]) f_247_25 ca_12_78 rfl rfl (obL (by decide)) (by decide) (Nat.le_of_ble_eq_true rfl) ?_
  refine t_rM_finds e3 ?_
  refine s_ireturn f_247_28 rfl rfl ?_
  cases hd
  exact hQ
def rM_back (M : SS) (a1 : Int32) (a2 : Int32) (a3 : Int32) : Option (Int32 × SS) :=
  (rM_isField M a1).bind fun p1 =>
  if p1 = true then
    (rM_isBench a2).bind fun p4 =>
    if p4 = true then
      (rM_isYear a3).bind fun p6 =>
      if p6 = true then
        (rM_goesBack M a1 a2 a3).bind fun p8 =>
        if p8.1 = true then
          some ((1 : Int32), p8.2)
        else
          some ((0 : Int32), p8.2)
      else
        rM_back_J22 M
    else
      rM_back_J22 M
  else
    rM_back_J22 M
theorem t_rM_back {l : Launch} {G : aG} {d : Nat} {Q : Option Value → aHeap → Prop} {sl : Nat} {sx : Nat → Int32} {S : SS} {K : KS} {T : TS} {X : XS} {M : SS} {a1 : Int32} {a2 : Int32} {a3 : Int32} {p : Int32 × SS} (hd : rM_back M a1 a2 a3 = some p) (hQ : Q (some (.int p.1)) (LH (old0 sl sx) S K T X p.2)) : aCall l G (d + 5) 0 0 247 [.ref 154, .int a1, .int a2, .int a3] (LH (old0 sl sx) S K T X M) Q := by
  refine aCall.of (by decide) (Nat.le_of_ble_eq_true rfl) ?_
  refine aAt.sub [(0, .ref 154), (1, .int a1), (2, .int a2), (3, .int a3)] rfl ?_
  unfold rM_back at hd
  refine s_aload_n f_247_0 rfl ?_
  refine s_iload_n f_247_1 rfl ?_
  replace hd := obind hd
  obtain ⟨p1, e1, hd⟩ := hd
  refine L_virt (As := [.int a1]) f_247_2 ca_12_114 rfl rfl (obL (by decide)) (by decide) (Nat.le_of_ble_eq_true rfl) ?_
  refine t_rM_isField e1 ?_
  refine z_if_eq 22 f_247_5 (by decide) (fun c2 => ?_) (fun c2 => ?_)
  · replace hd := ite_n c2 hd
    refine aAt.sub [(0, .ref 154)] rfl ?_
    exact t_rM_back_J22 _  _ hd hQ
  · replace hd := ite_p c2 hd
    refine s_iload_n f_247_8 rfl ?_
    replace hd := obind hd
    obtain ⟨p4, e4, hd⟩ := hd
    refine L_stat (As := [.int a2]) f_247_9 ca_12_161 rfl rfl (Nat.le_of_ble_eq_true rfl) ?_
    refine t_rM_isBench e4 ?_
    refine z_if_eq 22 f_247_12 (by decide) (fun c5 => ?_) (fun c5 => ?_)
    · replace hd := ite_n c5 hd
      refine aAt.sub [(0, .ref 154)] rfl ?_
      exact t_rM_back_J22 _  _ hd hQ
    · replace hd := ite_p c5 hd
      refine s_iload_n f_247_15 rfl ?_
      replace hd := obind hd
      obtain ⟨p6, e6, hd⟩ := hd
      refine L_stat (As := [.int a3]) f_247_16 ca_12_164 rfl rfl (Nat.le_of_ble_eq_true rfl) ?_
      refine t_rM_isYear e6 ?_
      refine z_if_ne 29 f_247_19 (by decide) (fun c7 => ?_) (fun c7 => ?_)
      · replace hd := ite_p c7 hd
        refine s_aload_n f_247_29 rfl ?_
        refine s_iload_n f_247_30 rfl ?_
        refine s_iload_n f_247_31 rfl ?_
        refine s_iload_n f_247_32 rfl ?_
        replace hd := obind hd
        obtain ⟨p8, e8, hd⟩ := hd
        refine L_virt (As := [.int a1, .int a2, .int a3]) f_247_33 ca_12_252 rfl rfl (obL (by decide)) (by decide) (Nat.le_of_ble_eq_true rfl) ?_
        refine t_rM_goesBack e8 ?_
        refine z_if_eq 43 f_247_36 (by decide) (fun c9 => ?_) (fun c9 => ?_)
        · replace hd := ite_n c9 hd
          refine k_iconst (v := 0) f_247_43 (by decide) ?_
          refine s_ireturn f_247_44 rfl rfl ?_
          cases hd
          exact hQ
        · replace hd := ite_p c9 hd
          refine k_iconst (v := 1) f_247_39 (by decide) ?_
          refine s_goto 44 f_247_40 (by decide) ?_
          refine s_ireturn f_247_44 rfl rfl ?_
          cases hd
          exact hQ
      · replace hd := ite_n c7 hd
        refine aAt.sub [(0, .ref 154)] rfl ?_
        exact t_rM_back_J22 _  _ hd hQ

def rM_dress_J53 (k23 : SS → Int32 → Int32 → Int32 → Int32 → Int32 → Option (Int32 × SS)) (M : SS) (a1 : Int32) (a2 : Int32) (a3 : Int32) (a5 : Int32) (w0 : Int32) (w1 : Int32) : Option (Int32 × SS) :=
  k23 M a1 a2 a3 (w0 ||| w1) (a5 + 1)
theorem t_rM_dress_J53 {l : Launch} {G : aG} {d : Nat} {Q : Option Value → aHeap → Prop} {sl : Nat} {sx : Nat → Int32} {S : SS} {K : KS} {T : TS} {X : XS} {k23 : SS → Int32 → Int32 → Int32 → Int32 → Int32 → Option (Int32 × SS)} (hk23 : ∀ (M : SS) (a1 : Int32) (a2 : Int32) (a3 : Int32) (a4 : Int32) (a5 : Int32) (p : Int32 × SS), k23 M a1 a2 a3 a4 a5 = some p → Q (some (.int p.1)) (LH (old0 sl sx) S K T X p.2) → aAt l G (d + 4) 0 0 249 23 [(0, .ref 154), (1, .int a1), (2, .int a2), (3, .int a3), (4, .int a4), (5, .int a5)] [] 0 0 (LH (old0 sl sx) S K T X M) Q) : ∀ (M : SS) (a1 : Int32) (a2 : Int32) (a3 : Int32) (a5 : Int32) (w0 : Int32) (w1 : Int32) (p : Int32 × SS), rM_dress_J53 k23 M a1 a2 a3 a5 w0 w1 = some p → Q (some (.int p.1)) (LH (old0 sl sx) S K T X p.2) → aAt l G (d + 4) 0 0 249 53 [(0, .ref 154), (1, .int a1), (2, .int a2), (3, .int a3), (5, .int a5)] [.int w1, .int w0] 0 0 (LH (old0 sl sx) S K T X M) Q := by
  intro M a1 a2 a3 a5 w0 w1 p hd hQ
  unfold rM_dress_J53 at hd
  refine s_ior f_249_53 ?_
  refine s_istore f_249_54 (by decide) ?_
  refine k_iinc (w := 1) f_249_56 rfl (by decide) (by decide) ?_
  refine s_goto 23 f_249_59 (by decide) ?_
  refine aAt.sub [(0, .ref 154), (1, .int a1), (2, .int a2), (3, .int a3), (4, .int (w0 ||| w1)), (5, .int (a5 + 1))] rfl ?_
  exact hk23 _ _ _ _ _ _  _ hd hQ
def rM_dress_L23 : Nat → SS → Int32 → Int32 → Int32 → Int32 → Int32 → Option (Int32 × SS)
  | 0, _, _, _, _, _, _ => none
  | n + 1, M, a1, a2, a3, a4, a5 =>
    if (7 : Int32) ≤ a5 then
      some (a4, M)
    else
      (rM_holds M a1 a5 a2 a3 (0 : Int32)).bind fun p4 =>
      if p4.1 = 0 then
        rM_dress_J53 (rM_dress_L23  n) p4.2 a1 a2 a3 a5 a4 ((1 : Int32) <<< (a5 &&& 31))
      else
        rM_dress_J53 (rM_dress_L23  n) p4.2 a1 a2 a3 a5 a4 (0 : Int32)
theorem t_rM_dress_L23 {l : Launch} {G : aG} {d : Nat} {Q : Option Value → aHeap → Prop} {sl : Nat} {sx : Nat → Int32} {S : SS} {K : KS} {T : TS} {X : XS} : ∀ (n : Nat), ∀ (M : SS) (a1 : Int32) (a2 : Int32) (a3 : Int32) (a4 : Int32) (a5 : Int32) (p : Int32 × SS), rM_dress_L23 n M a1 a2 a3 a4 a5 = some p → Q (some (.int p.1)) (LH (old0 sl sx) S K T X p.2) → aAt l G (d + 4) 0 0 249 23 [(0, .ref 154), (1, .int a1), (2, .int a2), (3, .int a3), (4, .int a4), (5, .int a5)] [] 0 0 (LH (old0 sl sx) S K T X M) Q := by
  intro n
  induction n with
  | zero =>
    intro M a1 a2 a3 a4 a5 p hd hQ
    rw [rM_dress_L23] at hd
    cases hd
  | succ n ih =>
    intro M a1 a2 a3 a4 a5 p hd hQ
    rw [rM_dress_L23] at hd
    refine s_iload f_249_23 rfl ?_
    refine k_bipush (v := 7) f_249_25 (by decide) ?_
    refine s_icmp_ge 62 f_249_27 (by decide) (fun c3 => ?_) (fun c3 => ?_)
    · replace hd := ite_p c3 hd
      refine s_iload f_249_62 rfl ?_
      refine s_ireturn f_249_64 rfl rfl ?_
      cases hd
      exact hQ
    · replace hd := ite_n c3 hd
      refine s_iload f_249_30 rfl ?_
      refine s_aload_n f_249_32 rfl ?_
      refine s_iload_n f_249_33 rfl ?_
      refine s_iload f_249_34 rfl ?_
      refine s_iload_n f_249_36 rfl ?_
      refine s_iload_n f_249_37 rfl ?_
      refine k_iconst (v := 0) f_249_38 (by decide) ?_
      replace hd := obind hd
      obtain ⟨p4, e4, hd⟩ := hd
      refine L_virt (As := [.int a1, .int a5, .int a2, .int a3, .int (0 : Int32)]) f_249_39 ca_12_248 rfl rfl (obL (by decide)) (by decide) (Nat.le_of_ble_eq_true rfl) ?_
      refine t_rM_holds e4 ?_
      refine s_if_ne 52 f_249_42 (by decide) (fun c5 => ?_) (fun c5 => ?_)
      · replace hd := ite_n c5 hd
        refine k_iconst (v := 0) f_249_52 (by decide) ?_
        refine aAt.sub [(0, .ref 154), (1, .int a1), (2, .int a2), (3, .int a3), (5, .int a5)] rfl ?_
        exact t_rM_dress_J53 ih _ _ _ _ _ _ _  _ hd hQ
      · replace hd := ite_p c5 hd
        refine k_iconst (v := 1) f_249_45 (by decide) ?_
        refine s_iload f_249_46 rfl ?_
        refine s_ishl f_249_48 ?_
        refine s_goto 53 f_249_49 (by decide) ?_
        refine aAt.sub [(0, .ref 154), (1, .int a1), (2, .int a2), (3, .int a3), (5, .int a5)] rfl ?_
        exact t_rM_dress_J53 ih _ _ _ _ _ _ _  _ hd hQ
def rM_dress (M : SS) (a1 : Int32) (a2 : Int32) (a3 : Int32) : Option (Int32 × SS) :=
  (rM_isAsked M a1 a2 a3).bind fun p1 =>
  if p1 = true then
    rM_dress_L23 FU M a1 a2 a3 (0 : Int32) (0 : Int32)
  else
    (rM_finds M (-100001 : Int32)).bind fun p6 =>
    some (p6.1, p6.2)
theorem t_rM_dress {l : Launch} {G : aG} {d : Nat} {Q : Option Value → aHeap → Prop} {sl : Nat} {sx : Nat → Int32} {S : SS} {K : KS} {T : TS} {X : XS} {M : SS} {a1 : Int32} {a2 : Int32} {a3 : Int32} {p : Int32 × SS} (hd : rM_dress M a1 a2 a3 = some p) (hQ : Q (some (.int p.1)) (LH (old0 sl sx) S K T X p.2)) : aCall l G (d + 4) 0 0 249 [.ref 154, .int a1, .int a2, .int a3] (LH (old0 sl sx) S K T X M) Q := by
  refine aCall.of (by decide) (Nat.le_of_ble_eq_true rfl) ?_
  refine aAt.sub [(0, .ref 154), (1, .int a1), (2, .int a2), (3, .int a3)] rfl ?_
  unfold rM_dress at hd
  refine s_aload_n f_249_0 rfl ?_
  refine s_iload_n f_249_1 rfl ?_
  refine s_iload_n f_249_2 rfl ?_
  refine s_iload_n f_249_3 rfl ?_
  replace hd := obind hd
  obtain ⟨p1, e1, hd⟩ := hd
  refine L_virt (As := [.int a1, .int a2, .int a3]) f_249_4 ca_12_245 rfl rfl (obL (by decide)) (by decide) (Nat.le_of_ble_eq_true rfl) ?_
  refine t_rM_isAsked e1 ?_
  refine z_if_ne 17 f_249_7 (by decide) (fun c2 => ?_) (fun c2 => ?_)
  · replace hd := ite_p c2 hd
    refine k_iconst (v := 0) f_249_17 (by decide) ?_
    refine s_istore f_249_18 (by decide) ?_
    refine k_iconst (v := 0) f_249_20 (by decide) ?_
    refine s_istore f_249_21 (by decide) ?_
    refine aAt.sub [(0, .ref 154), (1, .int a1), (2, .int a2), (3, .int a3), (4, .int (0 : Int32)), (5, .int (0 : Int32))] rfl ?_
    exact t_rM_dress_L23 FU _ _ _ _ _ _  _ hd hQ
  · replace hd := ite_n c2 hd
    refine s_aload_n f_249_10 rfl ?_
    refine s_ldc f_249_11 ko_12_77 ?_
    replace hd := obind hd
    obtain ⟨p6, e6, hd⟩ := hd
    refine L_virt (As := [.int (-100001 : Int32)]) f_249_13 ca_12_78 rfl rfl (obL (by decide)) (by decide) (Nat.le_of_ble_eq_true rfl) ?_
    refine t_rM_finds e6 ?_
    refine s_ireturn f_249_16 rfl rfl ?_
    cases hd
    exact hQ

def rM_price_J36 (M : SS) : Option (Int32 × SS) :=
  (rM_finds M (-100001 : Int32)).bind fun p3 =>
  some (p3.1, p3.2)
theorem t_rM_price_J36 {l : Launch} {G : aG} {d : Nat} {Q : Option Value → aHeap → Prop} {sl : Nat} {sx : Nat → Int32} {S : SS} {K : KS} {T : TS} {X : XS} : ∀ (M : SS) (p : Int32 × SS), rM_price_J36 M = some p → Q (some (.int p.1)) (LH (old0 sl sx) S K T X p.2) → aAt l G (d + 2) 0 0 250 36 [(0, .ref 154)] [] 0 0 (LH (old0 sl sx) S K T X M) Q := by
  intro M p hd hQ
  unfold rM_price_J36 at hd
  refine s_aload_n f_250_36 rfl ?_
  refine s_ldc f_250_37 ko_12_77 ?_
  replace hd := obind hd
  obtain ⟨p3, e3, hd⟩ := hd
  refine L_virt (As := [.int (-100001 : Int32)]) f_250_39 ca_12_78 rfl rfl (obL (by decide)) (by decide) (Nat.le_of_ble_eq_true rfl) ?_
  refine t_rM_finds e3 ?_
  refine s_ireturn f_250_42 rfl rfl ?_
  cases hd
  exact hQ
def rM_price (M : SS) (a1 : Int32) (a2 : Int32) : Option (Int32 × SS) :=
  (rM_isField M a1).bind fun p1 =>
  if p1 = true then
    (rM_isBench a2).bind fun p4 =>
    if p4 = true then
      (rM_ofField M a1 (0 : Int32)).bind fun p6 =>
      (rM_leftOf M a2 (M 155 3)).bind fun p7 =>
      some ((p6 * p7), M)
    else
      rM_price_J36 M
  else
    rM_price_J36 M
theorem t_rM_price {l : Launch} {G : aG} {d : Nat} {Q : Option Value → aHeap → Prop} {sl : Nat} {sx : Nat → Int32} {S : SS} {K : KS} {T : TS} {X : XS} {M : SS} {a1 : Int32} {a2 : Int32} {p : Int32 × SS} (hd : rM_price M a1 a2 = some p) (hQ : Q (some (.int p.1)) (LH (old0 sl sx) S K T X p.2)) : aCall l G (d + 2) 0 0 250 [.ref 154, .int a1, .int a2] (LH (old0 sl sx) S K T X M) Q := by
  refine aCall.of (by decide) (Nat.le_of_ble_eq_true rfl) ?_
  refine aAt.sub [(0, .ref 154), (1, .int a1), (2, .int a2)] rfl ?_
  unfold rM_price at hd
  refine s_aload_n f_250_0 rfl ?_
  refine s_iload_n f_250_1 rfl ?_
  replace hd := obind hd
  obtain ⟨p1, e1, hd⟩ := hd
  refine L_virt (As := [.int a1]) f_250_2 ca_12_114 rfl rfl (obL (by decide)) (by decide) (Nat.le_of_ble_eq_true rfl) ?_
  refine t_rM_isField e1 ?_
  refine z_if_eq 36 f_250_5 (by decide) (fun c2 => ?_) (fun c2 => ?_)
  · replace hd := ite_n c2 hd
    refine aAt.sub [(0, .ref 154)] rfl ?_
    exact t_rM_price_J36 _  _ hd hQ
  · replace hd := ite_p c2 hd
    refine s_iload_n f_250_8 rfl ?_
    replace hd := obind hd
    obtain ⟨p4, e4, hd⟩ := hd
    refine L_stat (As := [.int a2]) f_250_9 ca_12_161 rfl rfl (Nat.le_of_ble_eq_true rfl) ?_
    refine t_rM_isBench e4 ?_
    refine z_if_eq 36 f_250_12 (by decide) (fun c5 => ?_) (fun c5 => ?_)
    · replace hd := ite_n c5 hd
      refine aAt.sub [(0, .ref 154)] rfl ?_
      exact t_rM_price_J36 _  _ hd hQ
    · replace hd := ite_p c5 hd
      refine s_aload_n f_250_15 rfl ?_
      refine s_iload_n f_250_16 rfl ?_
      refine k_iconst (v := 0) f_250_17 (by decide) ?_
      replace hd := obind hd
      obtain ⟨p6, e6, hd⟩ := hd
      refine L_virt (As := [.int a1, .int (0 : Int32)]) f_250_18 ca_12_111 rfl rfl (obL (by decide)) (by decide) (Nat.le_of_ble_eq_true rfl) ?_
      refine t_rM_ofField e6 ?_
      refine s_aload_n f_250_21 rfl ?_
      refine s_iload_n f_250_22 rfl ?_
      refine s_aload_n f_250_23 rfl ?_
      refine L_getR f_250_24 fd_12_7 (obL (by decide)) (by decide) (by decide : rf 154 0 = 155) ?_
      refine k_iconst (v := 3) f_250_27 (by decide) ?_
      refine M_iaload (q := 3) f_250_28 ⟨by decide, by decide, by decide, fun _ => rfl⟩ (Nat.le_of_ble_eq_true rfl : 10759 < 2 ^ 31) (by decide) (by decide) ?_
      replace hd := obind hd
      obtain ⟨p7, e7, hd⟩ := hd
      refine L_virt (As := [.int a2, .int (M 155 3)]) f_250_29 ca_12_167 rfl rfl (obL (by decide)) (by decide) (Nat.le_of_ble_eq_true rfl) ?_
      refine t_rM_leftOf e7 ?_
      refine s_imul f_250_32 ?_
      refine s_goto 42 f_250_33 (by decide) ?_
      refine s_ireturn f_250_42 rfl rfl ?_
      cases hd
      exact hQ

def rM_harvests_L2 : Nat → SS → Int32 → Int32 → Option (SS)
  | 0, _, _, _ => none
  | n + 1, M, a1, a2 =>
    if (M 155 1) ≤ a2 then
      some M
    else
      (rM_ofField M a2 (2 : Int32)).bind fun p2 =>
      (rM_ofField M a2 (0 : Int32)).bind fun p3 =>
      (rM_stores M p2 ((p3 * a1) / (10 : Int32))).bind fun p4 =>
      rM_harvests_L2  n p4 a1 (a2 + 1)
theorem t_rM_harvests_L2 {l : Launch} {G : aG} {d : Nat} {Q : Option Value → aHeap → Prop} {sl : Nat} {sx : Nat → Int32} {S : SS} {K : KS} {T : TS} {X : XS} : ∀ (n : Nat), ∀ (M : SS) (a1 : Int32) (a2 : Int32) (p : SS), rM_harvests_L2 n M a1 a2 = some p → Q none (LH (old0 sl sx) S K T X p) → aAt l G (d + 3) 0 0 253 2 [(0, .ref 154), (1, .int a1), (2, .int a2)] [] 0 0 (LH (old0 sl sx) S K T X M) Q := by
  intro n
  induction n with
  | zero =>
    intro M a1 a2 p hd hQ
    rw [rM_harvests_L2] at hd
    cases hd
  | succ n ih =>
    intro M a1 a2 p hd hQ
    rw [rM_harvests_L2] at hd
    refine s_iload_n f_253_2 rfl ?_
    refine s_aload_n f_253_3 rfl ?_
    refine L_getR f_253_4 fd_12_7 (obL (by decide)) (by decide) (by decide : rf 154 0 = 155) ?_
    refine k_iconst (v := 1) f_253_7 (by decide) ?_
    refine M_iaload (q := 1) f_253_8 ⟨by decide, by decide, by decide, fun _ => rfl⟩ (Nat.le_of_ble_eq_true rfl : 10759 < 2 ^ 31) (by decide) (by decide) ?_
    refine s_icmp_ge 39 f_253_9 (by decide) (fun c1 => ?_) (fun c1 => ?_)
    · replace hd := ite_p c1 hd
      refine s_return f_253_39 rfl ?_
      cases hd
      exact hQ
    · replace hd := ite_n c1 hd
      refine s_aload_n f_253_12 rfl ?_
      refine s_aload_n f_253_13 rfl ?_
      refine s_iload_n f_253_14 rfl ?_
      refine k_iconst (v := 2) f_253_15 (by decide) ?_
      replace hd := obind hd
      obtain ⟨p2, e2, hd⟩ := hd
      refine L_virt (As := [.int a2, .int (2 : Int32)]) f_253_16 ca_12_111 rfl rfl (obL (by decide)) (by decide) (Nat.le_of_ble_eq_true rfl) ?_
      refine t_rM_ofField e2 ?_
      refine s_aload_n f_253_19 rfl ?_
      refine s_iload_n f_253_20 rfl ?_
      refine k_iconst (v := 0) f_253_21 (by decide) ?_
      replace hd := obind hd
      obtain ⟨p3, e3, hd⟩ := hd
      refine L_virt (As := [.int a2, .int (0 : Int32)]) f_253_22 ca_12_111 rfl rfl (obL (by decide)) (by decide) (Nat.le_of_ble_eq_true rfl) ?_
      refine t_rM_ofField e3 ?_
      refine s_iload_n f_253_25 rfl ?_
      refine s_imul f_253_26 ?_
      refine k_bipush (v := 10) f_253_27 (by decide) ?_
      refine s_idiv f_253_29 (by decide) ?_
      replace hd := obind hd
      obtain ⟨p4, e4, hd⟩ := hd
      refine L_virt (As := [.int p2, .int ((p3 * a1) / (10 : Int32))]) f_253_30 ca_12_151 rfl rfl (obL (by decide)) (by decide) (Nat.le_of_ble_eq_true rfl) ?_
      refine t_rM_stores e4 ?_
      refine k_iinc (w := 1) f_253_33 rfl (by decide) (by decide) ?_
      refine s_goto 2 f_253_36 (by decide) ?_
      refine aAt.sub [(0, .ref 154), (1, .int a1), (2, .int (a2 + 1))] rfl ?_
      exact ih _ _ _  _ hd hQ
def rM_harvests (M : SS) (a1 : Int32) : Option (SS) :=
  rM_harvests_L2 FU M a1 (0 : Int32)
theorem t_rM_harvests {l : Launch} {G : aG} {d : Nat} {Q : Option Value → aHeap → Prop} {sl : Nat} {sx : Nat → Int32} {S : SS} {K : KS} {T : TS} {X : XS} {M : SS} {a1 : Int32} {p : SS} (hd : rM_harvests M a1 = some p) (hQ : Q none (LH (old0 sl sx) S K T X p)) : aCall l G (d + 3) 0 0 253 [.ref 154, .int a1] (LH (old0 sl sx) S K T X M) Q := by
  refine aCall.of (by decide) (Nat.le_of_ble_eq_true rfl) ?_
  refine aAt.sub [(0, .ref 154), (1, .int a1)] rfl ?_
  unfold rM_harvests at hd
  refine k_iconst (v := 0) f_253_0 (by decide) ?_
  refine s_istore_n f_253_1 (by decide) ?_
  refine aAt.sub [(0, .ref 154), (1, .int a1), (2, .int (0 : Int32))] rfl ?_
  exact t_rM_harvests_L2 FU _ _ _  _ hd hQ

def rM_lender_J72 (M : SS) (k2 : Int32 → Int32 → Int32 → Option (Int32)) (a1 : Int32) (a2 : Int32) (a3 : Int32) : Option (Int32) :=
  k2 a1 a2 (a3 + 1)
theorem t_rM_lender_J72 {l : Launch} {G : aG} {d : Nat} {Q : Option Value → aHeap → Prop} {sl : Nat} {sx : Nat → Int32} {S : SS} {K : KS} {T : TS} {X : XS} {M : SS} {k2 : Int32 → Int32 → Int32 → Option (Int32)} (hk2 : ∀ (a1 : Int32) (a2 : Int32) (a3 : Int32) (p : Int32), k2 a1 a2 a3 = some p → Q (some (.int p)) (LH (old0 sl sx) S K T X M) → aAt l G (d + 2) 0 0 255 2 [(0, .ref 154), (1, .int a1), (2, .int a2), (3, .int a3)] [] 0 0 (LH (old0 sl sx) S K T X M) Q) : ∀ (a1 : Int32) (a2 : Int32) (a3 : Int32) (p : Int32), rM_lender_J72 M k2 a1 a2 a3 = some p → Q (some (.int p)) (LH (old0 sl sx) S K T X M) → aAt l G (d + 2) 0 0 255 72 [(0, .ref 154), (1, .int a1), (2, .int a2), (3, .int a3)] [] 0 0 (LH (old0 sl sx) S K T X M) Q := by
  intro a1 a2 a3 p hd hQ
  unfold rM_lender_J72 at hd
  refine k_iinc (w := 1) f_255_72 rfl (by decide) (by decide) ?_
  refine s_goto 2 f_255_75 (by decide) ?_
  refine aAt.sub [(0, .ref 154), (1, .int a1), (2, .int a2), (3, .int (a3 + 1))] rfl ?_
  exact hk2 _ _ _  _ hd hQ
def rM_lender_L2 (M : SS) : Nat → Int32 → Int32 → Int32 → Option (Int32)
  | 0, _, _, _ => none
  | n + 1, a1, a2, a3 =>
    if (M 155 0) ≤ a3 then
      some (-1 : Int32)
    else
      if a3 = a1 then
        rM_lender_J72 M (rM_lender_L2 M  n) a1 a2 a3
      else
        (rM_lives0 M a3).bind fun p3 =>
        if p3 = true then
          (rM_own M a3 (6 : Int32)).bind fun p5 =>
          if (p5 - a2) < (20 : Int32) then
            rM_lender_J72 M (rM_lender_L2 M  n) a1 a2 a3
          else
            (rM_own M a1 (4 : Int32)).bind fun p7 =>
            if p7 = (1 : Int32) then
              some a3
            else
              (rM_leftOf M (1 : Int32) (M 155 3)).bind fun p9 =>
              (rM_own M a3 (7 : Int32)).bind fun p10 =>
              if p9 ≤ p10 then
                rM_lender_J72 M (rM_lender_L2 M  n) a1 a2 a3
              else
                some a3
        else
          rM_lender_J72 M (rM_lender_L2 M  n) a1 a2 a3
theorem t_rM_lender_L2 {l : Launch} {G : aG} {d : Nat} {Q : Option Value → aHeap → Prop} {sl : Nat} {sx : Nat → Int32} {S : SS} {K : KS} {T : TS} {X : XS} {M : SS} : ∀ (n : Nat), ∀ (a1 : Int32) (a2 : Int32) (a3 : Int32) (p : Int32), rM_lender_L2 M n a1 a2 a3 = some p → Q (some (.int p)) (LH (old0 sl sx) S K T X M) → aAt l G (d + 2) 0 0 255 2 [(0, .ref 154), (1, .int a1), (2, .int a2), (3, .int a3)] [] 0 0 (LH (old0 sl sx) S K T X M) Q := by
  intro n
  induction n with
  | zero =>
    intro a1 a2 a3 p hd hQ
    rw [rM_lender_L2] at hd
    cases hd
  | succ n ih =>
    intro a1 a2 a3 p hd hQ
    rw [rM_lender_L2] at hd
    refine s_iload_n f_255_2 rfl ?_
    refine s_aload_n f_255_3 rfl ?_
    refine L_getR f_255_4 fd_12_7 (obL (by decide)) (by decide) (by decide : rf 154 0 = 155) ?_
    refine k_iconst (v := 0) f_255_7 (by decide) ?_
    refine M_iaload (q := 0) f_255_8 ⟨by decide, by decide, by decide, fun _ => rfl⟩ (Nat.le_of_ble_eq_true rfl : 10759 < 2 ^ 31) (by decide) (by decide) ?_
    refine s_icmp_ge 78 f_255_9 (by decide) (fun c1 => ?_) (fun c1 => ?_)
    · replace hd := ite_p c1 hd
      refine k_iconst (v := (-1)) f_255_78 (by decide) ?_
      refine s_ireturn f_255_79 rfl rfl ?_
      cases hd
      exact hQ
    · replace hd := ite_n c1 hd
      refine s_iload_n f_255_12 rfl ?_
      refine s_iload_n f_255_13 rfl ?_
      refine s_icmp_eq 72 f_255_14 (by decide) (fun c2 => ?_) (fun c2 => ?_)
      · replace hd := ite_p c2 hd
        refine aAt.sub [(0, .ref 154), (1, .int a1), (2, .int a2), (3, .int a3)] rfl ?_
        exact t_rM_lender_J72 ih _ _ _  _ hd hQ
      · replace hd := ite_n c2 hd
        refine s_aload_n f_255_17 rfl ?_
        refine s_iload_n f_255_18 rfl ?_
        replace hd := obind hd
        obtain ⟨p3, e3, hd⟩ := hd
        refine L_virt (As := [.int a3]) f_255_19 ca_12_91 rfl rfl (obL (by decide)) (by decide) (Nat.le_of_ble_eq_true rfl) ?_
        refine t_rM_lives0 e3 ?_
        refine z_if_eq 72 f_255_22 (by decide) (fun c4 => ?_) (fun c4 => ?_)
        · replace hd := ite_n c4 hd
          refine aAt.sub [(0, .ref 154), (1, .int a1), (2, .int a2), (3, .int a3)] rfl ?_
          exact t_rM_lender_J72 ih _ _ _  _ hd hQ
        · replace hd := ite_p c4 hd
          refine s_aload_n f_255_25 rfl ?_
          refine s_iload_n f_255_26 rfl ?_
          refine k_bipush (v := 6) f_255_27 (by decide) ?_
          replace hd := obind hd
          obtain ⟨p5, e5, hd⟩ := hd
          refine L_virt (As := [.int a3, .int (6 : Int32)]) f_255_29 ca_12_73 rfl rfl (obL (by decide)) (by decide) (Nat.le_of_ble_eq_true rfl) ?_
          refine t_rM_own e5 ?_
          refine s_iload_n f_255_32 rfl ?_
          refine s_isub f_255_33 ?_
          refine k_bipush (v := 20) f_255_34 (by decide) ?_
          refine s_icmp_lt 72 f_255_36 (by decide) (fun c6 => ?_) (fun c6 => ?_)
          · replace hd := ite_p c6 hd
            refine aAt.sub [(0, .ref 154), (1, .int a1), (2, .int a2), (3, .int a3)] rfl ?_
            exact t_rM_lender_J72 ih _ _ _  _ hd hQ
          · replace hd := ite_n c6 hd
            refine s_aload_n f_255_39 rfl ?_
            refine s_iload_n f_255_40 rfl ?_
            refine k_iconst (v := 4) f_255_41 (by decide) ?_
            replace hd := obind hd
            obtain ⟨p7, e7, hd⟩ := hd
            refine L_virt (As := [.int a1, .int (4 : Int32)]) f_255_42 ca_12_73 rfl rfl (obL (by decide)) (by decide) (Nat.le_of_ble_eq_true rfl) ?_
            refine t_rM_own e7 ?_
            refine k_iconst (v := 1) f_255_45 (by decide) ?_
            refine s_icmp_eq 70 f_255_46 (by decide) (fun c8 => ?_) (fun c8 => ?_)
            · replace hd := ite_p c8 hd
              refine s_iload_n f_255_70 rfl ?_
              refine s_ireturn f_255_71 rfl rfl ?_
              cases hd
              exact hQ
            · replace hd := ite_n c8 hd
              refine s_aload_n f_255_49 rfl ?_
              refine k_iconst (v := 1) f_255_50 (by decide) ?_
              refine s_aload_n f_255_51 rfl ?_
              refine L_getR f_255_52 fd_12_7 (obL (by decide)) (by decide) (by decide : rf 154 0 = 155) ?_
              refine k_iconst (v := 3) f_255_55 (by decide) ?_
              refine M_iaload (q := 3) f_255_56 ⟨by decide, by decide, by decide, fun _ => rfl⟩ (Nat.le_of_ble_eq_true rfl : 10759 < 2 ^ 31) (by decide) (by decide) ?_
              replace hd := obind hd
              obtain ⟨p9, e9, hd⟩ := hd
              refine L_virt (As := [.int (1 : Int32), .int (M 155 3)]) f_255_57 ca_12_167 rfl rfl (obL (by decide)) (by decide) (Nat.le_of_ble_eq_true rfl) ?_
              refine t_rM_leftOf e9 ?_
              refine s_aload_n f_255_60 rfl ?_
              refine s_iload_n f_255_61 rfl ?_
              refine k_bipush (v := 7) f_255_62 (by decide) ?_
              replace hd := obind hd
              obtain ⟨p10, e10, hd⟩ := hd
              refine L_virt (As := [.int a3, .int (7 : Int32)]) f_255_64 ca_12_73 rfl rfl (obL (by decide)) (by decide) (Nat.le_of_ble_eq_true rfl) ?_
              refine t_rM_own e10 ?_
              refine s_icmp_le 72 f_255_67 (by decide) (fun c11 => ?_) (fun c11 => ?_)
              · replace hd := ite_p c11 hd
                refine aAt.sub [(0, .ref 154), (1, .int a1), (2, .int a2), (3, .int a3)] rfl ?_
                exact t_rM_lender_J72 ih _ _ _  _ hd hQ
              · replace hd := ite_n c11 hd
                refine s_iload_n f_255_70 rfl ?_
                refine s_ireturn f_255_71 rfl rfl ?_
                cases hd
                exact hQ
def rM_lender (M : SS) (a1 : Int32) (a2 : Int32) : Option (Int32) :=
  rM_lender_L2 M FU a1 a2 (0 : Int32)
theorem t_rM_lender {l : Launch} {G : aG} {d : Nat} {Q : Option Value → aHeap → Prop} {sl : Nat} {sx : Nat → Int32} {S : SS} {K : KS} {T : TS} {X : XS} {M : SS} {a1 : Int32} {a2 : Int32} {p : Int32} (hd : rM_lender M a1 a2 = some p) (hQ : Q (some (.int p)) (LH (old0 sl sx) S K T X M)) : aCall l G (d + 2) 0 0 255 [.ref 154, .int a1, .int a2] (LH (old0 sl sx) S K T X M) Q := by
  refine aCall.of (by decide) (Nat.le_of_ble_eq_true rfl) ?_
  refine aAt.sub [(0, .ref 154), (1, .int a1), (2, .int a2)] rfl ?_
  unfold rM_lender at hd
  refine k_iconst (v := 0) f_255_0 (by decide) ?_
  refine s_istore_n f_255_1 (by decide) ?_
  refine aAt.sub [(0, .ref 154), (1, .int a1), (2, .int a2), (3, .int (0 : Int32))] rfl ?_
  exact t_rM_lender_L2 FU _ _ _  _ hd hQ

def rM_allEat_J213 (k4 : SS → Int32 → Int32 → Option (Int32 × SS)) (M : SS) (a1 : Int32) (a2 : Int32) : Option (Int32 × SS) :=
  k4 M a1 (a2 + 1)
theorem t_rM_allEat_J213 {l : Launch} {G : aG} {d : Nat} {Q : Option Value → aHeap → Prop} {sl : Nat} {sx : Nat → Int32} {S : SS} {K : KS} {T : TS} {X : XS} {k4 : SS → Int32 → Int32 → Option (Int32 × SS)} (hk4 : ∀ (M : SS) (a1 : Int32) (a2 : Int32) (p : Int32 × SS), k4 M a1 a2 = some p → Q (some (.int p.1)) (LH (old0 sl sx) S K T X p.2) → aAt l G (d + 3) 0 0 254 4 [(0, .ref 154), (1, .int a1), (2, .int a2)] [] 0 0 (LH (old0 sl sx) S K T X M) Q) : ∀ (M : SS) (a1 : Int32) (a2 : Int32) (p : Int32 × SS), rM_allEat_J213 k4 M a1 a2 = some p → Q (some (.int p.1)) (LH (old0 sl sx) S K T X p.2) → aAt l G (d + 3) 0 0 254 213 [(0, .ref 154), (1, .int a1), (2, .int a2)] [] 0 0 (LH (old0 sl sx) S K T X M) Q := by
  intro M a1 a2 p hd hQ
  unfold rM_allEat_J213 at hd
  refine k_iinc (w := 1) f_254_213 rfl (by decide) (by decide) ?_
  refine s_goto 4 f_254_216 (by decide) ?_
  refine aAt.sub [(0, .ref 154), (1, .int a1), (2, .int (a2 + 1))] rfl ?_
  exact hk4 _ _ _  _ hd hQ
def rM_allEat_J181 (k4 : SS → Int32 → Int32 → Option (Int32 × SS)) (M : SS) (a1 : Int32) (a2 : Int32) (w1 : Bool) (w2 : Int32) (w3 : Int32) (w4 : Int32) (w5 : Int32) : Option (Int32 × SS) :=
  (rM_comes M (b2i w1) w2 w3 w4 w5 (-1 : Int32) (0 : Int32)).bind fun p15 =>
  rM_allEat_J213 k4 p15.2 a1 a2
theorem t_rM_allEat_J181 {l : Launch} {G : aG} {d : Nat} {Q : Option Value → aHeap → Prop} {sl : Nat} {sx : Nat → Int32} {S : SS} {K : KS} {T : TS} {X : XS} {k4 : SS → Int32 → Int32 → Option (Int32 × SS)} (hk4 : ∀ (M : SS) (a1 : Int32) (a2 : Int32) (p : Int32 × SS), k4 M a1 a2 = some p → Q (some (.int p.1)) (LH (old0 sl sx) S K T X p.2) → aAt l G (d + 3) 0 0 254 4 [(0, .ref 154), (1, .int a1), (2, .int a2)] [] 0 0 (LH (old0 sl sx) S K T X M) Q) : ∀ (M : SS) (a1 : Int32) (a2 : Int32) (w1 : Bool) (w2 : Int32) (w3 : Int32) (w4 : Int32) (w5 : Int32) (p : Int32 × SS), rM_allEat_J181 k4 M a1 a2 w1 w2 w3 w4 w5 = some p → Q (some (.int p.1)) (LH (old0 sl sx) S K T X p.2) → aAt l G (d + 3) 0 0 254 181 [(0, .ref 154), (1, .int a1), (2, .int a2)] [.int w5, .int w4, .int w3, .int w2, .int (b2i w1), .ref 154] 0 0 (LH (old0 sl sx) S K T X M) Q := by
  intro M a1 a2 w1 w2 w3 w4 w5 p hd hQ
  unfold rM_allEat_J181 at hd
  refine k_iconst (v := (-1)) f_254_181 (by decide) ?_
  refine k_iconst (v := 0) f_254_182 (by decide) ?_
  replace hd := obind hd
  obtain ⟨p15, e15, hd⟩ := hd
  refine L_virt (As := [.int (b2i w1), .int w2, .int w3, .int w4, .int w5, .int (-1 : Int32), .int (0 : Int32)]) f_254_183 ca_12_140 rfl rfl (obL (by decide)) (by decide) (Nat.le_of_ble_eq_true rfl) ?_
  refine t_rM_comes e15 ?_
  refine s_istore f_254_186 (by decide) ?_
  refine s_goto 213 f_254_188 (by decide) ?_
  refine aAt.sub [(0, .ref 154), (1, .int a1), (2, .int a2)] rfl ?_
  exact t_rM_allEat_J213 hk4 _ _ _  _ hd hQ
def rM_allEat_J83 (k4 : SS → Int32 → Int32 → Option (Int32 × SS)) (M : SS) (a1 : Int32) (a2 : Int32) (a3 : Int32) (a4 : Int32) (w0 : Int32) : Option (Int32 × SS) :=
  (rM_own M a2 (6 : Int32)).bind fun p7 =>
  (rM_makes M a2 (6 : Int32) (p7 - a3)).bind fun p8 =>
  if w0 < 0 then
    (rM_own (up p8 155 5 ((p8 155 5) + a3)) a2 (9 : Int32)).bind fun p10 =>
    (rM_makes (up p8 155 5 ((p8 155 5) + a3)) a2 (9 : Int32) (p10 + a4)).bind fun p11 =>
    rM_allEat_J213 k4 p11 (a1 + a4) a2
  else
    (rM_own (up p8 155 5 ((p8 155 5) + a3)) w0 (6 : Int32)).bind fun p12 =>
    (rM_makes (up p8 155 5 ((p8 155 5) + a3)) w0 (6 : Int32) (p12 - a4)).bind fun p13 =>
    if (400 : Int32) ≤ (((up p13 155 5 ((p13 155 5) + a4)) 155 3) + (5 : Int32)) then
      rM_allEat_J181 k4 (up p13 155 5 ((p13 155 5) + a4)) a1 a2 true a2 w0 a4 (400 : Int32)
    else
      rM_allEat_J181 k4 (up p13 155 5 ((p13 155 5) + a4)) a1 a2 true a2 w0 a4 (((up p13 155 5 ((p13 155 5) + a4)) 155 3) + (5 : Int32))
theorem t_rM_allEat_J83 {l : Launch} {G : aG} {d : Nat} {Q : Option Value → aHeap → Prop} {sl : Nat} {sx : Nat → Int32} {S : SS} {K : KS} {T : TS} {X : XS} {k4 : SS → Int32 → Int32 → Option (Int32 × SS)} (hk4 : ∀ (M : SS) (a1 : Int32) (a2 : Int32) (p : Int32 × SS), k4 M a1 a2 = some p → Q (some (.int p.1)) (LH (old0 sl sx) S K T X p.2) → aAt l G (d + 3) 0 0 254 4 [(0, .ref 154), (1, .int a1), (2, .int a2)] [] 0 0 (LH (old0 sl sx) S K T X M) Q) : ∀ (M : SS) (a1 : Int32) (a2 : Int32) (a3 : Int32) (a4 : Int32) (w0 : Int32) (p : Int32 × SS), rM_allEat_J83 k4 M a1 a2 a3 a4 w0 = some p → Q (some (.int p.1)) (LH (old0 sl sx) S K T X p.2) → aAt l G (d + 3) 0 0 254 83 [(0, .ref 154), (1, .int a1), (2, .int a2), (3, .int a3), (4, .int a4)] [.int w0] 0 0 (LH (old0 sl sx) S K T X M) Q := by
  intro M a1 a2 a3 a4 w0 p hd hQ
  unfold rM_allEat_J83 at hd
  refine s_istore f_254_83 (by decide) ?_
  refine s_aload_n f_254_85 rfl ?_
  refine s_iload_n f_254_86 rfl ?_
  refine k_bipush (v := 6) f_254_87 (by decide) ?_
  refine s_aload_n f_254_89 rfl ?_
  refine s_iload_n f_254_90 rfl ?_
  refine k_bipush (v := 6) f_254_91 (by decide) ?_
  replace hd := obind hd
  obtain ⟨p7, e7, hd⟩ := hd
  refine L_virt (As := [.int a2, .int (6 : Int32)]) f_254_93 ca_12_73 rfl rfl (obL (by decide)) (by decide) (Nat.le_of_ble_eq_true rfl) ?_
  refine t_rM_own e7 ?_
  refine s_iload_n f_254_96 rfl ?_
  refine s_isub f_254_97 ?_
  replace hd := obind hd
  obtain ⟨p8, e8, hd⟩ := hd
  refine L_virt (As := [.int a2, .int (6 : Int32), .int (p7 - a3)]) f_254_98 ca_12_83 rfl rfl (obL (by decide)) (by decide) (Nat.le_of_ble_eq_true rfl) ?_
  refine t_rM_makes e8 ?_
  refine s_aload_n f_254_101 rfl ?_
  refine L_getR f_254_102 fd_12_7 (obL (by decide)) (by decide) (by decide : rf 154 0 = 155) ?_
  refine k_iconst (v := 5) f_254_105 (by decide) ?_
  refine s_dup2 f_254_106 rfl rfl ?_
  refine M_iaload (q := 5) f_254_107 ⟨by decide, by decide, by decide, fun _ => rfl⟩ (Nat.le_of_ble_eq_true rfl : 10759 < 2 ^ 31) (by decide) (by decide) ?_
  refine s_iload_n f_254_108 rfl ?_
  refine s_iadd f_254_109 ?_
  refine M_iastore (q := 5) f_254_110 ⟨by decide, by decide, by decide, fun _ => rfl⟩ (Nat.le_of_ble_eq_true rfl : 10759 < 2 ^ 31) (by decide) (by decide) ?_
  refine s_iload f_254_111 rfl ?_
  refine s_if_lt 191 f_254_113 (by decide) (fun c9 => ?_) (fun c9 => ?_)
  · replace hd := ite_p c9 hd
    refine s_aload_n f_254_191 rfl ?_
    refine s_iload_n f_254_192 rfl ?_
    refine k_bipush (v := 9) f_254_193 (by decide) ?_
    refine s_aload_n f_254_195 rfl ?_
    refine s_iload_n f_254_196 rfl ?_
    refine k_bipush (v := 9) f_254_197 (by decide) ?_
    replace hd := obind hd
    obtain ⟨p10, e10, hd⟩ := hd
    refine L_virt (As := [.int a2, .int (9 : Int32)]) f_254_199 ca_12_73 rfl rfl (obL (by decide)) (by decide) (Nat.le_of_ble_eq_true rfl) ?_
    refine t_rM_own e10 ?_
    refine s_iload f_254_202 rfl ?_
    refine s_iadd f_254_204 ?_
    replace hd := obind hd
    obtain ⟨p11, e11, hd⟩ := hd
    refine L_virt (As := [.int a2, .int (9 : Int32), .int (p10 + a4)]) f_254_205 ca_12_83 rfl rfl (obL (by decide)) (by decide) (Nat.le_of_ble_eq_true rfl) ?_
    refine t_rM_makes e11 ?_
    refine s_iload_n f_254_208 rfl ?_
    refine s_iload f_254_209 rfl ?_
    refine s_iadd f_254_211 ?_
    refine s_istore_n f_254_212 (by decide) ?_
    refine aAt.sub [(0, .ref 154), (1, .int (a1 + a4)), (2, .int a2)] rfl ?_
    exact t_rM_allEat_J213 hk4 _ _ _  _ hd hQ
  · replace hd := ite_n c9 hd
    refine s_aload_n f_254_116 rfl ?_
    refine s_iload f_254_117 rfl ?_
    refine k_bipush (v := 6) f_254_119 (by decide) ?_
    refine s_aload_n f_254_121 rfl ?_
    refine s_iload f_254_122 rfl ?_
    refine k_bipush (v := 6) f_254_124 (by decide) ?_
    replace hd := obind hd
    obtain ⟨p12, e12, hd⟩ := hd
    refine L_virt (As := [.int w0, .int (6 : Int32)]) f_254_126 ca_12_73 rfl rfl (obL (by decide)) (by decide) (Nat.le_of_ble_eq_true rfl) ?_
    refine t_rM_own e12 ?_
    refine s_iload f_254_129 rfl ?_
    refine s_isub f_254_131 ?_
    replace hd := obind hd
    obtain ⟨p13, e13, hd⟩ := hd
    refine L_virt (As := [.int w0, .int (6 : Int32), .int (p12 - a4)]) f_254_132 ca_12_83 rfl rfl (obL (by decide)) (by decide) (Nat.le_of_ble_eq_true rfl) ?_
    refine t_rM_makes e13 ?_
    refine s_aload_n f_254_135 rfl ?_
    refine L_getR f_254_136 fd_12_7 (obL (by decide)) (by decide) (by decide : rf 154 0 = 155) ?_
    refine k_iconst (v := 5) f_254_139 (by decide) ?_
    refine s_dup2 f_254_140 rfl rfl ?_
    refine M_iaload (q := 5) f_254_141 ⟨by decide, by decide, by decide, fun _ => rfl⟩ (Nat.le_of_ble_eq_true rfl : 10759 < 2 ^ 31) (by decide) (by decide) ?_
    refine s_iload f_254_142 rfl ?_
    refine s_iadd f_254_144 ?_
    refine M_iastore (q := 5) f_254_145 ⟨by decide, by decide, by decide, fun _ => rfl⟩ (Nat.le_of_ble_eq_true rfl : 10759 < 2 ^ 31) (by decide) (by decide) ?_
    refine s_aload_n f_254_146 rfl ?_
    refine k_iconst (v := 1) f_254_147 (by decide) ?_
    refine s_iload_n f_254_148 rfl ?_
    refine s_iload f_254_149 rfl ?_
    refine s_iload f_254_151 rfl ?_
    refine s_aload_n f_254_153 rfl ?_
    refine L_getR f_254_154 fd_12_7 (obL (by decide)) (by decide) (by decide : rf 154 0 = 155) ?_
    refine k_iconst (v := 3) f_254_157 (by decide) ?_
    refine M_iaload (q := 3) f_254_158 ⟨by decide, by decide, by decide, fun _ => rfl⟩ (Nat.le_of_ble_eq_true rfl : 10759 < 2 ^ 31) (by decide) (by decide) ?_
    refine k_iconst (v := 5) f_254_159 (by decide) ?_
    refine s_iadd f_254_160 ?_
    refine k_sipush (v := 400) f_254_161 (by decide) ?_
    refine s_icmp_ge 178 f_254_164 (by decide) (fun c14 => ?_) (fun c14 => ?_)
    · replace hd := ite_p c14 hd
      refine k_sipush (v := 400) f_254_178 (by decide) ?_
      refine aAt.sub [(0, .ref 154), (1, .int a1), (2, .int a2)] rfl ?_
      exact t_rM_allEat_J181 hk4 _ _ _ _ _ _ _ _  _ hd hQ
    · replace hd := ite_n c14 hd
      refine s_aload_n f_254_167 rfl ?_
      refine L_getR f_254_168 fd_12_7 (obL (by decide)) (by decide) (by decide : rf 154 0 = 155) ?_
      refine k_iconst (v := 3) f_254_171 (by decide) ?_
      refine M_iaload (q := 3) f_254_172 ⟨by decide, by decide, by decide, fun _ => rfl⟩ (Nat.le_of_ble_eq_true rfl : 10759 < 2 ^ 31) (by decide) (by decide) ?_
      refine k_iconst (v := 5) f_254_173 (by decide) ?_
      refine s_iadd f_254_174 ?_
      refine s_goto 181 f_254_175 (by decide) ?_
      refine aAt.sub [(0, .ref 154), (1, .int a1), (2, .int a2)] rfl ?_
      exact t_rM_allEat_J181 hk4 _ _ _ _ _ _ _ _  _ hd hQ
def rM_allEat_J82 (k4 : SS → Int32 → Int32 → Option (Int32 × SS)) (M : SS) (a1 : Int32) (a2 : Int32) (a3 : Int32) (a4 : Int32) : Option (Int32 × SS) :=
  rM_allEat_J83 k4 M a1 a2 a3 a4 (-1 : Int32)
theorem t_rM_allEat_J82 {l : Launch} {G : aG} {d : Nat} {Q : Option Value → aHeap → Prop} {sl : Nat} {sx : Nat → Int32} {S : SS} {K : KS} {T : TS} {X : XS} {k4 : SS → Int32 → Int32 → Option (Int32 × SS)} (hk4 : ∀ (M : SS) (a1 : Int32) (a2 : Int32) (p : Int32 × SS), k4 M a1 a2 = some p → Q (some (.int p.1)) (LH (old0 sl sx) S K T X p.2) → aAt l G (d + 3) 0 0 254 4 [(0, .ref 154), (1, .int a1), (2, .int a2)] [] 0 0 (LH (old0 sl sx) S K T X M) Q) : ∀ (M : SS) (a1 : Int32) (a2 : Int32) (a3 : Int32) (a4 : Int32) (p : Int32 × SS), rM_allEat_J82 k4 M a1 a2 a3 a4 = some p → Q (some (.int p.1)) (LH (old0 sl sx) S K T X p.2) → aAt l G (d + 3) 0 0 254 82 [(0, .ref 154), (1, .int a1), (2, .int a2), (3, .int a3), (4, .int a4)] [] 0 0 (LH (old0 sl sx) S K T X M) Q := by
  intro M a1 a2 a3 a4 p hd hQ
  unfold rM_allEat_J82 at hd
  refine k_iconst (v := (-1)) f_254_82 (by decide) ?_
  refine aAt.sub [(0, .ref 154), (1, .int a1), (2, .int a2), (3, .int a3), (4, .int a4)] rfl ?_
  exact t_rM_allEat_J83 hk4 _ _ _ _ _ _  _ hd hQ
def rM_allEat_J49 (k4 : SS → Int32 → Int32 → Option (Int32 × SS)) (M : SS) (a1 : Int32) (a2 : Int32) (w0 : Int32) : Option (Int32 × SS) :=
  if ((10 : Int32) - w0) ≤ 0 then
    rM_allEat_J82 k4 M a1 a2 w0 ((10 : Int32) - w0)
  else
    if (20 : Int32) ≤ (M 155 2) then
      rM_allEat_J82 k4 M a1 a2 w0 ((10 : Int32) - w0)
    else
      (rM_lender M a2 ((10 : Int32) - w0)).bind fun p17 =>
      rM_allEat_J83 k4 M a1 a2 w0 ((10 : Int32) - w0) p17
theorem t_rM_allEat_J49 {l : Launch} {G : aG} {d : Nat} {Q : Option Value → aHeap → Prop} {sl : Nat} {sx : Nat → Int32} {S : SS} {K : KS} {T : TS} {X : XS} {k4 : SS → Int32 → Int32 → Option (Int32 × SS)} (hk4 : ∀ (M : SS) (a1 : Int32) (a2 : Int32) (p : Int32 × SS), k4 M a1 a2 = some p → Q (some (.int p.1)) (LH (old0 sl sx) S K T X p.2) → aAt l G (d + 3) 0 0 254 4 [(0, .ref 154), (1, .int a1), (2, .int a2)] [] 0 0 (LH (old0 sl sx) S K T X M) Q) : ∀ (M : SS) (a1 : Int32) (a2 : Int32) (w0 : Int32) (p : Int32 × SS), rM_allEat_J49 k4 M a1 a2 w0 = some p → Q (some (.int p.1)) (LH (old0 sl sx) S K T X p.2) → aAt l G (d + 3) 0 0 254 49 [(0, .ref 154), (1, .int a1), (2, .int a2)] [.int w0] 0 0 (LH (old0 sl sx) S K T X M) Q := by
  intro M a1 a2 w0 p hd hQ
  unfold rM_allEat_J49 at hd
  refine s_istore_n f_254_49 (by decide) ?_
  refine k_bipush (v := 10) f_254_50 (by decide) ?_
  refine s_iload_n f_254_52 rfl ?_
  refine s_isub f_254_53 ?_
  refine s_istore f_254_54 (by decide) ?_
  refine s_iload f_254_56 rfl ?_
  refine s_if_le 82 f_254_58 (by decide) (fun c6 => ?_) (fun c6 => ?_)
  · replace hd := ite_p c6 hd
    refine aAt.sub [(0, .ref 154), (1, .int a1), (2, .int a2), (3, .int w0), (4, .int ((10 : Int32) - w0))] rfl ?_
    exact t_rM_allEat_J82 hk4 _ _ _ _ _  _ hd hQ
  · replace hd := ite_n c6 hd
    refine s_aload_n f_254_61 rfl ?_
    refine L_getR f_254_62 fd_12_7 (obL (by decide)) (by decide) (by decide : rf 154 0 = 155) ?_
    refine k_iconst (v := 2) f_254_65 (by decide) ?_
    refine M_iaload (q := 2) f_254_66 ⟨by decide, by decide, by decide, fun _ => rfl⟩ (Nat.le_of_ble_eq_true rfl : 10759 < 2 ^ 31) (by decide) (by decide) ?_
    refine k_bipush (v := 20) f_254_67 (by decide) ?_
    refine s_icmp_ge 82 f_254_69 (by decide) (fun c16 => ?_) (fun c16 => ?_)
    · replace hd := ite_p c16 hd
      refine aAt.sub [(0, .ref 154), (1, .int a1), (2, .int a2), (3, .int w0), (4, .int ((10 : Int32) - w0))] rfl ?_
      exact t_rM_allEat_J82 hk4 _ _ _ _ _  _ hd hQ
    · replace hd := ite_n c16 hd
      refine s_aload_n f_254_72 rfl ?_
      refine s_iload_n f_254_73 rfl ?_
      refine s_iload f_254_74 rfl ?_
      replace hd := obind hd
      obtain ⟨p17, e17, hd⟩ := hd
      refine L_virt (As := [.int a2, .int ((10 : Int32) - w0)]) f_254_76 ca_12_255 rfl rfl (obL (by decide)) (by decide) (Nat.le_of_ble_eq_true rfl) ?_
      refine t_rM_lender e17 ?_
      refine s_goto 83 f_254_79 (by decide) ?_
      refine aAt.sub [(0, .ref 154), (1, .int a1), (2, .int a2), (3, .int w0), (4, .int ((10 : Int32) - w0))] rfl ?_
      exact t_rM_allEat_J83 hk4 _ _ _ _ _ _  _ hd hQ
def rM_allEat_L4 : Nat → SS → Int32 → Int32 → Option (Int32 × SS)
  | 0, _, _, _ => none
  | n + 1, M, a1, a2 =>
    if (M 155 0) ≤ a2 then
      some (a1, M)
    else
      (rM_lives0 M a2).bind fun p2 =>
      if p2 = true then
        (rM_own M a2 (6 : Int32)).bind fun p4 =>
        if (10 : Int32) ≤ p4 then
          rM_allEat_J49 (rM_allEat_L4  n) M a1 a2 (10 : Int32)
        else
          (rM_own M a2 (6 : Int32)).bind fun p18 =>
          rM_allEat_J49 (rM_allEat_L4  n) M a1 a2 p18
      else
        rM_allEat_J213 (rM_allEat_L4  n) M a1 a2
theorem t_rM_allEat_L4 {l : Launch} {G : aG} {d : Nat} {Q : Option Value → aHeap → Prop} {sl : Nat} {sx : Nat → Int32} {S : SS} {K : KS} {T : TS} {X : XS} : ∀ (n : Nat), ∀ (M : SS) (a1 : Int32) (a2 : Int32) (p : Int32 × SS), rM_allEat_L4 n M a1 a2 = some p → Q (some (.int p.1)) (LH (old0 sl sx) S K T X p.2) → aAt l G (d + 3) 0 0 254 4 [(0, .ref 154), (1, .int a1), (2, .int a2)] [] 0 0 (LH (old0 sl sx) S K T X M) Q := by
  intro n
  induction n with
  | zero =>
    intro M a1 a2 p hd hQ
    rw [rM_allEat_L4] at hd
    cases hd
  | succ n ih =>
    intro M a1 a2 p hd hQ
    rw [rM_allEat_L4] at hd
    refine s_iload_n f_254_4 rfl ?_
    refine s_aload_n f_254_5 rfl ?_
    refine L_getR f_254_6 fd_12_7 (obL (by decide)) (by decide) (by decide : rf 154 0 = 155) ?_
    refine k_iconst (v := 0) f_254_9 (by decide) ?_
    refine M_iaload (q := 0) f_254_10 ⟨by decide, by decide, by decide, fun _ => rfl⟩ (Nat.le_of_ble_eq_true rfl : 10759 < 2 ^ 31) (by decide) (by decide) ?_
    refine s_icmp_ge 219 f_254_11 (by decide) (fun c1 => ?_) (fun c1 => ?_)
    · replace hd := ite_p c1 hd
      refine s_iload_n f_254_219 rfl ?_
      refine s_ireturn f_254_220 rfl rfl ?_
      cases hd
      exact hQ
    · replace hd := ite_n c1 hd
      refine s_aload_n f_254_14 rfl ?_
      refine s_iload_n f_254_15 rfl ?_
      replace hd := obind hd
      obtain ⟨p2, e2, hd⟩ := hd
      refine L_virt (As := [.int a2]) f_254_16 ca_12_91 rfl rfl (obL (by decide)) (by decide) (Nat.le_of_ble_eq_true rfl) ?_
      refine t_rM_lives0 e2 ?_
      refine z_if_ne 25 f_254_19 (by decide) (fun c3 => ?_) (fun c3 => ?_)
      · replace hd := ite_p c3 hd
        refine s_aload_n f_254_25 rfl ?_
        refine s_iload_n f_254_26 rfl ?_
        refine k_bipush (v := 6) f_254_27 (by decide) ?_
        replace hd := obind hd
        obtain ⟨p4, e4, hd⟩ := hd
        refine L_virt (As := [.int a2, .int (6 : Int32)]) f_254_29 ca_12_73 rfl rfl (obL (by decide)) (by decide) (Nat.le_of_ble_eq_true rfl) ?_
        refine t_rM_own e4 ?_
        refine k_bipush (v := 10) f_254_32 (by decide) ?_
        refine s_icmp_ge 47 f_254_34 (by decide) (fun c5 => ?_) (fun c5 => ?_)
        · replace hd := ite_p c5 hd
          refine k_bipush (v := 10) f_254_47 (by decide) ?_
          refine aAt.sub [(0, .ref 154), (1, .int a1), (2, .int a2)] rfl ?_
          exact t_rM_allEat_J49 ih _ _ _ _  _ hd hQ
        · replace hd := ite_n c5 hd
          refine s_aload_n f_254_37 rfl ?_
          refine s_iload_n f_254_38 rfl ?_
          refine k_bipush (v := 6) f_254_39 (by decide) ?_
          replace hd := obind hd
          obtain ⟨p18, e18, hd⟩ := hd
          refine L_virt (As := [.int a2, .int (6 : Int32)]) f_254_41 ca_12_73 rfl rfl (obL (by decide)) (by decide) (Nat.le_of_ble_eq_true rfl) ?_
          refine t_rM_own e18 ?_
          refine s_goto 49 f_254_44 (by decide) ?_
          refine aAt.sub [(0, .ref 154), (1, .int a1), (2, .int a2)] rfl ?_
          exact t_rM_allEat_J49 ih _ _ _ _  _ hd hQ
      · replace hd := ite_n c3 hd
        refine s_goto 213 f_254_22 (by decide) ?_
        refine aAt.sub [(0, .ref 154), (1, .int a1), (2, .int a2)] rfl ?_
        exact t_rM_allEat_J213 ih _ _ _  _ hd hQ
def rM_allEat (M : SS) : Option (Int32 × SS) :=
  rM_allEat_L4 FU M (0 : Int32) (0 : Int32)
theorem t_rM_allEat {l : Launch} {G : aG} {d : Nat} {Q : Option Value → aHeap → Prop} {sl : Nat} {sx : Nat → Int32} {S : SS} {K : KS} {T : TS} {X : XS} {M : SS} {p : Int32 × SS} (hd : rM_allEat M = some p) (hQ : Q (some (.int p.1)) (LH (old0 sl sx) S K T X p.2)) : aCall l G (d + 3) 0 0 254 [.ref 154] (LH (old0 sl sx) S K T X M) Q := by
  refine aCall.of (by decide) (Nat.le_of_ble_eq_true rfl) ?_
  refine aAt.sub [(0, .ref 154)] rfl ?_
  unfold rM_allEat at hd
  refine k_iconst (v := 0) f_254_0 (by decide) ?_
  refine s_istore_n f_254_1 (by decide) ?_
  refine k_iconst (v := 0) f_254_2 (by decide) ?_
  refine s_istore_n f_254_3 (by decide) ?_
  refine aAt.sub [(0, .ref 154), (1, .int (0 : Int32)), (2, .int (0 : Int32))] rfl ?_
  exact t_rM_allEat_L4 FU _ _ _  _ hd hQ

def rM_allPay_J177 (k2 : SS → Int32 → Option (SS)) (M : SS) (a1 : Int32) : Option (SS) :=
  k2 M (a1 + 1)
theorem t_rM_allPay_J177 {l : Launch} {G : aG} {d : Nat} {Q : Option Value → aHeap → Prop} {sl : Nat} {sx : Nat → Int32} {S : SS} {K : KS} {T : TS} {X : XS} {k2 : SS → Int32 → Option (SS)} (hk2 : ∀ (M : SS) (a1 : Int32) (p : SS), k2 M a1 = some p → Q none (LH (old0 sl sx) S K T X p) → aAt l G (d + 4) 0 0 256 2 [(0, .ref 154), (1, .int a1)] [] 0 0 (LH (old0 sl sx) S K T X M) Q) : ∀ (M : SS) (a1 : Int32) (p : SS), rM_allPay_J177 k2 M a1 = some p → Q none (LH (old0 sl sx) S K T X p) → aAt l G (d + 4) 0 0 256 177 [(0, .ref 154), (1, .int a1)] [] 0 0 (LH (old0 sl sx) S K T X M) Q := by
  intro M a1 p hd hQ
  unfold rM_allPay_J177 at hd
  refine k_iinc (w := 1) f_256_177 rfl (by decide) (by decide) ?_
  refine s_goto 2 f_256_180 (by decide) ?_
  refine aAt.sub [(0, .ref 154), (1, .int (a1 + 1))] rfl ?_
  exact hk2 _ _  _ hd hQ
def rM_allPay_J100 (k2 : SS → Int32 → Option (SS)) (M : SS) (a1 : Int32) (w1 : Int32) (w2 : Int32) : Option (SS) :=
  (rM_pays0 M w1 w2).bind fun p14 =>
  (rM_isOpen p14 a1).bind fun p15 =>
  if p15 = true then
    (rM_of p14 a1 (0 : Int32)).bind fun p17 =>
    if p17 = (2 : Int32) then
      (rM_of p14 a1 (7 : Int32)).bind fun p19 =>
      (rM_ofField p14 p19 (2 : Int32)).bind fun p20 =>
      (rM_of p14 a1 (1 : Int32)).bind fun p21 =>
      if p20 = p21 then
        (rM_of p14 a1 (7 : Int32)).bind fun p23 =>
        (rM_of p14 a1 (2 : Int32)).bind fun p24 =>
        if inb (((150 : Int32) + ((4 : Int32) * p23)) + (2 : Int32)) 10759 then
          (rM_closes (up p14 155 (ix (((150 : Int32) + ((4 : Int32) * p23)) + (2 : Int32))) p24) a1 (1 : Int32)).bind fun p26 =>
          rM_allPay_J177 k2 p26 a1
        else none
      else
        rM_allPay_J177 k2 p14 a1
    else
      rM_allPay_J177 k2 p14 a1
  else
    rM_allPay_J177 k2 p14 a1
theorem t_rM_allPay_J100 {l : Launch} {G : aG} {d : Nat} {Q : Option Value → aHeap → Prop} {sl : Nat} {sx : Nat → Int32} {S : SS} {K : KS} {T : TS} {X : XS} {k2 : SS → Int32 → Option (SS)} (hk2 : ∀ (M : SS) (a1 : Int32) (p : SS), k2 M a1 = some p → Q none (LH (old0 sl sx) S K T X p) → aAt l G (d + 4) 0 0 256 2 [(0, .ref 154), (1, .int a1)] [] 0 0 (LH (old0 sl sx) S K T X M) Q) : ∀ (M : SS) (a1 : Int32) (w1 : Int32) (w2 : Int32) (p : SS), rM_allPay_J100 k2 M a1 w1 w2 = some p → Q none (LH (old0 sl sx) S K T X p) → aAt l G (d + 4) 0 0 256 100 [(0, .ref 154), (1, .int a1)] [.int w2, .int w1, .ref 154] 0 0 (LH (old0 sl sx) S K T X M) Q := by
  intro M a1 w1 w2 p hd hQ
  unfold rM_allPay_J100 at hd
  replace hd := obind hd
  obtain ⟨p14, e14, hd⟩ := hd
  refine L_virt (As := [.int w1, .int w2]) f_256_100 ca_12_158 rfl rfl (obL (by decide)) (by decide) (Nat.le_of_ble_eq_true rfl) ?_
  refine t_rM_pays0 e14 ?_
  refine s_aload_n f_256_103 rfl ?_
  refine s_iload_n f_256_104 rfl ?_
  replace hd := obind hd
  obtain ⟨p15, e15, hd⟩ := hd
  refine L_virt (As := [.int a1]) f_256_105 ca_12_95 rfl rfl (obL (by decide)) (by decide) (Nat.le_of_ble_eq_true rfl) ?_
  refine t_rM_isOpen e15 ?_
  refine z_if_eq 177 f_256_108 (by decide) (fun c16 => ?_) (fun c16 => ?_)
  · replace hd := ite_n c16 hd
    refine aAt.sub [(0, .ref 154), (1, .int a1)] rfl ?_
    exact t_rM_allPay_J177 hk2 _ _  _ hd hQ
  · replace hd := ite_p c16 hd
    refine s_aload_n f_256_111 rfl ?_
    refine s_iload_n f_256_112 rfl ?_
    refine k_iconst (v := 0) f_256_113 (by decide) ?_
    replace hd := obind hd
    obtain ⟨p17, e17, hd⟩ := hd
    refine L_virt (As := [.int a1, .int (0 : Int32)]) f_256_114 ca_12_98 rfl rfl (obL (by decide)) (by decide) (Nat.le_of_ble_eq_true rfl) ?_
    refine t_rM_of e17 ?_
    refine k_iconst (v := 2) f_256_117 (by decide) ?_
    refine s_icmp_ne 177 f_256_118 (by decide) (fun c18 => ?_) (fun c18 => ?_)
    · replace hd := ite_n c18 hd
      refine aAt.sub [(0, .ref 154), (1, .int a1)] rfl ?_
      exact t_rM_allPay_J177 hk2 _ _  _ hd hQ
    · replace hd := ite_p c18 hd
      refine s_aload_n f_256_121 rfl ?_
      refine s_aload_n f_256_122 rfl ?_
      refine s_iload_n f_256_123 rfl ?_
      refine k_bipush (v := 7) f_256_124 (by decide) ?_
      replace hd := obind hd
      obtain ⟨p19, e19, hd⟩ := hd
      refine L_virt (As := [.int a1, .int (7 : Int32)]) f_256_126 ca_12_98 rfl rfl (obL (by decide)) (by decide) (Nat.le_of_ble_eq_true rfl) ?_
      refine t_rM_of e19 ?_
      refine k_iconst (v := 2) f_256_129 (by decide) ?_
      replace hd := obind hd
      obtain ⟨p20, e20, hd⟩ := hd
      refine L_virt (As := [.int p19, .int (2 : Int32)]) f_256_130 ca_12_111 rfl rfl (obL (by decide)) (by decide) (Nat.le_of_ble_eq_true rfl) ?_
      refine t_rM_ofField e20 ?_
      refine s_aload_n f_256_133 rfl ?_
      refine s_iload_n f_256_134 rfl ?_
      refine k_iconst (v := 1) f_256_135 (by decide) ?_
      replace hd := obind hd
      obtain ⟨p21, e21, hd⟩ := hd
      refine L_virt (As := [.int a1, .int (1 : Int32)]) f_256_136 ca_12_98 rfl rfl (obL (by decide)) (by decide) (Nat.le_of_ble_eq_true rfl) ?_
      refine t_rM_of e21 ?_
      refine s_icmp_eq 145 f_256_139 (by decide) (fun c22 => ?_) (fun c22 => ?_)
      · replace hd := ite_p c22 hd
        refine s_aload_n f_256_145 rfl ?_
        refine L_getR f_256_146 fd_12_7 (obL (by decide)) (by decide) (by decide : rf 154 0 = 155) ?_
        refine k_sipush (v := 150) f_256_149 (by decide) ?_
        refine k_iconst (v := 4) f_256_152 (by decide) ?_
        refine s_aload_n f_256_153 rfl ?_
        refine s_iload_n f_256_154 rfl ?_
        refine k_bipush (v := 7) f_256_155 (by decide) ?_
        replace hd := obind hd
        obtain ⟨p23, e23, hd⟩ := hd
        refine L_virt (As := [.int a1, .int (7 : Int32)]) f_256_157 ca_12_98 rfl rfl (obL (by decide)) (by decide) (Nat.le_of_ble_eq_true rfl) ?_
        refine t_rM_of e23 ?_
        refine s_imul f_256_160 ?_
        refine s_iadd f_256_161 ?_
        refine k_iconst (v := 2) f_256_162 (by decide) ?_
        refine s_iadd f_256_163 ?_
        refine s_aload_n f_256_164 rfl ?_
        refine s_iload_n f_256_165 rfl ?_
        refine k_iconst (v := 2) f_256_166 (by decide) ?_
        replace hd := obind hd
        obtain ⟨p24, e24, hd⟩ := hd
        refine L_virt (As := [.int a1, .int (2 : Int32)]) f_256_167 ca_12_98 rfl rfl (obL (by decide)) (by decide) (Nat.le_of_ble_eq_true rfl) ?_
        refine t_rM_of e24 ?_
        replace hd := gd hd
        obtain ⟨g25, hd⟩ := hd
        refine M_iastore (q := (ix (((150 : Int32) + ((4 : Int32) * p23)) + (2 : Int32)))) f_256_170 ⟨by decide, by decide, by decide, fun _ => rfl⟩ (Nat.le_of_ble_eq_true rfl : 10759 < 2 ^ 31) rfl g25 ?_
        refine s_aload_n f_256_171 rfl ?_
        refine s_iload_n f_256_172 rfl ?_
        refine k_iconst (v := 1) f_256_173 (by decide) ?_
        replace hd := obind hd
        obtain ⟨p26, e26, hd⟩ := hd
        refine L_virt (As := [.int a1, .int (1 : Int32)]) f_256_174 ca_12_155 rfl rfl (obL (by decide)) (by decide) (Nat.le_of_ble_eq_true rfl) ?_
        refine t_rM_closes e26 ?_
        refine aAt.sub [(0, .ref 154), (1, .int a1)] rfl ?_
        exact t_rM_allPay_J177 hk2 _ _  _ hd hQ
      · replace hd := ite_n c22 hd
        refine s_goto 177 f_256_142 (by decide) ?_
        refine aAt.sub [(0, .ref 154), (1, .int a1)] rfl ?_
        exact t_rM_allPay_J177 hk2 _ _  _ hd hQ
def rM_allPay_J79 (k2 : SS → Int32 → Option (SS)) (M : SS) (a1 : Int32) (w0 : Int32) : Option (SS) :=
  (rM_of M a1 (1 : Int32)).bind fun p11 =>
  (rM_lives0 M p11).bind fun p12 =>
  if p12 = true then
    rM_allPay_J100 k2 M a1 a1 w0
  else
    rM_allPay_J100 k2 M a1 a1 (0 : Int32)
theorem t_rM_allPay_J79 {l : Launch} {G : aG} {d : Nat} {Q : Option Value → aHeap → Prop} {sl : Nat} {sx : Nat → Int32} {S : SS} {K : KS} {T : TS} {X : XS} {k2 : SS → Int32 → Option (SS)} (hk2 : ∀ (M : SS) (a1 : Int32) (p : SS), k2 M a1 = some p → Q none (LH (old0 sl sx) S K T X p) → aAt l G (d + 4) 0 0 256 2 [(0, .ref 154), (1, .int a1)] [] 0 0 (LH (old0 sl sx) S K T X M) Q) : ∀ (M : SS) (a1 : Int32) (w0 : Int32) (p : SS), rM_allPay_J79 k2 M a1 w0 = some p → Q none (LH (old0 sl sx) S K T X p) → aAt l G (d + 4) 0 0 256 79 [(0, .ref 154), (1, .int a1)] [.int w0] 0 0 (LH (old0 sl sx) S K T X M) Q := by
  intro M a1 w0 p hd hQ
  unfold rM_allPay_J79 at hd
  refine s_istore_n f_256_79 (by decide) ?_
  refine s_aload_n f_256_80 rfl ?_
  refine s_iload_n f_256_81 rfl ?_
  refine s_aload_n f_256_82 rfl ?_
  refine s_aload_n f_256_83 rfl ?_
  refine s_iload_n f_256_84 rfl ?_
  refine k_iconst (v := 1) f_256_85 (by decide) ?_
  replace hd := obind hd
  obtain ⟨p11, e11, hd⟩ := hd
  refine L_virt (As := [.int a1, .int (1 : Int32)]) f_256_86 ca_12_98 rfl rfl (obL (by decide)) (by decide) (Nat.le_of_ble_eq_true rfl) ?_
  refine t_rM_of e11 ?_
  replace hd := obind hd
  obtain ⟨p12, e12, hd⟩ := hd
  refine L_virt (As := [.int p11]) f_256_89 ca_12_91 rfl rfl (obL (by decide)) (by decide) (Nat.le_of_ble_eq_true rfl) ?_
  refine t_rM_lives0 e12 ?_
  refine z_if_eq 99 f_256_92 (by decide) (fun c13 => ?_) (fun c13 => ?_)
  · replace hd := ite_n c13 hd
    refine k_iconst (v := 0) f_256_99 (by decide) ?_
    refine aAt.sub [(0, .ref 154), (1, .int a1)] rfl ?_
    exact t_rM_allPay_J100 hk2 _ _ _ _  _ hd hQ
  · replace hd := ite_p c13 hd
    refine s_iload_n f_256_95 rfl ?_
    refine s_goto 100 f_256_96 (by decide) ?_
    refine aAt.sub [(0, .ref 154), (1, .int a1)] rfl ?_
    exact t_rM_allPay_J100 hk2 _ _ _ _  _ hd hQ
def rM_allPay_L2 : Nat → SS → Int32 → Option (SS)
  | 0, _, _ => none
  | n + 1, M, a1 =>
    if (M 155 2) ≤ a1 then
      some M
    else
      (rM_isOpen M a1).bind fun p2 =>
      if p2 = true then
        (rM_of M a1 (6 : Int32)).bind fun p4 =>
        if p4 ≤ (M 155 3) then
          (rM_of M a1 (1 : Int32)).bind fun p6 =>
          (rM_own M p6 (6 : Int32)).bind fun p7 =>
          (rM_owed M a1).bind fun p8 =>
          if p8 ≤ p7 then
            (rM_owed M a1).bind fun p10 =>
            rM_allPay_J79 (rM_allPay_L2  n) M a1 p10
          else
            (rM_of M a1 (1 : Int32)).bind fun p27 =>
            (rM_own M p27 (6 : Int32)).bind fun p28 =>
            rM_allPay_J79 (rM_allPay_L2  n) M a1 p28
        else
          rM_allPay_J177 (rM_allPay_L2  n) M a1
      else
        rM_allPay_J177 (rM_allPay_L2  n) M a1
theorem t_rM_allPay_L2 {l : Launch} {G : aG} {d : Nat} {Q : Option Value → aHeap → Prop} {sl : Nat} {sx : Nat → Int32} {S : SS} {K : KS} {T : TS} {X : XS} : ∀ (n : Nat), ∀ (M : SS) (a1 : Int32) (p : SS), rM_allPay_L2 n M a1 = some p → Q none (LH (old0 sl sx) S K T X p) → aAt l G (d + 4) 0 0 256 2 [(0, .ref 154), (1, .int a1)] [] 0 0 (LH (old0 sl sx) S K T X M) Q := by
  intro n
  induction n with
  | zero =>
    intro M a1 p hd hQ
    rw [rM_allPay_L2] at hd
    cases hd
  | succ n ih =>
    intro M a1 p hd hQ
    rw [rM_allPay_L2] at hd
    refine s_iload_n f_256_2 rfl ?_
    refine s_aload_n f_256_3 rfl ?_
    refine L_getR f_256_4 fd_12_7 (obL (by decide)) (by decide) (by decide : rf 154 0 = 155) ?_
    refine k_iconst (v := 2) f_256_7 (by decide) ?_
    refine M_iaload (q := 2) f_256_8 ⟨by decide, by decide, by decide, fun _ => rfl⟩ (Nat.le_of_ble_eq_true rfl : 10759 < 2 ^ 31) (by decide) (by decide) ?_
    refine s_icmp_ge 183 f_256_9 (by decide) (fun c1 => ?_) (fun c1 => ?_)
    · replace hd := ite_p c1 hd
      refine s_return f_256_183 rfl ?_
      cases hd
      exact hQ
    · replace hd := ite_n c1 hd
      refine s_aload_n f_256_12 rfl ?_
      refine s_iload_n f_256_13 rfl ?_
      replace hd := obind hd
      obtain ⟨p2, e2, hd⟩ := hd
      refine L_virt (As := [.int a1]) f_256_14 ca_12_95 rfl rfl (obL (by decide)) (by decide) (Nat.le_of_ble_eq_true rfl) ?_
      refine t_rM_isOpen e2 ?_
      refine z_if_eq 177 f_256_17 (by decide) (fun c3 => ?_) (fun c3 => ?_)
      · replace hd := ite_n c3 hd
        refine aAt.sub [(0, .ref 154), (1, .int a1)] rfl ?_
        exact t_rM_allPay_J177 ih _ _  _ hd hQ
      · replace hd := ite_p c3 hd
        refine s_aload_n f_256_20 rfl ?_
        refine s_iload_n f_256_21 rfl ?_
        refine k_bipush (v := 6) f_256_22 (by decide) ?_
        replace hd := obind hd
        obtain ⟨p4, e4, hd⟩ := hd
        refine L_virt (As := [.int a1, .int (6 : Int32)]) f_256_24 ca_12_98 rfl rfl (obL (by decide)) (by decide) (Nat.le_of_ble_eq_true rfl) ?_
        refine t_rM_of e4 ?_
        refine s_aload_n f_256_27 rfl ?_
        refine L_getR f_256_28 fd_12_7 (obL (by decide)) (by decide) (by decide : rf 154 0 = 155) ?_
        refine k_iconst (v := 3) f_256_31 (by decide) ?_
        refine M_iaload (q := 3) f_256_32 ⟨by decide, by decide, by decide, fun _ => rfl⟩ (Nat.le_of_ble_eq_true rfl : 10759 < 2 ^ 31) (by decide) (by decide) ?_
        refine s_icmp_le 39 f_256_33 (by decide) (fun c5 => ?_) (fun c5 => ?_)
        · replace hd := ite_p c5 hd
          refine s_aload_n f_256_39 rfl ?_
          refine s_aload_n f_256_40 rfl ?_
          refine s_iload_n f_256_41 rfl ?_
          refine k_iconst (v := 1) f_256_42 (by decide) ?_
          replace hd := obind hd
          obtain ⟨p6, e6, hd⟩ := hd
          refine L_virt (As := [.int a1, .int (1 : Int32)]) f_256_43 ca_12_98 rfl rfl (obL (by decide)) (by decide) (Nat.le_of_ble_eq_true rfl) ?_
          refine t_rM_of e6 ?_
          refine k_bipush (v := 6) f_256_46 (by decide) ?_
          replace hd := obind hd
          obtain ⟨p7, e7, hd⟩ := hd
          refine L_virt (As := [.int p6, .int (6 : Int32)]) f_256_48 ca_12_73 rfl rfl (obL (by decide)) (by decide) (Nat.le_of_ble_eq_true rfl) ?_
          refine t_rM_own e7 ?_
          refine s_aload_n f_256_51 rfl ?_
          refine s_iload_n f_256_52 rfl ?_
          replace hd := obind hd
          obtain ⟨p8, e8, hd⟩ := hd
          refine L_virt (As := [.int a1]) f_256_53 ca_12_101 rfl rfl (obL (by decide)) (by decide) (Nat.le_of_ble_eq_true rfl) ?_
          refine t_rM_owed e8 ?_
          refine s_icmp_ge 74 f_256_56 (by decide) (fun c9 => ?_) (fun c9 => ?_)
          · replace hd := ite_p c9 hd
            refine s_aload_n f_256_74 rfl ?_
            refine s_iload_n f_256_75 rfl ?_
            replace hd := obind hd
            obtain ⟨p10, e10, hd⟩ := hd
            refine L_virt (As := [.int a1]) f_256_76 ca_12_101 rfl rfl (obL (by decide)) (by decide) (Nat.le_of_ble_eq_true rfl) ?_
            refine t_rM_owed e10 ?_
            refine aAt.sub [(0, .ref 154), (1, .int a1)] rfl ?_
            exact t_rM_allPay_J79 ih _ _ _  _ hd hQ
          · replace hd := ite_n c9 hd
            refine s_aload_n f_256_59 rfl ?_
            refine s_aload_n f_256_60 rfl ?_
            refine s_iload_n f_256_61 rfl ?_
            refine k_iconst (v := 1) f_256_62 (by decide) ?_
            replace hd := obind hd
            obtain ⟨p27, e27, hd⟩ := hd
            refine L_virt (As := [.int a1, .int (1 : Int32)]) f_256_63 ca_12_98 rfl rfl (obL (by decide)) (by decide) (Nat.le_of_ble_eq_true rfl) ?_
            refine t_rM_of e27 ?_
            refine k_bipush (v := 6) f_256_66 (by decide) ?_
            replace hd := obind hd
            obtain ⟨p28, e28, hd⟩ := hd
            refine L_virt (As := [.int p27, .int (6 : Int32)]) f_256_68 ca_12_73 rfl rfl (obL (by decide)) (by decide) (Nat.le_of_ble_eq_true rfl) ?_
            refine t_rM_own e28 ?_
            refine s_goto 79 f_256_71 (by decide) ?_
            refine aAt.sub [(0, .ref 154), (1, .int a1)] rfl ?_
            exact t_rM_allPay_J79 ih _ _ _  _ hd hQ
        · replace hd := ite_n c5 hd
          refine s_goto 177 f_256_36 (by decide) ?_
          refine aAt.sub [(0, .ref 154), (1, .int a1)] rfl ?_
          exact t_rM_allPay_J177 ih _ _  _ hd hQ
def rM_allPay (M : SS) : Option (SS) :=
  rM_allPay_L2 FU M (0 : Int32)
theorem t_rM_allPay {l : Launch} {G : aG} {d : Nat} {Q : Option Value → aHeap → Prop} {sl : Nat} {sx : Nat → Int32} {S : SS} {K : KS} {T : TS} {X : XS} {M : SS} {p : SS} (hd : rM_allPay M = some p) (hQ : Q none (LH (old0 sl sx) S K T X p)) : aCall l G (d + 4) 0 0 256 [.ref 154] (LH (old0 sl sx) S K T X M) Q := by
  refine aCall.of (by decide) (Nat.le_of_ble_eq_true rfl) ?_
  refine aAt.sub [(0, .ref 154)] rfl ?_
  unfold rM_allPay at hd
  refine k_iconst (v := 0) f_256_0 (by decide) ?_
  refine s_istore_n f_256_1 (by decide) ?_
  refine aAt.sub [(0, .ref 154), (1, .int (0 : Int32))] rfl ?_
  exact t_rM_allPay_L2 FU _ _  _ hd hQ

def rM_strikes_J135 (k57 : SS → Int32 → Option (SS)) (M : SS) (a1 : Int32) : Option (SS) :=
  k57 M (a1 + 1)
theorem t_rM_strikes_J135 {l : Launch} {G : aG} {d : Nat} {Q : Option Value → aHeap → Prop} {sl : Nat} {sx : Nat → Int32} {S : SS} {K : KS} {T : TS} {X : XS} {k57 : SS → Int32 → Option (SS)} (hk57 : ∀ (M : SS) (a1 : Int32) (p : SS), k57 M a1 = some p → Q none (LH (old0 sl sx) S K T X p) → aAt l G (d + 5) 0 0 257 57 [(0, .ref 154), (1, .int a1)] [] 0 0 (LH (old0 sl sx) S K T X M) Q) : ∀ (M : SS) (a1 : Int32) (p : SS), rM_strikes_J135 k57 M a1 = some p → Q none (LH (old0 sl sx) S K T X p) → aAt l G (d + 5) 0 0 257 135 [(0, .ref 154), (1, .int a1)] [] 0 0 (LH (old0 sl sx) S K T X M) Q := by
  intro M a1 p hd hQ
  unfold rM_strikes_J135 at hd
  refine k_iinc (w := 1) f_257_135 rfl (by decide) (by decide) ?_
  refine s_goto 57 f_257_138 (by decide) ?_
  refine aAt.sub [(0, .ref 154), (1, .int (a1 + 1))] rfl ?_
  exact hk57 _ _  _ hd hQ
def rM_strikes_L106 (k57 : SS → Int32 → Option (SS)) : Nat → SS → Int32 → Int32 → Int32 → Option (SS)
  | 0, _, _, _, _ => none
  | n + 1, M, a1, a2, a3 =>
    if ((a2 >>> (a3 &&& 31)) &&& (1 : Int32)) = 0 then
      rM_strikes_L106 k57  n M a1 a2 (a3 + 1)
    else
      if inb (((150 : Int32) + ((4 : Int32) * a1)) + (2 : Int32)) 10759 then
        rM_strikes_J135 k57 (up M 155 (ix (((150 : Int32) + ((4 : Int32) * a1)) + (2 : Int32))) a3) a1
      else none
theorem t_rM_strikes_L106 {l : Launch} {G : aG} {d : Nat} {Q : Option Value → aHeap → Prop} {sl : Nat} {sx : Nat → Int32} {S : SS} {K : KS} {T : TS} {X : XS} {k57 : SS → Int32 → Option (SS)} (hk57 : ∀ (M : SS) (a1 : Int32) (p : SS), k57 M a1 = some p → Q none (LH (old0 sl sx) S K T X p) → aAt l G (d + 5) 0 0 257 57 [(0, .ref 154), (1, .int a1)] [] 0 0 (LH (old0 sl sx) S K T X M) Q) : ∀ (n : Nat), ∀ (M : SS) (a1 : Int32) (a2 : Int32) (a3 : Int32) (p : SS), rM_strikes_L106 k57 n M a1 a2 a3 = some p → Q none (LH (old0 sl sx) S K T X p) → aAt l G (d + 5) 0 0 257 106 [(0, .ref 154), (1, .int a1), (2, .int a2), (3, .int a3)] [] 0 0 (LH (old0 sl sx) S K T X M) Q := by
  intro n
  induction n with
  | zero =>
    intro M a1 a2 a3 p hd hQ
    rw [rM_strikes_L106] at hd
    cases hd
  | succ n ih =>
    intro M a1 a2 a3 p hd hQ
    rw [rM_strikes_L106] at hd
    refine s_iload_n f_257_106 rfl ?_
    refine s_iload_n f_257_107 rfl ?_
    refine s_ishr f_257_108 ?_
    refine k_iconst (v := 1) f_257_109 (by decide) ?_
    refine s_iand f_257_110 ?_
    refine s_if_ne 120 f_257_111 (by decide) (fun c6 => ?_) (fun c6 => ?_)
    · replace hd := ite_n c6 hd
      refine s_aload_n f_257_120 rfl ?_
      refine L_getR f_257_121 fd_12_7 (obL (by decide)) (by decide) (by decide : rf 154 0 = 155) ?_
      refine k_sipush (v := 150) f_257_124 (by decide) ?_
      refine k_iconst (v := 4) f_257_127 (by decide) ?_
      refine s_iload_n f_257_128 rfl ?_
      refine s_imul f_257_129 ?_
      refine s_iadd f_257_130 ?_
      refine k_iconst (v := 2) f_257_131 (by decide) ?_
      refine s_iadd f_257_132 ?_
      refine s_iload_n f_257_133 rfl ?_
      replace hd := gd hd
      obtain ⟨g7, hd⟩ := hd
      refine M_iastore (q := (ix (((150 : Int32) + ((4 : Int32) * a1)) + (2 : Int32)))) f_257_134 ⟨by decide, by decide, by decide, fun _ => rfl⟩ (Nat.le_of_ble_eq_true rfl : 10759 < 2 ^ 31) rfl g7 ?_
      refine aAt.sub [(0, .ref 154), (1, .int a1)] rfl ?_
      exact t_rM_strikes_J135 hk57 _ _  _ hd hQ
    · replace hd := ite_p c6 hd
      refine k_iinc (w := 1) f_257_114 rfl (by decide) (by decide) ?_
      refine s_goto 106 f_257_117 (by decide) ?_
      refine aAt.sub [(0, .ref 154), (1, .int a1), (2, .int a2), (3, .int (a3 + 1))] rfl ?_
      exact ih _ _ _ _  _ hd hQ
def rM_strikes_J96 (k57 : SS → Int32 → Option (SS)) (M : SS) (a1 : Int32) (w0 : Int32) : Option (SS) :=
  if w0 = 0 then
    rM_strikes_J135 k57 M a1
  else
    rM_strikes_L106 k57 FU M a1 w0 (0 : Int32)
theorem t_rM_strikes_J96 {l : Launch} {G : aG} {d : Nat} {Q : Option Value → aHeap → Prop} {sl : Nat} {sx : Nat → Int32} {S : SS} {K : KS} {T : TS} {X : XS} {k57 : SS → Int32 → Option (SS)} (hk57 : ∀ (M : SS) (a1 : Int32) (p : SS), k57 M a1 = some p → Q none (LH (old0 sl sx) S K T X p) → aAt l G (d + 5) 0 0 257 57 [(0, .ref 154), (1, .int a1)] [] 0 0 (LH (old0 sl sx) S K T X M) Q) : ∀ (M : SS) (a1 : Int32) (w0 : Int32) (p : SS), rM_strikes_J96 k57 M a1 w0 = some p → Q none (LH (old0 sl sx) S K T X p) → aAt l G (d + 5) 0 0 257 96 [(0, .ref 154), (1, .int a1)] [.int w0] 0 0 (LH (old0 sl sx) S K T X M) Q := by
  intro M a1 w0 p hd hQ
  unfold rM_strikes_J96 at hd
  refine s_istore_n f_257_96 (by decide) ?_
  refine s_iload_n f_257_97 rfl ?_
  refine s_if_ne 104 f_257_98 (by decide) (fun c5 => ?_) (fun c5 => ?_)
  · replace hd := ite_n c5 hd
    refine k_iconst (v := 0) f_257_104 (by decide) ?_
    refine s_istore_n f_257_105 (by decide) ?_
    refine aAt.sub [(0, .ref 154), (1, .int a1), (2, .int w0), (3, .int (0 : Int32))] rfl ?_
    exact t_rM_strikes_L106 hk57 FU _ _ _ _  _ hd hQ
  · replace hd := ite_p c5 hd
    refine s_goto 135 f_257_101 (by decide) ?_
    refine aAt.sub [(0, .ref 154), (1, .int a1)] rfl ?_
    exact t_rM_strikes_J135 hk57 _ _  _ hd hQ
def rM_strikes_L57 : Nat → SS → Int32 → Option (SS)
  | 0, _, _ => none
  | n + 1, M, a1 =>
    if (M 155 1) ≤ a1 then
      some M
    else
      (rM_goesBack M a1 (0 : Int32) (M 155 3)).bind fun p3 =>
      if p3.1 = true then
        (rM_ofField p3.2 a1 (1 : Int32)).bind fun p8 =>
        (rM_heirsOf p3.2 p8).bind fun p9 =>
        rM_strikes_J96 (rM_strikes_L57  n) p9.2 a1 p9.1
      else
        rM_strikes_J96 (rM_strikes_L57  n) p3.2 a1 (0 : Int32)
theorem t_rM_strikes_L57 {l : Launch} {G : aG} {d : Nat} {Q : Option Value → aHeap → Prop} {sl : Nat} {sx : Nat → Int32} {S : SS} {K : KS} {T : TS} {X : XS} : ∀ (n : Nat), ∀ (M : SS) (a1 : Int32) (p : SS), rM_strikes_L57 n M a1 = some p → Q none (LH (old0 sl sx) S K T X p) → aAt l G (d + 5) 0 0 257 57 [(0, .ref 154), (1, .int a1)] [] 0 0 (LH (old0 sl sx) S K T X M) Q := by
  intro n
  induction n with
  | zero =>
    intro M a1 p hd hQ
    rw [rM_strikes_L57] at hd
    cases hd
  | succ n ih =>
    intro M a1 p hd hQ
    rw [rM_strikes_L57] at hd
    refine s_iload_n f_257_57 rfl ?_
    refine s_aload_n f_257_58 rfl ?_
    refine L_getR f_257_59 fd_12_7 (obL (by decide)) (by decide) (by decide : rf 154 0 = 155) ?_
    refine k_iconst (v := 1) f_257_62 (by decide) ?_
    refine M_iaload (q := 1) f_257_63 ⟨by decide, by decide, by decide, fun _ => rfl⟩ (Nat.le_of_ble_eq_true rfl : 10759 < 2 ^ 31) (by decide) (by decide) ?_
    refine s_icmp_ge 141 f_257_64 (by decide) (fun c2 => ?_) (fun c2 => ?_)
    · replace hd := ite_p c2 hd
      refine s_return f_257_141 rfl ?_
      cases hd
      exact hQ
    · replace hd := ite_n c2 hd
      refine s_aload_n f_257_67 rfl ?_
      refine s_iload_n f_257_68 rfl ?_
      refine k_iconst (v := 0) f_257_69 (by decide) ?_
      refine s_aload_n f_257_70 rfl ?_
      refine L_getR f_257_71 fd_12_7 (obL (by decide)) (by decide) (by decide : rf 154 0 = 155) ?_
      refine k_iconst (v := 3) f_257_74 (by decide) ?_
      refine M_iaload (q := 3) f_257_75 ⟨by decide, by decide, by decide, fun _ => rfl⟩ (Nat.le_of_ble_eq_true rfl : 10759 < 2 ^ 31) (by decide) (by decide) ?_
      replace hd := obind hd
      obtain ⟨p3, e3, hd⟩ := hd
      refine L_virt (As := [.int a1, .int (0 : Int32), .int (M 155 3)]) f_257_76 ca_12_252 rfl rfl (obL (by decide)) (by decide) (Nat.le_of_ble_eq_true rfl) ?_
      refine t_rM_goesBack e3 ?_
      refine z_if_eq 95 f_257_79 (by decide) (fun c4 => ?_) (fun c4 => ?_)
      · replace hd := ite_n c4 hd
        refine k_iconst (v := 0) f_257_95 (by decide) ?_
        refine aAt.sub [(0, .ref 154), (1, .int a1)] rfl ?_
        exact t_rM_strikes_J96 ih _ _ _  _ hd hQ
      · replace hd := ite_p c4 hd
        refine s_aload_n f_257_82 rfl ?_
        refine s_aload_n f_257_83 rfl ?_
        refine s_iload_n f_257_84 rfl ?_
        refine k_iconst (v := 1) f_257_85 (by decide) ?_
        replace hd := obind hd
        obtain ⟨p8, e8, hd⟩ := hd
        refine L_virt (As := [.int a1, .int (1 : Int32)]) f_257_86 ca_12_111 rfl rfl (obL (by decide)) (by decide) (Nat.le_of_ble_eq_true rfl) ?_
        refine t_rM_ofField e8 ?_
        replace hd := obind hd
        obtain ⟨p9, e9, hd⟩ := hd
        refine L_virt (As := [.int p8]) f_257_89 ca_12_128 rfl rfl (obL (by decide)) (by decide) (Nat.le_of_ble_eq_true rfl) ?_
        refine t_rM_heirsOf e9 ?_
        refine s_goto 96 f_257_92 (by decide) ?_
        refine aAt.sub [(0, .ref 154), (1, .int a1)] rfl ?_
        exact t_rM_strikes_J96 ih _ _ _  _ hd hQ
def rM_strikes_J49 (k2 : SS → Int32 → Option (SS)) (M : SS) (a1 : Int32) : Option (SS) :=
  k2 M (a1 + 1)
theorem t_rM_strikes_J49 {l : Launch} {G : aG} {d : Nat} {Q : Option Value → aHeap → Prop} {sl : Nat} {sx : Nat → Int32} {S : SS} {K : KS} {T : TS} {X : XS} {k2 : SS → Int32 → Option (SS)} (hk2 : ∀ (M : SS) (a1 : Int32) (p : SS), k2 M a1 = some p → Q none (LH (old0 sl sx) S K T X p) → aAt l G (d + 5) 0 0 257 2 [(0, .ref 154), (1, .int a1)] [] 0 0 (LH (old0 sl sx) S K T X M) Q) : ∀ (M : SS) (a1 : Int32) (p : SS), rM_strikes_J49 k2 M a1 = some p → Q none (LH (old0 sl sx) S K T X p) → aAt l G (d + 5) 0 0 257 49 [(0, .ref 154), (1, .int a1)] [] 0 0 (LH (old0 sl sx) S K T X M) Q := by
  intro M a1 p hd hQ
  unfold rM_strikes_J49 at hd
  refine k_iinc (w := 1) f_257_49 rfl (by decide) (by decide) ?_
  refine s_goto 2 f_257_52 (by decide) ?_
  refine aAt.sub [(0, .ref 154), (1, .int (a1 + 1))] rfl ?_
  exact hk2 _ _  _ hd hQ
def rM_strikes_L2 : Nat → SS → Int32 → Option (SS)
  | 0, _, _ => none
  | n + 1, M, a1 =>
    if (M 155 2) ≤ a1 then
      rM_strikes_L57 FU M (0 : Int32)
    else
      (rM_isOpen M a1).bind fun p10 =>
      if p10 = true then
        (rM_of M a1 (0 : Int32)).bind fun p12 =>
        (rM_holds M a1 p12 (0 : Int32) (M 155 3) (0 : Int32)).bind fun p13 =>
        if p13.1 = (2 : Int32) then
          (rM_closes p13.2 a1 (2 : Int32)).bind fun p15 =>
          rM_strikes_J49 (rM_strikes_L2  n) p15 a1
        else
          rM_strikes_J49 (rM_strikes_L2  n) p13.2 a1
      else
        rM_strikes_J49 (rM_strikes_L2  n) M a1
theorem t_rM_strikes_L2 {l : Launch} {G : aG} {d : Nat} {Q : Option Value → aHeap → Prop} {sl : Nat} {sx : Nat → Int32} {S : SS} {K : KS} {T : TS} {X : XS} : ∀ (n : Nat), ∀ (M : SS) (a1 : Int32) (p : SS), rM_strikes_L2 n M a1 = some p → Q none (LH (old0 sl sx) S K T X p) → aAt l G (d + 5) 0 0 257 2 [(0, .ref 154), (1, .int a1)] [] 0 0 (LH (old0 sl sx) S K T X M) Q := by
  intro n
  induction n with
  | zero =>
    intro M a1 p hd hQ
    rw [rM_strikes_L2] at hd
    cases hd
  | succ n ih =>
    intro M a1 p hd hQ
    rw [rM_strikes_L2] at hd
    refine s_iload_n f_257_2 rfl ?_
    refine s_aload_n f_257_3 rfl ?_
    refine L_getR f_257_4 fd_12_7 (obL (by decide)) (by decide) (by decide : rf 154 0 = 155) ?_
    refine k_iconst (v := 2) f_257_7 (by decide) ?_
    refine M_iaload (q := 2) f_257_8 ⟨by decide, by decide, by decide, fun _ => rfl⟩ (Nat.le_of_ble_eq_true rfl : 10759 < 2 ^ 31) (by decide) (by decide) ?_
    refine s_icmp_ge 55 f_257_9 (by decide) (fun c1 => ?_) (fun c1 => ?_)
    · replace hd := ite_p c1 hd
      refine k_iconst (v := 0) f_257_55 (by decide) ?_
      refine s_istore_n f_257_56 (by decide) ?_
      refine aAt.sub [(0, .ref 154), (1, .int (0 : Int32))] rfl ?_
      exact t_rM_strikes_L57 FU _ _  _ hd hQ
    · replace hd := ite_n c1 hd
      refine s_aload_n f_257_12 rfl ?_
      refine s_iload_n f_257_13 rfl ?_
      replace hd := obind hd
      obtain ⟨p10, e10, hd⟩ := hd
      refine L_virt (As := [.int a1]) f_257_14 ca_12_95 rfl rfl (obL (by decide)) (by decide) (Nat.le_of_ble_eq_true rfl) ?_
      refine t_rM_isOpen e10 ?_
      refine z_if_eq 49 f_257_17 (by decide) (fun c11 => ?_) (fun c11 => ?_)
      · replace hd := ite_n c11 hd
        refine aAt.sub [(0, .ref 154), (1, .int a1)] rfl ?_
        exact t_rM_strikes_J49 ih _ _  _ hd hQ
      · replace hd := ite_p c11 hd
        refine s_aload_n f_257_20 rfl ?_
        refine s_iload_n f_257_21 rfl ?_
        refine s_aload_n f_257_22 rfl ?_
        refine s_iload_n f_257_23 rfl ?_
        refine k_iconst (v := 0) f_257_24 (by decide) ?_
        replace hd := obind hd
        obtain ⟨p12, e12, hd⟩ := hd
        refine L_virt (As := [.int a1, .int (0 : Int32)]) f_257_25 ca_12_98 rfl rfl (obL (by decide)) (by decide) (Nat.le_of_ble_eq_true rfl) ?_
        refine t_rM_of e12 ?_
        refine k_iconst (v := 0) f_257_28 (by decide) ?_
        refine s_aload_n f_257_29 rfl ?_
        refine L_getR f_257_30 fd_12_7 (obL (by decide)) (by decide) (by decide : rf 154 0 = 155) ?_
        refine k_iconst (v := 3) f_257_33 (by decide) ?_
        refine M_iaload (q := 3) f_257_34 ⟨by decide, by decide, by decide, fun _ => rfl⟩ (Nat.le_of_ble_eq_true rfl : 10759 < 2 ^ 31) (by decide) (by decide) ?_
        refine k_iconst (v := 0) f_257_35 (by decide) ?_
        replace hd := obind hd
        obtain ⟨p13, e13, hd⟩ := hd
        refine L_virt (As := [.int a1, .int p12, .int (0 : Int32), .int (M 155 3), .int (0 : Int32)]) f_257_36 ca_12_248 rfl rfl (obL (by decide)) (by decide) (Nat.le_of_ble_eq_true rfl) ?_
        refine t_rM_holds e13 ?_
        refine k_iconst (v := 2) f_257_39 (by decide) ?_
        refine s_icmp_ne 49 f_257_40 (by decide) (fun c14 => ?_) (fun c14 => ?_)
        · replace hd := ite_n c14 hd
          refine aAt.sub [(0, .ref 154), (1, .int a1)] rfl ?_
          exact t_rM_strikes_J49 ih _ _  _ hd hQ
        · replace hd := ite_p c14 hd
          refine s_aload_n f_257_43 rfl ?_
          refine s_iload_n f_257_44 rfl ?_
          refine k_iconst (v := 2) f_257_45 (by decide) ?_
          replace hd := obind hd
          obtain ⟨p15, e15, hd⟩ := hd
          refine L_virt (As := [.int a1, .int (2 : Int32)]) f_257_46 ca_12_155 rfl rfl (obL (by decide)) (by decide) (Nat.le_of_ble_eq_true rfl) ?_
          refine t_rM_closes e15 ?_
          refine aAt.sub [(0, .ref 154), (1, .int a1)] rfl ?_
          exact t_rM_strikes_J49 ih _ _  _ hd hQ
def rM_strikes (M : SS) : Option (SS) :=
  rM_strikes_L2 FU M (0 : Int32)
theorem t_rM_strikes {l : Launch} {G : aG} {d : Nat} {Q : Option Value → aHeap → Prop} {sl : Nat} {sx : Nat → Int32} {S : SS} {K : KS} {T : TS} {X : XS} {M : SS} {p : SS} (hd : rM_strikes M = some p) (hQ : Q none (LH (old0 sl sx) S K T X p)) : aCall l G (d + 5) 0 0 257 [.ref 154] (LH (old0 sl sx) S K T X M) Q := by
  refine aCall.of (by decide) (Nat.le_of_ble_eq_true rfl) ?_
  refine aAt.sub [(0, .ref 154)] rfl ?_
  unfold rM_strikes at hd
  refine k_iconst (v := 0) f_257_0 (by decide) ?_
  refine s_istore_n f_257_1 (by decide) ?_
  refine aAt.sub [(0, .ref 154), (1, .int (0 : Int32))] rfl ?_
  exact t_rM_strikes_L2 FU _ _  _ hd hQ

def rM_passes (M : SS) (a1 : Int32) : Option (Int32 × SS) :=
  (rM_harvests M a1).bind fun p1 =>
  (rM_allEat p1).bind fun p2 =>
  (rM_allPay p2.2).bind fun p3 =>
  (rM_leftOf (up p3 155 3 ((p3 155 3) + (1 : Int32))) (0 : Int32) ((up p3 155 3 ((p3 155 3) + (1 : Int32))) 155 3)).bind fun p4 =>
  if p4 = (50 : Int32) then
    (rM_strikes (up p3 155 3 ((p3 155 3) + (1 : Int32)))).bind fun p6 =>
    some (p2.1, p6)
  else
    some (p2.1, (up p3 155 3 ((p3 155 3) + (1 : Int32))))
theorem t_rM_passes {l : Launch} {G : aG} {d : Nat} {Q : Option Value → aHeap → Prop} {sl : Nat} {sx : Nat → Int32} {S : SS} {K : KS} {T : TS} {X : XS} {M : SS} {a1 : Int32} {p : Int32 × SS} (hd : rM_passes M a1 = some p) (hQ : Q (some (.int p.1)) (LH (old0 sl sx) S K T X p.2)) : aCall l G (d + 6) 0 0 252 [.ref 154, .int a1] (LH (old0 sl sx) S K T X M) Q := by
  refine aCall.of (by decide) (Nat.le_of_ble_eq_true rfl) ?_
  refine aAt.sub [(0, .ref 154), (1, .int a1)] rfl ?_
  unfold rM_passes at hd
  refine s_aload_n f_252_0 rfl ?_
  refine s_iload_n f_252_1 rfl ?_
  replace hd := obind hd
  obtain ⟨p1, e1, hd⟩ := hd
  refine L_virt (As := [.int a1]) f_252_2 ca_12_258 rfl rfl (obL (by decide)) (by decide) (Nat.le_of_ble_eq_true rfl) ?_
  refine t_rM_harvests e1 ?_
  refine s_aload_n f_252_5 rfl ?_
  replace hd := obind hd
  obtain ⟨p2, e2, hd⟩ := hd
  refine L_virt (As := []) f_252_6 ca_12_261 rfl rfl (obL (by decide)) (by decide) (Nat.le_of_ble_eq_true rfl) ?_
  refine t_rM_allEat e2 ?_
  refine s_istore_n f_252_9 (by decide) ?_
  refine s_aload_n f_252_10 rfl ?_
  replace hd := obind hd
  obtain ⟨p3, e3, hd⟩ := hd
  refine L_virt (As := []) f_252_11 ca_12_264 rfl rfl (obL (by decide)) (by decide) (Nat.le_of_ble_eq_true rfl) ?_
  refine t_rM_allPay e3 ?_
  refine s_aload_n f_252_14 rfl ?_
  refine L_getR f_252_15 fd_12_7 (obL (by decide)) (by decide) (by decide : rf 154 0 = 155) ?_
  refine k_iconst (v := 3) f_252_18 (by decide) ?_
  refine s_dup2 f_252_19 rfl rfl ?_
  refine M_iaload (q := 3) f_252_20 ⟨by decide, by decide, by decide, fun _ => rfl⟩ (Nat.le_of_ble_eq_true rfl : 10759 < 2 ^ 31) (by decide) (by decide) ?_
  refine k_iconst (v := 1) f_252_21 (by decide) ?_
  refine s_iadd f_252_22 ?_
  refine M_iastore (q := 3) f_252_23 ⟨by decide, by decide, by decide, fun _ => rfl⟩ (Nat.le_of_ble_eq_true rfl : 10759 < 2 ^ 31) (by decide) (by decide) ?_
  refine s_aload_n f_252_24 rfl ?_
  refine k_iconst (v := 0) f_252_25 (by decide) ?_
  refine s_aload_n f_252_26 rfl ?_
  refine L_getR f_252_27 fd_12_7 (obL (by decide)) (by decide) (by decide : rf 154 0 = 155) ?_
  refine k_iconst (v := 3) f_252_30 (by decide) ?_
  refine M_iaload (q := 3) f_252_31 ⟨by decide, by decide, by decide, fun _ => rfl⟩ (Nat.le_of_ble_eq_true rfl : 10759 < 2 ^ 31) (by decide) (by decide) ?_
  replace hd := obind hd
  obtain ⟨p4, e4, hd⟩ := hd
  refine L_virt (As := [.int (0 : Int32), .int ((up p3 155 3 ((p3 155 3) + (1 : Int32))) 155 3)]) f_252_32 ca_12_167 rfl rfl (obL (by decide)) (by decide) (Nat.le_of_ble_eq_true rfl) ?_
  refine t_rM_leftOf e4 ?_
  refine k_bipush (v := 50) f_252_35 (by decide) ?_
  refine s_icmp_ne 44 f_252_37 (by decide) (fun c5 => ?_) (fun c5 => ?_)
  · replace hd := ite_n c5 hd
    refine s_iload_n f_252_44 rfl ?_
    refine s_ireturn f_252_45 rfl rfl ?_
    cases hd
    exact hQ
  · replace hd := ite_p c5 hd
    refine s_aload_n f_252_40 rfl ?_
    replace hd := obind hd
    obtain ⟨p6, e6, hd⟩ := hd
    refine L_virt (As := []) f_252_41 ca_12_267 rfl rfl (obL (by decide)) (by decide) (Nat.le_of_ble_eq_true rfl) ?_
    refine t_rM_strikes e6 ?_
    refine s_iload_n f_252_44 rfl ?_
    refine s_ireturn f_252_45 rfl rfl ?_
    cases hd
    exact hQ

def rM_year (M : SS) (a1 : Int32) : Option (Int32 × SS) :=
  (rM_in a1 (0 : Int32) (30 : Int32)).bind fun p1 =>
  if p1 = true then
    if (M 155 3) = (400 : Int32) then
      (rM_finds M (-100005 : Int32)).bind fun p5 =>
      some (p5.1, p5.2)
    else
      (rM_passes M a1).bind fun p4 =>
      some (p4.1, p4.2)
  else
    (rM_finds M (-100001 : Int32)).bind fun p6 =>
    some (p6.1, p6.2)
theorem t_rM_year {l : Launch} {G : aG} {d : Nat} {Q : Option Value → aHeap → Prop} {sl : Nat} {sx : Nat → Int32} {S : SS} {K : KS} {T : TS} {X : XS} {M : SS} {a1 : Int32} {p : Int32 × SS} (hd : rM_year M a1 = some p) (hQ : Q (some (.int p.1)) (LH (old0 sl sx) S K T X p.2)) : aCall l G (d + 7) 0 0 251 [.ref 154, .int a1] (LH (old0 sl sx) S K T X M) Q := by
  refine aCall.of (by decide) (Nat.le_of_ble_eq_true rfl) ?_
  refine aAt.sub [(0, .ref 154), (1, .int a1)] rfl ?_
  unfold rM_year at hd
  refine s_iload_n f_251_0 rfl ?_
  refine k_iconst (v := 0) f_251_1 (by decide) ?_
  refine k_bipush (v := 30) f_251_2 (by decide) ?_
  replace hd := obind hd
  obtain ⟨p1, e1, hd⟩ := hd
  refine L_stat (As := [.int a1, .int (0 : Int32), .int (30 : Int32)]) f_251_4 ca_12_69 rfl rfl (Nat.le_of_ble_eq_true rfl) ?_
  refine t_rM_in e1 ?_
  refine z_if_ne 17 f_251_7 (by decide) (fun c2 => ?_) (fun c2 => ?_)
  · replace hd := ite_p c2 hd
    refine s_aload_n f_251_17 rfl ?_
    refine L_getR f_251_18 fd_12_7 (obL (by decide)) (by decide) (by decide : rf 154 0 = 155) ?_
    refine k_iconst (v := 3) f_251_21 (by decide) ?_
    refine M_iaload (q := 3) f_251_22 ⟨by decide, by decide, by decide, fun _ => rfl⟩ (Nat.le_of_ble_eq_true rfl : 10759 < 2 ^ 31) (by decide) (by decide) ?_
    refine k_sipush (v := 400) f_251_23 (by decide) ?_
    refine s_icmp_ne 38 f_251_26 (by decide) (fun c3 => ?_) (fun c3 => ?_)
    · replace hd := ite_n c3 hd
      refine s_aload_n f_251_38 rfl ?_
      refine s_iload_n f_251_39 rfl ?_
      replace hd := obind hd
      obtain ⟨p4, e4, hd⟩ := hd
      refine L_virt (As := [.int a1]) f_251_40 ca_12_270 rfl rfl (obL (by decide)) (by decide) (Nat.le_of_ble_eq_true rfl) ?_
      refine t_rM_passes e4 ?_
      refine s_ireturn f_251_43 rfl rfl ?_
      cases hd
      exact hQ
    · replace hd := ite_p c3 hd
      refine s_aload_n f_251_29 rfl ?_
      refine s_ldc f_251_30 ko_12_82 ?_
      replace hd := obind hd
      obtain ⟨p5, e5, hd⟩ := hd
      refine L_virt (As := [.int (-100005 : Int32)]) f_251_32 ca_12_78 rfl rfl (obL (by decide)) (by decide) (Nat.le_of_ble_eq_true rfl) ?_
      refine t_rM_finds e5 ?_
      refine s_goto 43 f_251_35 (by decide) ?_
      refine s_ireturn f_251_43 rfl rfl ?_
      cases hd
      exact hQ
  · replace hd := ite_n c2 hd
    refine s_aload_n f_251_10 rfl ?_
    refine s_ldc f_251_11 ko_12_77 ?_
    replace hd := obind hd
    obtain ⟨p6, e6, hd⟩ := hd
    refine L_virt (As := [.int (-100001 : Int32)]) f_251_13 ca_12_78 rfl rfl (obL (by decide)) (by decide) (Nat.le_of_ble_eq_true rfl) ?_
    refine t_rM_finds e6 ?_
    refine s_ireturn f_251_16 rfl rfl ?_
    cases hd
    exact hQ

def rM_isSheet (a0 : Int32) : Option (Bool) :=
  (rM_in a0 (0 : Int32) (3 : Int32)).bind fun p1 =>
  some p1
theorem t_rM_isSheet {l : Launch} {G : aG} {d : Nat} {Q : Option Value → aHeap → Prop} {sl : Nat} {sx : Nat → Int32} {S : SS} {K : KS} {T : TS} {X : XS} {M : SS} {a0 : Int32} {p : Bool} (hd : rM_isSheet a0 = some p) (hQ : Q (some (.int (b2i p))) (LH (old0 sl sx) S K T X M)) : aCall l G (d + 1) 0 0 259 [.int a0] (LH (old0 sl sx) S K T X M) Q := by
  refine aCall.of (by decide) (Nat.le_of_ble_eq_true rfl) ?_
  refine aAt.sub [(0, .int a0)] rfl ?_
  unfold rM_isSheet at hd
  refine s_iload_n f_259_0 rfl ?_
  refine k_iconst (v := 0) f_259_1 (by decide) ?_
  refine k_iconst (v := 3) f_259_2 (by decide) ?_
  replace hd := obind hd
  obtain ⟨p1, e1, hd⟩ := hd
  refine L_stat (As := [.int a0, .int (0 : Int32), .int (3 : Int32)]) f_259_3 ca_12_69 rfl rfl (Nat.le_of_ble_eq_true rfl) ?_
  refine t_rM_in e1 ?_
  refine s_iretB (b := p1) f_259_6 rfl ?_
  cases hd
  exact hQ

def rM_years_J87 (k35 : SS → Int32 → Int32 → Int32 → Option (Int32 × SS)) (M : SS) (a1 : Int32) (a3 : Int32) (w0 : Int32) : Option (Int32 × SS) :=
  (rM_passes M w0).bind fun p11 =>
  k35 p11.2 a1 w0 (a3 + 1)
theorem t_rM_years_J87 {l : Launch} {G : aG} {d : Nat} {Q : Option Value → aHeap → Prop} {sl : Nat} {sx : Nat → Int32} {S : SS} {K : KS} {T : TS} {X : XS} {k35 : SS → Int32 → Int32 → Int32 → Option (Int32 × SS)} (hk35 : ∀ (M : SS) (a1 : Int32) (a2 : Int32) (a3 : Int32) (p : Int32 × SS), k35 M a1 a2 a3 = some p → Q (some (.int p.1)) (LH (old0 sl sx) S K T X p.2) → aAt l G (d + 7) 0 0 258 35 [(0, .ref 154), (1, .int a1), (2, .int a2), (3, .int a3)] [] 0 0 (LH (old0 sl sx) S K T X M) Q) : ∀ (M : SS) (a1 : Int32) (a3 : Int32) (w0 : Int32) (p : Int32 × SS), rM_years_J87 k35 M a1 a3 w0 = some p → Q (some (.int p.1)) (LH (old0 sl sx) S K T X p.2) → aAt l G (d + 7) 0 0 258 87 [(0, .ref 154), (1, .int a1), (3, .int a3)] [.int w0] 0 0 (LH (old0 sl sx) S K T X M) Q := by
  intro M a1 a3 w0 p hd hQ
  unfold rM_years_J87 at hd
  refine s_istore_n f_258_87 (by decide) ?_
  refine s_aload_n f_258_88 rfl ?_
  refine s_iload_n f_258_89 rfl ?_
  replace hd := obind hd
  obtain ⟨p11, e11, hd⟩ := hd
  refine L_virt (As := [.int w0]) f_258_90 ca_12_270 rfl rfl (obL (by decide)) (by decide) (Nat.le_of_ble_eq_true rfl) ?_
  refine t_rM_passes e11 ?_
  refine s_istore f_258_93 (by decide) ?_
  refine k_iinc (w := 1) f_258_95 rfl (by decide) (by decide) ?_
  refine s_goto 35 f_258_98 (by decide) ?_
  refine aAt.sub [(0, .ref 154), (1, .int a1), (2, .int w0), (3, .int (a3 + 1))] rfl ?_
  exact hk35 _ _ _ _  _ hd hQ
def rM_years_L35 : Nat → SS → Int32 → Int32 → Int32 → Option (Int32 × SS)
  | 0, _, _, _, _ => none
  | n + 1, M, a1, a2, a3 =>
    if inb a1 4 then
      if (M 169 (ix a1)) ≤ a3 then
        some (a3, M)
      else
        if (400 : Int32) ≤ (M 155 3) then
          some (a3, M)
        else
          if inb (((20 : Int32) * a1) + a3) 80 then
            (rM_in (M 170 (ix (((20 : Int32) * a1) + a3))) (0 : Int32) (30 : Int32)).bind fun p9 =>
            if p9 = true then
              rM_years_J87 (rM_years_L35  n) M a1 a3 (M 170 (ix (((20 : Int32) * a1) + a3)))
            else
              rM_years_J87 (rM_years_L35  n) M a1 a3 a2
          else none
    else none
theorem t_rM_years_L35 {l : Launch} {G : aG} {d : Nat} {Q : Option Value → aHeap → Prop} {sl : Nat} {sx : Nat → Int32} {S : SS} {K : KS} {T : TS} {X : XS} : ∀ (n : Nat), ∀ (M : SS) (a1 : Int32) (a2 : Int32) (a3 : Int32) (p : Int32 × SS), rM_years_L35 n M a1 a2 a3 = some p → Q (some (.int p.1)) (LH (old0 sl sx) S K T X p.2) → aAt l G (d + 7) 0 0 258 35 [(0, .ref 154), (1, .int a1), (2, .int a2), (3, .int a3)] [] 0 0 (LH (old0 sl sx) S K T X M) Q := by
  intro n
  induction n with
  | zero =>
    intro M a1 a2 a3 p hd hQ
    rw [rM_years_L35] at hd
    cases hd
  | succ n ih =>
    intro M a1 a2 a3 p hd hQ
    rw [rM_years_L35] at hd
    refine s_iload_n f_258_35 rfl ?_
    refine s_aload_n f_258_36 rfl ?_
    refine L_getR f_258_37 fd_12_56 (obL (by decide)) (by decide) (by decide : rf 154 23 = 169) ?_
    refine s_iload_n f_258_40 rfl ?_
    replace hd := gd hd
    obtain ⟨g5, hd⟩ := hd
    refine M_iaload (q := (ix a1)) f_258_41 ⟨by decide, by decide, by decide, fun _ => rfl⟩ (Nat.le_of_ble_eq_true rfl : 4 < 2 ^ 31) rfl g5 ?_
    refine s_icmp_ge 101 f_258_42 (by decide) (fun c6 => ?_) (fun c6 => ?_)
    · replace hd := ite_p c6 hd
      refine s_iload_n f_258_101 rfl ?_
      refine s_ireturn f_258_102 rfl rfl ?_
      cases hd
      exact hQ
    · replace hd := ite_n c6 hd
      refine s_aload_n f_258_45 rfl ?_
      refine L_getR f_258_46 fd_12_7 (obL (by decide)) (by decide) (by decide : rf 154 0 = 155) ?_
      refine k_iconst (v := 3) f_258_49 (by decide) ?_
      refine M_iaload (q := 3) f_258_50 ⟨by decide, by decide, by decide, fun _ => rfl⟩ (Nat.le_of_ble_eq_true rfl : 10759 < 2 ^ 31) (by decide) (by decide) ?_
      refine k_sipush (v := 400) f_258_51 (by decide) ?_
      refine s_icmp_ge 101 f_258_54 (by decide) (fun c7 => ?_) (fun c7 => ?_)
      · replace hd := ite_p c7 hd
        refine s_iload_n f_258_101 rfl ?_
        refine s_ireturn f_258_102 rfl rfl ?_
        cases hd
        exact hQ
      · replace hd := ite_n c7 hd
        refine s_aload_n f_258_57 rfl ?_
        refine L_getR f_258_58 fd_12_59 (obL (by decide)) (by decide) (by decide : rf 154 24 = 170) ?_
        refine k_bipush (v := 20) f_258_61 (by decide) ?_
        refine s_iload_n f_258_63 rfl ?_
        refine s_imul f_258_64 ?_
        refine s_iload_n f_258_65 rfl ?_
        refine s_iadd f_258_66 ?_
        replace hd := gd hd
        obtain ⟨g8, hd⟩ := hd
        refine M_iaload (q := (ix (((20 : Int32) * a1) + a3))) f_258_67 ⟨by decide, by decide, by decide, fun _ => rfl⟩ (Nat.le_of_ble_eq_true rfl : 80 < 2 ^ 31) rfl g8 ?_
        refine s_istore f_258_68 (by decide) ?_
        refine s_iload f_258_70 rfl ?_
        refine k_iconst (v := 0) f_258_72 (by decide) ?_
        refine k_bipush (v := 30) f_258_73 (by decide) ?_
        replace hd := obind hd
        obtain ⟨p9, e9, hd⟩ := hd
        refine L_stat (As := [.int (M 170 (ix (((20 : Int32) * a1) + a3))), .int (0 : Int32), .int (30 : Int32)]) f_258_75 ca_12_69 rfl rfl (Nat.le_of_ble_eq_true rfl) ?_
        refine t_rM_in e9 ?_
        refine z_if_eq 86 f_258_78 (by decide) (fun c10 => ?_) (fun c10 => ?_)
        · replace hd := ite_n c10 hd
          refine s_iload_n f_258_86 rfl ?_
          refine aAt.sub [(0, .ref 154), (1, .int a1), (3, .int a3)] rfl ?_
          exact t_rM_years_J87 ih _ _ _ _  _ hd hQ
        · replace hd := ite_p c10 hd
          refine s_iload f_258_81 rfl ?_
          refine s_goto 87 f_258_83 (by decide) ?_
          refine aAt.sub [(0, .ref 154), (1, .int a1), (3, .int a3)] rfl ?_
          exact t_rM_years_J87 ih _ _ _ _  _ hd hQ
def rM_years (M : SS) (a1 : Int32) : Option (Int32 × SS) :=
  (rM_isSheet a1).bind fun p1 =>
  if p1 = true then
    if inb a1 4 then
      if (M 168 (ix a1)) = 0 then
        (rM_finds M (-100002 : Int32)).bind fun p12 =>
        some (p12.1, p12.2)
      else
        rM_years_L35 FU M a1 (10 : Int32) (0 : Int32)
    else none
  else
    (rM_finds M (-100001 : Int32)).bind fun p13 =>
    some (p13.1, p13.2)
theorem t_rM_years {l : Launch} {G : aG} {d : Nat} {Q : Option Value → aHeap → Prop} {sl : Nat} {sx : Nat → Int32} {S : SS} {K : KS} {T : TS} {X : XS} {M : SS} {a1 : Int32} {p : Int32 × SS} (hd : rM_years M a1 = some p) (hQ : Q (some (.int p.1)) (LH (old0 sl sx) S K T X p.2)) : aCall l G (d + 7) 0 0 258 [.ref 154, .int a1] (LH (old0 sl sx) S K T X M) Q := by
  refine aCall.of (by decide) (Nat.le_of_ble_eq_true rfl) ?_
  refine aAt.sub [(0, .ref 154), (1, .int a1)] rfl ?_
  unfold rM_years at hd
  refine s_iload_n f_258_0 rfl ?_
  replace hd := obind hd
  obtain ⟨p1, e1, hd⟩ := hd
  refine L_stat (As := [.int a1]) f_258_1 ca_12_273 rfl rfl (Nat.le_of_ble_eq_true rfl) ?_
  refine t_rM_isSheet e1 ?_
  refine z_if_ne 14 f_258_4 (by decide) (fun c2 => ?_) (fun c2 => ?_)
  · replace hd := ite_p c2 hd
    refine s_aload_n f_258_14 rfl ?_
    refine L_getR f_258_15 fd_12_53 (obL (by decide)) (by decide) (by decide : rf 154 22 = 168) ?_
    refine s_iload_n f_258_18 rfl ?_
    replace hd := gd hd
    obtain ⟨g3, hd⟩ := hd
    refine M_iaload (q := (ix a1)) f_258_19 ⟨by decide, by decide, by decide, fun _ => rfl⟩ (Nat.le_of_ble_eq_true rfl : 4 < 2 ^ 31) rfl g3 ?_
    refine s_if_ne 30 f_258_20 (by decide) (fun c4 => ?_) (fun c4 => ?_)
    · replace hd := ite_n c4 hd
      refine k_bipush (v := 10) f_258_30 (by decide) ?_
      refine s_istore_n f_258_32 (by decide) ?_
      refine k_iconst (v := 0) f_258_33 (by decide) ?_
      refine s_istore_n f_258_34 (by decide) ?_
      refine aAt.sub [(0, .ref 154), (1, .int a1), (2, .int (10 : Int32)), (3, .int (0 : Int32))] rfl ?_
      exact t_rM_years_L35 FU _ _ _ _  _ hd hQ
    · replace hd := ite_p c4 hd
      refine s_aload_n f_258_23 rfl ?_
      refine s_ldc f_258_24 ko_12_139 ?_
      replace hd := obind hd
      obtain ⟨p12, e12, hd⟩ := hd
      refine L_virt (As := [.int (-100002 : Int32)]) f_258_26 ca_12_78 rfl rfl (obL (by decide)) (by decide) (Nat.le_of_ble_eq_true rfl) ?_
      refine t_rM_finds e12 ?_
      refine s_ireturn f_258_29 rfl rfl ?_
      cases hd
      exact hQ
  · replace hd := ite_n c2 hd
    refine s_aload_n f_258_7 rfl ?_
    refine s_ldc f_258_8 ko_12_77 ?_
    replace hd := obind hd
    obtain ⟨p13, e13, hd⟩ := hd
    refine L_virt (As := [.int (-100001 : Int32)]) f_258_10 ca_12_78 rfl rfl (obL (by decide)) (by decide) (Nat.le_of_ble_eq_true rfl) ?_
    refine t_rM_finds e13 ?_
    refine s_ireturn f_258_13 rfl rfl ?_
    cases hd
    exact hQ

def rM_chain_J97 (k19 : SS → Int32 → Int32 → Bool → Option (Int32 × SS)) (M : SS) (a1 : Int32) (a4 : Int32) (w0 : Bool) : Option (Int32 × SS) :=
  k19 M a1 a4 w0
theorem t_rM_chain_J97 {l : Launch} {G : aG} {d : Nat} {Q : Option Value → aHeap → Prop} {sl : Nat} {sx : Nat → Int32} {S : SS} {K : KS} {T : TS} {X : XS} {k19 : SS → Int32 → Int32 → Bool → Option (Int32 × SS)} (hk19 : ∀ (M : SS) (a1 : Int32) (a2 : Int32) (a3 : Bool) (p : Int32 × SS), k19 M a1 a2 a3 = some p → Q (some (.int p.1)) (LH (old0 sl sx) S K T X p.2) → aAt l G (d + 3) 0 0 260 19 [(0, .ref 154), (1, .int a1), (2, .int a2), (3, .int (b2i a3))] [] 0 0 (LH (old0 sl sx) S K T X M) Q) : ∀ (M : SS) (a1 : Int32) (a4 : Int32) (w0 : Bool) (p : Int32 × SS), rM_chain_J97 k19 M a1 a4 w0 = some p → Q (some (.int p.1)) (LH (old0 sl sx) S K T X p.2) → aAt l G (d + 3) 0 0 260 97 [(0, .ref 154), (1, .int a1), (4, .int a4)] [.int (b2i w0)] 0 0 (LH (old0 sl sx) S K T X M) Q := by
  intro M a1 a4 w0 p hd hQ
  unfold rM_chain_J97 at hd
  refine s_istore_n f_260_97 (by decide) ?_
  refine s_iload f_260_98 rfl ?_
  refine s_istore_n f_260_100 (by decide) ?_
  refine s_goto 19 f_260_101 (by decide) ?_
  refine aAt.sub [(0, .ref 154), (1, .int a1), (2, .int a4), (3, .int (b2i w0))] rfl ?_
  exact hk19 _ _ _ _  _ hd hQ
def rM_chain_J77 (k19 : SS → Int32 → Int32 → Bool → Option (Int32 × SS)) (k29 : SS → Int32 → Int32 → Int32 → Int32 → Option (Int32 × SS)) (M : SS) (a1 : Int32) (a2 : Int32) (a5 : Int32) (w0 : Int32) (w1 : Int32) : Option (Int32 × SS) :=
  k29 M a1 a2 (w0 ||| w1) (a5 + 1)
theorem t_rM_chain_J77 {l : Launch} {G : aG} {d : Nat} {Q : Option Value → aHeap → Prop} {sl : Nat} {sx : Nat → Int32} {S : SS} {K : KS} {T : TS} {X : XS} {k19 : SS → Int32 → Int32 → Bool → Option (Int32 × SS)} {k29 : SS → Int32 → Int32 → Int32 → Int32 → Option (Int32 × SS)} (hk19 : ∀ (M : SS) (a1 : Int32) (a2 : Int32) (a3 : Bool) (p : Int32 × SS), k19 M a1 a2 a3 = some p → Q (some (.int p.1)) (LH (old0 sl sx) S K T X p.2) → aAt l G (d + 3) 0 0 260 19 [(0, .ref 154), (1, .int a1), (2, .int a2), (3, .int (b2i a3))] [] 0 0 (LH (old0 sl sx) S K T X M) Q) (hk29 : ∀ (M : SS) (a1 : Int32) (a2 : Int32) (a4 : Int32) (a5 : Int32) (p : Int32 × SS), k29 M a1 a2 a4 a5 = some p → Q (some (.int p.1)) (LH (old0 sl sx) S K T X p.2) → aAt l G (d + 3) 0 0 260 29 [(0, .ref 154), (1, .int a1), (2, .int a2), (4, .int a4), (5, .int a5)] [] 0 0 (LH (old0 sl sx) S K T X M) Q) : ∀ (M : SS) (a1 : Int32) (a2 : Int32) (a5 : Int32) (w0 : Int32) (w1 : Int32) (p : Int32 × SS), rM_chain_J77 k19 k29 M a1 a2 a5 w0 w1 = some p → Q (some (.int p.1)) (LH (old0 sl sx) S K T X p.2) → aAt l G (d + 3) 0 0 260 77 [(0, .ref 154), (1, .int a1), (2, .int a2), (5, .int a5)] [.int w1, .int w0] 0 0 (LH (old0 sl sx) S K T X M) Q := by
  intro M a1 a2 a5 w0 w1 p hd hQ
  unfold rM_chain_J77 at hd
  refine s_ior f_260_77 ?_
  refine s_istore f_260_78 (by decide) ?_
  refine k_iinc (w := 1) f_260_80 rfl (by decide) (by decide) ?_
  refine s_goto 29 f_260_83 (by decide) ?_
  refine aAt.sub [(0, .ref 154), (1, .int a1), (2, .int a2), (4, .int (w0 ||| w1)), (5, .int (a5 + 1))] rfl ?_
  exact hk29 _ _ _ _ _  _ hd hQ
def rM_chain_L29 (k19 : SS → Int32 → Int32 → Bool → Option (Int32 × SS)) : Nat → SS → Int32 → Int32 → Int32 → Int32 → Option (Int32 × SS)
  | 0, _, _, _, _, _ => none
  | n + 1, M, a1, a2, a4, a5 =>
    if (M 155 0) ≤ a5 then
      if a4 = a2 then
        rM_chain_J97 k19 M a1 a4 false
      else
        rM_chain_J97 k19 M a1 a4 true
    else
      (rM_owes M a5 a1).bind fun p6 =>
      (rM_own M a5 (6 : Int32)).bind fun p7 =>
      (rM_owedTo M a5 a1 a2).bind fun p8 =>
      if p6 ≤ (p7 + p8) then
        rM_chain_J77 k19 (rM_chain_L29 k19  n) M a1 a2 a5 a4 (0 : Int32)
      else
        rM_chain_J77 k19 (rM_chain_L29 k19  n) M a1 a2 a5 a4 ((1 : Int32) <<< (a5 &&& 31))
theorem t_rM_chain_L29 {l : Launch} {G : aG} {d : Nat} {Q : Option Value → aHeap → Prop} {sl : Nat} {sx : Nat → Int32} {S : SS} {K : KS} {T : TS} {X : XS} {k19 : SS → Int32 → Int32 → Bool → Option (Int32 × SS)} (hk19 : ∀ (M : SS) (a1 : Int32) (a2 : Int32) (a3 : Bool) (p : Int32 × SS), k19 M a1 a2 a3 = some p → Q (some (.int p.1)) (LH (old0 sl sx) S K T X p.2) → aAt l G (d + 3) 0 0 260 19 [(0, .ref 154), (1, .int a1), (2, .int a2), (3, .int (b2i a3))] [] 0 0 (LH (old0 sl sx) S K T X M) Q) : ∀ (n : Nat), ∀ (M : SS) (a1 : Int32) (a2 : Int32) (a4 : Int32) (a5 : Int32) (p : Int32 × SS), rM_chain_L29 k19 n M a1 a2 a4 a5 = some p → Q (some (.int p.1)) (LH (old0 sl sx) S K T X p.2) → aAt l G (d + 3) 0 0 260 29 [(0, .ref 154), (1, .int a1), (2, .int a2), (4, .int a4), (5, .int a5)] [] 0 0 (LH (old0 sl sx) S K T X M) Q := by
  intro n
  induction n with
  | zero =>
    intro M a1 a2 a4 a5 p hd hQ
    rw [rM_chain_L29] at hd
    cases hd
  | succ n ih =>
    intro M a1 a2 a4 a5 p hd hQ
    rw [rM_chain_L29] at hd
    refine s_iload f_260_29 rfl ?_
    refine s_aload_n f_260_31 rfl ?_
    refine L_getR f_260_32 fd_12_7 (obL (by decide)) (by decide) (by decide : rf 154 0 = 155) ?_
    refine k_iconst (v := 0) f_260_35 (by decide) ?_
    refine M_iaload (q := 0) f_260_36 ⟨by decide, by decide, by decide, fun _ => rfl⟩ (Nat.le_of_ble_eq_true rfl : 10759 < 2 ^ 31) (by decide) (by decide) ?_
    refine s_icmp_ge 86 f_260_37 (by decide) (fun c4 => ?_) (fun c4 => ?_)
    · replace hd := ite_p c4 hd
      refine s_iload f_260_86 rfl ?_
      refine s_iload_n f_260_88 rfl ?_
      refine s_icmp_eq 96 f_260_89 (by decide) (fun c5 => ?_) (fun c5 => ?_)
      · replace hd := ite_p c5 hd
        refine k_iconst (v := 0) f_260_96 (by decide) ?_
        refine aAt.sub [(0, .ref 154), (1, .int a1), (4, .int a4)] rfl ?_
        exact t_rM_chain_J97 hk19 _ _ _ _  _ hd hQ
      · replace hd := ite_n c5 hd
        refine k_iconst (v := 1) f_260_92 (by decide) ?_
        refine s_goto 97 f_260_93 (by decide) ?_
        refine aAt.sub [(0, .ref 154), (1, .int a1), (4, .int a4)] rfl ?_
        exact t_rM_chain_J97 hk19 _ _ _ _  _ hd hQ
    · replace hd := ite_n c4 hd
      refine s_iload f_260_40 rfl ?_
      refine s_aload_n f_260_42 rfl ?_
      refine s_iload f_260_43 rfl ?_
      refine s_iload_n f_260_45 rfl ?_
      replace hd := obind hd
      obtain ⟨p6, e6, hd⟩ := hd
      refine L_virt (As := [.int a5, .int a1]) f_260_46 ca_12_104 rfl rfl (obL (by decide)) (by decide) (Nat.le_of_ble_eq_true rfl) ?_
      refine t_rM_owes e6 ?_
      refine s_aload_n f_260_49 rfl ?_
      refine s_iload f_260_50 rfl ?_
      refine k_bipush (v := 6) f_260_52 (by decide) ?_
      replace hd := obind hd
      obtain ⟨p7, e7, hd⟩ := hd
      refine L_virt (As := [.int a5, .int (6 : Int32)]) f_260_54 ca_12_73 rfl rfl (obL (by decide)) (by decide) (Nat.le_of_ble_eq_true rfl) ?_
      refine t_rM_own e7 ?_
      refine s_aload_n f_260_57 rfl ?_
      refine s_iload f_260_58 rfl ?_
      refine s_iload_n f_260_60 rfl ?_
      refine s_iload_n f_260_61 rfl ?_
      replace hd := obind hd
      obtain ⟨p8, e8, hd⟩ := hd
      refine L_virt (As := [.int a5, .int a1, .int a2]) f_260_62 ca_12_107 rfl rfl (obL (by decide)) (by decide) (Nat.le_of_ble_eq_true rfl) ?_
      refine t_rM_owedTo e8 ?_
      refine s_iadd f_260_65 ?_
      refine s_icmp_le 76 f_260_66 (by decide) (fun c9 => ?_) (fun c9 => ?_)
      · replace hd := ite_p c9 hd
        refine k_iconst (v := 0) f_260_76 (by decide) ?_
        refine aAt.sub [(0, .ref 154), (1, .int a1), (2, .int a2), (5, .int a5)] rfl ?_
        exact t_rM_chain_J77 hk19 ih _ _ _ _ _ _  _ hd hQ
      · replace hd := ite_n c9 hd
        refine k_iconst (v := 1) f_260_69 (by decide) ?_
        refine s_iload f_260_70 rfl ?_
        refine s_ishl f_260_72 ?_
        refine s_goto 77 f_260_73 (by decide) ?_
        refine aAt.sub [(0, .ref 154), (1, .int a1), (2, .int a2), (5, .int a5)] rfl ?_
        exact t_rM_chain_J77 hk19 ih _ _ _ _ _ _  _ hd hQ
def rM_chain_L19 : Nat → SS → Int32 → Int32 → Bool → Option (Int32 × SS)
  | 0, _, _, _, _ => none
  | n + 1, M, a1, a2, a3 =>
    if a3 = true then
      rM_chain_L29 (rM_chain_L19  n) FU M a1 a2 (0 : Int32) (0 : Int32)
    else
      some (a2, M)
theorem t_rM_chain_L19 {l : Launch} {G : aG} {d : Nat} {Q : Option Value → aHeap → Prop} {sl : Nat} {sx : Nat → Int32} {S : SS} {K : KS} {T : TS} {X : XS} : ∀ (n : Nat), ∀ (M : SS) (a1 : Int32) (a2 : Int32) (a3 : Bool) (p : Int32 × SS), rM_chain_L19 n M a1 a2 a3 = some p → Q (some (.int p.1)) (LH (old0 sl sx) S K T X p.2) → aAt l G (d + 3) 0 0 260 19 [(0, .ref 154), (1, .int a1), (2, .int a2), (3, .int (b2i a3))] [] 0 0 (LH (old0 sl sx) S K T X M) Q := by
  intro n
  induction n with
  | zero =>
    intro M a1 a2 a3 p hd hQ
    rw [rM_chain_L19] at hd
    cases hd
  | succ n ih =>
    intro M a1 a2 a3 p hd hQ
    rw [rM_chain_L19] at hd
    refine s_iload_n f_260_19 rfl ?_
    refine z_if_eq 104 f_260_20 (by decide) (fun c3 => ?_) (fun c3 => ?_)
    · replace hd := ite_n c3 hd
      refine s_iload_n f_260_104 rfl ?_
      refine s_ireturn f_260_105 rfl rfl ?_
      cases hd
      exact hQ
    · replace hd := ite_p c3 hd
      refine k_iconst (v := 0) f_260_23 (by decide) ?_
      refine s_istore f_260_24 (by decide) ?_
      refine k_iconst (v := 0) f_260_26 (by decide) ?_
      refine s_istore f_260_27 (by decide) ?_
      refine aAt.sub [(0, .ref 154), (1, .int a1), (2, .int a2), (4, .int (0 : Int32)), (5, .int (0 : Int32))] rfl ?_
      exact t_rM_chain_L29 ih FU _ _ _ _ _  _ hd hQ
def rM_chain (M : SS) (a1 : Int32) : Option (Int32 × SS) :=
  (rM_isPaper M a1).bind fun p1 =>
  if p1 = true then
    rM_chain_L19 FU M a1 (0 : Int32) true
  else
    (rM_finds M (-100001 : Int32)).bind fun p10 =>
    some (p10.1, p10.2)
theorem t_rM_chain {l : Launch} {G : aG} {d : Nat} {Q : Option Value → aHeap → Prop} {sl : Nat} {sx : Nat → Int32} {S : SS} {K : KS} {T : TS} {X : XS} {M : SS} {a1 : Int32} {p : Int32 × SS} (hd : rM_chain M a1 = some p) (hQ : Q (some (.int p.1)) (LH (old0 sl sx) S K T X p.2)) : aCall l G (d + 3) 0 0 260 [.ref 154, .int a1] (LH (old0 sl sx) S K T X M) Q := by
  refine aCall.of (by decide) (Nat.le_of_ble_eq_true rfl) ?_
  refine aAt.sub [(0, .ref 154), (1, .int a1)] rfl ?_
  unfold rM_chain at hd
  refine s_aload_n f_260_0 rfl ?_
  refine s_iload_n f_260_1 rfl ?_
  replace hd := obind hd
  obtain ⟨p1, e1, hd⟩ := hd
  refine L_virt (As := [.int a1]) f_260_2 ca_12_144 rfl rfl (obL (by decide)) (by decide) (Nat.le_of_ble_eq_true rfl) ?_
  refine t_rM_isPaper e1 ?_
  refine z_if_ne 15 f_260_5 (by decide) (fun c2 => ?_) (fun c2 => ?_)
  · replace hd := ite_p c2 hd
    refine k_iconst (v := 0) f_260_15 (by decide) ?_
    refine s_istore_n f_260_16 (by decide) ?_
    refine k_iconst (v := 1) f_260_17 (by decide) ?_
    refine s_istore_n f_260_18 (by decide) ?_
    refine aAt.sub [(0, .ref 154), (1, .int a1), (2, .int (0 : Int32)), (3, .int (b2i true))] rfl ?_
    exact t_rM_chain_L19 FU _ _ _ _  _ hd hQ
  · replace hd := ite_n c2 hd
    refine s_aload_n f_260_8 rfl ?_
    refine s_ldc f_260_9 ko_12_77 ?_
    replace hd := obind hd
    obtain ⟨p10, e10, hd⟩ := hd
    refine L_virt (As := [.int (-100001 : Int32)]) f_260_11 ca_12_78 rfl rfl (obL (by decide)) (by decide) (Nat.le_of_ble_eq_true rfl) ?_
    refine t_rM_finds e10 ?_
    refine s_ireturn f_260_14 rfl rfl ?_
    cases hd
    exact hQ
