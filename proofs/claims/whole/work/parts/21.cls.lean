def cD_within (a0 : Int32) (a1 : Int32) (a2 : Int32) : Option (Bool) :=
  if a0 < a1 then
    some false
  else
    if a2 < a0 then
      some false
    else
      some true
theorem t_cD_within {l : Launch} {G : aG} {d : Nat} {Q : Option Value → aHeap → Prop} {sl : Nat} {sx : Nat → Int32} {S : SS} {K : KS} {T : TS} {X : XS} {M : SS} {a0 : Int32} {a1 : Int32} {a2 : Int32} {p : Bool} (hd : cD_within a0 a1 a2 = some p) (hQ : Q (some (.int (b2i p))) (LH (old0 sl sx) S K T X M)) : aCall l G d 0 0 12 [.int a0, .int a1, .int a2] (LH (old0 sl sx) S K T X M) Q := by
  refine aCall.of (by decide) (Nat.le_of_ble_eq_true rfl) ?_
  refine aAt.sub [(0, .int a0), (1, .int a1), (2, .int a2)] rfl ?_
  unfold cD_within at hd
  refine s_iload_n f_12_0 rfl ?_
  refine s_iload_n f_12_1 rfl ?_
  refine s_icmp_lt 14 f_12_2 (by decide) (fun c1 => ?_) (fun c1 => ?_)
  · replace hd := ite_p c1 hd
    refine k_iconst (v := 0) f_12_14 (by decide) ?_
    refine s_iretB (b := false) f_12_15 rfl ?_
    cases hd
    exact hQ
  · replace hd := ite_n c1 hd
    refine s_iload_n f_12_5 rfl ?_
    refine s_iload_n f_12_6 rfl ?_
    refine s_icmp_gt 14 f_12_7 (by decide) (fun c2 => ?_) (fun c2 => ?_)
    · replace hd := ite_p c2 hd
      refine k_iconst (v := 0) f_12_14 (by decide) ?_
      refine s_iretB (b := false) f_12_15 rfl ?_
      cases hd
      exact hQ
    · replace hd := ite_n c2 hd
      refine k_iconst (v := 1) f_12_10 (by decide) ?_
      refine s_goto 15 f_12_11 (by decide) ?_
      refine s_iretB (b := true) f_12_15 rfl ?_
      cases hd
      exact hQ

def cD_found (S : SS) (a1 : Int32) : Option (Int32 × SS) :=
  some (a1, (up S 8 8 ((S 8 8) + (1 : Int32))))
theorem t_cD_found {l : Launch} {G : aG} {d : Nat} {Q : Option Value → aHeap → Prop} {sl : Nat} {sx : Nat → Int32} {S : SS} {K : KS} {T : TS} {X : XS} {M : SS} {a1 : Int32} {p : Int32 × SS} (hd : cD_found S a1 = some p) (hQ : Q (some (.int p.1)) (LH (old0 sl sx) p.2 K T X M)) : aCall l G d 0 0 15 [.ref 8, .int a1] (LH (old0 sl sx) S K T X M) Q := by
  refine aCall.of (by decide) (Nat.le_of_ble_eq_true rfl) ?_
  refine aAt.sub [(0, .ref 8), (1, .int a1)] rfl ?_
  unfold cD_found at hd
  refine s_aload_n f_15_0 rfl ?_
  refine s_dup f_15_1 rfl ?_
  refine C_getI f_15_2 fd_0_61 (ocl (by decide)) (by decide) ?_
  refine k_iconst (v := 1) f_15_5 (by decide) ?_
  refine s_iadd f_15_6 ?_
  refine C_putI f_15_7 fd_0_61 (ocl (by decide)) (by decide) (Or.inl rfl) (by decide) ?_
  refine s_iload_n f_15_10 rfl ?_
  refine s_ireturn f_15_11 rfl rfl ?_
  cases hd
  exact hQ

def cLand_hasPerson (S : SS) (a1 : Int32) : Option (Bool) :=
  (cD_within a1 (0 : Int32) ((S 9 7) - (1 : Int32))).bind fun p1 =>
  some p1
theorem t_cLand_hasPerson {l : Launch} {G : aG} {d : Nat} {Q : Option Value → aHeap → Prop} {sl : Nat} {sx : Nat → Int32} {S : SS} {K : KS} {T : TS} {X : XS} {M : SS} {a1 : Int32} {p : Bool} (hd : cLand_hasPerson S a1 = some p) (hQ : Q (some (.int (b2i p))) (LH (old0 sl sx) S K T X M)) : aCall l G (d + 1) 0 0 14 [.ref 9, .int a1] (LH (old0 sl sx) S K T X M) Q := by
  refine aCall.of (by decide) (Nat.le_of_ble_eq_true rfl) ?_
  refine aAt.sub [(0, .ref 9), (1, .int a1)] rfl ?_
  unfold cLand_hasPerson at hd
  refine s_iload_n f_14_0 rfl ?_
  refine k_iconst (v := 0) f_14_1 (by decide) ?_
  refine s_aload_n f_14_2 rfl ?_
  refine C_getI f_14_3 fd_3_48 (ocl (by decide)) (by decide) ?_
  refine k_iconst (v := 1) f_14_6 (by decide) ?_
  refine s_isub f_14_7 ?_
  replace hd := obind hd
  obtain ⟨p1, e1, hd⟩ := hd
  refine L_statN (As := [.int a1, .int (0 : Int32), .int ((S 9 7) - (1 : Int32))]) f_14_8 ca_3_104 rfl rfl (Nat.le_of_ble_eq_true rfl) ?_
  refine t_cD_within e1 ?_
  refine s_iretB (b := p1) f_14_11 rfl ?_
  cases hd
  exact hQ

def cLand_mayBeParents_J36 (S : SS) : Option (Bool) :=
  some true
theorem t_cLand_mayBeParents_J36 {l : Launch} {G : aG} {d : Nat} {Q : Option Value → aHeap → Prop} {sl : Nat} {sx : Nat → Int32} {S : SS} {K : KS} {T : TS} {X : XS} {M : SS} : ∀ (p : Bool), cLand_mayBeParents_J36 S = some p → Q (some (.int (b2i p))) (LH (old0 sl sx) S K T X M) → aAt l G (d + 2) 0 0 13 36 [] [] 0 0 (LH (old0 sl sx) S K T X M) Q := by
  intro p hd hQ
  unfold cLand_mayBeParents_J36 at hd
  refine k_iconst (v := 1) f_13_36 (by decide) ?_
  refine s_goto 41 f_13_37 (by decide) ?_
  refine s_iretB (b := true) f_13_41 rfl ?_
  cases hd
  exact hQ
def cLand_mayBeParents_J26 (S : SS) (a1 : Int32) (a2 : Int32) : Option (Bool) :=
  if a1 = a2 then
    if a1 = (-1 : Int32) then
      cLand_mayBeParents_J36 S 
    else
      some false
  else
    cLand_mayBeParents_J36 S 
theorem t_cLand_mayBeParents_J26 {l : Launch} {G : aG} {d : Nat} {Q : Option Value → aHeap → Prop} {sl : Nat} {sx : Nat → Int32} {S : SS} {K : KS} {T : TS} {X : XS} {M : SS} : ∀ (a1 : Int32) (a2 : Int32) (p : Bool), cLand_mayBeParents_J26 S a1 a2 = some p → Q (some (.int (b2i p))) (LH (old0 sl sx) S K T X M) → aAt l G (d + 2) 0 0 13 26 [(1, .int a1), (2, .int a2)] [] 0 0 (LH (old0 sl sx) S K T X M) Q := by
  intro a1 a2 p hd hQ
  unfold cLand_mayBeParents_J26 at hd
  refine s_iload_n f_13_26 rfl ?_
  refine s_iload_n f_13_27 rfl ?_
  refine s_icmp_ne 36 f_13_28 (by decide) (fun c3 => ?_) (fun c3 => ?_)
  · replace hd := ite_n c3 hd
    refine aAt.sub [] rfl ?_
    exact t_cLand_mayBeParents_J36   _ hd hQ
  · replace hd := ite_p c3 hd
    refine s_iload_n f_13_31 rfl ?_
    refine k_iconst (v := (-1)) f_13_32 (by decide) ?_
    refine s_icmp_ne 40 f_13_33 (by decide) (fun c4 => ?_) (fun c4 => ?_)
    · replace hd := ite_n c4 hd
      refine k_iconst (v := 0) f_13_40 (by decide) ?_
      refine s_iretB (b := false) f_13_41 rfl ?_
      cases hd
      exact hQ
    · replace hd := ite_p c4 hd
      refine aAt.sub [] rfl ?_
      exact t_cLand_mayBeParents_J36   _ hd hQ
def cLand_mayBeParents_J13 (S : SS) (a1 : Int32) (a2 : Int32) : Option (Bool) :=
  if a2 = (-1 : Int32) then
    cLand_mayBeParents_J26 S a1 a2
  else
    (cLand_hasPerson S a2).bind fun p5 =>
    if p5 = true then
      cLand_mayBeParents_J26 S a1 a2
    else
      some false
theorem t_cLand_mayBeParents_J13 {l : Launch} {G : aG} {d : Nat} {Q : Option Value → aHeap → Prop} {sl : Nat} {sx : Nat → Int32} {S : SS} {K : KS} {T : TS} {X : XS} {M : SS} : ∀ (a1 : Int32) (a2 : Int32) (p : Bool), cLand_mayBeParents_J13 S a1 a2 = some p → Q (some (.int (b2i p))) (LH (old0 sl sx) S K T X M) → aAt l G (d + 2) 0 0 13 13 [(0, .ref 9), (1, .int a1), (2, .int a2)] [] 0 0 (LH (old0 sl sx) S K T X M) Q := by
  intro a1 a2 p hd hQ
  unfold cLand_mayBeParents_J13 at hd
  refine s_iload_n f_13_13 rfl ?_
  refine k_iconst (v := (-1)) f_13_14 (by decide) ?_
  refine s_icmp_eq 26 f_13_15 (by decide) (fun c2 => ?_) (fun c2 => ?_)
  · replace hd := ite_p c2 hd
    refine aAt.sub [(1, .int a1), (2, .int a2)] rfl ?_
    exact t_cLand_mayBeParents_J26 _ _  _ hd hQ
  · replace hd := ite_n c2 hd
    refine s_aload_n f_13_18 rfl ?_
    refine s_iload_n f_13_19 rfl ?_
    replace hd := obind hd
    obtain ⟨p5, e5, hd⟩ := hd
    refine L_virt (As := [.int a2]) f_13_20 ca_3_108 rfl rfl (obL (by decide)) (by decide) (Nat.le_of_ble_eq_true rfl) ?_
    refine t_cLand_hasPerson e5 ?_
    refine z_if_eq 40 f_13_23 (by decide) (fun c6 => ?_) (fun c6 => ?_)
    · replace hd := ite_n c6 hd
      refine k_iconst (v := 0) f_13_40 (by decide) ?_
      refine s_iretB (b := false) f_13_41 rfl ?_
      cases hd
      exact hQ
    · replace hd := ite_p c6 hd
      refine aAt.sub [(1, .int a1), (2, .int a2)] rfl ?_
      exact t_cLand_mayBeParents_J26 _ _  _ hd hQ
def cLand_mayBeParents (S : SS) (a1 : Int32) (a2 : Int32) : Option (Bool) :=
  if a1 = (-1 : Int32) then
    cLand_mayBeParents_J13 S a1 a2
  else
    (cLand_hasPerson S a1).bind fun p7 =>
    if p7 = true then
      cLand_mayBeParents_J13 S a1 a2
    else
      some false
theorem t_cLand_mayBeParents {l : Launch} {G : aG} {d : Nat} {Q : Option Value → aHeap → Prop} {sl : Nat} {sx : Nat → Int32} {S : SS} {K : KS} {T : TS} {X : XS} {M : SS} {a1 : Int32} {a2 : Int32} {p : Bool} (hd : cLand_mayBeParents S a1 a2 = some p) (hQ : Q (some (.int (b2i p))) (LH (old0 sl sx) S K T X M)) : aCall l G (d + 2) 0 0 13 [.ref 9, .int a1, .int a2] (LH (old0 sl sx) S K T X M) Q := by
  refine aCall.of (by decide) (Nat.le_of_ble_eq_true rfl) ?_
  refine aAt.sub [(0, .ref 9), (1, .int a1), (2, .int a2)] rfl ?_
  unfold cLand_mayBeParents at hd
  refine s_iload_n f_13_0 rfl ?_
  refine k_iconst (v := (-1)) f_13_1 (by decide) ?_
  refine s_icmp_eq 13 f_13_2 (by decide) (fun c1 => ?_) (fun c1 => ?_)
  · replace hd := ite_p c1 hd
    refine aAt.sub [(0, .ref 9), (1, .int a1), (2, .int a2)] rfl ?_
    exact t_cLand_mayBeParents_J13 _ _  _ hd hQ
  · replace hd := ite_n c1 hd
    refine s_aload_n f_13_5 rfl ?_
    refine s_iload_n f_13_6 rfl ?_
    replace hd := obind hd
    obtain ⟨p7, e7, hd⟩ := hd
    refine L_virt (As := [.int a1]) f_13_7 ca_3_108 rfl rfl (obL (by decide)) (by decide) (Nat.le_of_ble_eq_true rfl) ?_
    refine t_cLand_hasPerson e7 ?_
    refine z_if_eq 40 f_13_10 (by decide) (fun c8 => ?_) (fun c8 => ?_)
    · replace hd := ite_n c8 hd
      refine k_iconst (v := 0) f_13_40 (by decide) ?_
      refine s_iretB (b := false) f_13_41 rfl ?_
      cases hd
      exact hQ
    · replace hd := ite_p c8 hd
      refine aAt.sub [(0, .ref 9), (1, .int a1), (2, .int a2)] rfl ?_
      exact t_cLand_mayBeParents_J13 _ _  _ hd hQ

def cPerson_begin (S : SS) (a0 : Nat) (a1 : Int32) (a2 : Int32) (a3 : Int32) (a4 : Int32) : Option (SS) :=
  some (up (up (up (up (up (up (up (up (up (up S a0 0 a1) a0 1 a2) a0 2 a3) a0 3 a4) a0 4 (-1 : Int32)) a0 5 (3 : Int32)) a0 6 (-1 : Int32)) a0 7 (0 : Int32)) a0 8 (0 : Int32)) a0 9 (0 : Int32))
theorem t_cPerson_begin {l : Launch} {G : aG} {d : Nat} {Q : Option Value → aHeap → Prop} {sl : Nat} {sx : Nat → Int32} {S : SS} {K : KS} {T : TS} {X : XS} {M : SS} {a0 : Nat} {a1 : Int32} {a2 : Int32} {a3 : Int32} {a4 : Int32} (ha0 : oc X.2 a0 6) {p : SS} (hd : cPerson_begin S a0 a1 a2 a3 a4 = some p) (hQ : Q none (LH (old0 sl sx) p K T X M)) : aCall l G d 0 0 16 [.ref a0, .int a1, .int a2, .int a3, .int a4] (LH (old0 sl sx) S K T X M) Q := by
  refine aCall.of (by decide) (Nat.le_of_ble_eq_true rfl) ?_
  refine aAt.sub [(0, .ref a0), (1, .int a1), (2, .int a2), (3, .int a3), (4, .int a4)] rfl ?_
  unfold cPerson_begin at hd
  refine s_aload_n f_16_0 rfl ?_
  refine s_iload_n f_16_1 rfl ?_
  refine C_putI f_16_2 fd_6_7 ha0 (sck0 (k := X.2) ha0.1 (by decide)) (Or.inl rfl) (by decide) ?_
  refine s_aload_n f_16_5 rfl ?_
  refine s_iload_n f_16_6 rfl ?_
  refine C_putI f_16_7 fd_6_13 ha0 (sck0 (k := X.2) ha0.1 (by decide)) (Or.inl rfl) (by decide) ?_
  refine s_aload_n f_16_10 rfl ?_
  refine s_iload_n f_16_11 rfl ?_
  refine C_putI f_16_12 fd_6_16 ha0 (sck0 (k := X.2) ha0.1 (by decide)) (Or.inl rfl) (by decide) ?_
  refine s_aload_n f_16_15 rfl ?_
  refine s_iload f_16_16 rfl ?_
  refine C_putI f_16_18 fd_6_19 ha0 (sck0 (k := X.2) ha0.1 (by decide)) (Or.inl rfl) (by decide) ?_
  refine s_aload_n f_16_21 rfl ?_
  refine k_iconst (v := (-1)) f_16_22 (by decide) ?_
  refine C_putI f_16_23 fd_6_22 ha0 (sck0 (k := X.2) ha0.1 (by decide)) (Or.inl rfl) (by decide) ?_
  refine s_aload_n f_16_26 rfl ?_
  refine k_iconst (v := 3) f_16_27 (by decide) ?_
  refine C_putI f_16_28 fd_6_25 ha0 (sck0 (k := X.2) ha0.1 (by decide)) (Or.inl rfl) (by decide) ?_
  refine s_aload_n f_16_31 rfl ?_
  refine k_iconst (v := (-1)) f_16_32 (by decide) ?_
  refine C_putI f_16_33 fd_6_28 ha0 (sck0 (k := X.2) ha0.1 (by decide)) (Or.inl rfl) (by decide) ?_
  refine s_aload_n f_16_36 rfl ?_
  refine k_iconst (v := 0) f_16_37 (by decide) ?_
  refine C_putI f_16_38 fd_6_31 ha0 (sck0 (k := X.2) ha0.1 (by decide)) (Or.inl rfl) (by decide) ?_
  refine s_aload_n f_16_41 rfl ?_
  refine k_iconst (v := 0) f_16_42 (by decide) ?_
  refine C_putI f_16_43 fd_6_34 ha0 (sck0 (k := X.2) ha0.1 (by decide)) (Or.inr ⟨rfl, by decide⟩) (by decide) ?_
  refine s_aload_n f_16_46 rfl ?_
  refine k_iconst (v := 0) f_16_47 (by decide) ?_
  refine C_putI f_16_48 fd_6_38 ha0 (sck0 (k := X.2) ha0.1 (by decide)) (Or.inr ⟨rfl, by decide⟩) (by decide) ?_
  refine s_return f_16_51 rfl ?_
  cases hd
  exact hQ

def cD_person_J46 (S : SS) : Option (Int32 × SS) :=
  (cD_found S (-100001 : Int32)).bind fun p3 =>
  some (p3.1, p3.2)
theorem t_cD_person_J46 {l : Launch} {G : aG} {d : Nat} {Q : Option Value → aHeap → Prop} {sl : Nat} {sx : Nat → Int32} {K : KS} {T : TS} {X : XS} {M : SS} : ∀ (S : SS) (p : Int32 × SS), cD_person_J46 S = some p → Q (some (.int p.1)) (LH (old0 sl sx) p.2 K T X M) → aAt l G (d + 3) 0 0 11 46 [(0, .ref 8)] [] 0 0 (LH (old0 sl sx) S K T X M) Q := by
  intro S p hd hQ
  unfold cD_person_J46 at hd
  refine s_aload_n f_11_46 rfl ?_
  refine s_ldc f_11_47 ko_0_83 ?_
  replace hd := obind hd
  obtain ⟨p3, e3, hd⟩ := hd
  refine L_virt (As := [.int (-100001 : Int32)]) f_11_49 ca_0_84 rfl rfl (obL (by decide)) (by decide) (Nat.le_of_ble_eq_true rfl) ?_
  refine t_cD_found e3 ?_
  refine s_ireturn f_11_52 rfl rfl ?_
  cases hd
  exact hQ
def cD_person (S : SS) (a1 : Int32) (a2 : Int32) (a3 : Int32) (a4 : Int32) : Option (Int32 × SS) :=
  (cD_within a1 (-99 : Int32) (if (S 9 11) < (300 : Int32) then (S 9 11) else (300 : Int32))).bind fun p1 =>
  if p1 = true then
    (cLand_mayBeParents S a2 a3).bind fun p4 =>
    if p4 = true then
      (cD_within a4 (0 : Int32) (9999 : Int32)).bind fun p6 =>
      if p6 = true then
        if (S 9 7) < (14 : Int32) then
          if inb (S 9 7) 14 then
            (cPerson_begin S (17 + (ix (S 9 7))) a1 a2 a3 a4).bind fun p10 =>
            some ((p10 9 7), (up p10 9 7 ((p10 9 7) + (1 : Int32))))
          else none
        else
          (cD_found S (-100005 : Int32)).bind fun p11 =>
          some (p11.1, p11.2)
      else
        cD_person_J46 S
    else
      cD_person_J46 S
  else
    cD_person_J46 S
theorem t_cD_person {l : Launch} {G : aG} {d : Nat} {Q : Option Value → aHeap → Prop} {sl : Nat} {sx : Nat → Int32} {S : SS} {K : KS} {T : TS} {X : XS} {M : SS} {a1 : Int32} {a2 : Int32} {a3 : Int32} {a4 : Int32} {p : Int32 × SS} (hd : cD_person S a1 a2 a3 a4 = some p) (hQ : Q (some (.int p.1)) (LH (old0 sl sx) p.2 K T X M)) : aCall l G (d + 3) 0 0 11 [.ref 8, .int a1, .int a2, .int a3, .int a4] (LH (old0 sl sx) S K T X M) Q := by
  refine aCall.of (by decide) (Nat.le_of_ble_eq_true rfl) ?_
  refine aAt.sub [(0, .ref 8), (1, .int a1), (2, .int a2), (3, .int a3), (4, .int a4)] rfl ?_
  unfold cD_person at hd
  refine s_iload_n f_11_0 rfl ?_
  refine k_bipush (v := (-99)) f_11_1 (by decide) ?_
  refine k_sipush (v := 300) f_11_3 (by decide) ?_
  refine s_aload_n f_11_6 rfl ?_
  refine L_getR f_11_7 fd_0_10 (obL (by decide)) (by decide) (by decide : rf 8 0 = 9) ?_
  refine C_getI f_11_10 fd_0_66 (ocl (by decide)) (by decide) ?_
  refine s_min f_11_13 ca_0_69 (Nat.le_of_ble_eq_true rfl) ?_
  replace hd := obind hd
  obtain ⟨p1, e1, hd⟩ := hd
  refine L_stat (As := [.int a1, .int (-99 : Int32), .int (if (S 9 11) < (300 : Int32) then (S 9 11) else (300 : Int32))]) f_11_16 ca_0_75 rfl rfl (Nat.le_of_ble_eq_true rfl) ?_
  refine t_cD_within e1 ?_
  refine z_if_eq 46 f_11_19 (by decide) (fun c2 => ?_) (fun c2 => ?_)
  · replace hd := ite_n c2 hd
    refine aAt.sub [(0, .ref 8)] rfl ?_
    exact t_cD_person_J46 _  _ hd hQ
  · replace hd := ite_p c2 hd
    refine s_aload_n f_11_22 rfl ?_
    refine L_getR f_11_23 fd_0_10 (obL (by decide)) (by decide) (by decide : rf 8 0 = 9) ?_
    refine s_iload_n f_11_26 rfl ?_
    refine s_iload_n f_11_27 rfl ?_
    replace hd := obind hd
    obtain ⟨p4, e4, hd⟩ := hd
    refine L_virt (As := [.int a2, .int a3]) f_11_28 ca_0_79 rfl rfl (obL (by decide)) (by decide) (Nat.le_of_ble_eq_true rfl) ?_
    refine t_cLand_mayBeParents e4 ?_
    refine z_if_eq 46 f_11_31 (by decide) (fun c5 => ?_) (fun c5 => ?_)
    · replace hd := ite_n c5 hd
      refine aAt.sub [(0, .ref 8)] rfl ?_
      exact t_cD_person_J46 _  _ hd hQ
    · replace hd := ite_p c5 hd
      refine s_iload f_11_34 rfl ?_
      refine k_iconst (v := 0) f_11_36 (by decide) ?_
      refine k_sipush (v := 9999) f_11_37 (by decide) ?_
      replace hd := obind hd
      obtain ⟨p6, e6, hd⟩ := hd
      refine L_stat (As := [.int a4, .int (0 : Int32), .int (9999 : Int32)]) f_11_40 ca_0_75 rfl rfl (Nat.le_of_ble_eq_true rfl) ?_
      refine t_cD_within e6 ?_
      refine z_if_ne 53 f_11_43 (by decide) (fun c7 => ?_) (fun c7 => ?_)
      · replace hd := ite_p c7 hd
        refine s_aload_n f_11_53 rfl ?_
        refine L_getR f_11_54 fd_0_10 (obL (by decide)) (by decide) (by decide : rf 8 0 = 9) ?_
        refine C_getI f_11_57 fd_0_88 (ocl (by decide)) (by decide) ?_
        refine k_bipush (v := 14) f_11_60 (by decide) ?_
        refine s_icmp_lt 72 f_11_62 (by decide) (fun c8 => ?_) (fun c8 => ?_)
        · replace hd := ite_p c8 hd
          refine s_aload_n f_11_72 rfl ?_
          refine L_getR f_11_73 fd_0_10 (obL (by decide)) (by decide) (by decide : rf 8 0 = 9) ?_
          refine L_getR f_11_76 fd_0_92 (obL (by decide)) (by decide) (by decide : rf 9 0 = 10) ?_
          refine s_aload_n f_11_79 rfl ?_
          refine L_getR f_11_80 fd_0_10 (obL (by decide)) (by decide) (by decide : rf 8 0 = 9) ?_
          refine C_getI f_11_83 fd_0_88 (ocl (by decide)) (by decide) ?_
          replace hd := gd hd
          obtain ⟨g9, hd⟩ := hd
          refine L_aaload (ak := 30) (q := (ix (S 9 7))) f_11_86 (obL (by decide)) (by decide) (inb_nI g9) (inb_lt g9) (Nat.le_of_ble_eq_true rfl) (scPr (inb_lt g9)) (rfP (inb_lt g9)) ?_
          refine s_iload_n f_11_87 rfl ?_
          refine s_iload_n f_11_88 rfl ?_
          refine s_iload_n f_11_89 rfl ?_
          refine s_iload f_11_90 rfl ?_
          replace hd := obind hd
          obtain ⟨p10, e10, hd⟩ := hd
          refine L_virt (As := [.int a1, .int a2, .int a3, .int a4]) f_11_92 ca_0_96 rfl rfl (ocP g9).1 (by decide) (Nat.le_of_ble_eq_true rfl) ?_
          refine t_cPerson_begin (ocP g9) e10 ?_
          refine s_aload_n f_11_95 rfl ?_
          refine L_getR f_11_96 fd_0_10 (obL (by decide)) (by decide) (by decide : rf 8 0 = 9) ?_
          refine s_dup f_11_99 rfl ?_
          refine C_getI f_11_100 fd_0_88 (ocl (by decide)) (by decide) ?_
          refine s_dup_x1 f_11_103 rfl rfl ?_
          refine k_iconst (v := 1) f_11_104 (by decide) ?_
          refine s_iadd f_11_105 ?_
          refine C_putI f_11_106 fd_0_88 (ocl (by decide)) (by decide) (Or.inl rfl) (by decide) ?_
          refine s_ireturn f_11_109 rfl rfl ?_
          cases hd
          exact hQ
        · replace hd := ite_n c8 hd
          refine s_aload_n f_11_65 rfl ?_
          refine s_ldc f_11_66 ko_0_91 ?_
          replace hd := obind hd
          obtain ⟨p11, e11, hd⟩ := hd
          refine L_virt (As := [.int (-100005 : Int32)]) f_11_68 ca_0_84 rfl rfl (obL (by decide)) (by decide) (Nat.le_of_ble_eq_true rfl) ?_
          refine t_cD_found e11 ?_
          refine s_ireturn f_11_71 rfl rfl ?_
          cases hd
          exact hQ
      · replace hd := ite_n c7 hd
        refine aAt.sub [(0, .ref 8)] rfl ?_
        exact t_cD_person_J46 _  _ hd hQ

def cD_lives (S : SS) (a1 : Int32) (a2 : Bool) (a3 : Bool) : Option (Int32 × SS) :=
  (cLand_hasPerson S a1).bind fun p1 =>
  if p1 = true then
    if inb a1 14 then
      some ((1 : Int32), (up (up S (17 + (ix a1)) 8 (b2i a2)) (17 + (ix a1)) 9 (b2i a3)))
    else none
  else
    (cD_found S (-100001 : Int32)).bind fun p4 =>
    some (p4.1, p4.2)
theorem t_cD_lives {l : Launch} {G : aG} {d : Nat} {Q : Option Value → aHeap → Prop} {sl : Nat} {sx : Nat → Int32} {S : SS} {K : KS} {T : TS} {X : XS} {M : SS} {a1 : Int32} {a2 : Bool} {a3 : Bool} {p : Int32 × SS} (hd : cD_lives S a1 a2 a3 = some p) (hQ : Q (some (.int p.1)) (LH (old0 sl sx) p.2 K T X M)) : aCall l G (d + 2) 0 0 17 [.ref 8, .int a1, .int (b2i a2), .int (b2i a3)] (LH (old0 sl sx) S K T X M) Q := by
  refine aCall.of (by decide) (Nat.le_of_ble_eq_true rfl) ?_
  refine aAt.sub [(0, .ref 8), (1, .int a1), (2, .int (b2i a2)), (3, .int (b2i a3))] rfl ?_
  unfold cD_lives at hd
  refine s_aload_n f_17_0 rfl ?_
  refine L_getR f_17_1 fd_0_10 (obL (by decide)) (by decide) (by decide : rf 8 0 = 9) ?_
  refine s_iload_n f_17_4 rfl ?_
  replace hd := obind hd
  obtain ⟨p1, e1, hd⟩ := hd
  refine L_virt (As := [.int a1]) f_17_5 ca_0_102 rfl rfl (obL (by decide)) (by decide) (Nat.le_of_ble_eq_true rfl) ?_
  refine t_cLand_hasPerson e1 ?_
  refine z_if_ne 18 f_17_8 (by decide) (fun c2 => ?_) (fun c2 => ?_)
  · replace hd := ite_p c2 hd
    refine s_aload_n f_17_18 rfl ?_
    refine L_getR f_17_19 fd_0_10 (obL (by decide)) (by decide) (by decide : rf 8 0 = 9) ?_
    refine L_getR f_17_22 fd_0_92 (obL (by decide)) (by decide) (by decide : rf 9 0 = 10) ?_
    refine s_iload_n f_17_25 rfl ?_
    replace hd := gd hd
    obtain ⟨g3, hd⟩ := hd
    refine L_aaload (ak := 30) (q := (ix a1)) f_17_26 (obL (by decide)) (by decide) (inb_nI g3) (inb_lt g3) (Nat.le_of_ble_eq_true rfl) (scPr (inb_lt g3)) (rfP (inb_lt g3)) ?_
    refine s_iload_n f_17_27 rfl ?_
    refine C_putI f_17_28 fd_0_106 (ocP g3) (sck0 (k := X.2) (ocP g3).1 (by decide)) (Or.inr ⟨rfl, b2i_z a2⟩) (by decide) ?_
    refine s_aload_n f_17_31 rfl ?_
    refine L_getR f_17_32 fd_0_10 (obL (by decide)) (by decide) (by decide : rf 8 0 = 9) ?_
    refine L_getR f_17_35 fd_0_92 (obL (by decide)) (by decide) (by decide : rf 9 0 = 10) ?_
    refine s_iload_n f_17_38 rfl ?_
    refine L_aaload (ak := 30) (q := (ix a1)) f_17_39 (obL (by decide)) (by decide) (inb_nI g3) (inb_lt g3) (Nat.le_of_ble_eq_true rfl) (scPr (inb_lt g3)) (rfP (inb_lt g3)) ?_
    refine s_iload_n f_17_40 rfl ?_
    refine C_putI f_17_41 fd_0_109 (ocP g3) (sck0 (k := X.2) (ocP g3).1 (by decide)) (Or.inr ⟨rfl, b2i_z a3⟩) (by decide) ?_
    refine k_iconst (v := 1) f_17_44 (by decide) ?_
    refine s_ireturn f_17_45 rfl rfl ?_
    cases hd
    exact hQ
  · replace hd := ite_n c2 hd
    refine s_aload_n f_17_11 rfl ?_
    refine s_ldc f_17_12 ko_0_83 ?_
    replace hd := obind hd
    obtain ⟨p4, e4, hd⟩ := hd
    refine L_virt (As := [.int (-100001 : Int32)]) f_17_14 ca_0_84 rfl rfl (obL (by decide)) (by decide) (Nat.le_of_ble_eq_true rfl) ?_
    refine t_cD_found e4 ?_
    refine s_ireturn f_17_17 rfl rfl ?_
    cases hd
    exact hQ

def cD_fear_J21 (S : SS) : Option (Int32 × SS) :=
  (cD_found S (-100001 : Int32)).bind fun p3 =>
  some (p3.1, p3.2)
theorem t_cD_fear_J21 {l : Launch} {G : aG} {d : Nat} {Q : Option Value → aHeap → Prop} {sl : Nat} {sx : Nat → Int32} {K : KS} {T : TS} {X : XS} {M : SS} : ∀ (S : SS) (p : Int32 × SS), cD_fear_J21 S = some p → Q (some (.int p.1)) (LH (old0 sl sx) p.2 K T X M) → aAt l G (d + 2) 0 0 18 21 [(0, .ref 8)] [] 0 0 (LH (old0 sl sx) S K T X M) Q := by
  intro S p hd hQ
  unfold cD_fear_J21 at hd
  refine s_aload_n f_18_21 rfl ?_
  refine s_ldc f_18_22 ko_0_83 ?_
  replace hd := obind hd
  obtain ⟨p3, e3, hd⟩ := hd
  refine L_virt (As := [.int (-100001 : Int32)]) f_18_24 ca_0_84 rfl rfl (obL (by decide)) (by decide) (Nat.le_of_ble_eq_true rfl) ?_
  refine t_cD_found e3 ?_
  refine s_ireturn f_18_27 rfl rfl ?_
  cases hd
  exact hQ
def cD_fear (S : SS) (a1 : Int32) (a2 : Int32) : Option (Int32 × SS) :=
  (cLand_hasPerson S a1).bind fun p1 =>
  if p1 = true then
    (cD_within a2 (0 : Int32) (50 : Int32)).bind fun p4 =>
    if p4 = true then
      if inb a1 14 then
        some ((S (17 + (ix a1)) 5), (up S (17 + (ix a1)) 5 a2))
      else none
    else
      cD_fear_J21 S
  else
    cD_fear_J21 S
theorem t_cD_fear {l : Launch} {G : aG} {d : Nat} {Q : Option Value → aHeap → Prop} {sl : Nat} {sx : Nat → Int32} {S : SS} {K : KS} {T : TS} {X : XS} {M : SS} {a1 : Int32} {a2 : Int32} {p : Int32 × SS} (hd : cD_fear S a1 a2 = some p) (hQ : Q (some (.int p.1)) (LH (old0 sl sx) p.2 K T X M)) : aCall l G (d + 2) 0 0 18 [.ref 8, .int a1, .int a2] (LH (old0 sl sx) S K T X M) Q := by
  refine aCall.of (by decide) (Nat.le_of_ble_eq_true rfl) ?_
  refine aAt.sub [(0, .ref 8), (1, .int a1), (2, .int a2)] rfl ?_
  unfold cD_fear at hd
  refine s_aload_n f_18_0 rfl ?_
  refine L_getR f_18_1 fd_0_10 (obL (by decide)) (by decide) (by decide : rf 8 0 = 9) ?_
  refine s_iload_n f_18_4 rfl ?_
  replace hd := obind hd
  obtain ⟨p1, e1, hd⟩ := hd
  refine L_virt (As := [.int a1]) f_18_5 ca_0_102 rfl rfl (obL (by decide)) (by decide) (Nat.le_of_ble_eq_true rfl) ?_
  refine t_cLand_hasPerson e1 ?_
  refine z_if_eq 21 f_18_8 (by decide) (fun c2 => ?_) (fun c2 => ?_)
  · replace hd := ite_n c2 hd
    refine aAt.sub [(0, .ref 8)] rfl ?_
    exact t_cD_fear_J21 _  _ hd hQ
  · replace hd := ite_p c2 hd
    refine s_iload_n f_18_11 rfl ?_
    refine k_iconst (v := 0) f_18_12 (by decide) ?_
    refine k_bipush (v := 50) f_18_13 (by decide) ?_
    replace hd := obind hd
    obtain ⟨p4, e4, hd⟩ := hd
    refine L_stat (As := [.int a2, .int (0 : Int32), .int (50 : Int32)]) f_18_15 ca_0_75 rfl rfl (Nat.le_of_ble_eq_true rfl) ?_
    refine t_cD_within e4 ?_
    refine z_if_ne 28 f_18_18 (by decide) (fun c5 => ?_) (fun c5 => ?_)
    · replace hd := ite_p c5 hd
      refine s_aload_n f_18_28 rfl ?_
      refine L_getR f_18_29 fd_0_10 (obL (by decide)) (by decide) (by decide : rf 8 0 = 9) ?_
      refine L_getR f_18_32 fd_0_92 (obL (by decide)) (by decide) (by decide : rf 9 0 = 10) ?_
      refine s_iload_n f_18_35 rfl ?_
      replace hd := gd hd
      obtain ⟨g6, hd⟩ := hd
      refine L_aaload (ak := 30) (q := (ix a1)) f_18_36 (obL (by decide)) (by decide) (inb_nI g6) (inb_lt g6) (Nat.le_of_ble_eq_true rfl) (scPr (inb_lt g6)) (rfP (inb_lt g6)) ?_
      refine C_getI f_18_37 fd_0_112 (ocP g6) (sck0 (k := X.2) (ocP g6).1 (by decide)) ?_
      refine s_istore_n f_18_40 (by decide) ?_
      refine s_aload_n f_18_41 rfl ?_
      refine L_getR f_18_42 fd_0_10 (obL (by decide)) (by decide) (by decide : rf 8 0 = 9) ?_
      refine L_getR f_18_45 fd_0_92 (obL (by decide)) (by decide) (by decide : rf 9 0 = 10) ?_
      refine s_iload_n f_18_48 rfl ?_
      refine L_aaload (ak := 30) (q := (ix a1)) f_18_49 (obL (by decide)) (by decide) (inb_nI g6) (inb_lt g6) (Nat.le_of_ble_eq_true rfl) (scPr (inb_lt g6)) (rfP (inb_lt g6)) ?_
      refine s_iload_n f_18_50 rfl ?_
      refine C_putI f_18_51 fd_0_112 (ocP g6) (sck0 (k := X.2) (ocP g6).1 (by decide)) (Or.inl rfl) (by decide) ?_
      refine s_iload_n f_18_54 rfl ?_
      refine s_ireturn f_18_55 rfl rfl ?_
      cases hd
      exact hQ
    · replace hd := ite_n c5 hd
      refine aAt.sub [(0, .ref 8)] rfl ?_
      exact t_cD_fear_J21 _  _ hd hQ

def cPerson_isDead (S : SS) (a0 : Nat) : Option (Bool) :=
  if (S a0 4) < 0 then
    some false
  else
    some true
theorem t_cPerson_isDead {l : Launch} {G : aG} {d : Nat} {Q : Option Value → aHeap → Prop} {sl : Nat} {sx : Nat → Int32} {S : SS} {K : KS} {T : TS} {X : XS} {M : SS} {a0 : Nat} (ha0 : oc X.2 a0 6) {p : Bool} (hd : cPerson_isDead S a0 = some p) (hQ : Q (some (.int (b2i p))) (LH (old0 sl sx) S K T X M)) : aCall l G d 0 0 20 [.ref a0] (LH (old0 sl sx) S K T X M) Q := by
  refine aCall.of (by decide) (Nat.le_of_ble_eq_true rfl) ?_
  refine aAt.sub [(0, .ref a0)] rfl ?_
  unfold cPerson_isDead at hd
  refine s_aload_n f_20_0 rfl ?_
  refine C_getI f_20_1 fd_6_22 ha0 (sck0 (k := X.2) ha0.1 (by decide)) ?_
  refine s_if_lt 11 f_20_4 (by decide) (fun c1 => ?_) (fun c1 => ?_)
  · replace hd := ite_p c1 hd
    refine k_iconst (v := 0) f_20_11 (by decide) ?_
    refine s_iretB (b := false) f_20_12 rfl ?_
    cases hd
    exact hQ
  · replace hd := ite_n c1 hd
    refine k_iconst (v := 1) f_20_7 (by decide) ?_
    refine s_goto 12 f_20_8 (by decide) ?_
    refine s_iretB (b := true) f_20_12 rfl ?_
    cases hd
    exact hQ

def cD_die (S : SS) (a1 : Int32) : Option (Int32 × SS) :=
  (cLand_hasPerson S a1).bind fun p1 =>
  if p1 = true then
    if inb a1 14 then
      (cPerson_isDead S (17 + (ix a1))).bind fun p4 =>
      if p4 = true then
        (cD_found S (-100007 : Int32)).bind fun p6 =>
        some (p6.1, p6.2)
      else
        some ((S (17 + (ix a1)) 3), (up (up (up S 9 13 ((S 9 13) + (S (17 + (ix a1)) 3))) (17 + (ix a1)) 3 (0 : Int32)) (17 + (ix a1)) 4 ((up (up S 9 13 ((S 9 13) + (S (17 + (ix a1)) 3))) (17 + (ix a1)) 3 (0 : Int32)) 9 11)))
    else none
  else
    (cD_found S (-100001 : Int32)).bind fun p7 =>
    some (p7.1, p7.2)
theorem t_cD_die {l : Launch} {G : aG} {d : Nat} {Q : Option Value → aHeap → Prop} {sl : Nat} {sx : Nat → Int32} {S : SS} {K : KS} {T : TS} {X : XS} {M : SS} {a1 : Int32} {p : Int32 × SS} (hd : cD_die S a1 = some p) (hQ : Q (some (.int p.1)) (LH (old0 sl sx) p.2 K T X M)) : aCall l G (d + 2) 0 0 19 [.ref 8, .int a1] (LH (old0 sl sx) S K T X M) Q := by
  refine aCall.of (by decide) (Nat.le_of_ble_eq_true rfl) ?_
  refine aAt.sub [(0, .ref 8), (1, .int a1)] rfl ?_
  unfold cD_die at hd
  refine s_aload_n f_19_0 rfl ?_
  refine L_getR f_19_1 fd_0_10 (obL (by decide)) (by decide) (by decide : rf 8 0 = 9) ?_
  refine s_iload_n f_19_4 rfl ?_
  replace hd := obind hd
  obtain ⟨p1, e1, hd⟩ := hd
  refine L_virt (As := [.int a1]) f_19_5 ca_0_102 rfl rfl (obL (by decide)) (by decide) (Nat.le_of_ble_eq_true rfl) ?_
  refine t_cLand_hasPerson e1 ?_
  refine z_if_ne 18 f_19_8 (by decide) (fun c2 => ?_) (fun c2 => ?_)
  · replace hd := ite_p c2 hd
    refine s_aload_n f_19_18 rfl ?_
    refine L_getR f_19_19 fd_0_10 (obL (by decide)) (by decide) (by decide : rf 8 0 = 9) ?_
    refine L_getR f_19_22 fd_0_92 (obL (by decide)) (by decide) (by decide : rf 9 0 = 10) ?_
    refine s_iload_n f_19_25 rfl ?_
    replace hd := gd hd
    obtain ⟨g3, hd⟩ := hd
    refine L_aaload (ak := 30) (q := (ix a1)) f_19_26 (obL (by decide)) (by decide) (inb_nI g3) (inb_lt g3) (Nat.le_of_ble_eq_true rfl) (scPr (inb_lt g3)) (rfP (inb_lt g3)) ?_
    refine s_astore_n f_19_27 (by decide) ?_
    refine s_aload_n f_19_28 rfl ?_
    replace hd := obind hd
    obtain ⟨p4, e4, hd⟩ := hd
    refine L_virt (As := []) f_19_29 ca_0_115 rfl rfl (ocP g3).1 (by decide) (Nat.le_of_ble_eq_true rfl) ?_
    refine t_cPerson_isDead (ocP g3) e4 ?_
    refine z_if_eq 42 f_19_32 (by decide) (fun c5 => ?_) (fun c5 => ?_)
    · replace hd := ite_n c5 hd
      refine s_aload_n f_19_42 rfl ?_
      refine C_getI f_19_43 fd_0_120 (ocP g3) (sck0 (k := X.2) (ocP g3).1 (by decide)) ?_
      refine s_istore_n f_19_46 (by decide) ?_
      refine s_aload_n f_19_47 rfl ?_
      refine L_getR f_19_48 fd_0_10 (obL (by decide)) (by decide) (by decide : rf 8 0 = 9) ?_
      refine s_dup f_19_51 rfl ?_
      refine C_getI f_19_52 fd_0_123 (ocl (by decide)) (by decide) ?_
      refine s_iload_n f_19_55 rfl ?_
      refine s_iadd f_19_56 ?_
      refine C_putI f_19_57 fd_0_123 (ocl (by decide)) (by decide) (Or.inl rfl) (by decide) ?_
      refine s_aload_n f_19_60 rfl ?_
      refine k_iconst (v := 0) f_19_61 (by decide) ?_
      refine C_putI f_19_62 fd_0_120 (ocP g3) (sck0 (k := X.2) (ocP g3).1 (by decide)) (Or.inl rfl) (by decide) ?_
      refine s_aload_n f_19_65 rfl ?_
      refine s_aload_n f_19_66 rfl ?_
      refine L_getR f_19_67 fd_0_10 (obL (by decide)) (by decide) (by decide : rf 8 0 = 9) ?_
      refine C_getI f_19_70 fd_0_66 (ocl (by decide)) (by decide) ?_
      refine C_putI f_19_73 fd_0_126 (ocP g3) (sck0 (k := X.2) (ocP g3).1 (by decide)) (Or.inl rfl) (by decide) ?_
      refine s_iload_n f_19_76 rfl ?_
      refine s_ireturn f_19_77 rfl rfl ?_
      cases hd
      exact hQ
    · replace hd := ite_p c5 hd
      refine s_aload_n f_19_35 rfl ?_
      refine s_ldc f_19_36 ko_0_119 ?_
      replace hd := obind hd
      obtain ⟨p6, e6, hd⟩ := hd
      refine L_virt (As := [.int (-100007 : Int32)]) f_19_38 ca_0_84 rfl rfl (obL (by decide)) (by decide) (Nat.le_of_ble_eq_true rfl) ?_
      refine t_cD_found e6 ?_
      refine s_ireturn f_19_41 rfl rfl ?_
      cases hd
      exact hQ
  · replace hd := ite_n c2 hd
    refine s_aload_n f_19_11 rfl ?_
    refine s_ldc f_19_12 ko_0_83 ?_
    replace hd := obind hd
    obtain ⟨p7, e7, hd⟩ := hd
    refine L_virt (As := [.int (-100001 : Int32)]) f_19_14 ca_0_84 rfl rfl (obL (by decide)) (by decide) (Nat.le_of_ble_eq_true rfl) ?_
    refine t_cD_found e7 ?_
    refine s_ireturn f_19_17 rfl rfl ?_
    cases hd
    exact hQ

def cPaper_owed (S : SS) (a0 : Nat) : Option (Int32) :=
  some ((S a0 3) - (S a0 4))
theorem t_cPaper_owed {l : Launch} {G : aG} {d : Nat} {Q : Option Value → aHeap → Prop} {sl : Nat} {sx : Nat → Int32} {S : SS} {K : KS} {T : TS} {X : XS} {M : SS} {a0 : Nat} (ha0 : oc X.2 a0 5) {p : Int32} (hd : cPaper_owed S a0 = some p) (hQ : Q (some (.int p)) (LH (old0 sl sx) S K T X M)) : aCall l G d 0 0 24 [.ref a0] (LH (old0 sl sx) S K T X M) Q := by
  refine aCall.of (by decide) (Nat.le_of_ble_eq_true rfl) ?_
  refine aAt.sub [(0, .ref a0)] rfl ?_
  unfold cPaper_owed at hd
  refine s_aload_n f_24_0 rfl ?_
  refine C_getI f_24_1 fd_5_21 ha0 (sck0 (k := X.2) ha0.1 (by decide)) ?_
  refine s_aload_n f_24_4 rfl ?_
  refine C_getI f_24_5 fd_5_24 ha0 (sck0 (k := X.2) ha0.1 (by decide)) ?_
  refine s_isub f_24_8 ?_
  refine s_ireturn f_24_9 rfl rfl ?_
  cases hd
  exact hQ

def cPaper_openOwed (S : SS) (a0 : Nat) : Option (Int32) :=
  if (S a0 9) = 0 then
    (cPaper_owed S a0).bind fun p2 =>
    some p2
  else
    some (0 : Int32)
theorem t_cPaper_openOwed {l : Launch} {G : aG} {d : Nat} {Q : Option Value → aHeap → Prop} {sl : Nat} {sx : Nat → Int32} {S : SS} {K : KS} {T : TS} {X : XS} {M : SS} {a0 : Nat} (ha0 : oc X.2 a0 5) {p : Int32} (hd : cPaper_openOwed S a0 = some p) (hQ : Q (some (.int p)) (LH (old0 sl sx) S K T X M)) : aCall l G (d + 1) 0 0 23 [.ref a0] (LH (old0 sl sx) S K T X M) Q := by
  refine aCall.of (by decide) (Nat.le_of_ble_eq_true rfl) ?_
  refine aAt.sub [(0, .ref a0)] rfl ?_
  unfold cPaper_openOwed at hd
  refine s_aload_n f_23_0 rfl ?_
  refine C_getI f_23_1 fd_5_39 ha0 (sck0 (k := X.2) ha0.1 (by decide)) ?_
  refine s_if_ne 14 f_23_4 (by decide) (fun c1 => ?_) (fun c1 => ?_)
  · replace hd := ite_n c1 hd
    refine k_iconst (v := 0) f_23_14 (by decide) ?_
    refine s_ireturn f_23_15 rfl rfl ?_
    cases hd
    exact hQ
  · replace hd := ite_p c1 hd
    refine s_aload_n f_23_7 rfl ?_
    replace hd := obind hd
    obtain ⟨p2, e2, hd⟩ := hd
    refine L_virt (As := []) f_23_8 ca_5_46 rfl rfl ha0.1 (by decide) (Nat.le_of_ble_eq_true rfl) ?_
    refine t_cPaper_owed ha0 e2 ?_
    refine s_goto 15 f_23_11 (by decide) ?_
    refine s_ireturn f_23_15 rfl rfl ?_
    cases hd
    exact hQ

def cLand_owedBy_J39 (S : SS) (k4 : Int32 → Int32 → Int32 → Option (Int32)) (a1 : Int32) (a3 : Int32) (w0 : Int32) (w1 : Int32) : Option (Int32) :=
  k4 a1 (w0 + w1) (a3 + 1)
theorem t_cLand_owedBy_J39 {l : Launch} {G : aG} {d : Nat} {Q : Option Value → aHeap → Prop} {sl : Nat} {sx : Nat → Int32} {S : SS} {K : KS} {T : TS} {X : XS} {M : SS} {k4 : Int32 → Int32 → Int32 → Option (Int32)} (hk4 : ∀ (a1 : Int32) (a2 : Int32) (a3 : Int32) (p : Int32), k4 a1 a2 a3 = some p → Q (some (.int p)) (LH (old0 sl sx) S K T X M) → aAt l G (d + 2) 0 0 22 4 [(0, .ref 9), (1, .int a1), (2, .int a2), (3, .int a3)] [] 0 0 (LH (old0 sl sx) S K T X M) Q) : ∀ (a1 : Int32) (a3 : Int32) (w0 : Int32) (w1 : Int32) (p : Int32), cLand_owedBy_J39 S k4 a1 a3 w0 w1 = some p → Q (some (.int p)) (LH (old0 sl sx) S K T X M) → aAt l G (d + 2) 0 0 22 39 [(0, .ref 9), (1, .int a1), (3, .int a3)] [.int w1, .int w0] 0 0 (LH (old0 sl sx) S K T X M) Q := by
  intro a1 a3 w0 w1 p hd hQ
  unfold cLand_owedBy_J39 at hd
  refine s_iadd f_22_39 ?_
  refine s_istore_n f_22_40 (by decide) ?_
  refine k_iinc (w := 1) f_22_41 rfl (by decide) (by decide) ?_
  refine s_goto 4 f_22_44 (by decide) ?_
  refine aAt.sub [(0, .ref 9), (1, .int a1), (2, .int (w0 + w1)), (3, .int (a3 + 1))] rfl ?_
  exact hk4 _ _ _  _ hd hQ
def cLand_owedBy_L4 (S : SS) : Nat → Int32 → Int32 → Int32 → Option (Int32)
  | 0, _, _, _ => none
  | n + 1, a1, a2, a3 =>
    if (S 9 9) ≤ a3 then
      some a2
    else
      if inb a3 20 then
        if (S (39 + (ix a3)) 1) = a1 then
          (cPaper_openOwed S (39 + (ix a3))).bind fun p4 =>
          cLand_owedBy_J39 S (cLand_owedBy_L4 S  n) a1 a3 a2 p4
        else
          cLand_owedBy_J39 S (cLand_owedBy_L4 S  n) a1 a3 a2 (0 : Int32)
      else none
theorem t_cLand_owedBy_L4 {l : Launch} {G : aG} {d : Nat} {Q : Option Value → aHeap → Prop} {sl : Nat} {sx : Nat → Int32} {S : SS} {K : KS} {T : TS} {X : XS} {M : SS} : ∀ (n : Nat), ∀ (a1 : Int32) (a2 : Int32) (a3 : Int32) (p : Int32), cLand_owedBy_L4 S n a1 a2 a3 = some p → Q (some (.int p)) (LH (old0 sl sx) S K T X M) → aAt l G (d + 2) 0 0 22 4 [(0, .ref 9), (1, .int a1), (2, .int a2), (3, .int a3)] [] 0 0 (LH (old0 sl sx) S K T X M) Q := by
  intro n
  induction n with
  | zero =>
    intro a1 a2 a3 p hd hQ
    rw [cLand_owedBy_L4] at hd
    cases hd
  | succ n ih =>
    intro a1 a2 a3 p hd hQ
    rw [cLand_owedBy_L4] at hd
    refine s_iload_n f_22_4 rfl ?_
    refine s_aload_n f_22_5 rfl ?_
    refine C_getI f_22_6 fd_3_55 (ocl (by decide)) (by decide) ?_
    refine s_icmp_ge 47 f_22_9 (by decide) (fun c1 => ?_) (fun c1 => ?_)
    · replace hd := ite_p c1 hd
      refine s_iload_n f_22_47 rfl ?_
      refine s_ireturn f_22_48 rfl rfl ?_
      cases hd
      exact hQ
    · replace hd := ite_n c1 hd
      refine s_iload_n f_22_12 rfl ?_
      refine s_aload_n f_22_13 rfl ?_
      refine L_getR f_22_14 fd_3_25 (obL (by decide)) (by decide) (by decide : rf 9 2 = 12) ?_
      refine s_iload_n f_22_17 rfl ?_
      replace hd := gd hd
      obtain ⟨g2, hd⟩ := hd
      refine L_aaload (ak := 32) (q := (ix a3)) f_22_18 (obL (by decide)) (by decide) (inb_nI g2) (inb_lt g2) (Nat.le_of_ble_eq_true rfl) (scAr (inb_lt g2)) (rfA (inb_lt g2)) ?_
      refine C_getI f_22_19 fd_3_161 (ocA g2) (sck0 (k := X.2) (ocA g2).1 (by decide)) ?_
      refine s_iload_n f_22_22 rfl ?_
      refine s_icmp_ne 38 f_22_23 (by decide) (fun c3 => ?_) (fun c3 => ?_)
      · replace hd := ite_n c3 hd
        refine k_iconst (v := 0) f_22_38 (by decide) ?_
        refine aAt.sub [(0, .ref 9), (1, .int a1), (3, .int a3)] rfl ?_
        exact t_cLand_owedBy_J39 ih _ _ _ _  _ hd hQ
      · replace hd := ite_p c3 hd
        refine s_aload_n f_22_26 rfl ?_
        refine L_getR f_22_27 fd_3_25 (obL (by decide)) (by decide) (by decide : rf 9 2 = 12) ?_
        refine s_iload_n f_22_30 rfl ?_
        refine L_aaload (ak := 32) (q := (ix a3)) f_22_31 (obL (by decide)) (by decide) (inb_nI g2) (inb_lt g2) (Nat.le_of_ble_eq_true rfl) (scAr (inb_lt g2)) (rfA (inb_lt g2)) ?_
        replace hd := obind hd
        obtain ⟨p4, e4, hd⟩ := hd
        refine L_virt (As := []) f_22_32 ca_3_188 rfl rfl (ocA g2).1 (by decide) (Nat.le_of_ble_eq_true rfl) ?_
        refine t_cPaper_openOwed (ocA g2) e4 ?_
        refine s_goto 39 f_22_35 (by decide) ?_
        refine aAt.sub [(0, .ref 9), (1, .int a1), (3, .int a3)] rfl ?_
        exact t_cLand_owedBy_J39 ih _ _ _ _  _ hd hQ
def cLand_owedBy (S : SS) (a1 : Int32) : Option (Int32) :=
  cLand_owedBy_L4 S FU a1 (0 : Int32) (0 : Int32)
theorem t_cLand_owedBy {l : Launch} {G : aG} {d : Nat} {Q : Option Value → aHeap → Prop} {sl : Nat} {sx : Nat → Int32} {S : SS} {K : KS} {T : TS} {X : XS} {M : SS} {a1 : Int32} {p : Int32} (hd : cLand_owedBy S a1 = some p) (hQ : Q (some (.int p)) (LH (old0 sl sx) S K T X M)) : aCall l G (d + 2) 0 0 22 [.ref 9, .int a1] (LH (old0 sl sx) S K T X M) Q := by
  refine aCall.of (by decide) (Nat.le_of_ble_eq_true rfl) ?_
  refine aAt.sub [(0, .ref 9), (1, .int a1)] rfl ?_
  unfold cLand_owedBy at hd
  refine k_iconst (v := 0) f_22_0 (by decide) ?_
  refine s_istore_n f_22_1 (by decide) ?_
  refine k_iconst (v := 0) f_22_2 (by decide) ?_
  refine s_istore_n f_22_3 (by decide) ?_
  refine aAt.sub [(0, .ref 9), (1, .int a1), (2, .int (0 : Int32)), (3, .int (0 : Int32))] rfl ?_
  exact t_cLand_owedBy_L4 FU _ _ _  _ hd hQ

def cLand_owedTo_J39 (S : SS) (k4 : Int32 → Int32 → Int32 → Option (Int32)) (a1 : Int32) (a3 : Int32) (w0 : Int32) (w1 : Int32) : Option (Int32) :=
  k4 a1 (w0 + w1) (a3 + 1)
theorem t_cLand_owedTo_J39 {l : Launch} {G : aG} {d : Nat} {Q : Option Value → aHeap → Prop} {sl : Nat} {sx : Nat → Int32} {S : SS} {K : KS} {T : TS} {X : XS} {M : SS} {k4 : Int32 → Int32 → Int32 → Option (Int32)} (hk4 : ∀ (a1 : Int32) (a2 : Int32) (a3 : Int32) (p : Int32), k4 a1 a2 a3 = some p → Q (some (.int p)) (LH (old0 sl sx) S K T X M) → aAt l G (d + 2) 0 0 25 4 [(0, .ref 9), (1, .int a1), (2, .int a2), (3, .int a3)] [] 0 0 (LH (old0 sl sx) S K T X M) Q) : ∀ (a1 : Int32) (a3 : Int32) (w0 : Int32) (w1 : Int32) (p : Int32), cLand_owedTo_J39 S k4 a1 a3 w0 w1 = some p → Q (some (.int p)) (LH (old0 sl sx) S K T X M) → aAt l G (d + 2) 0 0 25 39 [(0, .ref 9), (1, .int a1), (3, .int a3)] [.int w1, .int w0] 0 0 (LH (old0 sl sx) S K T X M) Q := by
  intro a1 a3 w0 w1 p hd hQ
  unfold cLand_owedTo_J39 at hd
  refine s_iadd f_25_39 ?_
  refine s_istore_n f_25_40 (by decide) ?_
  refine k_iinc (w := 1) f_25_41 rfl (by decide) (by decide) ?_
  refine s_goto 4 f_25_44 (by decide) ?_
  refine aAt.sub [(0, .ref 9), (1, .int a1), (2, .int (w0 + w1)), (3, .int (a3 + 1))] rfl ?_
  exact hk4 _ _ _  _ hd hQ
def cLand_owedTo_L4 (S : SS) : Nat → Int32 → Int32 → Int32 → Option (Int32)
  | 0, _, _, _ => none
  | n + 1, a1, a2, a3 =>
    if (S 9 9) ≤ a3 then
      some a2
    else
      if inb a3 20 then
        if (S (39 + (ix a3)) 2) = a1 then
          (cPaper_openOwed S (39 + (ix a3))).bind fun p4 =>
          cLand_owedTo_J39 S (cLand_owedTo_L4 S  n) a1 a3 a2 p4
        else
          cLand_owedTo_J39 S (cLand_owedTo_L4 S  n) a1 a3 a2 (0 : Int32)
      else none
theorem t_cLand_owedTo_L4 {l : Launch} {G : aG} {d : Nat} {Q : Option Value → aHeap → Prop} {sl : Nat} {sx : Nat → Int32} {S : SS} {K : KS} {T : TS} {X : XS} {M : SS} : ∀ (n : Nat), ∀ (a1 : Int32) (a2 : Int32) (a3 : Int32) (p : Int32), cLand_owedTo_L4 S n a1 a2 a3 = some p → Q (some (.int p)) (LH (old0 sl sx) S K T X M) → aAt l G (d + 2) 0 0 25 4 [(0, .ref 9), (1, .int a1), (2, .int a2), (3, .int a3)] [] 0 0 (LH (old0 sl sx) S K T X M) Q := by
  intro n
  induction n with
  | zero =>
    intro a1 a2 a3 p hd hQ
    rw [cLand_owedTo_L4] at hd
    cases hd
  | succ n ih =>
    intro a1 a2 a3 p hd hQ
    rw [cLand_owedTo_L4] at hd
    refine s_iload_n f_25_4 rfl ?_
    refine s_aload_n f_25_5 rfl ?_
    refine C_getI f_25_6 fd_3_55 (ocl (by decide)) (by decide) ?_
    refine s_icmp_ge 47 f_25_9 (by decide) (fun c1 => ?_) (fun c1 => ?_)
    · replace hd := ite_p c1 hd
      refine s_iload_n f_25_47 rfl ?_
      refine s_ireturn f_25_48 rfl rfl ?_
      cases hd
      exact hQ
    · replace hd := ite_n c1 hd
      refine s_iload_n f_25_12 rfl ?_
      refine s_aload_n f_25_13 rfl ?_
      refine L_getR f_25_14 fd_3_25 (obL (by decide)) (by decide) (by decide : rf 9 2 = 12) ?_
      refine s_iload_n f_25_17 rfl ?_
      replace hd := gd hd
      obtain ⟨g2, hd⟩ := hd
      refine L_aaload (ak := 32) (q := (ix a3)) f_25_18 (obL (by decide)) (by decide) (inb_nI g2) (inb_lt g2) (Nat.le_of_ble_eq_true rfl) (scAr (inb_lt g2)) (rfA (inb_lt g2)) ?_
      refine C_getI f_25_19 fd_3_152 (ocA g2) (sck0 (k := X.2) (ocA g2).1 (by decide)) ?_
      refine s_iload_n f_25_22 rfl ?_
      refine s_icmp_ne 38 f_25_23 (by decide) (fun c3 => ?_) (fun c3 => ?_)
      · replace hd := ite_n c3 hd
        refine k_iconst (v := 0) f_25_38 (by decide) ?_
        refine aAt.sub [(0, .ref 9), (1, .int a1), (3, .int a3)] rfl ?_
        exact t_cLand_owedTo_J39 ih _ _ _ _  _ hd hQ
      · replace hd := ite_p c3 hd
        refine s_aload_n f_25_26 rfl ?_
        refine L_getR f_25_27 fd_3_25 (obL (by decide)) (by decide) (by decide : rf 9 2 = 12) ?_
        refine s_iload_n f_25_30 rfl ?_
        refine L_aaload (ak := 32) (q := (ix a3)) f_25_31 (obL (by decide)) (by decide) (inb_nI g2) (inb_lt g2) (Nat.le_of_ble_eq_true rfl) (scAr (inb_lt g2)) (rfA (inb_lt g2)) ?_
        replace hd := obind hd
        obtain ⟨p4, e4, hd⟩ := hd
        refine L_virt (As := []) f_25_32 ca_3_188 rfl rfl (ocA g2).1 (by decide) (Nat.le_of_ble_eq_true rfl) ?_
        refine t_cPaper_openOwed (ocA g2) e4 ?_
        refine s_goto 39 f_25_35 (by decide) ?_
        refine aAt.sub [(0, .ref 9), (1, .int a1), (3, .int a3)] rfl ?_
        exact t_cLand_owedTo_J39 ih _ _ _ _  _ hd hQ
def cLand_owedTo (S : SS) (a1 : Int32) : Option (Int32) :=
  cLand_owedTo_L4 S FU a1 (0 : Int32) (0 : Int32)
theorem t_cLand_owedTo {l : Launch} {G : aG} {d : Nat} {Q : Option Value → aHeap → Prop} {sl : Nat} {sx : Nat → Int32} {S : SS} {K : KS} {T : TS} {X : XS} {M : SS} {a1 : Int32} {p : Int32} (hd : cLand_owedTo S a1 = some p) (hQ : Q (some (.int p)) (LH (old0 sl sx) S K T X M)) : aCall l G (d + 2) 0 0 25 [.ref 9, .int a1] (LH (old0 sl sx) S K T X M) Q := by
  refine aCall.of (by decide) (Nat.le_of_ble_eq_true rfl) ?_
  refine aAt.sub [(0, .ref 9), (1, .int a1)] rfl ?_
  unfold cLand_owedTo at hd
  refine k_iconst (v := 0) f_25_0 (by decide) ?_
  refine s_istore_n f_25_1 (by decide) ?_
  refine k_iconst (v := 0) f_25_2 (by decide) ?_
  refine s_istore_n f_25_3 (by decide) ?_
  refine aAt.sub [(0, .ref 9), (1, .int a1), (2, .int (0 : Int32)), (3, .int (0 : Int32))] rfl ?_
  exact t_cLand_owedTo_L4 FU _ _ _  _ hd hQ

def cD_bit (a0 : Bool) : Option (Int32) :=
  if a0 = true then
    some (1 : Int32)
  else
    some (0 : Int32)
theorem t_cD_bit {l : Launch} {G : aG} {d : Nat} {Q : Option Value → aHeap → Prop} {sl : Nat} {sx : Nat → Int32} {S : SS} {K : KS} {T : TS} {X : XS} {M : SS} {a0 : Bool} {p : Int32} (hd : cD_bit a0 = some p) (hQ : Q (some (.int p)) (LH (old0 sl sx) S K T X M)) : aCall l G d 0 0 27 [.int (b2i a0)] (LH (old0 sl sx) S K T X M) Q := by
  refine aCall.of (by decide) (Nat.le_of_ble_eq_true rfl) ?_
  refine aAt.sub [(0, .int (b2i a0))] rfl ?_
  unfold cD_bit at hd
  refine s_iload_n f_27_0 rfl ?_
  refine z_if_eq 8 f_27_1 (by decide) (fun c1 => ?_) (fun c1 => ?_)
  · replace hd := ite_n c1 hd
    refine k_iconst (v := 0) f_27_8 (by decide) ?_
    refine s_ireturn f_27_9 rfl rfl ?_
    cases hd
    exact hQ
  · replace hd := ite_p c1 hd
    refine k_iconst (v := 1) f_27_4 (by decide) ?_
    refine s_goto 9 f_27_5 (by decide) ?_
    refine s_ireturn f_27_9 rfl rfl ?_
    cases hd
    exact hQ

def cLand_fieldsHeldBy_J31 (S : SS) (k4 : Int32 → Int32 → Int32 → Option (Int32)) (a1 : Int32) (a3 : Int32) (w0 : Int32) (w1 : Bool) : Option (Int32) :=
  (cD_bit w1).bind fun p4 =>
  k4 a1 (w0 ||| (p4 <<< (a3 &&& 31))) (a3 + 1)
theorem t_cLand_fieldsHeldBy_J31 {l : Launch} {G : aG} {d : Nat} {Q : Option Value → aHeap → Prop} {sl : Nat} {sx : Nat → Int32} {S : SS} {K : KS} {T : TS} {X : XS} {M : SS} {k4 : Int32 → Int32 → Int32 → Option (Int32)} (hk4 : ∀ (a1 : Int32) (a2 : Int32) (a3 : Int32) (p : Int32), k4 a1 a2 a3 = some p → Q (some (.int p)) (LH (old0 sl sx) S K T X M) → aAt l G (d + 1) 0 0 26 4 [(0, .ref 9), (1, .int a1), (2, .int a2), (3, .int a3)] [] 0 0 (LH (old0 sl sx) S K T X M) Q) : ∀ (a1 : Int32) (a3 : Int32) (w0 : Int32) (w1 : Bool) (p : Int32), cLand_fieldsHeldBy_J31 S k4 a1 a3 w0 w1 = some p → Q (some (.int p)) (LH (old0 sl sx) S K T X M) → aAt l G (d + 1) 0 0 26 31 [(0, .ref 9), (1, .int a1), (3, .int a3)] [.int (b2i w1), .int w0] 0 0 (LH (old0 sl sx) S K T X M) Q := by
  intro a1 a3 w0 w1 p hd hQ
  unfold cLand_fieldsHeldBy_J31 at hd
  replace hd := obind hd
  obtain ⟨p4, e4, hd⟩ := hd
  refine L_statN (As := [.int (b2i w1)]) f_26_31 ca_3_127 rfl rfl (Nat.le_of_ble_eq_true rfl) ?_
  refine t_cD_bit e4 ?_
  refine s_iload_n f_26_34 rfl ?_
  refine s_ishl f_26_35 ?_
  refine s_ior f_26_36 ?_
  refine s_istore_n f_26_37 (by decide) ?_
  refine k_iinc (w := 1) f_26_38 rfl (by decide) (by decide) ?_
  refine s_goto 4 f_26_41 (by decide) ?_
  refine aAt.sub [(0, .ref 9), (1, .int a1), (2, .int (w0 ||| (p4 <<< (a3 &&& 31)))), (3, .int (a3 + 1))] rfl ?_
  exact hk4 _ _ _  _ hd hQ
def cLand_fieldsHeldBy_L4 (S : SS) : Nat → Int32 → Int32 → Int32 → Option (Int32)
  | 0, _, _, _ => none
  | n + 1, a1, a2, a3 =>
    if (S 9 8) ≤ a3 then
      some a2
    else
      if inb a3 8 then
        if (S (31 + (ix a3)) 2) = a1 then
          cLand_fieldsHeldBy_J31 S (cLand_fieldsHeldBy_L4 S  n) a1 a3 a2 true
        else
          cLand_fieldsHeldBy_J31 S (cLand_fieldsHeldBy_L4 S  n) a1 a3 a2 false
      else none
theorem t_cLand_fieldsHeldBy_L4 {l : Launch} {G : aG} {d : Nat} {Q : Option Value → aHeap → Prop} {sl : Nat} {sx : Nat → Int32} {S : SS} {K : KS} {T : TS} {X : XS} {M : SS} : ∀ (n : Nat), ∀ (a1 : Int32) (a2 : Int32) (a3 : Int32) (p : Int32), cLand_fieldsHeldBy_L4 S n a1 a2 a3 = some p → Q (some (.int p)) (LH (old0 sl sx) S K T X M) → aAt l G (d + 1) 0 0 26 4 [(0, .ref 9), (1, .int a1), (2, .int a2), (3, .int a3)] [] 0 0 (LH (old0 sl sx) S K T X M) Q := by
  intro n
  induction n with
  | zero =>
    intro a1 a2 a3 p hd hQ
    rw [cLand_fieldsHeldBy_L4] at hd
    cases hd
  | succ n ih =>
    intro a1 a2 a3 p hd hQ
    rw [cLand_fieldsHeldBy_L4] at hd
    refine s_iload_n f_26_4 rfl ?_
    refine s_aload_n f_26_5 rfl ?_
    refine C_getI f_26_6 fd_3_52 (ocl (by decide)) (by decide) ?_
    refine s_icmp_ge 44 f_26_9 (by decide) (fun c1 => ?_) (fun c1 => ?_)
    · replace hd := ite_p c1 hd
      refine s_iload_n f_26_44 rfl ?_
      refine s_ireturn f_26_45 rfl rfl ?_
      cases hd
      exact hQ
    · replace hd := ite_n c1 hd
      refine s_iload_n f_26_12 rfl ?_
      refine s_aload_n f_26_13 rfl ?_
      refine L_getR f_26_14 fd_3_19 (obL (by decide)) (by decide) (by decide : rf 9 1 = 11) ?_
      refine s_iload_n f_26_17 rfl ?_
      replace hd := gd hd
      obtain ⟨g2, hd⟩ := hd
      refine L_aaload (ak := 31) (q := (ix a3)) f_26_18 (obL (by decide)) (by decide) (inb_nI g2) (inb_lt g2) (Nat.le_of_ble_eq_true rfl) (scFr (inb_lt g2)) (rfF (inb_lt g2)) ?_
      refine C_getI f_26_19 fd_3_155 (ocF g2) (sck0 (k := X.2) (ocF g2).1 (by decide)) ?_
      refine s_iload_n f_26_22 rfl ?_
      refine s_icmp_ne 30 f_26_23 (by decide) (fun c3 => ?_) (fun c3 => ?_)
      · replace hd := ite_n c3 hd
        refine k_iconst (v := 0) f_26_30 (by decide) ?_
        refine aAt.sub [(0, .ref 9), (1, .int a1), (3, .int a3)] rfl ?_
        exact t_cLand_fieldsHeldBy_J31 ih _ _ _ _  _ hd hQ
      · replace hd := ite_p c3 hd
        refine k_iconst (v := 1) f_26_26 (by decide) ?_
        refine s_goto 31 f_26_27 (by decide) ?_
        refine aAt.sub [(0, .ref 9), (1, .int a1), (3, .int a3)] rfl ?_
        exact t_cLand_fieldsHeldBy_J31 ih _ _ _ _  _ hd hQ
def cLand_fieldsHeldBy (S : SS) (a1 : Int32) : Option (Int32) :=
  cLand_fieldsHeldBy_L4 S FU a1 (0 : Int32) (0 : Int32)
theorem t_cLand_fieldsHeldBy {l : Launch} {G : aG} {d : Nat} {Q : Option Value → aHeap → Prop} {sl : Nat} {sx : Nat → Int32} {S : SS} {K : KS} {T : TS} {X : XS} {M : SS} {a1 : Int32} {p : Int32} (hd : cLand_fieldsHeldBy S a1 = some p) (hQ : Q (some (.int p)) (LH (old0 sl sx) S K T X M)) : aCall l G (d + 1) 0 0 26 [.ref 9, .int a1] (LH (old0 sl sx) S K T X M) Q := by
  refine aCall.of (by decide) (Nat.le_of_ble_eq_true rfl) ?_
  refine aAt.sub [(0, .ref 9), (1, .int a1)] rfl ?_
  unfold cLand_fieldsHeldBy at hd
  refine k_iconst (v := 0) f_26_0 (by decide) ?_
  refine s_istore_n f_26_1 (by decide) ?_
  refine k_iconst (v := 0) f_26_2 (by decide) ?_
  refine s_istore_n f_26_3 (by decide) ?_
  refine aAt.sub [(0, .ref 9), (1, .int a1), (2, .int (0 : Int32)), (3, .int (0 : Int32))] rfl ?_
  exact t_cLand_fieldsHeldBy_L4 FU _ _ _  _ hd hQ

def cD_personIs (S : SS) (a1 : Int32) (a2 : Int32) : Option (Int32 × SS) :=
  (cLand_hasPerson S a1).bind fun p1 =>
  if p1 = true then
    if inb a1 14 then
      if a2 = 0 then
        some ((S (17 + (ix a1)) 0), S)
      else
        if a2 = 1 then
          some ((S (17 + (ix a1)) 4), S)
        else
          if a2 = 2 then
            some ((S (17 + (ix a1)) 3), S)
          else
            if a2 = 3 then
              some ((S (17 + (ix a1)) 6), S)
            else
              if a2 = 4 then
                (cLand_owedBy S a1).bind fun p9 =>
                some (p9, S)
              else
                if a2 = 5 then
                  (cLand_owedTo S a1).bind fun p11 =>
                  some (p11, S)
                else
                  if a2 = 6 then
                    some ((S (17 + (ix a1)) 7), S)
                  else
                    if a2 = 7 then
                      (cLand_fieldsHeldBy S a1).bind fun p14 =>
                      some (p14, S)
                    else
                      (cD_found S (-100001 : Int32)).bind fun p15 =>
                      some (p15.1, p15.2)
    else none
  else
    (cD_found S (-100001 : Int32)).bind fun p16 =>
    some (p16.1, p16.2)
theorem t_cD_personIs {l : Launch} {G : aG} {d : Nat} {Q : Option Value → aHeap → Prop} {sl : Nat} {sx : Nat → Int32} {S : SS} {K : KS} {T : TS} {X : XS} {M : SS} {a1 : Int32} {a2 : Int32} {p : Int32 × SS} (hd : cD_personIs S a1 a2 = some p) (hQ : Q (some (.int p.1)) (LH (old0 sl sx) p.2 K T X M)) : aCall l G (d + 3) 0 0 21 [.ref 8, .int a1, .int a2] (LH (old0 sl sx) S K T X M) Q := by
  refine aCall.of (by decide) (Nat.le_of_ble_eq_true rfl) ?_
  refine aAt.sub [(0, .ref 8), (1, .int a1), (2, .int a2)] rfl ?_
  unfold cD_personIs at hd
  refine s_aload_n f_21_0 rfl ?_
  refine L_getR f_21_1 fd_0_10 (obL (by decide)) (by decide) (by decide : rf 8 0 = 9) ?_
  refine s_iload_n f_21_4 rfl ?_
  replace hd := obind hd
  obtain ⟨p1, e1, hd⟩ := hd
  refine L_virt (As := [.int a1]) f_21_5 ca_0_102 rfl rfl (obL (by decide)) (by decide) (Nat.le_of_ble_eq_true rfl) ?_
  refine t_cLand_hasPerson e1 ?_
  refine z_if_ne 18 f_21_8 (by decide) (fun c2 => ?_) (fun c2 => ?_)
  · replace hd := ite_p c2 hd
    refine s_aload_n f_21_18 rfl ?_
    refine L_getR f_21_19 fd_0_10 (obL (by decide)) (by decide) (by decide : rf 8 0 = 9) ?_
    refine L_getR f_21_22 fd_0_92 (obL (by decide)) (by decide) (by decide : rf 9 0 = 10) ?_
    refine s_iload_n f_21_25 rfl ?_
    replace hd := gd hd
    obtain ⟨g3, hd⟩ := hd
    refine L_aaload (ak := 30) (q := (ix a1)) f_21_26 (obL (by decide)) (by decide) (inb_nI g3) (inb_lt g3) (Nat.le_of_ble_eq_true rfl) (scPr (inb_lt g3)) (rfP (inb_lt g3)) ?_
    refine s_astore_n f_21_27 (by decide) ?_
    refine s_iload_n f_21_28 rfl ?_
    by_cases c4 : a2 = 0
    · replace hd := ite_p c4 hd
      refine s_tabJ (off := 47) (0 : Int32) 76 c4 f_21_29 (by decide) (by decide) (by decide) (by decide) ?_
      refine s_aload_n f_21_76 rfl ?_
      refine C_getI f_21_77 fd_0_129 (ocP g3) (sck0 (k := X.2) (ocP g3).1 (by decide)) ?_
      refine s_ireturn f_21_80 rfl rfl ?_
      cases hd
      exact hQ
    replace hd := ite_n c4 hd
    by_cases c5 : a2 = 1
    · replace hd := ite_p c5 hd
      refine s_tabJ (off := 52) (1 : Int32) 81 c5 f_21_29 (by decide) (by decide) (by decide) (by decide) ?_
      refine s_aload_n f_21_81 rfl ?_
      refine C_getI f_21_82 fd_0_126 (ocP g3) (sck0 (k := X.2) (ocP g3).1 (by decide)) ?_
      refine s_ireturn f_21_85 rfl rfl ?_
      cases hd
      exact hQ
    replace hd := ite_n c5 hd
    by_cases c6 : a2 = 2
    · replace hd := ite_p c6 hd
      refine s_tabJ (off := 57) (2 : Int32) 86 c6 f_21_29 (by decide) (by decide) (by decide) (by decide) ?_
      refine s_aload_n f_21_86 rfl ?_
      refine C_getI f_21_87 fd_0_120 (ocP g3) (sck0 (k := X.2) (ocP g3).1 (by decide)) ?_
      refine s_ireturn f_21_90 rfl rfl ?_
      cases hd
      exact hQ
    replace hd := ite_n c6 hd
    by_cases c7 : a2 = 3
    · replace hd := ite_p c7 hd
      refine s_tabJ (off := 62) (3 : Int32) 91 c7 f_21_29 (by decide) (by decide) (by decide) (by decide) ?_
      refine s_aload_n f_21_91 rfl ?_
      refine C_getI f_21_92 fd_0_132 (ocP g3) (sck0 (k := X.2) (ocP g3).1 (by decide)) ?_
      refine s_ireturn f_21_95 rfl rfl ?_
      cases hd
      exact hQ
    replace hd := ite_n c7 hd
    by_cases c8 : a2 = 4
    · replace hd := ite_p c8 hd
      refine s_tabJ (off := 67) (4 : Int32) 96 c8 f_21_29 (by decide) (by decide) (by decide) (by decide) ?_
      refine s_aload_n f_21_96 rfl ?_
      refine L_getR f_21_97 fd_0_10 (obL (by decide)) (by decide) (by decide : rf 8 0 = 9) ?_
      refine s_iload_n f_21_100 rfl ?_
      replace hd := obind hd
      obtain ⟨p9, e9, hd⟩ := hd
      refine L_virt (As := [.int a1]) f_21_101 ca_0_135 rfl rfl (obL (by decide)) (by decide) (Nat.le_of_ble_eq_true rfl) ?_
      refine t_cLand_owedBy e9 ?_
      refine s_ireturn f_21_104 rfl rfl ?_
      cases hd
      exact hQ
    replace hd := ite_n c8 hd
    by_cases c10 : a2 = 5
    · replace hd := ite_p c10 hd
      refine s_tabJ (off := 76) (5 : Int32) 105 c10 f_21_29 (by decide) (by decide) (by decide) (by decide) ?_
      refine s_aload_n f_21_105 rfl ?_
      refine L_getR f_21_106 fd_0_10 (obL (by decide)) (by decide) (by decide : rf 8 0 = 9) ?_
      refine s_iload_n f_21_109 rfl ?_
      replace hd := obind hd
      obtain ⟨p11, e11, hd⟩ := hd
      refine L_virt (As := [.int a1]) f_21_110 ca_0_138 rfl rfl (obL (by decide)) (by decide) (Nat.le_of_ble_eq_true rfl) ?_
      refine t_cLand_owedTo e11 ?_
      refine s_ireturn f_21_113 rfl rfl ?_
      cases hd
      exact hQ
    replace hd := ite_n c10 hd
    by_cases c12 : a2 = 6
    · replace hd := ite_p c12 hd
      refine s_tabJ (off := 85) (6 : Int32) 114 c12 f_21_29 (by decide) (by decide) (by decide) (by decide) ?_
      refine s_aload_n f_21_114 rfl ?_
      refine C_getI f_21_115 fd_0_141 (ocP g3) (sck0 (k := X.2) (ocP g3).1 (by decide)) ?_
      refine s_ireturn f_21_118 rfl rfl ?_
      cases hd
      exact hQ
    replace hd := ite_n c12 hd
    by_cases c13 : a2 = 7
    · replace hd := ite_p c13 hd
      refine s_tabJ (off := 90) (7 : Int32) 119 c13 f_21_29 (by decide) (by decide) (by decide) (by decide) ?_
      refine s_aload_n f_21_119 rfl ?_
      refine L_getR f_21_120 fd_0_10 (obL (by decide)) (by decide) (by decide : rf 8 0 = 9) ?_
      refine s_iload_n f_21_123 rfl ?_
      replace hd := obind hd
      obtain ⟨p14, e14, hd⟩ := hd
      refine L_virt (As := [.int a1]) f_21_124 ca_0_144 rfl rfl (obL (by decide)) (by decide) (Nat.le_of_ble_eq_true rfl) ?_
      refine t_cLand_fieldsHeldBy e14 ?_
      refine s_ireturn f_21_127 rfl rfl ?_
      cases hd
      exact hQ
    replace hd := ite_n c13 hd
    refine s_tableOut 128 f_21_29 (sw_out (lo := 0) (n := 7) (by decide) (by decide) (fun j hj e => by
    have : j = 0 ∨ j = 1 ∨ j = 2 ∨ j = 3 ∨ j = 4 ∨ j = 5 ∨ j = 6 ∨ j = 7 := by omega
    rcases this with rfl | rfl | rfl | rfl | rfl | rfl | rfl | rfl
    · exact c4 (e.trans (by decide))
    · exact c5 (e.trans (by decide))
    · exact c6 (e.trans (by decide))
    · exact c7 (e.trans (by decide))
    · exact c8 (e.trans (by decide))
    · exact c10 (e.trans (by decide))
    · exact c12 (e.trans (by decide))
    · exact c13 (e.trans (by decide)))) (by decide) ?_
    refine s_aload_n f_21_128 rfl ?_
    refine s_ldc f_21_129 ko_0_83 ?_
    replace hd := obind hd
    obtain ⟨p15, e15, hd⟩ := hd
    refine L_virt (As := [.int (-100001 : Int32)]) f_21_131 ca_0_84 rfl rfl (obL (by decide)) (by decide) (Nat.le_of_ble_eq_true rfl) ?_
    refine t_cD_found e15 ?_
    refine s_ireturn f_21_134 rfl rfl ?_
    cases hd
    exact hQ
  · replace hd := ite_n c2 hd
    refine s_aload_n f_21_11 rfl ?_
    refine s_ldc f_21_12 ko_0_83 ?_
    replace hd := obind hd
    obtain ⟨p16, e16, hd⟩ := hd
    refine L_virt (As := [.int (-100001 : Int32)]) f_21_14 ca_0_84 rfl rfl (obL (by decide)) (by decide) (Nat.le_of_ble_eq_true rfl) ?_
    refine t_cD_found e16 ?_
    refine s_ireturn f_21_17 rfl rfl ?_
    cases hd
    exact hQ

def cField_begin (S : SS) (a0 : Nat) (a1 : Int32) (a2 : Int32) (a3 : Bool) : Option (SS) :=
  some (up (up (up (up S a0 0 a1) a0 1 a2) a0 2 a1) a0 3 (b2i a3))
theorem t_cField_begin {l : Launch} {G : aG} {d : Nat} {Q : Option Value → aHeap → Prop} {sl : Nat} {sx : Nat → Int32} {S : SS} {K : KS} {T : TS} {X : XS} {M : SS} {a0 : Nat} {a1 : Int32} {a2 : Int32} {a3 : Bool} (ha0 : oc X.2 a0 2) {p : SS} (hd : cField_begin S a0 a1 a2 a3 = some p) (hQ : Q none (LH (old0 sl sx) p K T X M)) : aCall l G d 0 0 29 [.ref a0, .int a1, .int a2, .int (b2i a3)] (LH (old0 sl sx) S K T X M) Q := by
  refine aCall.of (by decide) (Nat.le_of_ble_eq_true rfl) ?_
  refine aAt.sub [(0, .ref a0), (1, .int a1), (2, .int a2), (3, .int (b2i a3))] rfl ?_
  unfold cField_begin at hd
  refine s_aload_n f_29_0 rfl ?_
  refine s_iload_n f_29_1 rfl ?_
  refine C_putI f_29_2 fd_2_7 ha0 (sck0 (k := X.2) ha0.1 (by decide)) (Or.inl rfl) (by decide) ?_
  refine s_aload_n f_29_5 rfl ?_
  refine s_iload_n f_29_6 rfl ?_
  refine C_putI f_29_7 fd_2_13 ha0 (sck0 (k := X.2) ha0.1 (by decide)) (Or.inl rfl) (by decide) ?_
  refine s_aload_n f_29_10 rfl ?_
  refine s_iload_n f_29_11 rfl ?_
  refine C_putI f_29_12 fd_2_16 ha0 (sck0 (k := X.2) ha0.1 (by decide)) (Or.inl rfl) (by decide) ?_
  refine s_aload_n f_29_15 rfl ?_
  refine s_iload_n f_29_16 rfl ?_
  refine C_putI f_29_17 fd_2_19 ha0 (sck0 (k := X.2) ha0.1 (by decide)) (Or.inr ⟨rfl, b2i_z a3⟩) (by decide) ?_
  refine s_return f_29_20 rfl ?_
  cases hd
  exact hQ

def cD_field_J21 (S : SS) : Option (Int32 × SS) :=
  (cD_found S (-100001 : Int32)).bind fun p3 =>
  some (p3.1, p3.2)
theorem t_cD_field_J21 {l : Launch} {G : aG} {d : Nat} {Q : Option Value → aHeap → Prop} {sl : Nat} {sx : Nat → Int32} {K : KS} {T : TS} {X : XS} {M : SS} : ∀ (S : SS) (p : Int32 × SS), cD_field_J21 S = some p → Q (some (.int p.1)) (LH (old0 sl sx) p.2 K T X M) → aAt l G (d + 2) 0 0 28 21 [(0, .ref 8)] [] 0 0 (LH (old0 sl sx) S K T X M) Q := by
  intro S p hd hQ
  unfold cD_field_J21 at hd
  refine s_aload_n f_28_21 rfl ?_
  refine s_ldc f_28_22 ko_0_83 ?_
  replace hd := obind hd
  obtain ⟨p3, e3, hd⟩ := hd
  refine L_virt (As := [.int (-100001 : Int32)]) f_28_24 ca_0_84 rfl rfl (obL (by decide)) (by decide) (Nat.le_of_ble_eq_true rfl) ?_
  refine t_cD_found e3 ?_
  refine s_ireturn f_28_27 rfl rfl ?_
  cases hd
  exact hQ
def cD_field (S : SS) (a1 : Int32) (a2 : Int32) (a3 : Bool) : Option (Int32 × SS) :=
  (cLand_hasPerson S a1).bind fun p1 =>
  if p1 = true then
    (cD_within a2 (1 : Int32) (99 : Int32)).bind fun p4 =>
    if p4 = true then
      if (S 9 8) < (8 : Int32) then
        if inb (S 9 8) 8 then
          (cField_begin S (31 + (ix (S 9 8))) a1 a2 a3).bind fun p8 =>
          some ((p8 9 8), (up p8 9 8 ((p8 9 8) + (1 : Int32))))
        else none
      else
        (cD_found S (-100005 : Int32)).bind fun p9 =>
        some (p9.1, p9.2)
    else
      cD_field_J21 S
  else
    cD_field_J21 S
theorem t_cD_field {l : Launch} {G : aG} {d : Nat} {Q : Option Value → aHeap → Prop} {sl : Nat} {sx : Nat → Int32} {S : SS} {K : KS} {T : TS} {X : XS} {M : SS} {a1 : Int32} {a2 : Int32} {a3 : Bool} {p : Int32 × SS} (hd : cD_field S a1 a2 a3 = some p) (hQ : Q (some (.int p.1)) (LH (old0 sl sx) p.2 K T X M)) : aCall l G (d + 2) 0 0 28 [.ref 8, .int a1, .int a2, .int (b2i a3)] (LH (old0 sl sx) S K T X M) Q := by
  refine aCall.of (by decide) (Nat.le_of_ble_eq_true rfl) ?_
  refine aAt.sub [(0, .ref 8), (1, .int a1), (2, .int a2), (3, .int (b2i a3))] rfl ?_
  unfold cD_field at hd
  refine s_aload_n f_28_0 rfl ?_
  refine L_getR f_28_1 fd_0_10 (obL (by decide)) (by decide) (by decide : rf 8 0 = 9) ?_
  refine s_iload_n f_28_4 rfl ?_
  replace hd := obind hd
  obtain ⟨p1, e1, hd⟩ := hd
  refine L_virt (As := [.int a1]) f_28_5 ca_0_102 rfl rfl (obL (by decide)) (by decide) (Nat.le_of_ble_eq_true rfl) ?_
  refine t_cLand_hasPerson e1 ?_
  refine z_if_eq 21 f_28_8 (by decide) (fun c2 => ?_) (fun c2 => ?_)
  · replace hd := ite_n c2 hd
    refine aAt.sub [(0, .ref 8)] rfl ?_
    exact t_cD_field_J21 _  _ hd hQ
  · replace hd := ite_p c2 hd
    refine s_iload_n f_28_11 rfl ?_
    refine k_iconst (v := 1) f_28_12 (by decide) ?_
    refine k_bipush (v := 99) f_28_13 (by decide) ?_
    replace hd := obind hd
    obtain ⟨p4, e4, hd⟩ := hd
    refine L_stat (As := [.int a2, .int (1 : Int32), .int (99 : Int32)]) f_28_15 ca_0_75 rfl rfl (Nat.le_of_ble_eq_true rfl) ?_
    refine t_cD_within e4 ?_
    refine z_if_ne 28 f_28_18 (by decide) (fun c5 => ?_) (fun c5 => ?_)
    · replace hd := ite_p c5 hd
      refine s_aload_n f_28_28 rfl ?_
      refine L_getR f_28_29 fd_0_10 (obL (by decide)) (by decide) (by decide : rf 8 0 = 9) ?_
      refine C_getI f_28_32 fd_0_147 (ocl (by decide)) (by decide) ?_
      refine k_bipush (v := 8) f_28_35 (by decide) ?_
      refine s_icmp_lt 47 f_28_37 (by decide) (fun c6 => ?_) (fun c6 => ?_)
      · replace hd := ite_p c6 hd
        refine s_aload_n f_28_47 rfl ?_
        refine L_getR f_28_48 fd_0_10 (obL (by decide)) (by decide) (by decide : rf 8 0 = 9) ?_
        refine L_getR f_28_51 fd_0_150 (obL (by decide)) (by decide) (by decide : rf 9 1 = 11) ?_
        refine s_aload_n f_28_54 rfl ?_
        refine L_getR f_28_55 fd_0_10 (obL (by decide)) (by decide) (by decide : rf 8 0 = 9) ?_
        refine C_getI f_28_58 fd_0_147 (ocl (by decide)) (by decide) ?_
        replace hd := gd hd
        obtain ⟨g7, hd⟩ := hd
        refine L_aaload (ak := 31) (q := (ix (S 9 8))) f_28_61 (obL (by decide)) (by decide) (inb_nI g7) (inb_lt g7) (Nat.le_of_ble_eq_true rfl) (scFr (inb_lt g7)) (rfF (inb_lt g7)) ?_
        refine s_iload_n f_28_62 rfl ?_
        refine s_iload_n f_28_63 rfl ?_
        refine s_iload_n f_28_64 rfl ?_
        replace hd := obind hd
        obtain ⟨p8, e8, hd⟩ := hd
        refine L_virt (As := [.int a1, .int a2, .int (b2i a3)]) f_28_65 ca_0_154 rfl rfl (ocF g7).1 (by decide) (Nat.le_of_ble_eq_true rfl) ?_
        refine t_cField_begin (ocF g7) e8 ?_
        refine s_aload_n f_28_68 rfl ?_
        refine L_getR f_28_69 fd_0_10 (obL (by decide)) (by decide) (by decide : rf 8 0 = 9) ?_
        refine s_dup f_28_72 rfl ?_
        refine C_getI f_28_73 fd_0_147 (ocl (by decide)) (by decide) ?_
        refine s_dup_x1 f_28_76 rfl rfl ?_
        refine k_iconst (v := 1) f_28_77 (by decide) ?_
        refine s_iadd f_28_78 ?_
        refine C_putI f_28_79 fd_0_147 (ocl (by decide)) (by decide) (Or.inl rfl) (by decide) ?_
        refine s_ireturn f_28_82 rfl rfl ?_
        cases hd
        exact hQ
      · replace hd := ite_n c6 hd
        refine s_aload_n f_28_40 rfl ?_
        refine s_ldc f_28_41 ko_0_91 ?_
        replace hd := obind hd
        obtain ⟨p9, e9, hd⟩ := hd
        refine L_virt (As := [.int (-100005 : Int32)]) f_28_43 ca_0_84 rfl rfl (obL (by decide)) (by decide) (Nat.le_of_ble_eq_true rfl) ?_
        refine t_cD_found e9 ?_
        refine s_ireturn f_28_46 rfl rfl ?_
        cases hd
        exact hQ
    · replace hd := ite_n c5 hd
      refine aAt.sub [(0, .ref 8)] rfl ?_
      exact t_cD_field_J21 _  _ hd hQ

def cLand_hasField (S : SS) (a1 : Int32) : Option (Bool) :=
  (cD_within a1 (0 : Int32) ((S 9 8) - (1 : Int32))).bind fun p1 =>
  some p1
theorem t_cLand_hasField {l : Launch} {G : aG} {d : Nat} {Q : Option Value → aHeap → Prop} {sl : Nat} {sx : Nat → Int32} {S : SS} {K : KS} {T : TS} {X : XS} {M : SS} {a1 : Int32} {p : Bool} (hd : cLand_hasField S a1 = some p) (hQ : Q (some (.int (b2i p))) (LH (old0 sl sx) S K T X M)) : aCall l G (d + 1) 0 0 31 [.ref 9, .int a1] (LH (old0 sl sx) S K T X M) Q := by
  refine aCall.of (by decide) (Nat.le_of_ble_eq_true rfl) ?_
  refine aAt.sub [(0, .ref 9), (1, .int a1)] rfl ?_
  unfold cLand_hasField at hd
  refine s_iload_n f_31_0 rfl ?_
  refine k_iconst (v := 0) f_31_1 (by decide) ?_
  refine s_aload_n f_31_2 rfl ?_
  refine C_getI f_31_3 fd_3_52 (ocl (by decide)) (by decide) ?_
  refine k_iconst (v := 1) f_31_6 (by decide) ?_
  refine s_isub f_31_7 ?_
  replace hd := obind hd
  obtain ⟨p1, e1, hd⟩ := hd
  refine L_statN (As := [.int a1, .int (0 : Int32), .int ((S 9 8) - (1 : Int32))]) f_31_8 ca_3_104 rfl rfl (Nat.le_of_ble_eq_true rfl) ?_
  refine t_cD_within e1 ?_
  refine s_iretB (b := p1) f_31_11 rfl ?_
  cases hd
  exact hQ

def cD_fieldIs (S : SS) (a1 : Int32) (a2 : Int32) : Option (Int32 × SS) :=
  (cLand_hasField S a1).bind fun p1 =>
  if p1 = true then
    if inb a1 8 then
      if a2 = 0 then
        some ((S (31 + (ix a1)) 1), S)
      else
        if a2 = 1 then
          some ((S (31 + (ix a1)) 0), S)
        else
          if a2 = 2 then
            some ((S (31 + (ix a1)) 2), S)
          else
            if a2 = 3 then
              if (S (31 + (ix a1)) 3) = 0 ∨ (S (31 + (ix a1)) 3) = 1 then
                (cD_bit (decide ((S (31 + (ix a1)) 3) = 1))).bind fun p9 =>
                some (p9, S)
              else none
            else
              (cD_found S (-100001 : Int32)).bind fun p10 =>
              some (p10.1, p10.2)
    else none
  else
    (cD_found S (-100001 : Int32)).bind fun p11 =>
    some (p11.1, p11.2)
theorem t_cD_fieldIs {l : Launch} {G : aG} {d : Nat} {Q : Option Value → aHeap → Prop} {sl : Nat} {sx : Nat → Int32} {S : SS} {K : KS} {T : TS} {X : XS} {M : SS} {a1 : Int32} {a2 : Int32} {p : Int32 × SS} (hd : cD_fieldIs S a1 a2 = some p) (hQ : Q (some (.int p.1)) (LH (old0 sl sx) p.2 K T X M)) : aCall l G (d + 2) 0 0 30 [.ref 8, .int a1, .int a2] (LH (old0 sl sx) S K T X M) Q := by
  refine aCall.of (by decide) (Nat.le_of_ble_eq_true rfl) ?_
  refine aAt.sub [(0, .ref 8), (1, .int a1), (2, .int a2)] rfl ?_
  unfold cD_fieldIs at hd
  refine s_aload_n f_30_0 rfl ?_
  refine L_getR f_30_1 fd_0_10 (obL (by decide)) (by decide) (by decide : rf 8 0 = 9) ?_
  refine s_iload_n f_30_4 rfl ?_
  replace hd := obind hd
  obtain ⟨p1, e1, hd⟩ := hd
  refine L_virt (As := [.int a1]) f_30_5 ca_0_159 rfl rfl (obL (by decide)) (by decide) (Nat.le_of_ble_eq_true rfl) ?_
  refine t_cLand_hasField e1 ?_
  refine z_if_ne 18 f_30_8 (by decide) (fun c2 => ?_) (fun c2 => ?_)
  · replace hd := ite_p c2 hd
    refine s_aload_n f_30_18 rfl ?_
    refine L_getR f_30_19 fd_0_10 (obL (by decide)) (by decide) (by decide : rf 8 0 = 9) ?_
    refine L_getR f_30_22 fd_0_150 (obL (by decide)) (by decide) (by decide : rf 9 1 = 11) ?_
    refine s_iload_n f_30_25 rfl ?_
    replace hd := gd hd
    obtain ⟨g3, hd⟩ := hd
    refine L_aaload (ak := 31) (q := (ix a1)) f_30_26 (obL (by decide)) (by decide) (inb_nI g3) (inb_lt g3) (Nat.le_of_ble_eq_true rfl) (scFr (inb_lt g3)) (rfF (inb_lt g3)) ?_
    refine s_astore_n f_30_27 (by decide) ?_
    refine s_iload_n f_30_28 rfl ?_
    by_cases c4 : a2 = 0
    · replace hd := ite_p c4 hd
      refine s_tabJ (off := 31) (0 : Int32) 60 c4 f_30_29 (by decide) (by decide) (by decide) (by decide) ?_
      refine s_aload_n f_30_60 rfl ?_
      refine C_getI f_30_61 fd_0_162 (ocF g3) (sck0 (k := X.2) (ocF g3).1 (by decide)) ?_
      refine s_ireturn f_30_64 rfl rfl ?_
      cases hd
      exact hQ
    replace hd := ite_n c4 hd
    by_cases c5 : a2 = 1
    · replace hd := ite_p c5 hd
      refine s_tabJ (off := 36) (1 : Int32) 65 c5 f_30_29 (by decide) (by decide) (by decide) (by decide) ?_
      refine s_aload_n f_30_65 rfl ?_
      refine C_getI f_30_66 fd_0_165 (ocF g3) (sck0 (k := X.2) (ocF g3).1 (by decide)) ?_
      refine s_ireturn f_30_69 rfl rfl ?_
      cases hd
      exact hQ
    replace hd := ite_n c5 hd
    by_cases c6 : a2 = 2
    · replace hd := ite_p c6 hd
      refine s_tabJ (off := 41) (2 : Int32) 70 c6 f_30_29 (by decide) (by decide) (by decide) (by decide) ?_
      refine s_aload_n f_30_70 rfl ?_
      refine C_getI f_30_71 fd_0_168 (ocF g3) (sck0 (k := X.2) (ocF g3).1 (by decide)) ?_
      refine s_ireturn f_30_74 rfl rfl ?_
      cases hd
      exact hQ
    replace hd := ite_n c6 hd
    by_cases c7 : a2 = 3
    · replace hd := ite_p c7 hd
      refine s_tabJ (off := 46) (3 : Int32) 75 c7 f_30_29 (by decide) (by decide) (by decide) (by decide) ?_
      refine s_aload_n f_30_75 rfl ?_
      refine C_getI f_30_76 fd_0_171 (ocF g3) (sck0 (k := X.2) (ocF g3).1 (by decide)) ?_
      replace hd := gd hd
      obtain ⟨g8, hd⟩ := hd
      refine aAt.stk [.int (b2i (decide ((S (31 + (ix a1)) 3) = 1)))] (by rw [← z01 g8] <;> rfl) ?_
      replace hd := obind hd
      obtain ⟨p9, e9, hd⟩ := hd
      refine L_stat (As := [.int (b2i (decide ((S (31 + (ix a1)) 3) = 1)))]) f_30_79 ca_0_172 rfl rfl (Nat.le_of_ble_eq_true rfl) ?_
      refine t_cD_bit e9 ?_
      refine s_ireturn f_30_82 rfl rfl ?_
      cases hd
      exact hQ
    replace hd := ite_n c7 hd
    refine s_tableOut 83 f_30_29 (sw_out (lo := 0) (n := 3) (by decide) (by decide) (fun j hj e => by
    have : j = 0 ∨ j = 1 ∨ j = 2 ∨ j = 3 := by omega
    rcases this with rfl | rfl | rfl | rfl
    · exact c4 (e.trans (by decide))
    · exact c5 (e.trans (by decide))
    · exact c6 (e.trans (by decide))
    · exact c7 (e.trans (by decide)))) (by decide) ?_
    refine s_aload_n f_30_83 rfl ?_
    refine s_ldc f_30_84 ko_0_83 ?_
    replace hd := obind hd
    obtain ⟨p10, e10, hd⟩ := hd
    refine L_virt (As := [.int (-100001 : Int32)]) f_30_86 ca_0_84 rfl rfl (obL (by decide)) (by decide) (Nat.le_of_ble_eq_true rfl) ?_
    refine t_cD_found e10 ?_
    refine s_ireturn f_30_89 rfl rfl ?_
    cases hd
    exact hQ
  · replace hd := ite_n c2 hd
    refine s_aload_n f_30_11 rfl ?_
    refine s_ldc f_30_12 ko_0_83 ?_
    replace hd := obind hd
    obtain ⟨p11, e11, hd⟩ := hd
    refine L_virt (As := [.int (-100001 : Int32)]) f_30_14 ca_0_84 rfl rfl (obL (by decide)) (by decide) (Nat.le_of_ble_eq_true rfl) ?_
    refine t_cD_found e11 ?_
    refine s_ireturn f_30_17 rfl rfl ?_
    cases hd
    exact hQ

def cPerson_isChildOf_J16 (S : SS) : Option (Bool) :=
  some true
theorem t_cPerson_isChildOf_J16 {l : Launch} {G : aG} {d : Nat} {Q : Option Value → aHeap → Prop} {sl : Nat} {sx : Nat → Int32} {S : SS} {K : KS} {T : TS} {X : XS} {M : SS} : ∀ (p : Bool), cPerson_isChildOf_J16 S = some p → Q (some (.int (b2i p))) (LH (old0 sl sx) S K T X M) → aAt l G d 0 0 35 16 [] [] 0 0 (LH (old0 sl sx) S K T X M) Q := by
  intro p hd hQ
  unfold cPerson_isChildOf_J16 at hd
  refine k_iconst (v := 1) f_35_16 (by decide) ?_
  refine s_goto 21 f_35_17 (by decide) ?_
  refine s_iretB (b := true) f_35_21 rfl ?_
  cases hd
  exact hQ
def cPerson_isChildOf (S : SS) (a0 : Nat) (a1 : Int32) : Option (Bool) :=
  if (S a0 1) = a1 then
    cPerson_isChildOf_J16 S 
  else
    if (S a0 2) = a1 then
      cPerson_isChildOf_J16 S 
    else
      some false
theorem t_cPerson_isChildOf {l : Launch} {G : aG} {d : Nat} {Q : Option Value → aHeap → Prop} {sl : Nat} {sx : Nat → Int32} {S : SS} {K : KS} {T : TS} {X : XS} {M : SS} {a0 : Nat} {a1 : Int32} (ha0 : oc X.2 a0 6) {p : Bool} (hd : cPerson_isChildOf S a0 a1 = some p) (hQ : Q (some (.int (b2i p))) (LH (old0 sl sx) S K T X M)) : aCall l G d 0 0 35 [.ref a0, .int a1] (LH (old0 sl sx) S K T X M) Q := by
  refine aCall.of (by decide) (Nat.le_of_ble_eq_true rfl) ?_
  refine aAt.sub [(0, .ref a0), (1, .int a1)] rfl ?_
  unfold cPerson_isChildOf at hd
  refine s_aload_n f_35_0 rfl ?_
  refine C_getI f_35_1 fd_6_13 ha0 (sck0 (k := X.2) ha0.1 (by decide)) ?_
  refine s_iload_n f_35_4 rfl ?_
  refine s_icmp_eq 16 f_35_5 (by decide) (fun c1 => ?_) (fun c1 => ?_)
  · replace hd := ite_p c1 hd
    refine aAt.sub [] rfl ?_
    exact t_cPerson_isChildOf_J16   _ hd hQ
  · replace hd := ite_n c1 hd
    refine s_aload_n f_35_8 rfl ?_
    refine C_getI f_35_9 fd_6_16 ha0 (sck0 (k := X.2) ha0.1 (by decide)) ?_
    refine s_iload_n f_35_12 rfl ?_
    refine s_icmp_ne 20 f_35_13 (by decide) (fun c2 => ?_) (fun c2 => ?_)
    · replace hd := ite_n c2 hd
      refine k_iconst (v := 0) f_35_20 (by decide) ?_
      refine s_iretB (b := false) f_35_21 rfl ?_
      cases hd
      exact hQ
    · replace hd := ite_p c2 hd
      refine aAt.sub [] rfl ?_
      exact t_cPerson_isChildOf_J16   _ hd hQ

def cLand_heirsFrom_J63 (fH : Int32 → Int32 → Option (Int32)) (S : SS) (k23 : Int32 → Int32 → Int32 → Int32 → Option (Int32)) (a1 : Int32) (a2 : Int32) (a3 : Int32) (a4 : Int32) : Option (Int32) :=
  k23 a1 a2 a3 (a4 + 1)
theorem t_cLand_heirsFrom_J63 {l : Launch} {G : aG} {d : Nat} {Q : Option Value → aHeap → Prop} {sl : Nat} {sx : Nat → Int32} {S : SS} {K : KS} {T : TS} {X : XS} {M : SS} {fH : Int32 → Int32 → Option (Int32)} {k23 : Int32 → Int32 → Int32 → Int32 → Option (Int32)} (hfH : ∀ (e : Nat) (a1 : Int32) (a2 : Int32) (p : Int32) (Q : Option Value → aHeap → Prop), fH a1 a2 = some p → Q (some (.int p)) (LH (old0 sl sx) S K T X M) → aCall l G (d + 2 + e) 0 0 34 [.ref 9, .int a1, .int a2] (LH (old0 sl sx) S K T X M) Q) (hk23 : ∀ (a1 : Int32) (a2 : Int32) (a3 : Int32) (a4 : Int32) (p : Int32), k23 a1 a2 a3 a4 = some p → Q (some (.int p)) (LH (old0 sl sx) S K T X M) → aAt l G (d + 3) 0 0 34 23 [(0, .ref 9), (1, .int a1), (2, .int a2), (3, .int a3), (4, .int a4)] [] 0 0 (LH (old0 sl sx) S K T X M) Q) : ∀ (a1 : Int32) (a2 : Int32) (a3 : Int32) (a4 : Int32) (p : Int32), cLand_heirsFrom_J63 fH S k23 a1 a2 a3 a4 = some p → Q (some (.int p)) (LH (old0 sl sx) S K T X M) → aAt l G (d + 3) 0 0 34 63 [(0, .ref 9), (1, .int a1), (2, .int a2), (3, .int a3), (4, .int a4)] [] 0 0 (LH (old0 sl sx) S K T X M) Q := by
  intro a1 a2 a3 a4 p hd hQ
  unfold cLand_heirsFrom_J63 at hd
  refine k_iinc (w := 1) f_34_63 rfl (by decide) (by decide) ?_
  refine s_goto 23 f_34_66 (by decide) ?_
  refine aAt.sub [(0, .ref 9), (1, .int a1), (2, .int a2), (3, .int a3), (4, .int (a4 + 1))] rfl ?_
  exact hk23 _ _ _ _  _ hd hQ
def cLand_heirsFrom_L23 (fH : Int32 → Int32 → Option (Int32)) (S : SS) : Nat → Int32 → Int32 → Int32 → Int32 → Option (Int32)
  | 0, _, _, _, _ => none
  | n + 1, a1, a2, a3, a4 =>
    if (S 9 7) ≤ a4 then
      some a3
    else
      if (5 : Int32) ≤ a2 then
        some a3
      else
        if inb a4 14 then
          (cPerson_isChildOf S (17 + (ix a4)) a1).bind fun p7 =>
          if p7 = true then
            (fH a4 (a2 + (1 : Int32))).bind fun p9 =>
            cLand_heirsFrom_J63 fH S (cLand_heirsFrom_L23 fH S  n) a1 a2 (a3 ||| p9) a4
          else
            cLand_heirsFrom_J63 fH S (cLand_heirsFrom_L23 fH S  n) a1 a2 a3 a4
        else none
theorem t_cLand_heirsFrom_L23 {l : Launch} {G : aG} {d : Nat} {Q : Option Value → aHeap → Prop} {sl : Nat} {sx : Nat → Int32} {S : SS} {K : KS} {T : TS} {X : XS} {M : SS} {fH : Int32 → Int32 → Option (Int32)} (hfH : ∀ (e : Nat) (a1 : Int32) (a2 : Int32) (p : Int32) (Q : Option Value → aHeap → Prop), fH a1 a2 = some p → Q (some (.int p)) (LH (old0 sl sx) S K T X M) → aCall l G (d + 2 + e) 0 0 34 [.ref 9, .int a1, .int a2] (LH (old0 sl sx) S K T X M) Q) : ∀ (n : Nat), ∀ (a1 : Int32) (a2 : Int32) (a3 : Int32) (a4 : Int32) (p : Int32), cLand_heirsFrom_L23 fH S n a1 a2 a3 a4 = some p → Q (some (.int p)) (LH (old0 sl sx) S K T X M) → aAt l G (d + 3) 0 0 34 23 [(0, .ref 9), (1, .int a1), (2, .int a2), (3, .int a3), (4, .int a4)] [] 0 0 (LH (old0 sl sx) S K T X M) Q := by
  intro n
  induction n with
  | zero =>
    intro a1 a2 a3 a4 p hd hQ
    rw [cLand_heirsFrom_L23] at hd
    cases hd
  | succ n ih =>
    intro a1 a2 a3 a4 p hd hQ
    rw [cLand_heirsFrom_L23] at hd
    refine s_iload f_34_23 rfl ?_
    refine s_aload_n f_34_25 rfl ?_
    refine C_getI f_34_26 fd_3_48 (ocl (by decide)) (by decide) ?_
    refine s_icmp_ge 69 f_34_29 (by decide) (fun c4 => ?_) (fun c4 => ?_)
    · replace hd := ite_p c4 hd
      refine s_iload_n f_34_69 rfl ?_
      refine s_ireturn f_34_70 rfl rfl ?_
      cases hd
      exact hQ
    · replace hd := ite_n c4 hd
      refine s_iload_n f_34_32 rfl ?_
      refine k_iconst (v := 5) f_34_33 (by decide) ?_
      refine s_icmp_ge 69 f_34_34 (by decide) (fun c5 => ?_) (fun c5 => ?_)
      · replace hd := ite_p c5 hd
        refine s_iload_n f_34_69 rfl ?_
        refine s_ireturn f_34_70 rfl rfl ?_
        cases hd
        exact hQ
      · replace hd := ite_n c5 hd
        refine s_aload_n f_34_37 rfl ?_
        refine L_getR f_34_38 fd_3_11 (obL (by decide)) (by decide) (by decide : rf 9 0 = 10) ?_
        refine s_iload f_34_41 rfl ?_
        replace hd := gd hd
        obtain ⟨g6, hd⟩ := hd
        refine L_aaload (ak := 30) (q := (ix a4)) f_34_43 (obL (by decide)) (by decide) (inb_nI g6) (inb_lt g6) (Nat.le_of_ble_eq_true rfl) (scPr (inb_lt g6)) (rfP (inb_lt g6)) ?_
        refine s_iload_n f_34_44 rfl ?_
        replace hd := obind hd
        obtain ⟨p7, e7, hd⟩ := hd
        refine L_virt (As := [.int a1]) f_34_45 ca_3_120 rfl rfl (ocP g6).1 (by decide) (Nat.le_of_ble_eq_true rfl) ?_
        refine t_cPerson_isChildOf (ocP g6) e7 ?_
        refine z_if_eq 63 f_34_48 (by decide) (fun c8 => ?_) (fun c8 => ?_)
        · replace hd := ite_n c8 hd
          refine aAt.sub [(0, .ref 9), (1, .int a1), (2, .int a2), (3, .int a3), (4, .int a4)] rfl ?_
          exact t_cLand_heirsFrom_J63 hfH ih _ _ _ _  _ hd hQ
        · replace hd := ite_p c8 hd
          refine s_iload_n f_34_51 rfl ?_
          refine s_aload_n f_34_52 rfl ?_
          refine s_iload f_34_53 rfl ?_
          refine s_iload_n f_34_55 rfl ?_
          refine k_iconst (v := 1) f_34_56 (by decide) ?_
          refine s_iadd f_34_57 ?_
          replace hd := obind hd
          obtain ⟨p9, e9, hd⟩ := hd
          refine L_virt (As := [.int a4, .int (a2 + (1 : Int32))]) f_34_58 ca_3_112 rfl rfl (obL (by decide)) (by decide) (Nat.le_of_ble_eq_true rfl) ?_
          refine hfH 0 _ _ _ _ e9 ?_
          refine s_ior f_34_61 ?_
          refine s_istore_n f_34_62 (by decide) ?_
          refine aAt.sub [(0, .ref 9), (1, .int a1), (2, .int a2), (3, .int (a3 ||| p9)), (4, .int a4)] rfl ?_
          exact t_cLand_heirsFrom_J63 hfH ih _ _ _ _  _ hd hQ
def cLand_heirsFrom (fH : Int32 → Int32 → Option (Int32)) (S : SS) (a1 : Int32) (a2 : Int32) : Option (Int32) :=
  if inb a1 14 then
    (cPerson_isDead S (17 + (ix a1))).bind fun p2 =>
    if p2 = true then
      cLand_heirsFrom_L23 fH S FU a1 a2 (0 : Int32) (a1 + (1 : Int32))
    else
      some ((1 : Int32) <<< (a1 &&& 31))
  else none
theorem t_cLand_heirsFrom {l : Launch} {G : aG} {d : Nat} {Q : Option Value → aHeap → Prop} {sl : Nat} {sx : Nat → Int32} {S : SS} {K : KS} {T : TS} {X : XS} {M : SS} {fH : Int32 → Int32 → Option (Int32)} {a1 : Int32} {a2 : Int32} (hfH : ∀ (e : Nat) (a1 : Int32) (a2 : Int32) (p : Int32) (Q : Option Value → aHeap → Prop), fH a1 a2 = some p → Q (some (.int p)) (LH (old0 sl sx) S K T X M) → aCall l G (d + 2 + e) 0 0 34 [.ref 9, .int a1, .int a2] (LH (old0 sl sx) S K T X M) Q) {p : Int32} (hd : cLand_heirsFrom fH S a1 a2 = some p) (hQ : Q (some (.int p)) (LH (old0 sl sx) S K T X M)) : aCall l G (d + 3) 0 0 34 [.ref 9, .int a1, .int a2] (LH (old0 sl sx) S K T X M) Q := by
  refine aCall.of (by decide) (Nat.le_of_ble_eq_true rfl) ?_
  refine aAt.sub [(0, .ref 9), (1, .int a1), (2, .int a2)] rfl ?_
  unfold cLand_heirsFrom at hd
  refine s_aload_n f_34_0 rfl ?_
  refine L_getR f_34_1 fd_3_11 (obL (by decide)) (by decide) (by decide : rf 9 0 = 10) ?_
  refine s_iload_n f_34_4 rfl ?_
  replace hd := gd hd
  obtain ⟨g1, hd⟩ := hd
  refine L_aaload (ak := 30) (q := (ix a1)) f_34_5 (obL (by decide)) (by decide) (inb_nI g1) (inb_lt g1) (Nat.le_of_ble_eq_true rfl) (scPr (inb_lt g1)) (rfP (inb_lt g1)) ?_
  replace hd := obind hd
  obtain ⟨p2, e2, hd⟩ := hd
  refine L_virt (As := []) f_34_6 ca_3_116 rfl rfl (ocP g1).1 (by decide) (Nat.le_of_ble_eq_true rfl) ?_
  refine t_cPerson_isDead (ocP g1) e2 ?_
  refine z_if_ne 16 f_34_9 (by decide) (fun c3 => ?_) (fun c3 => ?_)
  · replace hd := ite_p c3 hd
    refine k_iconst (v := 0) f_34_16 (by decide) ?_
    refine s_istore_n f_34_17 (by decide) ?_
    refine s_iload_n f_34_18 rfl ?_
    refine k_iconst (v := 1) f_34_19 (by decide) ?_
    refine s_iadd f_34_20 ?_
    refine s_istore f_34_21 (by decide) ?_
    refine aAt.sub [(0, .ref 9), (1, .int a1), (2, .int a2), (3, .int (0 : Int32)), (4, .int (a1 + (1 : Int32)))] rfl ?_
    exact t_cLand_heirsFrom_L23 hfH FU _ _ _ _  _ hd hQ
  · replace hd := ite_n c3 hd
    refine k_iconst (v := 1) f_34_12 (by decide) ?_
    refine s_iload_n f_34_13 rfl ?_
    refine s_ishl f_34_14 ?_
    refine s_ireturn f_34_15 rfl rfl ?_
    cases hd
    exact hQ

def rHeirs (S : SS) : Nat → Int32 → Int32 → Option (Int32)
  | 0, _, _ => none
  | n + 1, a1, a2 => cLand_heirsFrom (rHeirs S n) S a1 a2
theorem t_rHeirs {l : Launch} {G : aG} {sl : Nat} {sx : Nat → Int32} {d : Nat} {S : SS} {K : KS} {T : TS} {X : XS} {M : SS} : ∀ (n : Nat), ∀ (e : Nat) (a1 : Int32) (a2 : Int32) (p : Int32) (Q : Option Value → aHeap → Prop), rHeirs S n a1 a2 = some p → Q (some (.int p)) (LH (old0 sl sx) S K T X M) → aCall l G (d + 1 * n + 2 + e) 0 0 34 [.ref 9, .int a1, .int a2] (LH (old0 sl sx) S K T X M) Q := by
  intro n
  induction n with
  | zero =>
    intro e a1 a2 p Q hd hQ
    rw [rHeirs] at hd
    cases hd
  | succ n ih =>
    intro e a1 a2 p Q hd hQ
    rw [rHeirs] at hd
    rw [show d + 1 * (n + 1) + 2 + e = (d + 1 * n + e) + 3 from by omega]
    refine t_cLand_heirsFrom (fun e2 a1 a2 p Q h1 h2 => ?_) hd hQ
    rw [show d + 1 * n + e + 2 + e2 = d + 1 * n + 2 + (e + e2) from by omega]
    exact ih (e + e2) a1 a2 p Q h1 h2
def cLand_heirsFrom_r (S : SS) (a1 : Int32) (a2 : Int32) : Option (Int32) := cLand_heirsFrom (rHeirs S 10) S a1 a2
theorem t_cLand_heirsFrom_r {l : Launch} {G : aG} {sl : Nat} {sx : Nat → Int32} {d : Nat} {Q : Option Value → aHeap → Prop} {S : SS} {K : KS} {T : TS} {X : XS} {M : SS} {a1 : Int32} {a2 : Int32} {p : Int32} (hd : cLand_heirsFrom_r S a1 a2 = some p) (hQ : Q (some (.int p)) (LH (old0 sl sx) S K T X M)) : aCall l G (d + 13) 0 0 34 [.ref 9, .int a1, .int a2] (LH (old0 sl sx) S K T X M) Q := by
  unfold cLand_heirsFrom_r at hd
  rw [show d + 13 = (d + 10) + 3 from by omega]
  refine t_cLand_heirsFrom (fun e2 a1 a2 p Q h1 h2 => by rw [show d + 10 + 2 + e2 = d + 1 * 10 + 2 + e2 from by omega]; exact (t_rHeirs 10) e2 a1 a2 p Q h1 h2) hd hQ

def cLand_heirsOf (S : SS) (a1 : Int32) : Option (Int32) :=
  (cLand_heirsFrom_r S a1 (0 : Int32)).bind fun p1 =>
  some p1
theorem t_cLand_heirsOf {l : Launch} {G : aG} {d : Nat} {Q : Option Value → aHeap → Prop} {sl : Nat} {sx : Nat → Int32} {S : SS} {K : KS} {T : TS} {X : XS} {M : SS} {a1 : Int32} {p : Int32} (hd : cLand_heirsOf S a1 = some p) (hQ : Q (some (.int p)) (LH (old0 sl sx) S K T X M)) : aCall l G (d + 14) 0 0 33 [.ref 9, .int a1] (LH (old0 sl sx) S K T X M) Q := by
  refine aCall.of (by decide) (Nat.le_of_ble_eq_true rfl) ?_
  refine aAt.sub [(0, .ref 9), (1, .int a1)] rfl ?_
  unfold cLand_heirsOf at hd
  refine s_aload_n f_33_0 rfl ?_
  refine s_iload_n f_33_1 rfl ?_
  refine k_iconst (v := 0) f_33_2 (by decide) ?_
  replace hd := obind hd
  obtain ⟨p1, e1, hd⟩ := hd
  refine L_virt (As := [.int a1, .int (0 : Int32)]) f_33_3 ca_3_112 rfl rfl (obL (by decide)) (by decide) (Nat.le_of_ble_eq_true rfl) ?_
  refine t_cLand_heirsFrom_r e1 ?_
  refine s_ireturn f_33_6 rfl rfl ?_
  cases hd
  exact hQ

def cD_heirs (S : SS) (a1 : Int32) : Option (Int32 × SS) :=
  (cLand_hasPerson S a1).bind fun p1 =>
  if p1 = true then
    (cLand_heirsOf S a1).bind fun p4 =>
    some (p4, S)
  else
    (cD_found S (-100001 : Int32)).bind fun p3 =>
    some (p3.1, p3.2)
theorem t_cD_heirs {l : Launch} {G : aG} {d : Nat} {Q : Option Value → aHeap → Prop} {sl : Nat} {sx : Nat → Int32} {S : SS} {K : KS} {T : TS} {X : XS} {M : SS} {a1 : Int32} {p : Int32 × SS} (hd : cD_heirs S a1 = some p) (hQ : Q (some (.int p.1)) (LH (old0 sl sx) p.2 K T X M)) : aCall l G (d + 15) 0 0 32 [.ref 8, .int a1] (LH (old0 sl sx) S K T X M) Q := by
  refine aCall.of (by decide) (Nat.le_of_ble_eq_true rfl) ?_
  refine aAt.sub [(0, .ref 8), (1, .int a1)] rfl ?_
  unfold cD_heirs at hd
  refine s_aload_n f_32_0 rfl ?_
  refine L_getR f_32_1 fd_0_10 (obL (by decide)) (by decide) (by decide : rf 8 0 = 9) ?_
  refine s_iload_n f_32_4 rfl ?_
  replace hd := obind hd
  obtain ⟨p1, e1, hd⟩ := hd
  refine L_virt (As := [.int a1]) f_32_5 ca_0_102 rfl rfl (obL (by decide)) (by decide) (Nat.le_of_ble_eq_true rfl) ?_
  refine t_cLand_hasPerson e1 ?_
  refine z_if_eq 22 f_32_8 (by decide) (fun c2 => ?_) (fun c2 => ?_)
  · replace hd := ite_n c2 hd
    refine s_aload_n f_32_22 rfl ?_
    refine s_ldc f_32_23 ko_0_83 ?_
    replace hd := obind hd
    obtain ⟨p3, e3, hd⟩ := hd
    refine L_virt (As := [.int (-100001 : Int32)]) f_32_25 ca_0_84 rfl rfl (obL (by decide)) (by decide) (Nat.le_of_ble_eq_true rfl) ?_
    refine t_cD_found e3 ?_
    refine s_ireturn f_32_28 rfl rfl ?_
    cases hd
    exact hQ
  · replace hd := ite_p c2 hd
    refine s_aload_n f_32_11 rfl ?_
    refine L_getR f_32_12 fd_0_10 (obL (by decide)) (by decide) (by decide : rf 8 0 = 9) ?_
    refine s_iload_n f_32_15 rfl ?_
    replace hd := obind hd
    obtain ⟨p4, e4, hd⟩ := hd
    refine L_virt (As := [.int a1]) f_32_16 ca_0_176 rfl rfl (obL (by decide)) (by decide) (Nat.le_of_ble_eq_true rfl) ?_
    refine t_cLand_heirsOf e4 ?_
    refine s_goto 28 f_32_19 (by decide) ?_
    refine s_ireturn f_32_28 rfl rfl ?_
    cases hd
    exact hQ

def cLand_shareFrom_J113 (fS : Int32 → Int32 → Int32 → Option (Int32)) (S : SS) (k37 : Int32 → Int32 → Int32 → Int32 → Int32 → Int32 → Option (Int32)) (a1 : Int32) (a2 : Int32) (a3 : Int32) (a4 : Int32) (a5 : Int32) (a6 : Int32) : Option (Int32) :=
  k37 a1 a2 a3 a4 a5 (a6 + 1)
theorem t_cLand_shareFrom_J113 {l : Launch} {G : aG} {d : Nat} {Q : Option Value → aHeap → Prop} {sl : Nat} {sx : Nat → Int32} {S : SS} {K : KS} {T : TS} {X : XS} {M : SS} {fS : Int32 → Int32 → Int32 → Option (Int32)} {k37 : Int32 → Int32 → Int32 → Int32 → Int32 → Int32 → Option (Int32)} (hfS : ∀ (e : Nat) (a1 : Int32) (a2 : Int32) (a3 : Int32) (p : Int32) (Q : Option Value → aHeap → Prop), fS a1 a2 a3 = some p → Q (some (.int p)) (LH (old0 sl sx) S K T X M) → aCall l G (d + 24 + e) 0 0 38 [.ref 9, .int a1, .int a2, .int a3] (LH (old0 sl sx) S K T X M) Q) (hk37 : ∀ (a1 : Int32) (a2 : Int32) (a3 : Int32) (a4 : Int32) (a5 : Int32) (a6 : Int32) (p : Int32), k37 a1 a2 a3 a4 a5 a6 = some p → Q (some (.int p)) (LH (old0 sl sx) S K T X M) → aAt l G (d + 25) 0 0 38 37 [(0, .ref 9), (1, .int a1), (2, .int a2), (3, .int a3), (4, .int a4), (5, .int a5), (6, .int a6)] [] 0 0 (LH (old0 sl sx) S K T X M) Q) : ∀ (a1 : Int32) (a2 : Int32) (a3 : Int32) (a4 : Int32) (a5 : Int32) (a6 : Int32) (p : Int32), cLand_shareFrom_J113 fS S k37 a1 a2 a3 a4 a5 a6 = some p → Q (some (.int p)) (LH (old0 sl sx) S K T X M) → aAt l G (d + 25) 0 0 38 113 [(0, .ref 9), (1, .int a1), (2, .int a2), (3, .int a3), (4, .int a4), (5, .int a5), (6, .int a6)] [] 0 0 (LH (old0 sl sx) S K T X M) Q := by
  intro a1 a2 a3 a4 a5 a6 p hd hQ
  unfold cLand_shareFrom_J113 at hd
  refine k_iinc (w := 1) f_38_113 rfl (by decide) (by decide) ?_
  refine s_goto 37 f_38_116 (by decide) ?_
  refine aAt.sub [(0, .ref 9), (1, .int a1), (2, .int a2), (3, .int a3), (4, .int a4), (5, .int a5), (6, .int (a6 + 1))] rfl ?_
  exact hk37 _ _ _ _ _ _  _ hd hQ
def cLand_shareFrom_J109 (fS : Int32 → Int32 → Int32 → Option (Int32)) (S : SS) (k37 : Int32 → Int32 → Int32 → Int32 → Int32 → Int32 → Option (Int32)) (a1 : Int32) (a2 : Int32) (a3 : Int32) (a4 : Int32) (a6 : Int32) (a7 : Int32) : Option (Int32) :=
  cLand_shareFrom_J113 fS S k37 a1 a2 a3 a4 a7 a6
theorem t_cLand_shareFrom_J109 {l : Launch} {G : aG} {d : Nat} {Q : Option Value → aHeap → Prop} {sl : Nat} {sx : Nat → Int32} {S : SS} {K : KS} {T : TS} {X : XS} {M : SS} {fS : Int32 → Int32 → Int32 → Option (Int32)} {k37 : Int32 → Int32 → Int32 → Int32 → Int32 → Int32 → Option (Int32)} (hfS : ∀ (e : Nat) (a1 : Int32) (a2 : Int32) (a3 : Int32) (p : Int32) (Q : Option Value → aHeap → Prop), fS a1 a2 a3 = some p → Q (some (.int p)) (LH (old0 sl sx) S K T X M) → aCall l G (d + 24 + e) 0 0 38 [.ref 9, .int a1, .int a2, .int a3] (LH (old0 sl sx) S K T X M) Q) (hk37 : ∀ (a1 : Int32) (a2 : Int32) (a3 : Int32) (a4 : Int32) (a5 : Int32) (a6 : Int32) (p : Int32), k37 a1 a2 a3 a4 a5 a6 = some p → Q (some (.int p)) (LH (old0 sl sx) S K T X M) → aAt l G (d + 25) 0 0 38 37 [(0, .ref 9), (1, .int a1), (2, .int a2), (3, .int a3), (4, .int a4), (5, .int a5), (6, .int a6)] [] 0 0 (LH (old0 sl sx) S K T X M) Q) : ∀ (a1 : Int32) (a2 : Int32) (a3 : Int32) (a4 : Int32) (a6 : Int32) (a7 : Int32) (p : Int32), cLand_shareFrom_J109 fS S k37 a1 a2 a3 a4 a6 a7 = some p → Q (some (.int p)) (LH (old0 sl sx) S K T X M) → aAt l G (d + 25) 0 0 38 109 [(0, .ref 9), (1, .int a1), (2, .int a2), (3, .int a3), (4, .int a4), (6, .int a6), (7, .int a7)] [] 0 0 (LH (old0 sl sx) S K T X M) Q := by
  intro a1 a2 a3 a4 a6 a7 p hd hQ
  unfold cLand_shareFrom_J109 at hd
  refine s_iload f_38_109 rfl ?_
  refine s_istore f_38_111 (by decide) ?_
  refine aAt.sub [(0, .ref 9), (1, .int a1), (2, .int a2), (3, .int a3), (4, .int a4), (5, .int a7), (6, .int a6)] rfl ?_
  exact t_cLand_shareFrom_J113 hfS hk37 _ _ _ _ _ _  _ hd hQ
def cLand_shareFrom_L37 (fS : Int32 → Int32 → Int32 → Option (Int32)) (S : SS) : Nat → Int32 → Int32 → Int32 → Int32 → Int32 → Int32 → Option (Int32)
  | 0, _, _, _, _, _, _ => none
  | n + 1, a1, a2, a3, a4, a5, a6 =>
    if (S 9 7) ≤ a6 then
      some (a5 * a4)
    else
      if (5 : Int32) ≤ a3 then
        some (a5 * a4)
      else
        if inb a6 14 then
          (cPerson_isChildOf S (17 + (ix a6)) a1).bind fun p7 =>
          if p7 = true then
            (cLand_heirsFrom_r S a6 (a3 + (1 : Int32))).bind fun p9 =>
            if p9 = 0 then
              cLand_shareFrom_J113 fS S (cLand_shareFrom_L37 fS S  n) a1 a2 a3 a4 a5 a6
            else
              (fS a6 a2 (a3 + (1 : Int32))).bind fun p11 =>
              if p11 ≤ 0 then
                cLand_shareFrom_J113 fS S (cLand_shareFrom_L37 fS S  n) a1 a2 a3 (a4 + 1) a5 a6
              else
                if a5 = 0 then
                  cLand_shareFrom_J109 fS S (cLand_shareFrom_L37 fS S  n) a1 a2 a3 (a4 + 1) a6 p11
                else
                  if a5 ≤ p11 then
                    cLand_shareFrom_J113 fS S (cLand_shareFrom_L37 fS S  n) a1 a2 a3 (a4 + 1) a5 a6
                  else
                    cLand_shareFrom_J109 fS S (cLand_shareFrom_L37 fS S  n) a1 a2 a3 (a4 + 1) a6 p11
          else
            cLand_shareFrom_J113 fS S (cLand_shareFrom_L37 fS S  n) a1 a2 a3 a4 a5 a6
        else none
theorem t_cLand_shareFrom_L37 {l : Launch} {G : aG} {d : Nat} {Q : Option Value → aHeap → Prop} {sl : Nat} {sx : Nat → Int32} {S : SS} {K : KS} {T : TS} {X : XS} {M : SS} {fS : Int32 → Int32 → Int32 → Option (Int32)} (hfS : ∀ (e : Nat) (a1 : Int32) (a2 : Int32) (a3 : Int32) (p : Int32) (Q : Option Value → aHeap → Prop), fS a1 a2 a3 = some p → Q (some (.int p)) (LH (old0 sl sx) S K T X M) → aCall l G (d + 24 + e) 0 0 38 [.ref 9, .int a1, .int a2, .int a3] (LH (old0 sl sx) S K T X M) Q) : ∀ (n : Nat), ∀ (a1 : Int32) (a2 : Int32) (a3 : Int32) (a4 : Int32) (a5 : Int32) (a6 : Int32) (p : Int32), cLand_shareFrom_L37 fS S n a1 a2 a3 a4 a5 a6 = some p → Q (some (.int p)) (LH (old0 sl sx) S K T X M) → aAt l G (d + 25) 0 0 38 37 [(0, .ref 9), (1, .int a1), (2, .int a2), (3, .int a3), (4, .int a4), (5, .int a5), (6, .int a6)] [] 0 0 (LH (old0 sl sx) S K T X M) Q := by
  intro n
  induction n with
  | zero =>
    intro a1 a2 a3 a4 a5 a6 p hd hQ
    rw [cLand_shareFrom_L37] at hd
    cases hd
  | succ n ih =>
    intro a1 a2 a3 a4 a5 a6 p hd hQ
    rw [cLand_shareFrom_L37] at hd
    refine s_iload f_38_37 rfl ?_
    refine s_aload_n f_38_39 rfl ?_
    refine C_getI f_38_40 fd_3_48 (ocl (by decide)) (by decide) ?_
    refine s_icmp_ge 119 f_38_43 (by decide) (fun c4 => ?_) (fun c4 => ?_)
    · replace hd := ite_p c4 hd
      refine s_iload f_38_119 rfl ?_
      refine s_iload f_38_121 rfl ?_
      refine s_imul f_38_123 ?_
      refine s_ireturn f_38_124 rfl rfl ?_
      cases hd
      exact hQ
    · replace hd := ite_n c4 hd
      refine s_iload_n f_38_46 rfl ?_
      refine k_iconst (v := 5) f_38_47 (by decide) ?_
      refine s_icmp_ge 119 f_38_48 (by decide) (fun c5 => ?_) (fun c5 => ?_)
      · replace hd := ite_p c5 hd
        refine s_iload f_38_119 rfl ?_
        refine s_iload f_38_121 rfl ?_
        refine s_imul f_38_123 ?_
        refine s_ireturn f_38_124 rfl rfl ?_
        cases hd
        exact hQ
      · replace hd := ite_n c5 hd
        refine s_aload_n f_38_51 rfl ?_
        refine L_getR f_38_52 fd_3_11 (obL (by decide)) (by decide) (by decide : rf 9 0 = 10) ?_
        refine s_iload f_38_55 rfl ?_
        replace hd := gd hd
        obtain ⟨g6, hd⟩ := hd
        refine L_aaload (ak := 30) (q := (ix a6)) f_38_57 (obL (by decide)) (by decide) (inb_nI g6) (inb_lt g6) (Nat.le_of_ble_eq_true rfl) (scPr (inb_lt g6)) (rfP (inb_lt g6)) ?_
        refine s_iload_n f_38_58 rfl ?_
        replace hd := obind hd
        obtain ⟨p7, e7, hd⟩ := hd
        refine L_virt (As := [.int a1]) f_38_59 ca_3_120 rfl rfl (ocP g6).1 (by decide) (Nat.le_of_ble_eq_true rfl) ?_
        refine t_cPerson_isChildOf (ocP g6) e7 ?_
        refine z_if_eq 113 f_38_62 (by decide) (fun c8 => ?_) (fun c8 => ?_)
        · replace hd := ite_n c8 hd
          refine aAt.sub [(0, .ref 9), (1, .int a1), (2, .int a2), (3, .int a3), (4, .int a4), (5, .int a5), (6, .int a6)] rfl ?_
          exact t_cLand_shareFrom_J113 hfS ih _ _ _ _ _ _  _ hd hQ
        · replace hd := ite_p c8 hd
          refine s_aload_n f_38_65 rfl ?_
          refine s_iload f_38_66 rfl ?_
          refine s_iload_n f_38_68 rfl ?_
          refine k_iconst (v := 1) f_38_69 (by decide) ?_
          refine s_iadd f_38_70 ?_
          replace hd := obind hd
          obtain ⟨p9, e9, hd⟩ := hd
          refine L_virt (As := [.int a6, .int (a3 + (1 : Int32))]) f_38_71 ca_3_112 rfl rfl (obL (by decide)) (by decide) (Nat.le_of_ble_eq_true rfl) ?_
          refine t_cLand_heirsFrom_r e9 ?_
          refine s_if_eq 113 f_38_74 (by decide) (fun c10 => ?_) (fun c10 => ?_)
          · replace hd := ite_p c10 hd
            refine aAt.sub [(0, .ref 9), (1, .int a1), (2, .int a2), (3, .int a3), (4, .int a4), (5, .int a5), (6, .int a6)] rfl ?_
            exact t_cLand_shareFrom_J113 hfS ih _ _ _ _ _ _  _ hd hQ
          · replace hd := ite_n c10 hd
            refine k_iinc (w := 1) f_38_77 rfl (by decide) (by decide) ?_
            refine s_aload_n f_38_80 rfl ?_
            refine s_iload f_38_81 rfl ?_
            refine s_iload_n f_38_83 rfl ?_
            refine s_iload_n f_38_84 rfl ?_
            refine k_iconst (v := 1) f_38_85 (by decide) ?_
            refine s_iadd f_38_86 ?_
            replace hd := obind hd
            obtain ⟨p11, e11, hd⟩ := hd
            refine L_virt (As := [.int a6, .int a2, .int (a3 + (1 : Int32))]) f_38_87 ca_3_123 rfl rfl (obL (by decide)) (by decide) (Nat.le_of_ble_eq_true rfl) ?_
            refine hfS 0 _ _ _ _ _ e11 ?_
            refine s_istore f_38_90 (by decide) ?_
            refine s_iload f_38_92 rfl ?_
            refine s_if_le 113 f_38_94 (by decide) (fun c12 => ?_) (fun c12 => ?_)
            · replace hd := ite_p c12 hd
              refine aAt.sub [(0, .ref 9), (1, .int a1), (2, .int a2), (3, .int a3), (4, .int (a4 + 1)), (5, .int a5), (6, .int a6)] rfl ?_
              exact t_cLand_shareFrom_J113 hfS ih _ _ _ _ _ _  _ hd hQ
            · replace hd := ite_n c12 hd
              refine s_iload f_38_97 rfl ?_
              refine s_if_eq 109 f_38_99 (by decide) (fun c13 => ?_) (fun c13 => ?_)
              · replace hd := ite_p c13 hd
                refine aAt.sub [(0, .ref 9), (1, .int a1), (2, .int a2), (3, .int a3), (4, .int (a4 + 1)), (6, .int a6), (7, .int p11)] rfl ?_
                exact t_cLand_shareFrom_J109 hfS ih _ _ _ _ _ _  _ hd hQ
              · replace hd := ite_n c13 hd
                refine s_iload f_38_102 rfl ?_
                refine s_iload f_38_104 rfl ?_
                refine s_icmp_ge 113 f_38_106 (by decide) (fun c14 => ?_) (fun c14 => ?_)
                · replace hd := ite_p c14 hd
                  refine aAt.sub [(0, .ref 9), (1, .int a1), (2, .int a2), (3, .int a3), (4, .int (a4 + 1)), (5, .int a5), (6, .int a6)] rfl ?_
                  exact t_cLand_shareFrom_J113 hfS ih _ _ _ _ _ _  _ hd hQ
                · replace hd := ite_n c14 hd
                  refine aAt.sub [(0, .ref 9), (1, .int a1), (2, .int a2), (3, .int a3), (4, .int (a4 + 1)), (6, .int a6), (7, .int p11)] rfl ?_
                  exact t_cLand_shareFrom_J109 hfS ih _ _ _ _ _ _  _ hd hQ
def cLand_shareFrom_J22 (fS : Int32 → Int32 → Int32 → Option (Int32)) (S : SS) (w0 : Bool) : Option (Int32) :=
  (cD_bit w0).bind fun p16 =>
  some p16
theorem t_cLand_shareFrom_J22 {l : Launch} {G : aG} {d : Nat} {Q : Option Value → aHeap → Prop} {sl : Nat} {sx : Nat → Int32} {S : SS} {K : KS} {T : TS} {X : XS} {M : SS} {fS : Int32 → Int32 → Int32 → Option (Int32)} (hfS : ∀ (e : Nat) (a1 : Int32) (a2 : Int32) (a3 : Int32) (p : Int32) (Q : Option Value → aHeap → Prop), fS a1 a2 a3 = some p → Q (some (.int p)) (LH (old0 sl sx) S K T X M) → aCall l G (d + 24 + e) 0 0 38 [.ref 9, .int a1, .int a2, .int a3] (LH (old0 sl sx) S K T X M) Q) : ∀ (w0 : Bool) (p : Int32), cLand_shareFrom_J22 fS S w0 = some p → Q (some (.int p)) (LH (old0 sl sx) S K T X M) → aAt l G (d + 25) 0 0 38 22 [] [.int (b2i w0)] 0 0 (LH (old0 sl sx) S K T X M) Q := by
  intro w0 p hd hQ
  unfold cLand_shareFrom_J22 at hd
  replace hd := obind hd
  obtain ⟨p16, e16, hd⟩ := hd
  refine L_statN (As := [.int (b2i w0)]) f_38_22 ca_3_127 rfl rfl (Nat.le_of_ble_eq_true rfl) ?_
  refine t_cD_bit e16 ?_
  refine s_ireturn f_38_25 rfl rfl ?_
  cases hd
  exact hQ
def cLand_shareFrom (fS : Int32 → Int32 → Int32 → Option (Int32)) (S : SS) (a1 : Int32) (a2 : Int32) (a3 : Int32) : Option (Int32) :=
  if inb a1 14 then
    (cPerson_isDead S (17 + (ix a1))).bind fun p2 =>
    if p2 = true then
      cLand_shareFrom_L37 fS S FU a1 a2 a3 (0 : Int32) (0 : Int32) (a1 + (1 : Int32))
    else
      if a1 = a2 then
        cLand_shareFrom_J22 fS S true
      else
        cLand_shareFrom_J22 fS S false
  else none
theorem t_cLand_shareFrom {l : Launch} {G : aG} {d : Nat} {Q : Option Value → aHeap → Prop} {sl : Nat} {sx : Nat → Int32} {S : SS} {K : KS} {T : TS} {X : XS} {M : SS} {fS : Int32 → Int32 → Int32 → Option (Int32)} {a1 : Int32} {a2 : Int32} {a3 : Int32} (hfS : ∀ (e : Nat) (a1 : Int32) (a2 : Int32) (a3 : Int32) (p : Int32) (Q : Option Value → aHeap → Prop), fS a1 a2 a3 = some p → Q (some (.int p)) (LH (old0 sl sx) S K T X M) → aCall l G (d + 24 + e) 0 0 38 [.ref 9, .int a1, .int a2, .int a3] (LH (old0 sl sx) S K T X M) Q) {p : Int32} (hd : cLand_shareFrom fS S a1 a2 a3 = some p) (hQ : Q (some (.int p)) (LH (old0 sl sx) S K T X M)) : aCall l G (d + 25) 0 0 38 [.ref 9, .int a1, .int a2, .int a3] (LH (old0 sl sx) S K T X M) Q := by
  refine aCall.of (by decide) (Nat.le_of_ble_eq_true rfl) ?_
  refine aAt.sub [(0, .ref 9), (1, .int a1), (2, .int a2), (3, .int a3)] rfl ?_
  unfold cLand_shareFrom at hd
  refine s_aload_n f_38_0 rfl ?_
  refine L_getR f_38_1 fd_3_11 (obL (by decide)) (by decide) (by decide : rf 9 0 = 10) ?_
  refine s_iload_n f_38_4 rfl ?_
  replace hd := gd hd
  obtain ⟨g1, hd⟩ := hd
  refine L_aaload (ak := 30) (q := (ix a1)) f_38_5 (obL (by decide)) (by decide) (inb_nI g1) (inb_lt g1) (Nat.le_of_ble_eq_true rfl) (scPr (inb_lt g1)) (rfP (inb_lt g1)) ?_
  replace hd := obind hd
  obtain ⟨p2, e2, hd⟩ := hd
  refine L_virt (As := []) f_38_6 ca_3_116 rfl rfl (ocP g1).1 (by decide) (Nat.le_of_ble_eq_true rfl) ?_
  refine t_cPerson_isDead (ocP g1) e2 ?_
  refine z_if_ne 26 f_38_9 (by decide) (fun c3 => ?_) (fun c3 => ?_)
  · replace hd := ite_p c3 hd
    refine k_iconst (v := 0) f_38_26 (by decide) ?_
    refine s_istore f_38_27 (by decide) ?_
    refine k_iconst (v := 0) f_38_29 (by decide) ?_
    refine s_istore f_38_30 (by decide) ?_
    refine s_iload_n f_38_32 rfl ?_
    refine k_iconst (v := 1) f_38_33 (by decide) ?_
    refine s_iadd f_38_34 ?_
    refine s_istore f_38_35 (by decide) ?_
    refine aAt.sub [(0, .ref 9), (1, .int a1), (2, .int a2), (3, .int a3), (4, .int (0 : Int32)), (5, .int (0 : Int32)), (6, .int (a1 + (1 : Int32)))] rfl ?_
    exact t_cLand_shareFrom_L37 hfS FU _ _ _ _ _ _  _ hd hQ
  · replace hd := ite_n c3 hd
    refine s_iload_n f_38_12 rfl ?_
    refine s_iload_n f_38_13 rfl ?_
    refine s_icmp_ne 21 f_38_14 (by decide) (fun c15 => ?_) (fun c15 => ?_)
    · replace hd := ite_n c15 hd
      refine k_iconst (v := 0) f_38_21 (by decide) ?_
      refine aAt.sub [] rfl ?_
      exact t_cLand_shareFrom_J22 hfS _  _ hd hQ
    · replace hd := ite_p c15 hd
      refine k_iconst (v := 1) f_38_17 (by decide) ?_
      refine s_goto 22 f_38_18 (by decide) ?_
      refine aAt.sub [] rfl ?_
      exact t_cLand_shareFrom_J22 hfS _  _ hd hQ

def rShare (S : SS) : Nat → Int32 → Int32 → Int32 → Option (Int32)
  | 0, _, _, _ => none
  | n + 1, a1, a2, a3 => cLand_shareFrom (rShare S n) S a1 a2 a3
theorem t_rShare {l : Launch} {G : aG} {sl : Nat} {sx : Nat → Int32} {d : Nat} {S : SS} {K : KS} {T : TS} {X : XS} {M : SS} : ∀ (n : Nat), ∀ (e : Nat) (a1 : Int32) (a2 : Int32) (a3 : Int32) (p : Int32) (Q : Option Value → aHeap → Prop), rShare S n a1 a2 a3 = some p → Q (some (.int p)) (LH (old0 sl sx) S K T X M) → aCall l G (d + 1 * n + 24 + e) 0 0 38 [.ref 9, .int a1, .int a2, .int a3] (LH (old0 sl sx) S K T X M) Q := by
  intro n
  induction n with
  | zero =>
    intro e a1 a2 a3 p Q hd hQ
    rw [rShare] at hd
    cases hd
  | succ n ih =>
    intro e a1 a2 a3 p Q hd hQ
    rw [rShare] at hd
    rw [show d + 1 * (n + 1) + 24 + e = (d + 1 * n + e) + 25 from by omega]
    refine t_cLand_shareFrom (fun e2 a1 a2 a3 p Q h1 h2 => ?_) hd hQ
    rw [show d + 1 * n + e + 24 + e2 = d + 1 * n + 24 + (e + e2) from by omega]
    exact ih (e + e2) a1 a2 a3 p Q h1 h2
def cLand_shareFrom_r (S : SS) (a1 : Int32) (a2 : Int32) (a3 : Int32) : Option (Int32) := cLand_shareFrom (rShare S 10) S a1 a2 a3
theorem t_cLand_shareFrom_r {l : Launch} {G : aG} {sl : Nat} {sx : Nat → Int32} {d : Nat} {Q : Option Value → aHeap → Prop} {S : SS} {K : KS} {T : TS} {X : XS} {M : SS} {a1 : Int32} {a2 : Int32} {a3 : Int32} {p : Int32} (hd : cLand_shareFrom_r S a1 a2 a3 = some p) (hQ : Q (some (.int p)) (LH (old0 sl sx) S K T X M)) : aCall l G (d + 35) 0 0 38 [.ref 9, .int a1, .int a2, .int a3] (LH (old0 sl sx) S K T X M) Q := by
  unfold cLand_shareFrom_r at hd
  rw [show d + 35 = (d + 10) + 25 from by omega]
  refine t_cLand_shareFrom (fun e2 a1 a2 a3 p Q h1 h2 => by rw [show d + 10 + 24 + e2 = d + 1 * 10 + 24 + e2 from by omega]; exact (t_rShare 10) e2 a1 a2 a3 p Q h1 h2) hd hQ

def cLand_shareOf (S : SS) (a1 : Int32) (a2 : Int32) : Option (Int32) :=
  (cLand_shareFrom_r S a1 a2 (0 : Int32)).bind fun p1 =>
  some p1
theorem t_cLand_shareOf {l : Launch} {G : aG} {d : Nat} {Q : Option Value → aHeap → Prop} {sl : Nat} {sx : Nat → Int32} {S : SS} {K : KS} {T : TS} {X : XS} {M : SS} {a1 : Int32} {a2 : Int32} {p : Int32} (hd : cLand_shareOf S a1 a2 = some p) (hQ : Q (some (.int p)) (LH (old0 sl sx) S K T X M)) : aCall l G (d + 36) 0 0 37 [.ref 9, .int a1, .int a2] (LH (old0 sl sx) S K T X M) Q := by
  refine aCall.of (by decide) (Nat.le_of_ble_eq_true rfl) ?_
  refine aAt.sub [(0, .ref 9), (1, .int a1), (2, .int a2)] rfl ?_
  unfold cLand_shareOf at hd
  refine s_aload_n f_37_0 rfl ?_
  refine s_iload_n f_37_1 rfl ?_
  refine s_iload_n f_37_2 rfl ?_
  refine k_iconst (v := 0) f_37_3 (by decide) ?_
  replace hd := obind hd
  obtain ⟨p1, e1, hd⟩ := hd
  refine L_virt (As := [.int a1, .int a2, .int (0 : Int32)]) f_37_4 ca_3_123 rfl rfl (obL (by decide)) (by decide) (Nat.le_of_ble_eq_true rfl) ?_
  refine t_cLand_shareFrom_r e1 ?_
  refine s_ireturn f_37_7 rfl rfl ?_
  cases hd
  exact hQ

def cD_share_J22 (S : SS) : Option (Int32 × SS) :=
  (cD_found S (-100001 : Int32)).bind fun p3 =>
  some (p3.1, p3.2)
theorem t_cD_share_J22 {l : Launch} {G : aG} {d : Nat} {Q : Option Value → aHeap → Prop} {sl : Nat} {sx : Nat → Int32} {K : KS} {T : TS} {X : XS} {M : SS} : ∀ (S : SS) (p : Int32 × SS), cD_share_J22 S = some p → Q (some (.int p.1)) (LH (old0 sl sx) p.2 K T X M) → aAt l G (d + 37) 0 0 36 22 [(0, .ref 8)] [] 0 0 (LH (old0 sl sx) S K T X M) Q := by
  intro S p hd hQ
  unfold cD_share_J22 at hd
  refine s_aload_n f_36_22 rfl ?_
  refine s_ldc f_36_23 ko_0_83 ?_
  replace hd := obind hd
  obtain ⟨p3, e3, hd⟩ := hd
  refine L_virt (As := [.int (-100001 : Int32)]) f_36_25 ca_0_84 rfl rfl (obL (by decide)) (by decide) (Nat.le_of_ble_eq_true rfl) ?_
  refine t_cD_found e3 ?_
  refine s_ireturn f_36_28 rfl rfl ?_
  cases hd
  exact hQ
def cD_share (S : SS) (a1 : Int32) (a2 : Int32) : Option (Int32 × SS) :=
  (cLand_hasPerson S a1).bind fun p1 =>
  if p1 = true then
    (cLand_hasPerson S a2).bind fun p4 =>
    if p4 = true then
      (cLand_shareOf S a1 a2).bind fun p6 =>
      if p6 ≤ 0 then
        (cD_found S (-100006 : Int32)).bind fun p8 =>
        some (p8.1, p8.2)
      else
        some (p6, S)
    else
      cD_share_J22 S
  else
    cD_share_J22 S
theorem t_cD_share {l : Launch} {G : aG} {d : Nat} {Q : Option Value → aHeap → Prop} {sl : Nat} {sx : Nat → Int32} {S : SS} {K : KS} {T : TS} {X : XS} {M : SS} {a1 : Int32} {a2 : Int32} {p : Int32 × SS} (hd : cD_share S a1 a2 = some p) (hQ : Q (some (.int p.1)) (LH (old0 sl sx) p.2 K T X M)) : aCall l G (d + 37) 0 0 36 [.ref 8, .int a1, .int a2] (LH (old0 sl sx) S K T X M) Q := by
  refine aCall.of (by decide) (Nat.le_of_ble_eq_true rfl) ?_
  refine aAt.sub [(0, .ref 8), (1, .int a1), (2, .int a2)] rfl ?_
  unfold cD_share at hd
  refine s_aload_n f_36_0 rfl ?_
  refine L_getR f_36_1 fd_0_10 (obL (by decide)) (by decide) (by decide : rf 8 0 = 9) ?_
  refine s_iload_n f_36_4 rfl ?_
  replace hd := obind hd
  obtain ⟨p1, e1, hd⟩ := hd
  refine L_virt (As := [.int a1]) f_36_5 ca_0_102 rfl rfl (obL (by decide)) (by decide) (Nat.le_of_ble_eq_true rfl) ?_
  refine t_cLand_hasPerson e1 ?_
  refine z_if_eq 22 f_36_8 (by decide) (fun c2 => ?_) (fun c2 => ?_)
  · replace hd := ite_n c2 hd
    refine aAt.sub [(0, .ref 8)] rfl ?_
    exact t_cD_share_J22 _  _ hd hQ
  · replace hd := ite_p c2 hd
    refine s_aload_n f_36_11 rfl ?_
    refine L_getR f_36_12 fd_0_10 (obL (by decide)) (by decide) (by decide : rf 8 0 = 9) ?_
    refine s_iload_n f_36_15 rfl ?_
    replace hd := obind hd
    obtain ⟨p4, e4, hd⟩ := hd
    refine L_virt (As := [.int a2]) f_36_16 ca_0_102 rfl rfl (obL (by decide)) (by decide) (Nat.le_of_ble_eq_true rfl) ?_
    refine t_cLand_hasPerson e4 ?_
    refine z_if_ne 29 f_36_19 (by decide) (fun c5 => ?_) (fun c5 => ?_)
    · replace hd := ite_p c5 hd
      refine s_aload_n f_36_29 rfl ?_
      refine L_getR f_36_30 fd_0_10 (obL (by decide)) (by decide) (by decide : rf 8 0 = 9) ?_
      refine s_iload_n f_36_33 rfl ?_
      refine s_iload_n f_36_34 rfl ?_
      replace hd := obind hd
      obtain ⟨p6, e6, hd⟩ := hd
      refine L_virt (As := [.int a1, .int a2]) f_36_35 ca_0_179 rfl rfl (obL (by decide)) (by decide) (Nat.le_of_ble_eq_true rfl) ?_
      refine t_cLand_shareOf e6 ?_
      refine s_istore_n f_36_38 (by decide) ?_
      refine s_iload_n f_36_39 rfl ?_
      refine s_if_le 47 f_36_40 (by decide) (fun c7 => ?_) (fun c7 => ?_)
      · replace hd := ite_p c7 hd
        refine s_aload_n f_36_47 rfl ?_
        refine s_ldc f_36_48 ko_0_182 ?_
        replace hd := obind hd
        obtain ⟨p8, e8, hd⟩ := hd
        refine L_virt (As := [.int (-100006 : Int32)]) f_36_50 ca_0_84 rfl rfl (obL (by decide)) (by decide) (Nat.le_of_ble_eq_true rfl) ?_
        refine t_cD_found e8 ?_
        refine s_ireturn f_36_53 rfl rfl ?_
        cases hd
        exact hQ
      · replace hd := ite_n c7 hd
        refine s_iload_n f_36_43 rfl ?_
        refine s_goto 53 f_36_44 (by decide) ?_
        refine s_ireturn f_36_53 rfl rfl ?_
        cases hd
        exact hQ
    · replace hd := ite_n c5 hd
      refine aAt.sub [(0, .ref 8)] rfl ?_
      exact t_cD_share_J22 _  _ hd hQ

def cLand_nextPaper (S : SS) : Option (Nat) :=
  if inb (if (19 : Int32) < (S 9 9) then (19 : Int32) else (S 9 9)) 20 then
    some (39 + (ix (if (19 : Int32) < (S 9 9) then (19 : Int32) else (S 9 9))))
  else none
theorem t_cLand_nextPaper {l : Launch} {G : aG} {d : Nat} {Q : Option Value → aHeap → Prop} {sl : Nat} {sx : Nat → Int32} {S : SS} {K : KS} {T : TS} {X : XS} {M : SS} {p : Nat} (hd : cLand_nextPaper S = some p) (hQ : (oc X.2 p 5 → Q (some (.ref p)) (LH (old0 sl sx) S K T X M))) : aCall l G (d + 1) 0 0 41 [.ref 9] (LH (old0 sl sx) S K T X M) Q := by
  refine aCall.of (by decide) (Nat.le_of_ble_eq_true rfl) ?_
  refine aAt.sub [(0, .ref 9)] rfl ?_
  unfold cLand_nextPaper at hd
  refine s_aload_n f_41_0 rfl ?_
  refine L_getR f_41_1 fd_3_25 (obL (by decide)) (by decide) (by decide : rf 9 2 = 12) ?_
  refine s_aload_n f_41_4 rfl ?_
  refine C_getI f_41_5 fd_3_55 (ocl (by decide)) (by decide) ?_
  refine k_bipush (v := 19) f_41_8 (by decide) ?_
  refine s_min f_41_10 ca_3_134 (Nat.le_of_ble_eq_true rfl) ?_
  replace hd := gd hd
  obtain ⟨g1, hd⟩ := hd
  refine L_aaload (ak := 32) (q := (ix (if (19 : Int32) < (S 9 9) then (19 : Int32) else (S 9 9)))) f_41_13 (obL (by decide)) (by decide) (inb_nI g1) (inb_lt g1) (Nat.le_of_ble_eq_true rfl) (scAr (inb_lt g1)) (rfA (inb_lt g1)) ?_
  refine s_areturn f_41_14 rfl (Or.inl ⟨_, rfl⟩) ?_
  cases hd
  exact hQ (ocA g1)

def cPaper_begin (S : SS) (a0 : Nat) (a1 : Int32) (a2 : Int32) (a3 : Int32) (a4 : Int32) (a5 : Int32) (a6 : Int32) : Option (SS) :=
  some (up (up (up (up (up (up (up (up (up (up S a0 0 a1) a0 1 a2) a0 2 a3) a0 3 a4) a0 4 (0 : Int32)) a0 5 a5) a0 6 a6) a0 7 (-1 : Int32)) a0 8 (2 : Int32)) a0 9 (0 : Int32))
theorem t_cPaper_begin {l : Launch} {G : aG} {d : Nat} {Q : Option Value → aHeap → Prop} {sl : Nat} {sx : Nat → Int32} {S : SS} {K : KS} {T : TS} {X : XS} {M : SS} {a0 : Nat} {a1 : Int32} {a2 : Int32} {a3 : Int32} {a4 : Int32} {a5 : Int32} {a6 : Int32} (ha0 : oc X.2 a0 5) {p : SS} (hd : cPaper_begin S a0 a1 a2 a3 a4 a5 a6 = some p) (hQ : Q none (LH (old0 sl sx) p K T X M)) : aCall l G d 0 0 42 [.ref a0, .int a1, .int a2, .int a3, .int a4, .int a5, .int a6] (LH (old0 sl sx) S K T X M) Q := by
  refine aCall.of (by decide) (Nat.le_of_ble_eq_true rfl) ?_
  refine aAt.sub [(0, .ref a0), (1, .int a1), (2, .int a2), (3, .int a3), (4, .int a4), (5, .int a5), (6, .int a6)] rfl ?_
  unfold cPaper_begin at hd
  refine s_aload_n f_42_0 rfl ?_
  refine s_iload_n f_42_1 rfl ?_
  refine C_putI f_42_2 fd_5_9 ha0 (sck0 (k := X.2) ha0.1 (by decide)) (Or.inl rfl) (by decide) ?_
  refine s_aload_n f_42_5 rfl ?_
  refine s_iload_n f_42_6 rfl ?_
  refine C_putI f_42_7 fd_5_15 ha0 (sck0 (k := X.2) ha0.1 (by decide)) (Or.inl rfl) (by decide) ?_
  refine s_aload_n f_42_10 rfl ?_
  refine s_iload_n f_42_11 rfl ?_
  refine C_putI f_42_12 fd_5_18 ha0 (sck0 (k := X.2) ha0.1 (by decide)) (Or.inl rfl) (by decide) ?_
  refine s_aload_n f_42_15 rfl ?_
  refine s_iload f_42_16 rfl ?_
  refine C_putI f_42_18 fd_5_21 ha0 (sck0 (k := X.2) ha0.1 (by decide)) (Or.inl rfl) (by decide) ?_
  refine s_aload_n f_42_21 rfl ?_
  refine k_iconst (v := 0) f_42_22 (by decide) ?_
  refine C_putI f_42_23 fd_5_24 ha0 (sck0 (k := X.2) ha0.1 (by decide)) (Or.inl rfl) (by decide) ?_
  refine s_aload_n f_42_26 rfl ?_
  refine s_iload f_42_27 rfl ?_
  refine C_putI f_42_29 fd_5_27 ha0 (sck0 (k := X.2) ha0.1 (by decide)) (Or.inl rfl) (by decide) ?_
  refine s_aload_n f_42_32 rfl ?_
  refine s_iload f_42_33 rfl ?_
  refine C_putI f_42_35 fd_5_30 ha0 (sck0 (k := X.2) ha0.1 (by decide)) (Or.inl rfl) (by decide) ?_
  refine s_aload_n f_42_38 rfl ?_
  refine k_iconst (v := (-1)) f_42_39 (by decide) ?_
  refine C_putI f_42_40 fd_5_33 ha0 (sck0 (k := X.2) ha0.1 (by decide)) (Or.inl rfl) (by decide) ?_
  refine s_aload_n f_42_43 rfl ?_
  refine k_iconst (v := 2) f_42_44 (by decide) ?_
  refine C_putI f_42_45 fd_5_36 ha0 (sck0 (k := X.2) ha0.1 (by decide)) (Or.inl rfl) (by decide) ?_
  refine s_aload_n f_42_48 rfl ?_
  refine k_iconst (v := 0) f_42_49 (by decide) ?_
  refine C_putI f_42_50 fd_5_39 ha0 (sck0 (k := X.2) ha0.1 (by decide)) (Or.inl rfl) (by decide) ?_
  refine s_return f_42_53 rfl ?_
  cases hd
  exact hQ

def cD_isUnder_L4 : Nat → Int32 → Int32 → Int32 → Option (Bool)
  | 0, _, _, _ => none
  | n + 1, a1, a2, a3 =>
    if (7 : Int32) ≤ a3 then
      some false
    else
      (cD_within a2 (0 : Int32) (6 : Int32)).bind fun p2 =>
      if p2 = true then
        if a2 = a1 then
          some true
        else
          if inb a2 7 then
            cD_isUnder_L4  n a1 (kAb (ix a2)) (a3 + 1)
          else none
      else
        some false
theorem t_cD_isUnder_L4 {l : Launch} {G : aG} {d : Nat} {Q : Option Value → aHeap → Prop} {sl : Nat} {sx : Nat → Int32} {S : SS} {K : KS} {T : TS} {X : XS} {M : SS} : ∀ (n : Nat), ∀ (a1 : Int32) (a2 : Int32) (a3 : Int32) (p : Bool), cD_isUnder_L4 n a1 a2 a3 = some p → Q (some (.int (b2i p))) (LH (old0 sl sx) S K T X M) → aAt l G (d + 1) 0 0 45 4 [(1, .int a1), (2, .int a2), (3, .int a3)] [] 0 0 (LH (old0 sl sx) S K T X M) Q := by
  intro n
  induction n with
  | zero =>
    intro a1 a2 a3 p hd hQ
    rw [cD_isUnder_L4] at hd
    cases hd
  | succ n ih =>
    intro a1 a2 a3 p hd hQ
    rw [cD_isUnder_L4] at hd
    refine s_iload_n f_45_4 rfl ?_
    refine k_bipush (v := 7) f_45_5 (by decide) ?_
    refine s_icmp_ge 39 f_45_7 (by decide) (fun c1 => ?_) (fun c1 => ?_)
    · replace hd := ite_p c1 hd
      refine k_iconst (v := 0) f_45_39 (by decide) ?_
      refine s_iretB (b := false) f_45_40 rfl ?_
      cases hd
      exact hQ
    · replace hd := ite_n c1 hd
      refine s_iload_n f_45_10 rfl ?_
      refine k_iconst (v := 0) f_45_11 (by decide) ?_
      refine k_bipush (v := 6) f_45_12 (by decide) ?_
      replace hd := obind hd
      obtain ⟨p2, e2, hd⟩ := hd
      refine L_stat (As := [.int a2, .int (0 : Int32), .int (6 : Int32)]) f_45_14 ca_0_75 rfl rfl (Nat.le_of_ble_eq_true rfl) ?_
      refine t_cD_within e2 ?_
      refine z_if_eq 39 f_45_17 (by decide) (fun c3 => ?_) (fun c3 => ?_)
      · replace hd := ite_n c3 hd
        refine k_iconst (v := 0) f_45_39 (by decide) ?_
        refine s_iretB (b := false) f_45_40 rfl ?_
        cases hd
        exact hQ
      · replace hd := ite_p c3 hd
        refine s_iload_n f_45_20 rfl ?_
        refine s_iload_n f_45_21 rfl ?_
        refine s_icmp_ne 27 f_45_22 (by decide) (fun c4 => ?_) (fun c4 => ?_)
        · replace hd := ite_n c4 hd
          refine s_getKA f_45_27 rfl ?_
          refine s_iload_n f_45_30 rfl ?_
          replace hd := gd hd
          obtain ⟨g5, hd⟩ := hd
          refine O_iaload (q := (ix a2)) f_45_31 rfl g5 ?_
          refine s_istore_n f_45_32 (by decide) ?_
          refine k_iinc (w := 1) f_45_33 rfl (by decide) (by decide) ?_
          refine s_goto 4 f_45_36 (by decide) ?_
          refine aAt.sub [(1, .int a1), (2, .int (kAb (ix a2))), (3, .int (a3 + 1))] rfl ?_
          exact ih _ _ _  _ hd hQ
        · replace hd := ite_p c4 hd
          refine k_iconst (v := 1) f_45_25 (by decide) ?_
          refine s_iretB (b := true) f_45_26 rfl ?_
          cases hd
          exact hQ
def cD_isUnder (a0 : Int32) (a1 : Int32) : Option (Bool) :=
  cD_isUnder_L4 FU a1 a0 (0 : Int32)
theorem t_cD_isUnder {l : Launch} {G : aG} {d : Nat} {Q : Option Value → aHeap → Prop} {sl : Nat} {sx : Nat → Int32} {S : SS} {K : KS} {T : TS} {X : XS} {M : SS} {a0 : Int32} {a1 : Int32} {p : Bool} (hd : cD_isUnder a0 a1 = some p) (hQ : Q (some (.int (b2i p))) (LH (old0 sl sx) S K T X M)) : aCall l G (d + 1) 0 0 45 [.int a0, .int a1] (LH (old0 sl sx) S K T X M) Q := by
  refine aCall.of (by decide) (Nat.le_of_ble_eq_true rfl) ?_
  refine aAt.sub [(0, .int a0), (1, .int a1)] rfl ?_
  unfold cD_isUnder at hd
  refine s_iload_n f_45_0 rfl ?_
  refine s_istore_n f_45_1 (by decide) ?_
  refine k_iconst (v := 0) f_45_2 (by decide) ?_
  refine s_istore_n f_45_3 (by decide) ?_
  refine aAt.sub [(1, .int a1), (2, .int a0), (3, .int (0 : Int32))] rfl ?_
  exact t_cD_isUnder_L4 FU _ _ _  _ hd hQ

def cPaper_isSale (S : SS) (a0 : Nat) : Option (Bool) :=
  (cD_isUnder (S a0 0) (3 : Int32)).bind fun p1 =>
  some p1
theorem t_cPaper_isSale {l : Launch} {G : aG} {d : Nat} {Q : Option Value → aHeap → Prop} {sl : Nat} {sx : Nat → Int32} {S : SS} {K : KS} {T : TS} {X : XS} {M : SS} {a0 : Nat} (ha0 : oc X.2 a0 5) {p : Bool} (hd : cPaper_isSale S a0 = some p) (hQ : Q (some (.int (b2i p))) (LH (old0 sl sx) S K T X M)) : aCall l G (d + 2) 0 0 44 [.ref a0] (LH (old0 sl sx) S K T X M) Q := by
  refine aCall.of (by decide) (Nat.le_of_ble_eq_true rfl) ?_
  refine aAt.sub [(0, .ref a0)] rfl ?_
  unfold cPaper_isSale at hd
  refine s_aload_n f_44_0 rfl ?_
  refine C_getI f_44_1 fd_5_9 ha0 (sck0 (k := X.2) ha0.1 (by decide)) ?_
  refine k_iconst (v := 3) f_44_4 (by decide) ?_
  replace hd := obind hd
  obtain ⟨p1, e1, hd⟩ := hd
  refine L_statN (As := [.int (S a0 0), .int (3 : Int32)]) f_44_5 ca_5_50 rfl rfl (Nat.le_of_ble_eq_true rfl) ?_
  refine t_cD_isUnder e1 ?_
  refine s_iretB (b := p1) f_44_8 rfl ?_
  cases hd
  exact hQ

def cLand_bindNewPaper_J63 (S : SS) : Option (Int32 × SS) :=
  some ((S 9 9), (up S 9 9 ((S 9 9) + (1 : Int32))))
theorem t_cLand_bindNewPaper_J63 {l : Launch} {G : aG} {d : Nat} {Q : Option Value → aHeap → Prop} {sl : Nat} {sx : Nat → Int32} {K : KS} {T : TS} {X : XS} {M : SS} : ∀ (S : SS) (p : Int32 × SS), cLand_bindNewPaper_J63 S = some p → Q (some (.int p.1)) (LH (old0 sl sx) p.2 K T X M) → aAt l G (d + 3) 0 0 43 63 [(0, .ref 9)] [] 0 0 (LH (old0 sl sx) S K T X M) Q := by
  intro S p hd hQ
  unfold cLand_bindNewPaper_J63 at hd
  refine s_aload_n f_43_63 rfl ?_
  refine s_dup f_43_64 rfl ?_
  refine C_getI f_43_65 fd_3_55 (ocl (by decide)) (by decide) ?_
  refine s_dup_x1 f_43_68 rfl rfl ?_
  refine k_iconst (v := 1) f_43_69 (by decide) ?_
  refine s_iadd f_43_70 ?_
  refine C_putI f_43_71 fd_3_55 (ocl (by decide)) (by decide) (Or.inl rfl) (by decide) ?_
  refine s_ireturn f_43_74 rfl rfl ?_
  cases hd
  exact hQ
def cLand_bindNewPaper_J38 (S : SS) (a2 : Nat) : Option (Int32 × SS) :=
  if (S a2 0) = (6 : Int32) then
    if inb (S a2 1) 14 then
      cLand_bindNewPaper_J63 (up S (17 + (ix (S a2 1))) 6 (S a2 2))
    else none
  else
    cLand_bindNewPaper_J63 S
theorem t_cLand_bindNewPaper_J38 {l : Launch} {G : aG} {d : Nat} {Q : Option Value → aHeap → Prop} {sl : Nat} {sx : Nat → Int32} {K : KS} {T : TS} {X : XS} {M : SS} : ∀ (S : SS) (a2 : Nat) (_ : oc X.2 a2 5) (p : Int32 × SS), cLand_bindNewPaper_J38 S a2 = some p → Q (some (.int p.1)) (LH (old0 sl sx) p.2 K T X M) → aAt l G (d + 3) 0 0 43 38 [(0, .ref 9), (2, .ref a2)] [] 0 0 (LH (old0 sl sx) S K T X M) Q := by
  intro S a2 ha2 p hd hQ
  unfold cLand_bindNewPaper_J38 at hd
  refine s_aload_n f_43_38 rfl ?_
  refine C_getI f_43_39 fd_3_158 ha2 (sck0 (k := X.2) ha2.1 (by decide)) ?_
  refine k_bipush (v := 6) f_43_42 (by decide) ?_
  refine s_icmp_ne 63 f_43_44 (by decide) (fun c4 => ?_) (fun c4 => ?_)
  · replace hd := ite_n c4 hd
    refine aAt.sub [(0, .ref 9)] rfl ?_
    exact t_cLand_bindNewPaper_J63 _  _ hd hQ
  · replace hd := ite_p c4 hd
    refine s_aload_n f_43_47 rfl ?_
    refine L_getR f_43_48 fd_3_11 (obL (by decide)) (by decide) (by decide : rf 9 0 = 10) ?_
    refine s_aload_n f_43_51 rfl ?_
    refine C_getI f_43_52 fd_3_161 ha2 (sck0 (k := X.2) ha2.1 (by decide)) ?_
    replace hd := gd hd
    obtain ⟨g5, hd⟩ := hd
    refine L_aaload (ak := 30) (q := (ix (S a2 1))) f_43_55 (obL (by decide)) (by decide) (inb_nI g5) (inb_lt g5) (Nat.le_of_ble_eq_true rfl) (scPr (inb_lt g5)) (rfP (inb_lt g5)) ?_
    refine s_aload_n f_43_56 rfl ?_
    refine C_getI f_43_57 fd_3_152 ha2 (sck0 (k := X.2) ha2.1 (by decide)) ?_
    refine C_putI f_43_60 fd_3_164 (ocP g5) (sck0 (k := X.2) (ocP g5).1 (by decide)) (Or.inl rfl) (by decide) ?_
    refine aAt.sub [(0, .ref 9)] rfl ?_
    exact t_cLand_bindNewPaper_J63 _  _ hd hQ
def cLand_bindNewPaper (S : SS) (a1 : Int32) : Option (Int32 × SS) :=
  (cLand_nextPaper S).bind fun p1 =>
  (cPaper_isSale (up S p1 7 a1) p1).bind fun p2 =>
  if p2 = true then
    (cLand_hasField (up S p1 7 a1) a1).bind fun p6 =>
    if p6 = true then
      if inb a1 8 then
        cLand_bindNewPaper_J38 (up (up S p1 7 a1) (31 + (ix a1)) 2 ((up S p1 7 a1) p1 2)) p1
      else none
    else
      cLand_bindNewPaper_J38 (up S p1 7 a1) p1
  else
    cLand_bindNewPaper_J38 (up S p1 7 a1) p1
theorem t_cLand_bindNewPaper {l : Launch} {G : aG} {d : Nat} {Q : Option Value → aHeap → Prop} {sl : Nat} {sx : Nat → Int32} {S : SS} {K : KS} {T : TS} {X : XS} {M : SS} {a1 : Int32} {p : Int32 × SS} (hd : cLand_bindNewPaper S a1 = some p) (hQ : Q (some (.int p.1)) (LH (old0 sl sx) p.2 K T X M)) : aCall l G (d + 3) 0 0 43 [.ref 9, .int a1] (LH (old0 sl sx) S K T X M) Q := by
  refine aCall.of (by decide) (Nat.le_of_ble_eq_true rfl) ?_
  refine aAt.sub [(0, .ref 9), (1, .int a1)] rfl ?_
  unfold cLand_bindNewPaper at hd
  refine s_aload_n f_43_0 rfl ?_
  replace hd := obind hd
  obtain ⟨p1, e1, hd⟩ := hd
  refine L_virt (As := []) f_43_1 ca_3_139 rfl rfl (obL (by decide)) (by decide) (Nat.le_of_ble_eq_true rfl) ?_
  refine t_cLand_nextPaper e1 (fun hp1 => ?_)
  refine s_astore_n f_43_4 (by decide) ?_
  refine s_aload_n f_43_5 rfl ?_
  refine s_iload_n f_43_6 rfl ?_
  refine C_putI f_43_7 fd_3_143 hp1 (sck0 (k := X.2) hp1.1 (by decide)) (Or.inl rfl) (by decide) ?_
  refine s_aload_n f_43_10 rfl ?_
  replace hd := obind hd
  obtain ⟨p2, e2, hd⟩ := hd
  refine L_virt (As := []) f_43_11 ca_3_146 rfl rfl hp1.1 (by decide) (Nat.le_of_ble_eq_true rfl) ?_
  refine t_cPaper_isSale hp1 e2 ?_
  refine z_if_eq 38 f_43_14 (by decide) (fun c3 => ?_) (fun c3 => ?_)
  · replace hd := ite_n c3 hd
    refine aAt.sub [(0, .ref 9), (2, .ref p1)] rfl ?_
    exact t_cLand_bindNewPaper_J38 _ _ hp1 _ hd hQ
  · replace hd := ite_p c3 hd
    refine s_aload_n f_43_17 rfl ?_
    refine s_iload_n f_43_18 rfl ?_
    replace hd := obind hd
    obtain ⟨p6, e6, hd⟩ := hd
    refine L_virt (As := [.int a1]) f_43_19 ca_3_149 rfl rfl (obL (by decide)) (by decide) (Nat.le_of_ble_eq_true rfl) ?_
    refine t_cLand_hasField e6 ?_
    refine z_if_eq 38 f_43_22 (by decide) (fun c7 => ?_) (fun c7 => ?_)
    · replace hd := ite_n c7 hd
      refine aAt.sub [(0, .ref 9), (2, .ref p1)] rfl ?_
      exact t_cLand_bindNewPaper_J38 _ _ hp1 _ hd hQ
    · replace hd := ite_p c7 hd
      refine s_aload_n f_43_25 rfl ?_
      refine L_getR f_43_26 fd_3_19 (obL (by decide)) (by decide) (by decide : rf 9 1 = 11) ?_
      refine s_iload_n f_43_29 rfl ?_
      replace hd := gd hd
      obtain ⟨g8, hd⟩ := hd
      refine L_aaload (ak := 31) (q := (ix a1)) f_43_30 (obL (by decide)) (by decide) (inb_nI g8) (inb_lt g8) (Nat.le_of_ble_eq_true rfl) (scFr (inb_lt g8)) (rfF (inb_lt g8)) ?_
      refine s_aload_n f_43_31 rfl ?_
      refine C_getI f_43_32 fd_3_152 hp1 (sck0 (k := X.2) hp1.1 (by decide)) ?_
      refine C_putI f_43_35 fd_3_155 (ocF g8) (sck0 (k := X.2) (ocF g8).1 (by decide)) (Or.inl rfl) (by decide) ?_
      refine aAt.sub [(0, .ref 9), (2, .ref p1)] rfl ?_
      exact t_cLand_bindNewPaper_J38 _ _ hp1 _ hd hQ

def cPerson_isFree (S : SS) (a0 : Nat) : Option (Bool) :=
  if 0 ≤ (S a0 6) then
    some false
  else
    some true
theorem t_cPerson_isFree {l : Launch} {G : aG} {d : Nat} {Q : Option Value → aHeap → Prop} {sl : Nat} {sx : Nat → Int32} {S : SS} {K : KS} {T : TS} {X : XS} {M : SS} {a0 : Nat} (ha0 : oc X.2 a0 6) {p : Bool} (hd : cPerson_isFree S a0 = some p) (hQ : Q (some (.int (b2i p))) (LH (old0 sl sx) S K T X M)) : aCall l G d 0 0 40 [.ref a0] (LH (old0 sl sx) S K T X M) Q := by
  refine aCall.of (by decide) (Nat.le_of_ble_eq_true rfl) ?_
  refine aAt.sub [(0, .ref a0)] rfl ?_
  unfold cPerson_isFree at hd
  refine s_aload_n f_40_0 rfl ?_
  refine C_getI f_40_1 fd_6_28 ha0 (sck0 (k := X.2) ha0.1 (by decide)) ?_
  refine s_if_ge 11 f_40_4 (by decide) (fun c1 => ?_) (fun c1 => ?_)
  · replace hd := ite_p c1 hd
    refine k_iconst (v := 0) f_40_11 (by decide) ?_
    refine s_iretB (b := false) f_40_12 rfl ?_
    cases hd
    exact hQ
  · replace hd := ite_n c1 hd
    refine k_iconst (v := 1) f_40_7 (by decide) ?_
    refine s_goto 12 f_40_8 (by decide) ?_
    refine s_iretB (b := true) f_40_12 rfl ?_
    cases hd
    exact hQ

def cD_paper_J79 (S : SS) : Option (Int32 × SS) :=
  (cD_found S (-100001 : Int32)).bind fun p3 =>
  some (p3.1, p3.2)
theorem t_cD_paper_J79 {l : Launch} {G : aG} {d : Nat} {Q : Option Value → aHeap → Prop} {sl : Nat} {sx : Nat → Int32} {K : KS} {T : TS} {X : XS} {M : SS} : ∀ (S : SS) (p : Int32 × SS), cD_paper_J79 S = some p → Q (some (.int p.1)) (LH (old0 sl sx) p.2 K T X M) → aAt l G (d + 4) 0 0 39 79 [(0, .ref 8)] [] 0 0 (LH (old0 sl sx) S K T X M) Q := by
  intro S p hd hQ
  unfold cD_paper_J79 at hd
  refine s_aload_n f_39_79 rfl ?_
  refine s_ldc f_39_80 ko_0_83 ?_
  replace hd := obind hd
  obtain ⟨p3, e3, hd⟩ := hd
  refine L_virt (As := [.int (-100001 : Int32)]) f_39_82 ca_0_84 rfl rfl (obL (by decide)) (by decide) (Nat.le_of_ble_eq_true rfl) ?_
  refine t_cD_found e3 ?_
  refine s_ireturn f_39_85 rfl rfl ?_
  cases hd
  exact hQ
def cD_paper_J132 (S : SS) : Option (Int32 × SS) :=
  (cD_found S (-100006 : Int32)).bind fun p17 =>
  some (p17.1, p17.2)
theorem t_cD_paper_J132 {l : Launch} {G : aG} {d : Nat} {Q : Option Value → aHeap → Prop} {sl : Nat} {sx : Nat → Int32} {K : KS} {T : TS} {X : XS} {M : SS} : ∀ (S : SS) (p : Int32 × SS), cD_paper_J132 S = some p → Q (some (.int p.1)) (LH (old0 sl sx) p.2 K T X M) → aAt l G (d + 4) 0 0 39 132 [(0, .ref 8)] [] 0 0 (LH (old0 sl sx) S K T X M) Q := by
  intro S p hd hQ
  unfold cD_paper_J132 at hd
  refine s_aload_n f_39_132 rfl ?_
  refine s_ldc f_39_133 ko_0_182 ?_
  replace hd := obind hd
  obtain ⟨p17, e17, hd⟩ := hd
  refine L_virt (As := [.int (-100006 : Int32)]) f_39_135 ca_0_84 rfl rfl (obL (by decide)) (by decide) (Nat.le_of_ble_eq_true rfl) ?_
  refine t_cD_found e17 ?_
  refine s_ireturn f_39_138 rfl rfl ?_
  cases hd
  exact hQ
def cD_paper_J291 (S : SS) (w1 : Int32) : Option (Int32 × SS) :=
  (cLand_bindNewPaper S w1).bind fun p28 =>
  some (p28.1, p28.2)
theorem t_cD_paper_J291 {l : Launch} {G : aG} {d : Nat} {Q : Option Value → aHeap → Prop} {sl : Nat} {sx : Nat → Int32} {K : KS} {T : TS} {X : XS} {M : SS} : ∀ (S : SS) (w1 : Int32) (p : Int32 × SS), cD_paper_J291 S w1 = some p → Q (some (.int p.1)) (LH (old0 sl sx) p.2 K T X M) → aAt l G (d + 4) 0 0 39 291 [] [.int w1, .ref 9] 0 0 (LH (old0 sl sx) S K T X M) Q := by
  intro S w1 p hd hQ
  unfold cD_paper_J291 at hd
  replace hd := obind hd
  obtain ⟨p28, e28, hd⟩ := hd
  refine L_virt (As := [.int w1]) f_39_291 ca_0_200 rfl rfl (obL (by decide)) (by decide) (Nat.le_of_ble_eq_true rfl) ?_
  refine t_cLand_bindNewPaper e28 ?_
  refine s_ireturn f_39_294 rfl rfl ?_
  cases hd
  exact hQ
def cD_paper_J232 (S : SS) (a1 : Int32) (a3 : Int32) (a4 : Int32) (a5 : Int32) (a6 : Int32) (a7 : Int32) (a8 : Bool) : Option (Int32 × SS) :=
  if (S 9 9) < (20 : Int32) then
    (cLand_nextPaper S).bind fun p25 =>
    (cPaper_begin S p25 a1 a6 a7 a3 (S 9 11) a4).bind fun p26 =>
    if a8 = true then
      cD_paper_J291 p26 a5
    else
      cD_paper_J291 p26 (-1 : Int32)
  else
    (cD_found S (-100005 : Int32)).bind fun p29 =>
    some (p29.1, p29.2)
theorem t_cD_paper_J232 {l : Launch} {G : aG} {d : Nat} {Q : Option Value → aHeap → Prop} {sl : Nat} {sx : Nat → Int32} {K : KS} {T : TS} {X : XS} {M : SS} : ∀ (S : SS) (a1 : Int32) (a3 : Int32) (a4 : Int32) (a5 : Int32) (a6 : Int32) (a7 : Int32) (a8 : Bool) (p : Int32 × SS), cD_paper_J232 S a1 a3 a4 a5 a6 a7 a8 = some p → Q (some (.int p.1)) (LH (old0 sl sx) p.2 K T X M) → aAt l G (d + 4) 0 0 39 232 [(0, .ref 8), (1, .int a1), (3, .int a3), (4, .int a4), (5, .int a5), (6, .int a6), (7, .int a7), (8, .int (b2i a8))] [] 0 0 (LH (old0 sl sx) S K T X M) Q := by
  intro S a1 a3 a4 a5 a6 a7 a8 p hd hQ
  unfold cD_paper_J232 at hd
  refine s_aload_n f_39_232 rfl ?_
  refine L_getR f_39_233 fd_0_10 (obL (by decide)) (by decide) (by decide : rf 8 0 = 9) ?_
  refine C_getI f_39_236 fd_0_188 (ocl (by decide)) (by decide) ?_
  refine k_bipush (v := 20) f_39_239 (by decide) ?_
  refine s_icmp_lt 251 f_39_241 (by decide) (fun c24 => ?_) (fun c24 => ?_)
  · replace hd := ite_p c24 hd
    refine s_aload_n f_39_251 rfl ?_
    refine L_getR f_39_252 fd_0_10 (obL (by decide)) (by decide) (by decide : rf 8 0 = 9) ?_
    replace hd := obind hd
    obtain ⟨p25, e25, hd⟩ := hd
    refine L_virt (As := []) f_39_255 ca_0_191 rfl rfl (obL (by decide)) (by decide) (Nat.le_of_ble_eq_true rfl) ?_
    refine t_cLand_nextPaper e25 (fun hp25 => ?_)
    refine s_iload_n f_39_258 rfl ?_
    refine s_iload f_39_259 rfl ?_
    refine s_iload f_39_261 rfl ?_
    refine s_iload_n f_39_263 rfl ?_
    refine s_aload_n f_39_264 rfl ?_
    refine L_getR f_39_265 fd_0_10 (obL (by decide)) (by decide) (by decide : rf 8 0 = 9) ?_
    refine C_getI f_39_268 fd_0_66 (ocl (by decide)) (by decide) ?_
    refine s_iload f_39_271 rfl ?_
    replace hd := obind hd
    obtain ⟨p26, e26, hd⟩ := hd
    refine L_virt (As := [.int a1, .int a6, .int a7, .int a3, .int (S 9 11), .int a4]) f_39_273 ca_0_195 rfl rfl hp25.1 (by decide) (Nat.le_of_ble_eq_true rfl) ?_
    refine t_cPaper_begin hp25 e26 ?_
    refine s_aload_n f_39_276 rfl ?_
    refine L_getR f_39_277 fd_0_10 (obL (by decide)) (by decide) (by decide : rf 8 0 = 9) ?_
    refine s_iload f_39_280 rfl ?_
    refine z_if_eq 290 f_39_282 (by decide) (fun c27 => ?_) (fun c27 => ?_)
    · replace hd := ite_n c27 hd
      refine k_iconst (v := (-1)) f_39_290 (by decide) ?_
      refine aAt.sub [] rfl ?_
      exact t_cD_paper_J291 _ _  _ hd hQ
    · replace hd := ite_p c27 hd
      refine s_iload f_39_285 rfl ?_
      refine s_goto 291 f_39_287 (by decide) ?_
      refine aAt.sub [] rfl ?_
      exact t_cD_paper_J291 _ _  _ hd hQ
  · replace hd := ite_n c24 hd
    refine s_aload_n f_39_244 rfl ?_
    refine s_ldc f_39_245 ko_0_91 ?_
    replace hd := obind hd
    obtain ⟨p29, e29, hd⟩ := hd
    refine L_virt (As := [.int (-100005 : Int32)]) f_39_247 ca_0_84 rfl rfl (obL (by decide)) (by decide) (Nat.le_of_ble_eq_true rfl) ?_
    refine t_cD_found e29 ?_
    refine s_ireturn f_39_250 rfl rfl ?_
    cases hd
    exact hQ
def cD_paper_J203 (S : SS) (a1 : Int32) (a3 : Int32) (a4 : Int32) (a5 : Int32) (a6 : Int32) (a7 : Int32) (a8 : Bool) : Option (Int32 × SS) :=
  if a1 = (6 : Int32) then
    if inb a6 14 then
      (cPerson_isFree S (17 + (ix a6))).bind fun p31 =>
      if p31 = true then
        cD_paper_J232 S a1 a3 a4 a5 a6 a7 a8
      else
        (cD_found S (-100007 : Int32)).bind fun p33 =>
        some (p33.1, p33.2)
    else none
  else
    cD_paper_J232 S a1 a3 a4 a5 a6 a7 a8
theorem t_cD_paper_J203 {l : Launch} {G : aG} {d : Nat} {Q : Option Value → aHeap → Prop} {sl : Nat} {sx : Nat → Int32} {K : KS} {T : TS} {X : XS} {M : SS} : ∀ (S : SS) (a1 : Int32) (a3 : Int32) (a4 : Int32) (a5 : Int32) (a6 : Int32) (a7 : Int32) (a8 : Bool) (p : Int32 × SS), cD_paper_J203 S a1 a3 a4 a5 a6 a7 a8 = some p → Q (some (.int p.1)) (LH (old0 sl sx) p.2 K T X M) → aAt l G (d + 4) 0 0 39 203 [(0, .ref 8), (1, .int a1), (3, .int a3), (4, .int a4), (5, .int a5), (6, .int a6), (7, .int a7), (8, .int (b2i a8))] [] 0 0 (LH (old0 sl sx) S K T X M) Q := by
  intro S a1 a3 a4 a5 a6 a7 a8 p hd hQ
  unfold cD_paper_J203 at hd
  refine s_iload_n f_39_203 rfl ?_
  refine k_bipush (v := 6) f_39_204 (by decide) ?_
  refine s_icmp_ne 232 f_39_206 (by decide) (fun c23 => ?_) (fun c23 => ?_)
  · replace hd := ite_n c23 hd
    refine aAt.sub [(0, .ref 8), (1, .int a1), (3, .int a3), (4, .int a4), (5, .int a5), (6, .int a6), (7, .int a7), (8, .int (b2i a8))] rfl ?_
    exact t_cD_paper_J232 _ _ _ _ _ _ _ _  _ hd hQ
  · replace hd := ite_p c23 hd
    refine s_aload_n f_39_209 rfl ?_
    refine L_getR f_39_210 fd_0_10 (obL (by decide)) (by decide) (by decide : rf 8 0 = 9) ?_
    refine L_getR f_39_213 fd_0_92 (obL (by decide)) (by decide) (by decide : rf 9 0 = 10) ?_
    refine s_iload f_39_216 rfl ?_
    replace hd := gd hd
    obtain ⟨g30, hd⟩ := hd
    refine L_aaload (ak := 30) (q := (ix a6)) f_39_218 (obL (by decide)) (by decide) (inb_nI g30) (inb_lt g30) (Nat.le_of_ble_eq_true rfl) (scPr (inb_lt g30)) (rfP (inb_lt g30)) ?_
    replace hd := obind hd
    obtain ⟨p31, e31, hd⟩ := hd
    refine L_virt (As := []) f_39_219 ca_0_185 rfl rfl (ocP g30).1 (by decide) (Nat.le_of_ble_eq_true rfl) ?_
    refine t_cPerson_isFree (ocP g30) e31 ?_
    refine z_if_ne 232 f_39_222 (by decide) (fun c32 => ?_) (fun c32 => ?_)
    · replace hd := ite_p c32 hd
      refine aAt.sub [(0, .ref 8), (1, .int a1), (3, .int a3), (4, .int a4), (5, .int a5), (6, .int a6), (7, .int a7), (8, .int (b2i a8))] rfl ?_
      exact t_cD_paper_J232 _ _ _ _ _ _ _ _  _ hd hQ
    · replace hd := ite_n c32 hd
      refine s_aload_n f_39_225 rfl ?_
      refine s_ldc f_39_226 ko_0_119 ?_
      replace hd := obind hd
      obtain ⟨p33, e33, hd⟩ := hd
      refine L_virt (As := [.int (-100007 : Int32)]) f_39_228 ca_0_84 rfl rfl (obL (by decide)) (by decide) (Nat.le_of_ble_eq_true rfl) ?_
      refine t_cD_found e33 ?_
      refine s_ireturn f_39_231 rfl rfl ?_
      cases hd
      exact hQ
def cD_paper_J196 (S : SS) : Option (Int32 × SS) :=
  (cD_found S (-100002 : Int32)).bind fun p36 =>
  some (p36.1, p36.2)
theorem t_cD_paper_J196 {l : Launch} {G : aG} {d : Nat} {Q : Option Value → aHeap → Prop} {sl : Nat} {sx : Nat → Int32} {K : KS} {T : TS} {X : XS} {M : SS} : ∀ (S : SS) (p : Int32 × SS), cD_paper_J196 S = some p → Q (some (.int p.1)) (LH (old0 sl sx) p.2 K T X M) → aAt l G (d + 4) 0 0 39 196 [(0, .ref 8)] [] 0 0 (LH (old0 sl sx) S K T X M) Q := by
  intro S p hd hQ
  unfold cD_paper_J196 at hd
  refine s_aload_n f_39_196 rfl ?_
  refine s_ldc f_39_197 ko_0_184 ?_
  replace hd := obind hd
  obtain ⟨p36, e36, hd⟩ := hd
  refine L_virt (As := [.int (-100002 : Int32)]) f_39_199 ca_0_84 rfl rfl (obL (by decide)) (by decide) (Nat.le_of_ble_eq_true rfl) ?_
  refine t_cD_found e36 ?_
  refine s_ireturn f_39_202 rfl rfl ?_
  cases hd
  exact hQ
def cD_paper_J159 (S : SS) (a1 : Int32) (a3 : Int32) (a4 : Int32) (a5 : Int32) (a6 : Int32) (a7 : Int32) (w0 : Bool) : Option (Int32 × SS) :=
  if w0 = true then
    (cLand_hasField S a5).bind fun p34 =>
    if p34 = true then
      if inb a5 8 then
        if (S (31 + (ix a5)) 2) = a6 then
          cD_paper_J203 S a1 a3 a4 a5 a6 a7 w0
        else
          cD_paper_J196 S
      else none
    else
      cD_paper_J196 S
  else
    cD_paper_J203 S a1 a3 a4 a5 a6 a7 w0
theorem t_cD_paper_J159 {l : Launch} {G : aG} {d : Nat} {Q : Option Value → aHeap → Prop} {sl : Nat} {sx : Nat → Int32} {K : KS} {T : TS} {X : XS} {M : SS} : ∀ (S : SS) (a1 : Int32) (a3 : Int32) (a4 : Int32) (a5 : Int32) (a6 : Int32) (a7 : Int32) (w0 : Bool) (p : Int32 × SS), cD_paper_J159 S a1 a3 a4 a5 a6 a7 w0 = some p → Q (some (.int p.1)) (LH (old0 sl sx) p.2 K T X M) → aAt l G (d + 4) 0 0 39 159 [(0, .ref 8), (1, .int a1), (3, .int a3), (4, .int a4), (5, .int a5), (6, .int a6), (7, .int a7)] [.int (b2i w0)] 0 0 (LH (old0 sl sx) S K T X M) Q := by
  intro S a1 a3 a4 a5 a6 a7 w0 p hd hQ
  unfold cD_paper_J159 at hd
  refine s_istore f_39_159 (by decide) ?_
  refine s_iload f_39_161 rfl ?_
  refine z_if_eq 203 f_39_163 (by decide) (fun c22 => ?_) (fun c22 => ?_)
  · replace hd := ite_n c22 hd
    refine aAt.sub [(0, .ref 8), (1, .int a1), (3, .int a3), (4, .int a4), (5, .int a5), (6, .int a6), (7, .int a7), (8, .int (b2i w0))] rfl ?_
    exact t_cD_paper_J203 _ _ _ _ _ _ _ _  _ hd hQ
  · replace hd := ite_p c22 hd
    refine s_aload_n f_39_166 rfl ?_
    refine L_getR f_39_167 fd_0_10 (obL (by decide)) (by decide) (by decide : rf 8 0 = 9) ?_
    refine s_iload f_39_170 rfl ?_
    replace hd := obind hd
    obtain ⟨p34, e34, hd⟩ := hd
    refine L_virt (As := [.int a5]) f_39_172 ca_0_159 rfl rfl (obL (by decide)) (by decide) (Nat.le_of_ble_eq_true rfl) ?_
    refine t_cLand_hasField e34 ?_
    refine z_if_eq 196 f_39_175 (by decide) (fun c35 => ?_) (fun c35 => ?_)
    · replace hd := ite_n c35 hd
      refine aAt.sub [(0, .ref 8)] rfl ?_
      exact t_cD_paper_J196 _  _ hd hQ
    · replace hd := ite_p c35 hd
      refine s_aload_n f_39_178 rfl ?_
      refine L_getR f_39_179 fd_0_10 (obL (by decide)) (by decide) (by decide : rf 8 0 = 9) ?_
      refine L_getR f_39_182 fd_0_150 (obL (by decide)) (by decide) (by decide : rf 9 1 = 11) ?_
      refine s_iload f_39_185 rfl ?_
      replace hd := gd hd
      obtain ⟨g37, hd⟩ := hd
      refine L_aaload (ak := 31) (q := (ix a5)) f_39_187 (obL (by decide)) (by decide) (inb_nI g37) (inb_lt g37) (Nat.le_of_ble_eq_true rfl) (scFr (inb_lt g37)) (rfF (inb_lt g37)) ?_
      refine C_getI f_39_188 fd_0_168 (ocF g37) (sck0 (k := X.2) (ocF g37).1 (by decide)) ?_
      refine s_iload f_39_191 rfl ?_
      refine s_icmp_eq 203 f_39_193 (by decide) (fun c38 => ?_) (fun c38 => ?_)
      · replace hd := ite_p c38 hd
        refine aAt.sub [(0, .ref 8), (1, .int a1), (3, .int a3), (4, .int a4), (5, .int a5), (6, .int a6), (7, .int a7), (8, .int (b2i w0))] rfl ?_
        exact t_cD_paper_J203 _ _ _ _ _ _ _ _  _ hd hQ
      · replace hd := ite_n c38 hd
        refine aAt.sub [(0, .ref 8)] rfl ?_
        exact t_cD_paper_J196 _  _ hd hQ
def cD_paper_J154 (S : SS) (a1 : Int32) (a3 : Int32) (a4 : Int32) (a5 : Int32) (a6 : Int32) (a7 : Int32) : Option (Int32 × SS) :=
  cD_paper_J159 S a1 a3 a4 a5 a6 a7 true
theorem t_cD_paper_J154 {l : Launch} {G : aG} {d : Nat} {Q : Option Value → aHeap → Prop} {sl : Nat} {sx : Nat → Int32} {K : KS} {T : TS} {X : XS} {M : SS} : ∀ (S : SS) (a1 : Int32) (a3 : Int32) (a4 : Int32) (a5 : Int32) (a6 : Int32) (a7 : Int32) (p : Int32 × SS), cD_paper_J154 S a1 a3 a4 a5 a6 a7 = some p → Q (some (.int p.1)) (LH (old0 sl sx) p.2 K T X M) → aAt l G (d + 4) 0 0 39 154 [(0, .ref 8), (1, .int a1), (3, .int a3), (4, .int a4), (5, .int a5), (6, .int a6), (7, .int a7)] [] 0 0 (LH (old0 sl sx) S K T X M) Q := by
  intro S a1 a3 a4 a5 a6 a7 p hd hQ
  unfold cD_paper_J154 at hd
  refine k_iconst (v := 1) f_39_154 (by decide) ?_
  refine s_goto 159 f_39_155 (by decide) ?_
  refine aAt.sub [(0, .ref 8), (1, .int a1), (3, .int a3), (4, .int a4), (5, .int a5), (6, .int a6), (7, .int a7)] rfl ?_
  exact t_cD_paper_J159 _ _ _ _ _ _ _ _  _ hd hQ
def cD_paper (S : SS) (a1 : Int32) (a2 : Int32) (a3 : Int32) (a4 : Int32) (a5 : Int32) : Option (Int32 × SS) :=
  (cD_within a1 (0 : Int32) (6 : Int32)).bind fun p1 =>
  if p1 = true then
    if a2 < 0 then
      cD_paper_J79 S
    else
      (cLand_hasPerson S (a2 / (100 : Int32))).bind fun p5 =>
      if p5 = true then
        (cLand_hasPerson S (a2 - a2 / (100 : Int32) * (100 : Int32))).bind fun p7 =>
        if p7 = true then
          (cD_within a3 (1 : Int32) (9999 : Int32)).bind fun p9 =>
          if p9 = true then
            (cD_within a4 (S 9 11) (400 : Int32)).bind fun p11 =>
            if p11 = true then
              if (a2 / (100 : Int32)) = (a2 - a2 / (100 : Int32) * (100 : Int32)) then
                (cD_found S (-100003 : Int32)).bind fun p41 =>
                some (p41.1, p41.2)
              else
                if inb (a2 / (100 : Int32)) 14 then
                  (cPerson_isDead S (17 + (ix (a2 / (100 : Int32))))).bind fun p15 =>
                  if p15 = true then
                    cD_paper_J132 S
                  else
                    if inb (a2 - a2 / (100 : Int32) * (100 : Int32)) 14 then
                      (cPerson_isDead S (17 + (ix (a2 - a2 / (100 : Int32) * (100 : Int32))))).bind fun p19 =>
                      if p19 = true then
                        cD_paper_J132 S
                      else
                        if a1 = (2 : Int32) then
                          cD_paper_J154 S a1 a3 a4 a5 (a2 / (100 : Int32)) (a2 - a2 / (100 : Int32) * (100 : Int32))
                        else
                          if a1 = (3 : Int32) then
                            cD_paper_J154 S a1 a3 a4 a5 (a2 / (100 : Int32)) (a2 - a2 / (100 : Int32) * (100 : Int32))
                          else
                            if a1 = (4 : Int32) then
                              cD_paper_J154 S a1 a3 a4 a5 (a2 / (100 : Int32)) (a2 - a2 / (100 : Int32) * (100 : Int32))
                            else
                              cD_paper_J159 S a1 a3 a4 a5 (a2 / (100 : Int32)) (a2 - a2 / (100 : Int32) * (100 : Int32)) false
                    else none
                else none
            else
              cD_paper_J79 S
          else
            cD_paper_J79 S
        else
          cD_paper_J79 S
      else
        cD_paper_J79 S
  else
    cD_paper_J79 S
theorem t_cD_paper {l : Launch} {G : aG} {d : Nat} {Q : Option Value → aHeap → Prop} {sl : Nat} {sx : Nat → Int32} {S : SS} {K : KS} {T : TS} {X : XS} {M : SS} {a1 : Int32} {a2 : Int32} {a3 : Int32} {a4 : Int32} {a5 : Int32} {p : Int32 × SS} (hd : cD_paper S a1 a2 a3 a4 a5 = some p) (hQ : Q (some (.int p.1)) (LH (old0 sl sx) p.2 K T X M)) : aCall l G (d + 4) 0 0 39 [.ref 8, .int a1, .int a2, .int a3, .int a4, .int a5] (LH (old0 sl sx) S K T X M) Q := by
  refine aCall.of (by decide) (Nat.le_of_ble_eq_true rfl) ?_
  refine aAt.sub [(0, .ref 8), (1, .int a1), (2, .int a2), (3, .int a3), (4, .int a4), (5, .int a5)] rfl ?_
  unfold cD_paper at hd
  refine s_iload_n f_39_0 rfl ?_
  refine k_bipush (v := 100) f_39_1 (by decide) ?_
  refine s_idiv f_39_3 (by decide) ?_
  refine s_istore f_39_4 (by decide) ?_
  refine s_iload_n f_39_6 rfl ?_
  refine k_bipush (v := 100) f_39_7 (by decide) ?_
  refine s_irem f_39_9 (by decide) ?_
  refine s_istore f_39_10 (by decide) ?_
  refine s_iload_n f_39_12 rfl ?_
  refine k_iconst (v := 0) f_39_13 (by decide) ?_
  refine k_bipush (v := 6) f_39_14 (by decide) ?_
  replace hd := obind hd
  obtain ⟨p1, e1, hd⟩ := hd
  refine L_stat (As := [.int a1, .int (0 : Int32), .int (6 : Int32)]) f_39_16 ca_0_75 rfl rfl (Nat.le_of_ble_eq_true rfl) ?_
  refine t_cD_within e1 ?_
  refine z_if_eq 79 f_39_19 (by decide) (fun c2 => ?_) (fun c2 => ?_)
  · replace hd := ite_n c2 hd
    refine aAt.sub [(0, .ref 8)] rfl ?_
    exact t_cD_paper_J79 _  _ hd hQ
  · replace hd := ite_p c2 hd
    refine s_iload_n f_39_22 rfl ?_
    refine s_if_lt 79 f_39_23 (by decide) (fun c4 => ?_) (fun c4 => ?_)
    · replace hd := ite_p c4 hd
      refine aAt.sub [(0, .ref 8)] rfl ?_
      exact t_cD_paper_J79 _  _ hd hQ
    · replace hd := ite_n c4 hd
      refine s_aload_n f_39_26 rfl ?_
      refine L_getR f_39_27 fd_0_10 (obL (by decide)) (by decide) (by decide : rf 8 0 = 9) ?_
      refine s_iload f_39_30 rfl ?_
      replace hd := obind hd
      obtain ⟨p5, e5, hd⟩ := hd
      refine L_virt (As := [.int (a2 / (100 : Int32))]) f_39_32 ca_0_102 rfl rfl (obL (by decide)) (by decide) (Nat.le_of_ble_eq_true rfl) ?_
      refine t_cLand_hasPerson e5 ?_
      refine z_if_eq 79 f_39_35 (by decide) (fun c6 => ?_) (fun c6 => ?_)
      · replace hd := ite_n c6 hd
        refine aAt.sub [(0, .ref 8)] rfl ?_
        exact t_cD_paper_J79 _  _ hd hQ
      · replace hd := ite_p c6 hd
        refine s_aload_n f_39_38 rfl ?_
        refine L_getR f_39_39 fd_0_10 (obL (by decide)) (by decide) (by decide : rf 8 0 = 9) ?_
        refine s_iload f_39_42 rfl ?_
        replace hd := obind hd
        obtain ⟨p7, e7, hd⟩ := hd
        refine L_virt (As := [.int (a2 - a2 / (100 : Int32) * (100 : Int32))]) f_39_44 ca_0_102 rfl rfl (obL (by decide)) (by decide) (Nat.le_of_ble_eq_true rfl) ?_
        refine t_cLand_hasPerson e7 ?_
        refine z_if_eq 79 f_39_47 (by decide) (fun c8 => ?_) (fun c8 => ?_)
        · replace hd := ite_n c8 hd
          refine aAt.sub [(0, .ref 8)] rfl ?_
          exact t_cD_paper_J79 _  _ hd hQ
        · replace hd := ite_p c8 hd
          refine s_iload_n f_39_50 rfl ?_
          refine k_iconst (v := 1) f_39_51 (by decide) ?_
          refine k_sipush (v := 9999) f_39_52 (by decide) ?_
          replace hd := obind hd
          obtain ⟨p9, e9, hd⟩ := hd
          refine L_stat (As := [.int a3, .int (1 : Int32), .int (9999 : Int32)]) f_39_55 ca_0_75 rfl rfl (Nat.le_of_ble_eq_true rfl) ?_
          refine t_cD_within e9 ?_
          refine z_if_eq 79 f_39_58 (by decide) (fun c10 => ?_) (fun c10 => ?_)
          · replace hd := ite_n c10 hd
            refine aAt.sub [(0, .ref 8)] rfl ?_
            exact t_cD_paper_J79 _  _ hd hQ
          · replace hd := ite_p c10 hd
            refine s_iload f_39_61 rfl ?_
            refine s_aload_n f_39_63 rfl ?_
            refine L_getR f_39_64 fd_0_10 (obL (by decide)) (by decide) (by decide : rf 8 0 = 9) ?_
            refine C_getI f_39_67 fd_0_66 (ocl (by decide)) (by decide) ?_
            refine k_sipush (v := 400) f_39_70 (by decide) ?_
            replace hd := obind hd
            obtain ⟨p11, e11, hd⟩ := hd
            refine L_stat (As := [.int a4, .int (S 9 11), .int (400 : Int32)]) f_39_73 ca_0_75 rfl rfl (Nat.le_of_ble_eq_true rfl) ?_
            refine t_cD_within e11 ?_
            refine z_if_ne 86 f_39_76 (by decide) (fun c12 => ?_) (fun c12 => ?_)
            · replace hd := ite_p c12 hd
              refine s_iload f_39_86 rfl ?_
              refine s_iload f_39_88 rfl ?_
              refine s_icmp_ne 100 f_39_90 (by decide) (fun c13 => ?_) (fun c13 => ?_)
              · replace hd := ite_n c13 hd
                refine s_aload_n f_39_100 rfl ?_
                refine L_getR f_39_101 fd_0_10 (obL (by decide)) (by decide) (by decide : rf 8 0 = 9) ?_
                refine L_getR f_39_104 fd_0_92 (obL (by decide)) (by decide) (by decide : rf 9 0 = 10) ?_
                refine s_iload f_39_107 rfl ?_
                replace hd := gd hd
                obtain ⟨g14, hd⟩ := hd
                refine L_aaload (ak := 30) (q := (ix (a2 / (100 : Int32)))) f_39_109 (obL (by decide)) (by decide) (inb_nI g14) (inb_lt g14) (Nat.le_of_ble_eq_true rfl) (scPr (inb_lt g14)) (rfP (inb_lt g14)) ?_
                replace hd := obind hd
                obtain ⟨p15, e15, hd⟩ := hd
                refine L_virt (As := []) f_39_110 ca_0_115 rfl rfl (ocP g14).1 (by decide) (Nat.le_of_ble_eq_true rfl) ?_
                refine t_cPerson_isDead (ocP g14) e15 ?_
                refine z_if_ne 132 f_39_113 (by decide) (fun c16 => ?_) (fun c16 => ?_)
                · replace hd := ite_p c16 hd
                  refine aAt.sub [(0, .ref 8)] rfl ?_
                  exact t_cD_paper_J132 _  _ hd hQ
                · replace hd := ite_n c16 hd
                  refine s_aload_n f_39_116 rfl ?_
                  refine L_getR f_39_117 fd_0_10 (obL (by decide)) (by decide) (by decide : rf 8 0 = 9) ?_
                  refine L_getR f_39_120 fd_0_92 (obL (by decide)) (by decide) (by decide : rf 9 0 = 10) ?_
                  refine s_iload f_39_123 rfl ?_
                  replace hd := gd hd
                  obtain ⟨g18, hd⟩ := hd
                  refine L_aaload (ak := 30) (q := (ix (a2 - a2 / (100 : Int32) * (100 : Int32)))) f_39_125 (obL (by decide)) (by decide) (inb_nI g18) (inb_lt g18) (Nat.le_of_ble_eq_true rfl) (scPr (inb_lt g18)) (rfP (inb_lt g18)) ?_
                  replace hd := obind hd
                  obtain ⟨p19, e19, hd⟩ := hd
                  refine L_virt (As := []) f_39_126 ca_0_115 rfl rfl (ocP g18).1 (by decide) (Nat.le_of_ble_eq_true rfl) ?_
                  refine t_cPerson_isDead (ocP g18) e19 ?_
                  refine z_if_eq 139 f_39_129 (by decide) (fun c20 => ?_) (fun c20 => ?_)
                  · replace hd := ite_n c20 hd
                    refine s_iload_n f_39_139 rfl ?_
                    refine k_iconst (v := 2) f_39_140 (by decide) ?_
                    refine s_icmp_eq 154 f_39_141 (by decide) (fun c21 => ?_) (fun c21 => ?_)
                    · replace hd := ite_p c21 hd
                      refine aAt.sub [(0, .ref 8), (1, .int a1), (3, .int a3), (4, .int a4), (5, .int a5), (6, .int (a2 / (100 : Int32))), (7, .int (a2 - a2 / (100 : Int32) * (100 : Int32)))] rfl ?_
                      exact t_cD_paper_J154 _ _ _ _ _ _ _  _ hd hQ
                    · replace hd := ite_n c21 hd
                      refine s_iload_n f_39_144 rfl ?_
                      refine k_iconst (v := 3) f_39_145 (by decide) ?_
                      refine s_icmp_eq 154 f_39_146 (by decide) (fun c39 => ?_) (fun c39 => ?_)
                      · replace hd := ite_p c39 hd
                        refine aAt.sub [(0, .ref 8), (1, .int a1), (3, .int a3), (4, .int a4), (5, .int a5), (6, .int (a2 / (100 : Int32))), (7, .int (a2 - a2 / (100 : Int32) * (100 : Int32)))] rfl ?_
                        exact t_cD_paper_J154 _ _ _ _ _ _ _  _ hd hQ
                      · replace hd := ite_n c39 hd
                        refine s_iload_n f_39_149 rfl ?_
                        refine k_iconst (v := 4) f_39_150 (by decide) ?_
                        refine s_icmp_ne 158 f_39_151 (by decide) (fun c40 => ?_) (fun c40 => ?_)
                        · replace hd := ite_n c40 hd
                          refine k_iconst (v := 0) f_39_158 (by decide) ?_
                          refine aAt.sub [(0, .ref 8), (1, .int a1), (3, .int a3), (4, .int a4), (5, .int a5), (6, .int (a2 / (100 : Int32))), (7, .int (a2 - a2 / (100 : Int32) * (100 : Int32)))] rfl ?_
                          exact t_cD_paper_J159 _ _ _ _ _ _ _ _  _ hd hQ
                        · replace hd := ite_p c40 hd
                          refine aAt.sub [(0, .ref 8), (1, .int a1), (3, .int a3), (4, .int a4), (5, .int a5), (6, .int (a2 / (100 : Int32))), (7, .int (a2 - a2 / (100 : Int32) * (100 : Int32)))] rfl ?_
                          exact t_cD_paper_J154 _ _ _ _ _ _ _  _ hd hQ
                  · replace hd := ite_p c20 hd
                    refine aAt.sub [(0, .ref 8)] rfl ?_
                    exact t_cD_paper_J132 _  _ hd hQ
              · replace hd := ite_p c13 hd
                refine s_aload_n f_39_93 rfl ?_
                refine s_ldc f_39_94 ko_0_183 ?_
                replace hd := obind hd
                obtain ⟨p41, e41, hd⟩ := hd
                refine L_virt (As := [.int (-100003 : Int32)]) f_39_96 ca_0_84 rfl rfl (obL (by decide)) (by decide) (Nat.le_of_ble_eq_true rfl) ?_
                refine t_cD_found e41 ?_
                refine s_ireturn f_39_99 rfl rfl ?_
                cases hd
                exact hQ
            · replace hd := ite_n c12 hd
              refine aAt.sub [(0, .ref 8)] rfl ?_
              exact t_cD_paper_J79 _  _ hd hQ

def cLand_hasPaper (S : SS) (a1 : Int32) : Option (Bool) :=
  (cD_within a1 (0 : Int32) ((S 9 9) - (1 : Int32))).bind fun p1 =>
  some p1
theorem t_cLand_hasPaper {l : Launch} {G : aG} {d : Nat} {Q : Option Value → aHeap → Prop} {sl : Nat} {sx : Nat → Int32} {S : SS} {K : KS} {T : TS} {X : XS} {M : SS} {a1 : Int32} {p : Bool} (hd : cLand_hasPaper S a1 = some p) (hQ : Q (some (.int (b2i p))) (LH (old0 sl sx) S K T X M)) : aCall l G (d + 1) 0 0 47 [.ref 9, .int a1] (LH (old0 sl sx) S K T X M) Q := by
  refine aCall.of (by decide) (Nat.le_of_ble_eq_true rfl) ?_
  refine aAt.sub [(0, .ref 9), (1, .int a1)] rfl ?_
  unfold cLand_hasPaper at hd
  refine s_iload_n f_47_0 rfl ?_
  refine k_iconst (v := 0) f_47_1 (by decide) ?_
  refine s_aload_n f_47_2 rfl ?_
  refine C_getI f_47_3 fd_3_55 (ocl (by decide)) (by decide) ?_
  refine k_iconst (v := 1) f_47_6 (by decide) ?_
  refine s_isub f_47_7 ?_
  replace hd := obind hd
  obtain ⟨p1, e1, hd⟩ := hd
  refine L_statN (As := [.int a1, .int (0 : Int32), .int ((S 9 9) - (1 : Int32))]) f_47_8 ca_3_104 rfl rfl (Nat.le_of_ble_eq_true rfl) ?_
  refine t_cD_within e1 ?_
  refine s_iretB (b := p1) f_47_11 rfl ?_
  cases hd
  exact hQ

def cD_as_J21 (S : SS) : Option (Int32 × SS) :=
  (cD_found S (-100001 : Int32)).bind fun p3 =>
  some (p3.1, p3.2)
theorem t_cD_as_J21 {l : Launch} {G : aG} {d : Nat} {Q : Option Value → aHeap → Prop} {sl : Nat} {sx : Nat → Int32} {K : KS} {T : TS} {X : XS} {M : SS} : ∀ (S : SS) (p : Int32 × SS), cD_as_J21 S = some p → Q (some (.int p.1)) (LH (old0 sl sx) p.2 K T X M) → aAt l G (d + 2) 0 0 46 21 [(0, .ref 8)] [] 0 0 (LH (old0 sl sx) S K T X M) Q := by
  intro S p hd hQ
  unfold cD_as_J21 at hd
  refine s_aload_n f_46_21 rfl ?_
  refine s_ldc f_46_22 ko_0_83 ?_
  replace hd := obind hd
  obtain ⟨p3, e3, hd⟩ := hd
  refine L_virt (As := [.int (-100001 : Int32)]) f_46_24 ca_0_84 rfl rfl (obL (by decide)) (by decide) (Nat.le_of_ble_eq_true rfl) ?_
  refine t_cD_found e3 ?_
  refine s_ireturn f_46_27 rfl rfl ?_
  cases hd
  exact hQ
def cD_as (S : SS) (a1 : Int32) (a2 : Int32) : Option (Int32 × SS) :=
  (cLand_hasPaper S a1).bind fun p1 =>
  if p1 = true then
    (cD_within a2 (0 : Int32) (6 : Int32)).bind fun p4 =>
    if p4 = true then
      if inb a1 20 then
        (cD_isUnder (S (39 + (ix a1)) 0) a2).bind fun p7 =>
        if p7 = true then
          some (a1, S)
        else
          (cD_found S (-100004 : Int32)).bind fun p9 =>
          some (p9.1, p9.2)
      else none
    else
      cD_as_J21 S
  else
    cD_as_J21 S
theorem t_cD_as {l : Launch} {G : aG} {d : Nat} {Q : Option Value → aHeap → Prop} {sl : Nat} {sx : Nat → Int32} {S : SS} {K : KS} {T : TS} {X : XS} {M : SS} {a1 : Int32} {a2 : Int32} {p : Int32 × SS} (hd : cD_as S a1 a2 = some p) (hQ : Q (some (.int p.1)) (LH (old0 sl sx) p.2 K T X M)) : aCall l G (d + 2) 0 0 46 [.ref 8, .int a1, .int a2] (LH (old0 sl sx) S K T X M) Q := by
  refine aCall.of (by decide) (Nat.le_of_ble_eq_true rfl) ?_
  refine aAt.sub [(0, .ref 8), (1, .int a1), (2, .int a2)] rfl ?_
  unfold cD_as at hd
  refine s_aload_n f_46_0 rfl ?_
  refine L_getR f_46_1 fd_0_10 (obL (by decide)) (by decide) (by decide : rf 8 0 = 9) ?_
  refine s_iload_n f_46_4 rfl ?_
  replace hd := obind hd
  obtain ⟨p1, e1, hd⟩ := hd
  refine L_virt (As := [.int a1]) f_46_5 ca_0_203 rfl rfl (obL (by decide)) (by decide) (Nat.le_of_ble_eq_true rfl) ?_
  refine t_cLand_hasPaper e1 ?_
  refine z_if_eq 21 f_46_8 (by decide) (fun c2 => ?_) (fun c2 => ?_)
  · replace hd := ite_n c2 hd
    refine aAt.sub [(0, .ref 8)] rfl ?_
    exact t_cD_as_J21 _  _ hd hQ
  · replace hd := ite_p c2 hd
    refine s_iload_n f_46_11 rfl ?_
    refine k_iconst (v := 0) f_46_12 (by decide) ?_
    refine k_bipush (v := 6) f_46_13 (by decide) ?_
    replace hd := obind hd
    obtain ⟨p4, e4, hd⟩ := hd
    refine L_stat (As := [.int a2, .int (0 : Int32), .int (6 : Int32)]) f_46_15 ca_0_75 rfl rfl (Nat.le_of_ble_eq_true rfl) ?_
    refine t_cD_within e4 ?_
    refine z_if_ne 28 f_46_18 (by decide) (fun c5 => ?_) (fun c5 => ?_)
    · replace hd := ite_p c5 hd
      refine s_aload_n f_46_28 rfl ?_
      refine L_getR f_46_29 fd_0_10 (obL (by decide)) (by decide) (by decide : rf 8 0 = 9) ?_
      refine L_getR f_46_32 fd_0_206 (obL (by decide)) (by decide) (by decide : rf 9 2 = 12) ?_
      refine s_iload_n f_46_35 rfl ?_
      replace hd := gd hd
      obtain ⟨g6, hd⟩ := hd
      refine L_aaload (ak := 32) (q := (ix a1)) f_46_36 (obL (by decide)) (by decide) (inb_nI g6) (inb_lt g6) (Nat.le_of_ble_eq_true rfl) (scAr (inb_lt g6)) (rfA (inb_lt g6)) ?_
      refine C_getI f_46_37 fd_0_210 (ocA g6) (sck0 (k := X.2) (ocA g6).1 (by decide)) ?_
      refine s_iload_n f_46_40 rfl ?_
      replace hd := obind hd
      obtain ⟨p7, e7, hd⟩ := hd
      refine L_stat (As := [.int (S (39 + (ix a1)) 0), .int a2]) f_46_41 ca_0_213 rfl rfl (Nat.le_of_ble_eq_true rfl) ?_
      refine t_cD_isUnder e7 ?_
      refine z_if_eq 51 f_46_44 (by decide) (fun c8 => ?_) (fun c8 => ?_)
      · replace hd := ite_n c8 hd
        refine s_aload_n f_46_51 rfl ?_
        refine s_ldc f_46_52 ko_0_216 ?_
        replace hd := obind hd
        obtain ⟨p9, e9, hd⟩ := hd
        refine L_virt (As := [.int (-100004 : Int32)]) f_46_54 ca_0_84 rfl rfl (obL (by decide)) (by decide) (Nat.le_of_ble_eq_true rfl) ?_
        refine t_cD_found e9 ?_
        refine s_ireturn f_46_57 rfl rfl ?_
        cases hd
        exact hQ
      · replace hd := ite_p c8 hd
        refine s_iload_n f_46_47 rfl ?_
        refine s_goto 57 f_46_48 (by decide) ?_
        refine s_ireturn f_46_57 rfl rfl ?_
        cases hd
        exact hQ
    · replace hd := ite_n c5 hd
      refine aAt.sub [(0, .ref 8)] rfl ?_
      exact t_cD_as_J21 _  _ hd hQ

def cD_word_J20 (S : SS) : Option (Int32 × SS) :=
  (cD_found S (-100001 : Int32)).bind fun p3 =>
  some (p3.1, p3.2)
theorem t_cD_word_J20 {l : Launch} {G : aG} {d : Nat} {Q : Option Value → aHeap → Prop} {sl : Nat} {sx : Nat → Int32} {K : KS} {T : TS} {X : XS} {M : SS} : ∀ (S : SS) (p : Int32 × SS), cD_word_J20 S = some p → Q (some (.int p.1)) (LH (old0 sl sx) p.2 K T X M) → aAt l G (d + 2) 0 0 48 20 [(0, .ref 8)] [] 0 0 (LH (old0 sl sx) S K T X M) Q := by
  intro S p hd hQ
  unfold cD_word_J20 at hd
  refine s_aload_n f_48_20 rfl ?_
  refine s_ldc f_48_21 ko_0_83 ?_
  replace hd := obind hd
  obtain ⟨p3, e3, hd⟩ := hd
  refine L_virt (As := [.int (-100001 : Int32)]) f_48_23 ca_0_84 rfl rfl (obL (by decide)) (by decide) (Nat.le_of_ble_eq_true rfl) ?_
  refine t_cD_found e3 ?_
  refine s_ireturn f_48_26 rfl rfl ?_
  cases hd
  exact hQ
def cD_word (S : SS) (a1 : Int32) (a2 : Int32) : Option (Int32 × SS) :=
  (cLand_hasPaper S a1).bind fun p1 =>
  if p1 = true then
    (cD_within a2 (0 : Int32) (2 : Int32)).bind fun p4 =>
    if p4 = true then
      if inb a1 20 then
        some ((S (39 + (ix a1)) 8), (up S (39 + (ix a1)) 8 a2))
      else none
    else
      cD_word_J20 S
  else
    cD_word_J20 S
theorem t_cD_word {l : Launch} {G : aG} {d : Nat} {Q : Option Value → aHeap → Prop} {sl : Nat} {sx : Nat → Int32} {S : SS} {K : KS} {T : TS} {X : XS} {M : SS} {a1 : Int32} {a2 : Int32} {p : Int32 × SS} (hd : cD_word S a1 a2 = some p) (hQ : Q (some (.int p.1)) (LH (old0 sl sx) p.2 K T X M)) : aCall l G (d + 2) 0 0 48 [.ref 8, .int a1, .int a2] (LH (old0 sl sx) S K T X M) Q := by
  refine aCall.of (by decide) (Nat.le_of_ble_eq_true rfl) ?_
  refine aAt.sub [(0, .ref 8), (1, .int a1), (2, .int a2)] rfl ?_
  unfold cD_word at hd
  refine s_aload_n f_48_0 rfl ?_
  refine L_getR f_48_1 fd_0_10 (obL (by decide)) (by decide) (by decide : rf 8 0 = 9) ?_
  refine s_iload_n f_48_4 rfl ?_
  replace hd := obind hd
  obtain ⟨p1, e1, hd⟩ := hd
  refine L_virt (As := [.int a1]) f_48_5 ca_0_203 rfl rfl (obL (by decide)) (by decide) (Nat.le_of_ble_eq_true rfl) ?_
  refine t_cLand_hasPaper e1 ?_
  refine z_if_eq 20 f_48_8 (by decide) (fun c2 => ?_) (fun c2 => ?_)
  · replace hd := ite_n c2 hd
    refine aAt.sub [(0, .ref 8)] rfl ?_
    exact t_cD_word_J20 _  _ hd hQ
  · replace hd := ite_p c2 hd
    refine s_iload_n f_48_11 rfl ?_
    refine k_iconst (v := 0) f_48_12 (by decide) ?_
    refine k_iconst (v := 2) f_48_13 (by decide) ?_
    replace hd := obind hd
    obtain ⟨p4, e4, hd⟩ := hd
    refine L_stat (As := [.int a2, .int (0 : Int32), .int (2 : Int32)]) f_48_14 ca_0_75 rfl rfl (Nat.le_of_ble_eq_true rfl) ?_
    refine t_cD_within e4 ?_
    refine z_if_ne 27 f_48_17 (by decide) (fun c5 => ?_) (fun c5 => ?_)
    · replace hd := ite_p c5 hd
      refine s_aload_n f_48_27 rfl ?_
      refine L_getR f_48_28 fd_0_10 (obL (by decide)) (by decide) (by decide : rf 8 0 = 9) ?_
      refine L_getR f_48_31 fd_0_206 (obL (by decide)) (by decide) (by decide : rf 9 2 = 12) ?_
      refine s_iload_n f_48_34 rfl ?_
      replace hd := gd hd
      obtain ⟨g6, hd⟩ := hd
      refine L_aaload (ak := 32) (q := (ix a1)) f_48_35 (obL (by decide)) (by decide) (inb_nI g6) (inb_lt g6) (Nat.le_of_ble_eq_true rfl) (scAr (inb_lt g6)) (rfA (inb_lt g6)) ?_
      refine C_getI f_48_36 fd_0_217 (ocA g6) (sck0 (k := X.2) (ocA g6).1 (by decide)) ?_
      refine s_istore_n f_48_39 (by decide) ?_
      refine s_aload_n f_48_40 rfl ?_
      refine L_getR f_48_41 fd_0_10 (obL (by decide)) (by decide) (by decide : rf 8 0 = 9) ?_
      refine L_getR f_48_44 fd_0_206 (obL (by decide)) (by decide) (by decide : rf 9 2 = 12) ?_
      refine s_iload_n f_48_47 rfl ?_
      refine L_aaload (ak := 32) (q := (ix a1)) f_48_48 (obL (by decide)) (by decide) (inb_nI g6) (inb_lt g6) (Nat.le_of_ble_eq_true rfl) (scAr (inb_lt g6)) (rfA (inb_lt g6)) ?_
      refine s_iload_n f_48_49 rfl ?_
      refine C_putI f_48_50 fd_0_217 (ocA g6) (sck0 (k := X.2) (ocA g6).1 (by decide)) (Or.inl rfl) (by decide) ?_
      refine s_iload_n f_48_53 rfl ?_
      refine s_ireturn f_48_54 rfl rfl ?_
      cases hd
      exact hQ
    · replace hd := ite_n c5 hd
      refine aAt.sub [(0, .ref 8)] rfl ?_
      exact t_cD_word_J20 _  _ hd hQ

def cLand_bring_J26 (S : SS) (a2 : Int32) (a3 : Nat) (w0 : Int32) : Option (SS) :=
  some (up (up S a3 3 ((S a3 3) + (if a2 < w0 then a2 else w0))) 9 13 (((up S a3 3 ((S a3 3) + (if a2 < w0 then a2 else w0))) 9 13) + (a2 - (if a2 < w0 then a2 else w0))))
theorem t_cLand_bring_J26 {l : Launch} {G : aG} {d : Nat} {Q : Option Value → aHeap → Prop} {sl : Nat} {sx : Nat → Int32} {K : KS} {T : TS} {X : XS} {M : SS} : ∀ (S : SS) (a2 : Int32) (a3 : Nat) (w0 : Int32) (_ : oc X.2 a3 6) (p : SS), cLand_bring_J26 S a2 a3 w0 = some p → Q none (LH (old0 sl sx) p K T X M) → aAt l G (d + 1) 0 0 51 26 [(0, .ref 9), (2, .int a2), (3, .ref a3)] [.int w0] 0 0 (LH (old0 sl sx) S K T X M) Q := by
  intro S a2 a3 w0 ha3 p hd hQ
  unfold cLand_bring_J26 at hd
  refine s_istore f_51_26 (by decide) ?_
  refine s_iload f_51_28 rfl ?_
  refine s_iload_n f_51_30 rfl ?_
  refine s_min f_51_31 ca_3_134 (Nat.le_of_ble_eq_true rfl) ?_
  refine s_istore f_51_34 (by decide) ?_
  refine s_aload_n f_51_36 rfl ?_
  refine s_dup f_51_37 rfl ?_
  refine C_getI f_51_38 fd_3_131 ha3 (sck0 (k := X.2) ha3.1 (by decide)) ?_
  refine s_iload f_51_41 rfl ?_
  refine s_iadd f_51_43 ?_
  refine C_putI f_51_44 fd_3_131 ha3 (sck0 (k := X.2) ha3.1 (by decide)) (Or.inl rfl) (by decide) ?_
  refine s_aload_n f_51_47 rfl ?_
  refine s_dup f_51_48 rfl ?_
  refine C_getI f_51_49 fd_3_67 (ocl (by decide)) (by decide) ?_
  refine s_iload_n f_51_52 rfl ?_
  refine s_iload f_51_53 rfl ?_
  refine s_isub f_51_55 ?_
  refine s_iadd f_51_56 ?_
  refine C_putI f_51_57 fd_3_67 (ocl (by decide)) (by decide) (Or.inl rfl) (by decide) ?_
  refine s_return f_51_60 rfl ?_
  cases hd
  exact hQ
def cLand_bring (S : SS) (a1 : Int32) (a2 : Int32) : Option (SS) :=
  if inb a1 14 then
    (cPerson_isDead S (17 + (ix a1))).bind fun p2 =>
    if p2 = true then
      cLand_bring_J26 S a2 (17 + (ix a1)) (0 : Int32)
    else
      cLand_bring_J26 S a2 (17 + (ix a1)) ((9999 : Int32) - (S (17 + (ix a1)) 3))
  else none
theorem t_cLand_bring {l : Launch} {G : aG} {d : Nat} {Q : Option Value → aHeap → Prop} {sl : Nat} {sx : Nat → Int32} {S : SS} {K : KS} {T : TS} {X : XS} {M : SS} {a1 : Int32} {a2 : Int32} {p : SS} (hd : cLand_bring S a1 a2 = some p) (hQ : Q none (LH (old0 sl sx) p K T X M)) : aCall l G (d + 1) 0 0 51 [.ref 9, .int a1, .int a2] (LH (old0 sl sx) S K T X M) Q := by
  refine aCall.of (by decide) (Nat.le_of_ble_eq_true rfl) ?_
  refine aAt.sub [(0, .ref 9), (1, .int a1), (2, .int a2)] rfl ?_
  unfold cLand_bring at hd
  refine s_aload_n f_51_0 rfl ?_
  refine L_getR f_51_1 fd_3_11 (obL (by decide)) (by decide) (by decide : rf 9 0 = 10) ?_
  refine s_iload_n f_51_4 rfl ?_
  replace hd := gd hd
  obtain ⟨g1, hd⟩ := hd
  refine L_aaload (ak := 30) (q := (ix a1)) f_51_5 (obL (by decide)) (by decide) (inb_nI g1) (inb_lt g1) (Nat.le_of_ble_eq_true rfl) (scPr (inb_lt g1)) (rfP (inb_lt g1)) ?_
  refine s_astore_n f_51_6 (by decide) ?_
  refine s_aload_n f_51_7 rfl ?_
  replace hd := obind hd
  obtain ⟨p2, e2, hd⟩ := hd
  refine L_virt (As := []) f_51_8 ca_3_116 rfl rfl (ocP g1).1 (by decide) (Nat.le_of_ble_eq_true rfl) ?_
  refine t_cPerson_isDead (ocP g1) e2 ?_
  refine z_if_eq 18 f_51_11 (by decide) (fun c3 => ?_) (fun c3 => ?_)
  · replace hd := ite_n c3 hd
    refine k_sipush (v := 9999) f_51_18 (by decide) ?_
    refine s_aload_n f_51_21 rfl ?_
    refine C_getI f_51_22 fd_3_131 (ocP g1) (sck0 (k := X.2) (ocP g1).1 (by decide)) ?_
    refine s_isub f_51_25 ?_
    refine aAt.sub [(0, .ref 9), (2, .int a2), (3, .ref (17 + (ix a1)))] rfl ?_
    exact t_cLand_bring_J26 _ _ _ _ (ocP g1) _ hd hQ
  · replace hd := ite_p c3 hd
    refine k_iconst (v := 0) f_51_14 (by decide) ?_
    refine s_goto 26 f_51_15 (by decide) ?_
    refine aAt.sub [(0, .ref 9), (2, .int a2), (3, .ref (17 + (ix a1)))] rfl ?_
    exact t_cLand_bring_J26 _ _ _ _ (ocP g1) _ hd hQ

def cLand_end (S : SS) (a1 : Nat) (a2 : Int32) : Option (SS) :=
  if ((up S a1 9 a2) a1 0) = (6 : Int32) then
    if inb ((up S a1 9 a2) a1 1) 14 then
      some (up (up S a1 9 a2) (17 + (ix ((up S a1 9 a2) a1 1))) 6 (-1 : Int32))
    else none
  else
    some (up S a1 9 a2)
theorem t_cLand_end {l : Launch} {G : aG} {d : Nat} {Q : Option Value → aHeap → Prop} {sl : Nat} {sx : Nat → Int32} {S : SS} {K : KS} {T : TS} {X : XS} {M : SS} {a1 : Nat} {a2 : Int32} (ha1 : oc X.2 a1 5) {p : SS} (hd : cLand_end S a1 a2 = some p) (hQ : Q none (LH (old0 sl sx) p K T X M)) : aCall l G d 0 0 52 [.ref 9, .ref a1, .int a2] (LH (old0 sl sx) S K T X M) Q := by
  refine aCall.of (by decide) (Nat.le_of_ble_eq_true rfl) ?_
  refine aAt.sub [(0, .ref 9), (1, .ref a1), (2, .int a2)] rfl ?_
  unfold cLand_end at hd
  refine s_aload_n f_52_0 rfl ?_
  refine s_iload_n f_52_1 rfl ?_
  refine C_putI f_52_2 fd_3_167 ha1 (sck0 (k := X.2) ha1.1 (by decide)) (Or.inl rfl) (by decide) ?_
  refine s_aload_n f_52_5 rfl ?_
  refine C_getI f_52_6 fd_3_158 ha1 (sck0 (k := X.2) ha1.1 (by decide)) ?_
  refine k_bipush (v := 6) f_52_9 (by decide) ?_
  refine s_icmp_ne 27 f_52_11 (by decide) (fun c1 => ?_) (fun c1 => ?_)
  · replace hd := ite_n c1 hd
    refine s_return f_52_27 rfl ?_
    cases hd
    exact hQ
  · replace hd := ite_p c1 hd
    refine s_aload_n f_52_14 rfl ?_
    refine L_getR f_52_15 fd_3_11 (obL (by decide)) (by decide) (by decide : rf 9 0 = 10) ?_
    refine s_aload_n f_52_18 rfl ?_
    refine C_getI f_52_19 fd_3_161 ha1 (sck0 (k := X.2) ha1.1 (by decide)) ?_
    replace hd := gd hd
    obtain ⟨g2, hd⟩ := hd
    refine L_aaload (ak := 30) (q := (ix ((up S a1 9 a2) a1 1))) f_52_22 (obL (by decide)) (by decide) (inb_nI g2) (inb_lt g2) (Nat.le_of_ble_eq_true rfl) (scPr (inb_lt g2)) (rfP (inb_lt g2)) ?_
    refine k_iconst (v := (-1)) f_52_23 (by decide) ?_
    refine C_putI f_52_24 fd_3_164 (ocP g2) (sck0 (k := X.2) (ocP g2).1 (by decide)) (Or.inl rfl) (by decide) ?_
    refine s_return f_52_27 rfl ?_
    cases hd
    exact hQ

def cLand_payOn (S : SS) (a1 : Nat) (a2 : Int32) : Option (SS) :=
  if inb (S a1 1) 14 then
    (cLand_bring (up S (17 + (ix (S a1 1))) 3 ((S (17 + (ix (S a1 1))) 3) - a2)) ((up S (17 + (ix (S a1 1))) 3 ((S (17 + (ix (S a1 1))) 3) - a2)) a1 2) a2).bind fun p2 =>
    (cPaper_owed (up p2 a1 4 ((p2 a1 4) + a2)) a1).bind fun p3 =>
    if p3 ≤ 0 then
      (cLand_end (up p2 a1 4 ((p2 a1 4) + a2)) a1 (1 : Int32)).bind fun p5 =>
      (cPaper_isSale p5 a1).bind fun p6 =>
      if p6 = true then
        (cLand_hasField p5 (p5 a1 7)).bind fun p8 =>
        if p8 = true then
          if inb (p5 a1 7) 8 then
            if (p5 (31 + (ix (p5 a1 7))) 2) = (p5 a1 2) then
              some (up p5 (31 + (ix (p5 a1 7))) 2 (p5 a1 1))
            else
              some p5
          else none
        else
          some p5
      else
        some p5
    else
      some (up p2 a1 4 ((p2 a1 4) + a2))
  else none
theorem t_cLand_payOn {l : Launch} {G : aG} {d : Nat} {Q : Option Value → aHeap → Prop} {sl : Nat} {sx : Nat → Int32} {S : SS} {K : KS} {T : TS} {X : XS} {M : SS} {a1 : Nat} {a2 : Int32} (ha1 : oc X.2 a1 5) {p : SS} (hd : cLand_payOn S a1 a2 = some p) (hQ : Q none (LH (old0 sl sx) p K T X M)) : aCall l G (d + 3) 0 0 50 [.ref 9, .ref a1, .int a2] (LH (old0 sl sx) S K T X M) Q := by
  refine aCall.of (by decide) (Nat.le_of_ble_eq_true rfl) ?_
  refine aAt.sub [(0, .ref 9), (1, .ref a1), (2, .int a2)] rfl ?_
  unfold cLand_payOn at hd
  refine s_aload_n f_50_0 rfl ?_
  refine L_getR f_50_1 fd_3_11 (obL (by decide)) (by decide) (by decide : rf 9 0 = 10) ?_
  refine s_aload_n f_50_4 rfl ?_
  refine C_getI f_50_5 fd_3_161 ha1 (sck0 (k := X.2) ha1.1 (by decide)) ?_
  replace hd := gd hd
  obtain ⟨g1, hd⟩ := hd
  refine L_aaload (ak := 30) (q := (ix (S a1 1))) f_50_8 (obL (by decide)) (by decide) (inb_nI g1) (inb_lt g1) (Nat.le_of_ble_eq_true rfl) (scPr (inb_lt g1)) (rfP (inb_lt g1)) ?_
  refine s_dup f_50_9 rfl ?_
  refine C_getI f_50_10 fd_3_131 (ocP g1) (sck0 (k := X.2) (ocP g1).1 (by decide)) ?_
  refine s_iload_n f_50_13 rfl ?_
  refine s_isub f_50_14 ?_
  refine C_putI f_50_15 fd_3_131 (ocP g1) (sck0 (k := X.2) (ocP g1).1 (by decide)) (Or.inl rfl) (by decide) ?_
  refine s_aload_n f_50_18 rfl ?_
  refine s_aload_n f_50_19 rfl ?_
  refine C_getI f_50_20 fd_3_152 ha1 (sck0 (k := X.2) ha1.1 (by decide)) ?_
  refine s_iload_n f_50_23 rfl ?_
  replace hd := obind hd
  obtain ⟨p2, e2, hd⟩ := hd
  refine L_virt (As := [.int ((up S (17 + (ix (S a1 1))) 3 ((S (17 + (ix (S a1 1))) 3) - a2)) a1 2), .int a2]) f_50_24 ca_3_170 rfl rfl (obL (by decide)) (by decide) (Nat.le_of_ble_eq_true rfl) ?_
  refine t_cLand_bring e2 ?_
  refine s_aload_n f_50_27 rfl ?_
  refine s_dup f_50_28 rfl ?_
  refine C_getI f_50_29 fd_3_174 ha1 (sck0 (k := X.2) ha1.1 (by decide)) ?_
  refine s_iload_n f_50_32 rfl ?_
  refine s_iadd f_50_33 ?_
  refine C_putI f_50_34 fd_3_174 ha1 (sck0 (k := X.2) ha1.1 (by decide)) (Or.inl rfl) (by decide) ?_
  refine s_aload_n f_50_37 rfl ?_
  replace hd := obind hd
  obtain ⟨p3, e3, hd⟩ := hd
  refine L_virt (As := []) f_50_38 ca_3_177 rfl rfl ha1.1 (by decide) (Nat.le_of_ble_eq_true rfl) ?_
  refine t_cPaper_owed ha1 e3 ?_
  refine s_if_le 45 f_50_41 (by decide) (fun c4 => ?_) (fun c4 => ?_)
  · replace hd := ite_p c4 hd
    refine s_aload_n f_50_45 rfl ?_
    refine s_aload_n f_50_46 rfl ?_
    refine k_iconst (v := 1) f_50_47 (by decide) ?_
    replace hd := obind hd
    obtain ⟨p5, e5, hd⟩ := hd
    refine L_virt (As := [.ref a1, .int (1 : Int32)]) f_50_48 ca_3_181 rfl rfl (obL (by decide)) (by decide) (Nat.le_of_ble_eq_true rfl) ?_
    refine t_cLand_end ha1 e5 ?_
    refine s_aload_n f_50_51 rfl ?_
    replace hd := obind hd
    obtain ⟨p6, e6, hd⟩ := hd
    refine L_virt (As := []) f_50_52 ca_3_146 rfl rfl ha1.1 (by decide) (Nat.le_of_ble_eq_true rfl) ?_
    refine t_cPaper_isSale ha1 e6 ?_
    refine z_if_eq 104 f_50_55 (by decide) (fun c7 => ?_) (fun c7 => ?_)
    · replace hd := ite_n c7 hd
      refine s_return f_50_104 rfl ?_
      cases hd
      exact hQ
    · replace hd := ite_p c7 hd
      refine s_aload_n f_50_58 rfl ?_
      refine s_aload_n f_50_59 rfl ?_
      refine C_getI f_50_60 fd_3_143 ha1 (sck0 (k := X.2) ha1.1 (by decide)) ?_
      replace hd := obind hd
      obtain ⟨p8, e8, hd⟩ := hd
      refine L_virt (As := [.int (p5 a1 7)]) f_50_63 ca_3_149 rfl rfl (obL (by decide)) (by decide) (Nat.le_of_ble_eq_true rfl) ?_
      refine t_cLand_hasField e8 ?_
      refine z_if_eq 104 f_50_66 (by decide) (fun c9 => ?_) (fun c9 => ?_)
      · replace hd := ite_n c9 hd
        refine s_return f_50_104 rfl ?_
        cases hd
        exact hQ
      · replace hd := ite_p c9 hd
        refine s_aload_n f_50_69 rfl ?_
        refine L_getR f_50_70 fd_3_19 (obL (by decide)) (by decide) (by decide : rf 9 1 = 11) ?_
        refine s_aload_n f_50_73 rfl ?_
        refine C_getI f_50_74 fd_3_143 ha1 (sck0 (k := X.2) ha1.1 (by decide)) ?_
        replace hd := gd hd
        obtain ⟨g10, hd⟩ := hd
        refine L_aaload (ak := 31) (q := (ix (p5 a1 7))) f_50_77 (obL (by decide)) (by decide) (inb_nI g10) (inb_lt g10) (Nat.le_of_ble_eq_true rfl) (scFr (inb_lt g10)) (rfF (inb_lt g10)) ?_
        refine C_getI f_50_78 fd_3_155 (ocF g10) (sck0 (k := X.2) (ocF g10).1 (by decide)) ?_
        refine s_aload_n f_50_81 rfl ?_
        refine C_getI f_50_82 fd_3_152 ha1 (sck0 (k := X.2) ha1.1 (by decide)) ?_
        refine s_icmp_ne 104 f_50_85 (by decide) (fun c11 => ?_) (fun c11 => ?_)
        · replace hd := ite_n c11 hd
          refine s_return f_50_104 rfl ?_
          cases hd
          exact hQ
        · replace hd := ite_p c11 hd
          refine s_aload_n f_50_88 rfl ?_
          refine L_getR f_50_89 fd_3_19 (obL (by decide)) (by decide) (by decide : rf 9 1 = 11) ?_
          refine s_aload_n f_50_92 rfl ?_
          refine C_getI f_50_93 fd_3_143 ha1 (sck0 (k := X.2) ha1.1 (by decide)) ?_
          refine L_aaload (ak := 31) (q := (ix (p5 a1 7))) f_50_96 (obL (by decide)) (by decide) (inb_nI g10) (inb_lt g10) (Nat.le_of_ble_eq_true rfl) (scFr (inb_lt g10)) (rfF (inb_lt g10)) ?_
          refine s_aload_n f_50_97 rfl ?_
          refine C_getI f_50_98 fd_3_161 ha1 (sck0 (k := X.2) ha1.1 (by decide)) ?_
          refine C_putI f_50_101 fd_3_155 (ocF g10) (sck0 (k := X.2) (ocF g10).1 (by decide)) (Or.inl rfl) (by decide) ?_
          refine s_return f_50_104 rfl ?_
          cases hd
          exact hQ
  · replace hd := ite_n c4 hd
    refine s_return f_50_44 rfl ?_
    cases hd
    exact hQ
