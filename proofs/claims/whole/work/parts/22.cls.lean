def cD_pay_J22 (S : SS) : Option (Int32 × SS) :=
  (cD_found S (-100001 : Int32)).bind fun p3 =>
  some (p3.1, p3.2)
theorem t_cD_pay_J22 {l : Launch} {G : aG} {d : Nat} {Q : Option Value → aHeap → Prop} {sl : Nat} {sx : Nat → Int32} {K : KS} {T : TS} {X : XS} {M : SS} : ∀ (S : SS) (p : Int32 × SS), cD_pay_J22 S = some p → Q (some (.int p.1)) (LH (old0 sl sx) p.2 K T X M) → aAt l G (d + 4) 0 0 49 22 [(0, .ref 8)] [] 0 0 (LH (old0 sl sx) S K T X M) Q := by
  intro S p hd hQ
  unfold cD_pay_J22 at hd
  refine s_aload_n f_49_22 rfl ?_
  refine s_ldc f_49_23 ko_0_83 ?_
  replace hd := obind hd
  obtain ⟨p3, e3, hd⟩ := hd
  refine L_virt (As := [.int (-100001 : Int32)]) f_49_25 ca_0_84 rfl rfl (obL (by decide)) (by decide) (Nat.le_of_ble_eq_true rfl) ?_
  refine t_cD_found e3 ?_
  refine s_ireturn f_49_28 rfl rfl ?_
  cases hd
  exact hQ
def cD_pay (S : SS) (a1 : Int32) (a2 : Int32) : Option (Int32 × SS) :=
  (cLand_hasPaper S a1).bind fun p1 =>
  if p1 = true then
    (cD_within a2 (1 : Int32) (9999 : Int32)).bind fun p4 =>
    if p4 = true then
      if inb a1 20 then
        if (S (39 + (ix a1)) 9) = 0 then
          (cPaper_owed S (39 + (ix a1))).bind fun p8 =>
          if a2 ≤ p8 then
            if inb (S (39 + (ix a1)) 1) 14 then
              if a2 ≤ (S (17 + (ix (S (39 + (ix a1)) 1))) 3) then
                (cLand_payOn S (39 + (ix a1)) a2).bind fun p12 =>
                (cPaper_owed p12 (39 + (ix a1))).bind fun p13 =>
                some (p13, p12)
              else
                (cD_found S (-100002 : Int32)).bind fun p14 =>
                some (p14.1, p14.2)
            else none
          else
            (cD_found S (-100003 : Int32)).bind fun p15 =>
            some (p15.1, p15.2)
        else
          (cD_found S (-100006 : Int32)).bind fun p16 =>
          some (p16.1, p16.2)
      else none
    else
      cD_pay_J22 S
  else
    cD_pay_J22 S
theorem t_cD_pay {l : Launch} {G : aG} {d : Nat} {Q : Option Value → aHeap → Prop} {sl : Nat} {sx : Nat → Int32} {S : SS} {K : KS} {T : TS} {X : XS} {M : SS} {a1 : Int32} {a2 : Int32} {p : Int32 × SS} (hd : cD_pay S a1 a2 = some p) (hQ : Q (some (.int p.1)) (LH (old0 sl sx) p.2 K T X M)) : aCall l G (d + 4) 0 0 49 [.ref 8, .int a1, .int a2] (LH (old0 sl sx) S K T X M) Q := by
  refine aCall.of (by decide) (Nat.le_of_ble_eq_true rfl) ?_
  refine aAt.sub [(0, .ref 8), (1, .int a1), (2, .int a2)] rfl ?_
  unfold cD_pay at hd
  refine s_aload_n f_49_0 rfl ?_
  refine L_getR f_49_1 fd_0_10 (obL (by decide)) (by decide) (by decide : rf 8 0 = 9) ?_
  refine s_iload_n f_49_4 rfl ?_
  replace hd := obind hd
  obtain ⟨p1, e1, hd⟩ := hd
  refine L_virt (As := [.int a1]) f_49_5 ca_0_203 rfl rfl (obL (by decide)) (by decide) (Nat.le_of_ble_eq_true rfl) ?_
  refine t_cLand_hasPaper e1 ?_
  refine z_if_eq 22 f_49_8 (by decide) (fun c2 => ?_) (fun c2 => ?_)
  · replace hd := ite_n c2 hd
    refine aAt.sub [(0, .ref 8)] rfl ?_
    exact t_cD_pay_J22 _  _ hd hQ
  · replace hd := ite_p c2 hd
    refine s_iload_n f_49_11 rfl ?_
    refine k_iconst (v := 1) f_49_12 (by decide) ?_
    refine k_sipush (v := 9999) f_49_13 (by decide) ?_
    replace hd := obind hd
    obtain ⟨p4, e4, hd⟩ := hd
    refine L_stat (As := [.int a2, .int (1 : Int32), .int (9999 : Int32)]) f_49_16 ca_0_75 rfl rfl (Nat.le_of_ble_eq_true rfl) ?_
    refine t_cD_within e4 ?_
    refine z_if_ne 29 f_49_19 (by decide) (fun c5 => ?_) (fun c5 => ?_)
    · replace hd := ite_p c5 hd
      refine s_aload_n f_49_29 rfl ?_
      refine L_getR f_49_30 fd_0_10 (obL (by decide)) (by decide) (by decide : rf 8 0 = 9) ?_
      refine L_getR f_49_33 fd_0_206 (obL (by decide)) (by decide) (by decide : rf 9 2 = 12) ?_
      refine s_iload_n f_49_36 rfl ?_
      replace hd := gd hd
      obtain ⟨g6, hd⟩ := hd
      refine L_aaload (ak := 32) (q := (ix a1)) f_49_37 (obL (by decide)) (by decide) (inb_nI g6) (inb_lt g6) (Nat.le_of_ble_eq_true rfl) (scAr (inb_lt g6)) (rfA (inb_lt g6)) ?_
      refine s_astore_n f_49_38 (by decide) ?_
      refine s_aload_n f_49_39 rfl ?_
      refine C_getI f_49_40 fd_0_220 (ocA g6) (sck0 (k := X.2) (ocA g6).1 (by decide)) ?_
      refine s_if_eq 53 f_49_43 (by decide) (fun c7 => ?_) (fun c7 => ?_)
      · replace hd := ite_p c7 hd
        refine s_iload_n f_49_53 rfl ?_
        refine s_aload_n f_49_54 rfl ?_
        replace hd := obind hd
        obtain ⟨p8, e8, hd⟩ := hd
        refine L_virt (As := []) f_49_55 ca_0_223 rfl rfl (ocA g6).1 (by decide) (Nat.le_of_ble_eq_true rfl) ?_
        refine t_cPaper_owed (ocA g6) e8 ?_
        refine s_icmp_le 68 f_49_58 (by decide) (fun c9 => ?_) (fun c9 => ?_)
        · replace hd := ite_p c9 hd
          refine s_iload_n f_49_68 rfl ?_
          refine s_aload_n f_49_69 rfl ?_
          refine L_getR f_49_70 fd_0_10 (obL (by decide)) (by decide) (by decide : rf 8 0 = 9) ?_
          refine L_getR f_49_73 fd_0_92 (obL (by decide)) (by decide) (by decide : rf 9 0 = 10) ?_
          refine s_aload_n f_49_76 rfl ?_
          refine C_getI f_49_77 fd_0_227 (ocA g6) (sck0 (k := X.2) (ocA g6).1 (by decide)) ?_
          replace hd := gd hd
          obtain ⟨g10, hd⟩ := hd
          refine L_aaload (ak := 30) (q := (ix (S (39 + (ix a1)) 1))) f_49_80 (obL (by decide)) (by decide) (inb_nI g10) (inb_lt g10) (Nat.le_of_ble_eq_true rfl) (scPr (inb_lt g10)) (rfP (inb_lt g10)) ?_
          refine C_getI f_49_81 fd_0_120 (ocP g10) (sck0 (k := X.2) (ocP g10).1 (by decide)) ?_
          refine s_icmp_le 94 f_49_84 (by decide) (fun c11 => ?_) (fun c11 => ?_)
          · replace hd := ite_p c11 hd
            refine s_aload_n f_49_94 rfl ?_
            refine L_getR f_49_95 fd_0_10 (obL (by decide)) (by decide) (by decide : rf 8 0 = 9) ?_
            refine s_aload_n f_49_98 rfl ?_
            refine s_iload_n f_49_99 rfl ?_
            replace hd := obind hd
            obtain ⟨p12, e12, hd⟩ := hd
            refine L_virt (As := [.ref (39 + (ix a1)), .int a2]) f_49_100 ca_0_230 rfl rfl (obL (by decide)) (by decide) (Nat.le_of_ble_eq_true rfl) ?_
            refine t_cLand_payOn (ocA g6) e12 ?_
            refine s_aload_n f_49_103 rfl ?_
            replace hd := obind hd
            obtain ⟨p13, e13, hd⟩ := hd
            refine L_virt (As := []) f_49_104 ca_0_223 rfl rfl (ocA g6).1 (by decide) (Nat.le_of_ble_eq_true rfl) ?_
            refine t_cPaper_owed (ocA g6) e13 ?_
            refine s_ireturn f_49_107 rfl rfl ?_
            cases hd
            exact hQ
          · replace hd := ite_n c11 hd
            refine s_aload_n f_49_87 rfl ?_
            refine s_ldc f_49_88 ko_0_184 ?_
            replace hd := obind hd
            obtain ⟨p14, e14, hd⟩ := hd
            refine L_virt (As := [.int (-100002 : Int32)]) f_49_90 ca_0_84 rfl rfl (obL (by decide)) (by decide) (Nat.le_of_ble_eq_true rfl) ?_
            refine t_cD_found e14 ?_
            refine s_ireturn f_49_93 rfl rfl ?_
            cases hd
            exact hQ
        · replace hd := ite_n c9 hd
          refine s_aload_n f_49_61 rfl ?_
          refine s_ldc f_49_62 ko_0_183 ?_
          replace hd := obind hd
          obtain ⟨p15, e15, hd⟩ := hd
          refine L_virt (As := [.int (-100003 : Int32)]) f_49_64 ca_0_84 rfl rfl (obL (by decide)) (by decide) (Nat.le_of_ble_eq_true rfl) ?_
          refine t_cD_found e15 ?_
          refine s_ireturn f_49_67 rfl rfl ?_
          cases hd
          exact hQ
      · replace hd := ite_n c7 hd
        refine s_aload_n f_49_46 rfl ?_
        refine s_ldc f_49_47 ko_0_182 ?_
        replace hd := obind hd
        obtain ⟨p16, e16, hd⟩ := hd
        refine L_virt (As := [.int (-100006 : Int32)]) f_49_49 ca_0_84 rfl rfl (obL (by decide)) (by decide) (Nat.le_of_ble_eq_true rfl) ?_
        refine t_cD_found e16 ?_
        refine s_ireturn f_49_52 rfl rfl ?_
        cases hd
        exact hQ
    · replace hd := ite_n c5 hd
      refine aAt.sub [(0, .ref 8)] rfl ?_
      exact t_cD_pay_J22 _  _ hd hQ

def cD_annul (S : SS) (a1 : Int32) : Option (Int32 × SS) :=
  (cLand_hasPaper S a1).bind fun p1 =>
  if p1 = true then
    if inb a1 20 then
      if (S (39 + (ix a1)) 9) = 0 then
        (cLand_end S (39 + (ix a1)) (3 : Int32)).bind fun p5 =>
        (cPaper_owed p5 (39 + (ix a1))).bind fun p6 =>
        some (p6, p5)
      else
        (cD_found S (-100006 : Int32)).bind fun p7 =>
        some (p7.1, p7.2)
    else none
  else
    (cD_found S (-100001 : Int32)).bind fun p8 =>
    some (p8.1, p8.2)
theorem t_cD_annul {l : Launch} {G : aG} {d : Nat} {Q : Option Value → aHeap → Prop} {sl : Nat} {sx : Nat → Int32} {S : SS} {K : KS} {T : TS} {X : XS} {M : SS} {a1 : Int32} {p : Int32 × SS} (hd : cD_annul S a1 = some p) (hQ : Q (some (.int p.1)) (LH (old0 sl sx) p.2 K T X M)) : aCall l G (d + 2) 0 0 53 [.ref 8, .int a1] (LH (old0 sl sx) S K T X M) Q := by
  refine aCall.of (by decide) (Nat.le_of_ble_eq_true rfl) ?_
  refine aAt.sub [(0, .ref 8), (1, .int a1)] rfl ?_
  unfold cD_annul at hd
  refine s_aload_n f_53_0 rfl ?_
  refine L_getR f_53_1 fd_0_10 (obL (by decide)) (by decide) (by decide : rf 8 0 = 9) ?_
  refine s_iload_n f_53_4 rfl ?_
  replace hd := obind hd
  obtain ⟨p1, e1, hd⟩ := hd
  refine L_virt (As := [.int a1]) f_53_5 ca_0_203 rfl rfl (obL (by decide)) (by decide) (Nat.le_of_ble_eq_true rfl) ?_
  refine t_cLand_hasPaper e1 ?_
  refine z_if_ne 18 f_53_8 (by decide) (fun c2 => ?_) (fun c2 => ?_)
  · replace hd := ite_p c2 hd
    refine s_aload_n f_53_18 rfl ?_
    refine L_getR f_53_19 fd_0_10 (obL (by decide)) (by decide) (by decide : rf 8 0 = 9) ?_
    refine L_getR f_53_22 fd_0_206 (obL (by decide)) (by decide) (by decide : rf 9 2 = 12) ?_
    refine s_iload_n f_53_25 rfl ?_
    replace hd := gd hd
    obtain ⟨g3, hd⟩ := hd
    refine L_aaload (ak := 32) (q := (ix a1)) f_53_26 (obL (by decide)) (by decide) (inb_nI g3) (inb_lt g3) (Nat.le_of_ble_eq_true rfl) (scAr (inb_lt g3)) (rfA (inb_lt g3)) ?_
    refine s_astore_n f_53_27 (by decide) ?_
    refine s_aload_n f_53_28 rfl ?_
    refine C_getI f_53_29 fd_0_220 (ocA g3) (sck0 (k := X.2) (ocA g3).1 (by decide)) ?_
    refine s_if_eq 42 f_53_32 (by decide) (fun c4 => ?_) (fun c4 => ?_)
    · replace hd := ite_p c4 hd
      refine s_aload_n f_53_42 rfl ?_
      refine L_getR f_53_43 fd_0_10 (obL (by decide)) (by decide) (by decide : rf 8 0 = 9) ?_
      refine s_aload_n f_53_46 rfl ?_
      refine k_iconst (v := 3) f_53_47 (by decide) ?_
      replace hd := obind hd
      obtain ⟨p5, e5, hd⟩ := hd
      refine L_virt (As := [.ref (39 + (ix a1)), .int (3 : Int32)]) f_53_48 ca_0_234 rfl rfl (obL (by decide)) (by decide) (Nat.le_of_ble_eq_true rfl) ?_
      refine t_cLand_end (ocA g3) e5 ?_
      refine s_aload_n f_53_51 rfl ?_
      replace hd := obind hd
      obtain ⟨p6, e6, hd⟩ := hd
      refine L_virt (As := []) f_53_52 ca_0_223 rfl rfl (ocA g3).1 (by decide) (Nat.le_of_ble_eq_true rfl) ?_
      refine t_cPaper_owed (ocA g3) e6 ?_
      refine s_ireturn f_53_55 rfl rfl ?_
      cases hd
      exact hQ
    · replace hd := ite_n c4 hd
      refine s_aload_n f_53_35 rfl ?_
      refine s_ldc f_53_36 ko_0_182 ?_
      replace hd := obind hd
      obtain ⟨p7, e7, hd⟩ := hd
      refine L_virt (As := [.int (-100006 : Int32)]) f_53_38 ca_0_84 rfl rfl (obL (by decide)) (by decide) (Nat.le_of_ble_eq_true rfl) ?_
      refine t_cD_found e7 ?_
      refine s_ireturn f_53_41 rfl rfl ?_
      cases hd
      exact hQ
  · replace hd := ite_n c2 hd
    refine s_aload_n f_53_11 rfl ?_
    refine s_ldc f_53_12 ko_0_83 ?_
    replace hd := obind hd
    obtain ⟨p8, e8, hd⟩ := hd
    refine L_virt (As := [.int (-100001 : Int32)]) f_53_14 ca_0_84 rfl rfl (obL (by decide)) (by decide) (Nat.le_of_ble_eq_true rfl) ?_
    refine t_cD_found e8 ?_
    refine s_ireturn f_53_17 rfl rfl ?_
    cases hd
    exact hQ

def cD_paperIs (S : SS) (a1 : Int32) (a2 : Int32) : Option (Int32 × SS) :=
  (cLand_hasPaper S a1).bind fun p1 =>
  if p1 = true then
    if inb a1 20 then
      if a2 = 0 then
        some ((S (39 + (ix a1)) 0), S)
      else
        if a2 = 1 then
          some ((S (39 + (ix a1)) 1), S)
        else
          if a2 = 2 then
            some ((S (39 + (ix a1)) 2), S)
          else
            if a2 = 3 then
              some ((S (39 + (ix a1)) 3), S)
            else
              if a2 = 4 then
                some ((S (39 + (ix a1)) 4), S)
              else
                if a2 = 5 then
                  some ((S (39 + (ix a1)) 5), S)
                else
                  if a2 = 6 then
                    some ((S (39 + (ix a1)) 6), S)
                  else
                    if a2 = 7 then
                      some ((S (39 + (ix a1)) 7), S)
                    else
                      if a2 = 8 then
                        some ((S (39 + (ix a1)) 8), S)
                      else
                        if a2 = 9 then
                          some ((S (39 + (ix a1)) 9), S)
                        else
                          (cD_found S (-100001 : Int32)).bind fun p14 =>
                          some (p14.1, p14.2)
    else none
  else
    (cD_found S (-100001 : Int32)).bind fun p15 =>
    some (p15.1, p15.2)
theorem t_cD_paperIs {l : Launch} {G : aG} {d : Nat} {Q : Option Value → aHeap → Prop} {sl : Nat} {sx : Nat → Int32} {S : SS} {K : KS} {T : TS} {X : XS} {M : SS} {a1 : Int32} {a2 : Int32} {p : Int32 × SS} (hd : cD_paperIs S a1 a2 = some p) (hQ : Q (some (.int p.1)) (LH (old0 sl sx) p.2 K T X M)) : aCall l G (d + 2) 0 0 54 [.ref 8, .int a1, .int a2] (LH (old0 sl sx) S K T X M) Q := by
  refine aCall.of (by decide) (Nat.le_of_ble_eq_true rfl) ?_
  refine aAt.sub [(0, .ref 8), (1, .int a1), (2, .int a2)] rfl ?_
  unfold cD_paperIs at hd
  refine s_aload_n f_54_0 rfl ?_
  refine L_getR f_54_1 fd_0_10 (obL (by decide)) (by decide) (by decide : rf 8 0 = 9) ?_
  refine s_iload_n f_54_4 rfl ?_
  replace hd := obind hd
  obtain ⟨p1, e1, hd⟩ := hd
  refine L_virt (As := [.int a1]) f_54_5 ca_0_203 rfl rfl (obL (by decide)) (by decide) (Nat.le_of_ble_eq_true rfl) ?_
  refine t_cLand_hasPaper e1 ?_
  refine z_if_ne 18 f_54_8 (by decide) (fun c2 => ?_) (fun c2 => ?_)
  · replace hd := ite_p c2 hd
    refine s_aload_n f_54_18 rfl ?_
    refine L_getR f_54_19 fd_0_10 (obL (by decide)) (by decide) (by decide : rf 8 0 = 9) ?_
    refine L_getR f_54_22 fd_0_206 (obL (by decide)) (by decide) (by decide : rf 9 2 = 12) ?_
    refine s_iload_n f_54_25 rfl ?_
    replace hd := gd hd
    obtain ⟨g3, hd⟩ := hd
    refine L_aaload (ak := 32) (q := (ix a1)) f_54_26 (obL (by decide)) (by decide) (inb_nI g3) (inb_lt g3) (Nat.le_of_ble_eq_true rfl) (scAr (inb_lt g3)) (rfA (inb_lt g3)) ?_
    refine s_astore_n f_54_27 (by decide) ?_
    refine s_iload_n f_54_28 rfl ?_
    by_cases c4 : a2 = 0
    · replace hd := ite_p c4 hd
      refine s_tabJ (off := 55) (0 : Int32) 84 c4 f_54_29 (by decide) (by decide) (by decide) (by decide) ?_
      refine s_aload_n f_54_84 rfl ?_
      refine C_getI f_54_85 fd_0_210 (ocA g3) (sck0 (k := X.2) (ocA g3).1 (by decide)) ?_
      refine s_ireturn f_54_88 rfl rfl ?_
      cases hd
      exact hQ
    replace hd := ite_n c4 hd
    by_cases c5 : a2 = 1
    · replace hd := ite_p c5 hd
      refine s_tabJ (off := 60) (1 : Int32) 89 c5 f_54_29 (by decide) (by decide) (by decide) (by decide) ?_
      refine s_aload_n f_54_89 rfl ?_
      refine C_getI f_54_90 fd_0_227 (ocA g3) (sck0 (k := X.2) (ocA g3).1 (by decide)) ?_
      refine s_ireturn f_54_93 rfl rfl ?_
      cases hd
      exact hQ
    replace hd := ite_n c5 hd
    by_cases c6 : a2 = 2
    · replace hd := ite_p c6 hd
      refine s_tabJ (off := 65) (2 : Int32) 94 c6 f_54_29 (by decide) (by decide) (by decide) (by decide) ?_
      refine s_aload_n f_54_94 rfl ?_
      refine C_getI f_54_95 fd_0_237 (ocA g3) (sck0 (k := X.2) (ocA g3).1 (by decide)) ?_
      refine s_ireturn f_54_98 rfl rfl ?_
      cases hd
      exact hQ
    replace hd := ite_n c6 hd
    by_cases c7 : a2 = 3
    · replace hd := ite_p c7 hd
      refine s_tabJ (off := 70) (3 : Int32) 99 c7 f_54_29 (by decide) (by decide) (by decide) (by decide) ?_
      refine s_aload_n f_54_99 rfl ?_
      refine C_getI f_54_100 fd_0_240 (ocA g3) (sck0 (k := X.2) (ocA g3).1 (by decide)) ?_
      refine s_ireturn f_54_103 rfl rfl ?_
      cases hd
      exact hQ
    replace hd := ite_n c7 hd
    by_cases c8 : a2 = 4
    · replace hd := ite_p c8 hd
      refine s_tabJ (off := 75) (4 : Int32) 104 c8 f_54_29 (by decide) (by decide) (by decide) (by decide) ?_
      refine s_aload_n f_54_104 rfl ?_
      refine C_getI f_54_105 fd_0_243 (ocA g3) (sck0 (k := X.2) (ocA g3).1 (by decide)) ?_
      refine s_ireturn f_54_108 rfl rfl ?_
      cases hd
      exact hQ
    replace hd := ite_n c8 hd
    by_cases c9 : a2 = 5
    · replace hd := ite_p c9 hd
      refine s_tabJ (off := 80) (5 : Int32) 109 c9 f_54_29 (by decide) (by decide) (by decide) (by decide) ?_
      refine s_aload_n f_54_109 rfl ?_
      refine C_getI f_54_110 fd_0_246 (ocA g3) (sck0 (k := X.2) (ocA g3).1 (by decide)) ?_
      refine s_ireturn f_54_113 rfl rfl ?_
      cases hd
      exact hQ
    replace hd := ite_n c9 hd
    by_cases c10 : a2 = 6
    · replace hd := ite_p c10 hd
      refine s_tabJ (off := 85) (6 : Int32) 114 c10 f_54_29 (by decide) (by decide) (by decide) (by decide) ?_
      refine s_aload_n f_54_114 rfl ?_
      refine C_getI f_54_115 fd_0_249 (ocA g3) (sck0 (k := X.2) (ocA g3).1 (by decide)) ?_
      refine s_ireturn f_54_118 rfl rfl ?_
      cases hd
      exact hQ
    replace hd := ite_n c10 hd
    by_cases c11 : a2 = 7
    · replace hd := ite_p c11 hd
      refine s_tabJ (off := 90) (7 : Int32) 119 c11 f_54_29 (by decide) (by decide) (by decide) (by decide) ?_
      refine s_aload_n f_54_119 rfl ?_
      refine C_getI f_54_120 fd_0_252 (ocA g3) (sck0 (k := X.2) (ocA g3).1 (by decide)) ?_
      refine s_ireturn f_54_123 rfl rfl ?_
      cases hd
      exact hQ
    replace hd := ite_n c11 hd
    by_cases c12 : a2 = 8
    · replace hd := ite_p c12 hd
      refine s_tabJ (off := 95) (8 : Int32) 124 c12 f_54_29 (by decide) (by decide) (by decide) (by decide) ?_
      refine s_aload_n f_54_124 rfl ?_
      refine C_getI f_54_125 fd_0_217 (ocA g3) (sck0 (k := X.2) (ocA g3).1 (by decide)) ?_
      refine s_ireturn f_54_128 rfl rfl ?_
      cases hd
      exact hQ
    replace hd := ite_n c12 hd
    by_cases c13 : a2 = 9
    · replace hd := ite_p c13 hd
      refine s_tabJ (off := 100) (9 : Int32) 129 c13 f_54_29 (by decide) (by decide) (by decide) (by decide) ?_
      refine s_aload_n f_54_129 rfl ?_
      refine C_getI f_54_130 fd_0_220 (ocA g3) (sck0 (k := X.2) (ocA g3).1 (by decide)) ?_
      refine s_ireturn f_54_133 rfl rfl ?_
      cases hd
      exact hQ
    replace hd := ite_n c13 hd
    refine s_tableOut 134 f_54_29 (sw_out (lo := 0) (n := 9) (by decide) (by decide) (fun j hj e => by
    have : j = 0 ∨ j = 1 ∨ j = 2 ∨ j = 3 ∨ j = 4 ∨ j = 5 ∨ j = 6 ∨ j = 7 ∨ j = 8 ∨ j = 9 := by omega
    rcases this with rfl | rfl | rfl | rfl | rfl | rfl | rfl | rfl | rfl | rfl
    · exact c4 (e.trans (by decide))
    · exact c5 (e.trans (by decide))
    · exact c6 (e.trans (by decide))
    · exact c7 (e.trans (by decide))
    · exact c8 (e.trans (by decide))
    · exact c9 (e.trans (by decide))
    · exact c10 (e.trans (by decide))
    · exact c11 (e.trans (by decide))
    · exact c12 (e.trans (by decide))
    · exact c13 (e.trans (by decide)))) (by decide) ?_
    refine s_aload_n f_54_134 rfl ?_
    refine s_ldc f_54_135 ko_0_83 ?_
    replace hd := obind hd
    obtain ⟨p14, e14, hd⟩ := hd
    refine L_virt (As := [.int (-100001 : Int32)]) f_54_137 ca_0_84 rfl rfl (obL (by decide)) (by decide) (Nat.le_of_ble_eq_true rfl) ?_
    refine t_cD_found e14 ?_
    refine s_ireturn f_54_140 rfl rfl ?_
    cases hd
    exact hQ
  · replace hd := ite_n c2 hd
    refine s_aload_n f_54_11 rfl ?_
    refine s_ldc f_54_12 ko_0_83 ?_
    replace hd := obind hd
    obtain ⟨p15, e15, hd⟩ := hd
    refine L_virt (As := [.int (-100001 : Int32)]) f_54_14 ca_0_84 rfl rfl (obL (by decide)) (by decide) (Nat.le_of_ble_eq_true rfl) ?_
    refine t_cD_found e15 ?_
    refine s_ireturn f_54_17 rfl rfl ?_
    cases hd
    exact hQ

def cD_isBench (a0 : Int32) : Option (Bool) :=
  (cD_within a0 (0 : Int32) (1 : Int32)).bind fun p1 =>
  some p1
theorem t_cD_isBench {l : Launch} {G : aG} {d : Nat} {Q : Option Value → aHeap → Prop} {sl : Nat} {sx : Nat → Int32} {S : SS} {K : KS} {T : TS} {X : XS} {M : SS} {a0 : Int32} {p : Bool} (hd : cD_isBench a0 = some p) (hQ : Q (some (.int (b2i p))) (LH (old0 sl sx) S K T X M)) : aCall l G (d + 1) 0 0 56 [.int a0] (LH (old0 sl sx) S K T X M) Q := by
  refine aCall.of (by decide) (Nat.le_of_ble_eq_true rfl) ?_
  refine aAt.sub [(0, .int a0)] rfl ?_
  unfold cD_isBench at hd
  refine s_iload_n f_56_0 rfl ?_
  refine k_iconst (v := 0) f_56_1 (by decide) ?_
  refine k_iconst (v := 1) f_56_2 (by decide) ?_
  replace hd := obind hd
  obtain ⟨p1, e1, hd⟩ := hd
  refine L_stat (As := [.int a0, .int (0 : Int32), .int (1 : Int32)]) f_56_3 ca_0_75 rfl rfl (Nat.le_of_ble_eq_true rfl) ?_
  refine t_cD_within e1 ?_
  refine s_iretB (b := p1) f_56_6 rfl ?_
  cases hd
  exact hQ

def cD_shift_J17 (S : SS) : Option (Int32 × SS) :=
  (cD_found S (-100001 : Int32)).bind fun p3 =>
  some (p3.1, p3.2)
theorem t_cD_shift_J17 {l : Launch} {G : aG} {d : Nat} {Q : Option Value → aHeap → Prop} {sl : Nat} {sx : Nat → Int32} {K : KS} {T : TS} {X : XS} {M : SS} : ∀ (S : SS) (p : Int32 × SS), cD_shift_J17 S = some p → Q (some (.int p.1)) (LH (old0 sl sx) p.2 K T X M) → aAt l G (d + 2) 0 0 55 17 [(0, .ref 8)] [] 0 0 (LH (old0 sl sx) S K T X M) Q := by
  intro S p hd hQ
  unfold cD_shift_J17 at hd
  refine s_aload_n f_55_17 rfl ?_
  refine s_ldc f_55_18 ko_0_83 ?_
  replace hd := obind hd
  obtain ⟨p3, e3, hd⟩ := hd
  refine L_virt (As := [.int (-100001 : Int32)]) f_55_20 ca_0_84 rfl rfl (obL (by decide)) (by decide) (Nat.le_of_ble_eq_true rfl) ?_
  refine t_cD_found e3 ?_
  refine s_ireturn f_55_23 rfl rfl ?_
  cases hd
  exact hQ
def cD_shift (S : SS) (a1 : Int32) (a2 : Int32) : Option (Int32 × SS) :=
  (cD_isBench a1).bind fun p1 =>
  if p1 = true then
    (cD_within a2 (0 : Int32) (49 : Int32)).bind fun p4 =>
    if p4 = true then
      if inb a1 2 then
        some ((S 15 (ix a1)), (up S 15 (ix a1) a2))
      else none
    else
      cD_shift_J17 S
  else
    cD_shift_J17 S
theorem t_cD_shift {l : Launch} {G : aG} {d : Nat} {Q : Option Value → aHeap → Prop} {sl : Nat} {sx : Nat → Int32} {S : SS} {K : KS} {T : TS} {X : XS} {M : SS} {a1 : Int32} {a2 : Int32} {p : Int32 × SS} (hd : cD_shift S a1 a2 = some p) (hQ : Q (some (.int p.1)) (LH (old0 sl sx) p.2 K T X M)) : aCall l G (d + 2) 0 0 55 [.ref 8, .int a1, .int a2] (LH (old0 sl sx) S K T X M) Q := by
  refine aCall.of (by decide) (Nat.le_of_ble_eq_true rfl) ?_
  refine aAt.sub [(0, .ref 8), (1, .int a1), (2, .int a2)] rfl ?_
  unfold cD_shift at hd
  refine s_iload_n f_55_0 rfl ?_
  replace hd := obind hd
  obtain ⟨p1, e1, hd⟩ := hd
  refine L_stat (As := [.int a1]) f_55_1 ca_0_255 rfl rfl (Nat.le_of_ble_eq_true rfl) ?_
  refine t_cD_isBench e1 ?_
  refine z_if_eq 17 f_55_4 (by decide) (fun c2 => ?_) (fun c2 => ?_)
  · replace hd := ite_n c2 hd
    refine aAt.sub [(0, .ref 8)] rfl ?_
    exact t_cD_shift_J17 _  _ hd hQ
  · replace hd := ite_p c2 hd
    refine s_iload_n f_55_7 rfl ?_
    refine k_iconst (v := 0) f_55_8 (by decide) ?_
    refine k_bipush (v := 49) f_55_9 (by decide) ?_
    replace hd := obind hd
    obtain ⟨p4, e4, hd⟩ := hd
    refine L_stat (As := [.int a2, .int (0 : Int32), .int (49 : Int32)]) f_55_11 ca_0_75 rfl rfl (Nat.le_of_ble_eq_true rfl) ?_
    refine t_cD_within e4 ?_
    refine z_if_ne 24 f_55_14 (by decide) (fun c5 => ?_) (fun c5 => ?_)
    · replace hd := ite_p c5 hd
      refine s_aload_n f_55_24 rfl ?_
      refine L_getR f_55_25 fd_0_10 (obL (by decide)) (by decide) (by decide : rf 8 0 = 9) ?_
      refine L_getR f_55_28 fd_0_258 (obL (by decide)) (by decide) (by decide : rf 9 5 = 15) ?_
      refine s_iload_n f_55_31 rfl ?_
      replace hd := gd hd
      obtain ⟨g6, hd⟩ := hd
      refine C_iaload (n := 2) (q := (ix a1)) f_55_32 (ocl (by decide)) (rfl : ln X.1 15 = 2) (Nat.le_of_ble_eq_true rfl) rfl g6 ?_
      refine s_istore_n f_55_33 (by decide) ?_
      refine s_aload_n f_55_34 rfl ?_
      refine L_getR f_55_35 fd_0_10 (obL (by decide)) (by decide) (by decide : rf 8 0 = 9) ?_
      refine L_getR f_55_38 fd_0_258 (obL (by decide)) (by decide) (by decide : rf 9 5 = 15) ?_
      refine s_iload_n f_55_41 rfl ?_
      refine s_iload_n f_55_42 rfl ?_
      refine C_iastore (n := 2) (q := (ix a1)) f_55_43 (ocl (by decide)) (rfl : ln X.1 15 = 2) (Nat.le_of_ble_eq_true rfl) rfl g6 ?_
      refine s_iload_n f_55_44 rfl ?_
      refine s_ireturn f_55_45 rfl rfl ?_
      cases hd
      exact hQ
    · replace hd := ite_n c5 hd
      refine aAt.sub [(0, .ref 8)] rfl ?_
      exact t_cD_shift_J17 _  _ hd hQ

def cD_isYear (a0 : Int32) : Option (Bool) :=
  (cD_within a0 (0 : Int32) (400 : Int32)).bind fun p1 =>
  some p1
theorem t_cD_isYear {l : Launch} {G : aG} {d : Nat} {Q : Option Value → aHeap → Prop} {sl : Nat} {sx : Nat → Int32} {S : SS} {K : KS} {T : TS} {X : XS} {M : SS} {a0 : Int32} {p : Bool} (hd : cD_isYear a0 = some p) (hQ : Q (some (.int (b2i p))) (LH (old0 sl sx) S K T X M)) : aCall l G (d + 1) 0 0 58 [.int a0] (LH (old0 sl sx) S K T X M) Q := by
  refine aCall.of (by decide) (Nat.le_of_ble_eq_true rfl) ?_
  refine aAt.sub [(0, .int a0)] rfl ?_
  unfold cD_isYear at hd
  refine s_iload_n f_58_0 rfl ?_
  refine k_iconst (v := 0) f_58_1 (by decide) ?_
  refine k_sipush (v := 400) f_58_2 (by decide) ?_
  replace hd := obind hd
  obtain ⟨p1, e1, hd⟩ := hd
  refine L_stat (As := [.int a0, .int (0 : Int32), .int (400 : Int32)]) f_58_5 ca_0_75 rfl rfl (Nat.le_of_ble_eq_true rfl) ?_
  refine t_cD_within e1 ?_
  refine s_iretB (b := p1) f_58_8 rfl ?_
  cases hd
  exact hQ

def cLand_countBy (S : SS) (a1 : Int32) (a2 : Int32) : Option (Int32) :=
  if inb a1 2 then
    some ((a2 + (S 15 (ix a1))) - (a2 + (S 15 (ix a1))) / (50 : Int32) * (50 : Int32))
  else none
theorem t_cLand_countBy {l : Launch} {G : aG} {d : Nat} {Q : Option Value → aHeap → Prop} {sl : Nat} {sx : Nat → Int32} {S : SS} {K : KS} {T : TS} {X : XS} {M : SS} {a1 : Int32} {a2 : Int32} {p : Int32} (hd : cLand_countBy S a1 a2 = some p) (hQ : Q (some (.int p)) (LH (old0 sl sx) S K T X M)) : aCall l G d 0 0 60 [.ref 9, .int a1, .int a2] (LH (old0 sl sx) S K T X M) Q := by
  refine aCall.of (by decide) (Nat.le_of_ble_eq_true rfl) ?_
  refine aAt.sub [(0, .ref 9), (1, .int a1), (2, .int a2)] rfl ?_
  unfold cLand_countBy at hd
  refine s_iload_n f_60_0 rfl ?_
  refine s_aload_n f_60_1 rfl ?_
  refine L_getR f_60_2 fd_3_41 (obL (by decide)) (by decide) (by decide : rf 9 5 = 15) ?_
  refine s_iload_n f_60_5 rfl ?_
  replace hd := gd hd
  obtain ⟨g1, hd⟩ := hd
  refine C_iaload (n := 2) (q := (ix a1)) f_60_6 (ocl (by decide)) (rfl : ln X.1 15 = 2) (Nat.le_of_ble_eq_true rfl) rfl g1 ?_
  refine s_iadd f_60_7 ?_
  refine k_bipush (v := 50) f_60_8 (by decide) ?_
  refine s_irem f_60_10 (by decide) ?_
  refine s_ireturn f_60_11 rfl rfl ?_
  cases hd
  exact hQ

def cLand_leftBy (S : SS) (a1 : Int32) (a2 : Int32) : Option (Int32) :=
  (cLand_countBy S a1 a2).bind fun p1 =>
  some ((50 : Int32) - p1)
theorem t_cLand_leftBy {l : Launch} {G : aG} {d : Nat} {Q : Option Value → aHeap → Prop} {sl : Nat} {sx : Nat → Int32} {S : SS} {K : KS} {T : TS} {X : XS} {M : SS} {a1 : Int32} {a2 : Int32} {p : Int32} (hd : cLand_leftBy S a1 a2 = some p) (hQ : Q (some (.int p)) (LH (old0 sl sx) S K T X M)) : aCall l G (d + 1) 0 0 59 [.ref 9, .int a1, .int a2] (LH (old0 sl sx) S K T X M) Q := by
  refine aCall.of (by decide) (Nat.le_of_ble_eq_true rfl) ?_
  refine aAt.sub [(0, .ref 9), (1, .int a1), (2, .int a2)] rfl ?_
  unfold cLand_leftBy at hd
  refine k_bipush (v := 50) f_59_0 (by decide) ?_
  refine s_aload_n f_59_2 rfl ?_
  refine s_iload_n f_59_3 rfl ?_
  refine s_iload_n f_59_4 rfl ?_
  replace hd := obind hd
  obtain ⟨p1, e1, hd⟩ := hd
  refine L_virt (As := [.int a1, .int a2]) f_59_5 ca_3_185 rfl rfl (obL (by decide)) (by decide) (Nat.le_of_ble_eq_true rfl) ?_
  refine t_cLand_countBy e1 ?_
  refine s_isub f_59_8 ?_
  refine s_ireturn f_59_9 rfl rfl ?_
  cases hd
  exact hQ

def cD_left_J26 (S : SS) : Option (Int32 × SS) :=
  (cD_found S (-100001 : Int32)).bind fun p3 =>
  some (p3.1, p3.2)
theorem t_cD_left_J26 {l : Launch} {G : aG} {d : Nat} {Q : Option Value → aHeap → Prop} {sl : Nat} {sx : Nat → Int32} {K : KS} {T : TS} {X : XS} {M : SS} : ∀ (S : SS) (p : Int32 × SS), cD_left_J26 S = some p → Q (some (.int p.1)) (LH (old0 sl sx) p.2 K T X M) → aAt l G (d + 2) 0 0 57 26 [(0, .ref 8)] [] 0 0 (LH (old0 sl sx) S K T X M) Q := by
  intro S p hd hQ
  unfold cD_left_J26 at hd
  refine s_aload_n f_57_26 rfl ?_
  refine s_ldc f_57_27 ko_0_83 ?_
  replace hd := obind hd
  obtain ⟨p3, e3, hd⟩ := hd
  refine L_virt (As := [.int (-100001 : Int32)]) f_57_29 ca_0_84 rfl rfl (obL (by decide)) (by decide) (Nat.le_of_ble_eq_true rfl) ?_
  refine t_cD_found e3 ?_
  refine s_ireturn f_57_32 rfl rfl ?_
  cases hd
  exact hQ
def cD_left (S : SS) (a1 : Int32) (a2 : Int32) : Option (Int32 × SS) :=
  (cD_isBench a1).bind fun p1 =>
  if p1 = true then
    (cD_isYear a2).bind fun p4 =>
    if p4 = true then
      (cLand_leftBy S a1 a2).bind fun p6 =>
      some (p6, S)
    else
      cD_left_J26 S
  else
    cD_left_J26 S
theorem t_cD_left {l : Launch} {G : aG} {d : Nat} {Q : Option Value → aHeap → Prop} {sl : Nat} {sx : Nat → Int32} {S : SS} {K : KS} {T : TS} {X : XS} {M : SS} {a1 : Int32} {a2 : Int32} {p : Int32 × SS} (hd : cD_left S a1 a2 = some p) (hQ : Q (some (.int p.1)) (LH (old0 sl sx) p.2 K T X M)) : aCall l G (d + 2) 0 0 57 [.ref 8, .int a1, .int a2] (LH (old0 sl sx) S K T X M) Q := by
  refine aCall.of (by decide) (Nat.le_of_ble_eq_true rfl) ?_
  refine aAt.sub [(0, .ref 8), (1, .int a1), (2, .int a2)] rfl ?_
  unfold cD_left at hd
  refine s_iload_n f_57_0 rfl ?_
  replace hd := obind hd
  obtain ⟨p1, e1, hd⟩ := hd
  refine L_stat (As := [.int a1]) f_57_1 ca_0_255 rfl rfl (Nat.le_of_ble_eq_true rfl) ?_
  refine t_cD_isBench e1 ?_
  refine z_if_eq 26 f_57_4 (by decide) (fun c2 => ?_) (fun c2 => ?_)
  · replace hd := ite_n c2 hd
    refine aAt.sub [(0, .ref 8)] rfl ?_
    exact t_cD_left_J26 _  _ hd hQ
  · replace hd := ite_p c2 hd
    refine s_iload_n f_57_7 rfl ?_
    replace hd := obind hd
    obtain ⟨p4, e4, hd⟩ := hd
    refine L_stat (As := [.int a2]) f_57_8 ca_0_262 rfl rfl (Nat.le_of_ble_eq_true rfl) ?_
    refine t_cD_isYear e4 ?_
    refine z_if_eq 26 f_57_11 (by decide) (fun c5 => ?_) (fun c5 => ?_)
    · replace hd := ite_n c5 hd
      refine aAt.sub [(0, .ref 8)] rfl ?_
      exact t_cD_left_J26 _  _ hd hQ
    · replace hd := ite_p c5 hd
      refine s_aload_n f_57_14 rfl ?_
      refine L_getR f_57_15 fd_0_10 (obL (by decide)) (by decide) (by decide : rf 8 0 = 9) ?_
      refine s_iload_n f_57_18 rfl ?_
      refine s_iload_n f_57_19 rfl ?_
      replace hd := obind hd
      obtain ⟨p6, e6, hd⟩ := hd
      refine L_virt (As := [.int a1, .int a2]) f_57_20 ca_0_265 rfl rfl (obL (by decide)) (by decide) (Nat.le_of_ble_eq_true rfl) ?_
      refine t_cLand_leftBy e6 ?_
      refine s_goto 32 f_57_23 (by decide) ?_
      refine s_ireturn f_57_32 rfl rfl ?_
      cases hd
      exact hQ

def cScribe_takes_L17 : Nat → SS → Int32 → Int64 → Int32 → Option (Bool × SS)
  | 0, _, _, _, _ => none
  | n + 1, S, a1, a2, a4 =>
    if a1 ≤ a4 then
      some (true, (up S 137 1 ((S 137 1) + a1)))
    else
      if inb ((S 137 1) + a4) 200 then
        cScribe_takes_L17  n (up S 138 (ix ((S 137 1) + a4)) ((((a2.toUInt64 >>> (((8 : Int32) * a4).toInt64.toUInt64 &&& Int64.toUInt64 63)).toInt64).toInt32) &&& (255 : Int32))) a1 a2 (a4 + 1)
      else none
theorem t_cScribe_takes_L17 {l : Launch} {G : aG} {d : Nat} {Q : Option Value → aHeap → Prop} {sl : Nat} {sx : Nat → Int32} {K : KS} {T : TS} {X : XS} {M : SS} : ∀ (n : Nat), ∀ (S : SS) (a1 : Int32) (a2 : Int64) (a4 : Int32) (p : Bool × SS), cScribe_takes_L17 n S a1 a2 a4 = some p → Q (some (.int (b2i p.1))) (LH (old0 sl sx) p.2 K T X M) → aAt l G d 0 0 62 17 [(0, .ref 137), (1, .int a1), (2, .long a2), (4, .int a4)] [] 0 0 (LH (old0 sl sx) S K T X M) Q := by
  intro n
  induction n with
  | zero =>
    intro S a1 a2 a4 p hd hQ
    rw [cScribe_takes_L17] at hd
    cases hd
  | succ n ih =>
    intro S a1 a2 a4 p hd hQ
    rw [cScribe_takes_L17] at hd
    refine s_iload f_62_17 rfl ?_
    refine s_iload_n f_62_19 rfl ?_
    refine s_icmp_ge 53 f_62_20 (by decide) (fun c2 => ?_) (fun c2 => ?_)
    · replace hd := ite_p c2 hd
      refine s_aload_n f_62_53 rfl ?_
      refine s_dup f_62_54 rfl ?_
      refine C_getI f_62_55 fd_7_15 (ocl (by decide)) (by decide) ?_
      refine s_iload_n f_62_58 rfl ?_
      refine s_iadd f_62_59 ?_
      refine C_putI f_62_60 fd_7_15 (ocl (by decide)) (by decide) (Or.inl rfl) (by decide) ?_
      refine k_iconst (v := 1) f_62_63 (by decide) ?_
      refine s_iretB (b := true) f_62_64 rfl ?_
      cases hd
      exact hQ
    · replace hd := ite_n c2 hd
      refine s_aload_n f_62_23 rfl ?_
      refine L_getR f_62_24 fd_7_11 (obL (by decide)) (by decide) (by decide : rf 137 0 = 138) ?_
      refine s_aload_n f_62_27 rfl ?_
      refine C_getI f_62_28 fd_7_15 (ocl (by decide)) (by decide) ?_
      refine s_iload f_62_31 rfl ?_
      refine s_iadd f_62_33 ?_
      refine s_lload_n f_62_34 rfl ?_
      refine k_bipush (v := 8) f_62_35 (by decide) ?_
      refine s_iload f_62_37 rfl ?_
      refine s_imul f_62_39 ?_
      refine s_lushr f_62_40 ?_
      refine s_l2i f_62_41 ?_
      refine k_sipush (v := 255) f_62_42 (by decide) ?_
      refine s_iand f_62_45 ?_
      replace hd := gd hd
      obtain ⟨g3, hd⟩ := hd
      refine C_iastore (n := 200) (q := (ix ((S 137 1) + a4))) f_62_46 (ocl (by decide)) (rfl : ln X.1 138 = 200) (Nat.le_of_ble_eq_true rfl) rfl g3 ?_
      refine k_iinc (w := 1) f_62_47 rfl (by decide) (by decide) ?_
      refine s_goto 17 f_62_50 (by decide) ?_
      refine aAt.sub [(0, .ref 137), (1, .int a1), (2, .long a2), (4, .int (a4 + 1))] rfl ?_
      exact ih _ _ _ _  _ hd hQ
def cScribe_takes (S : SS) (a1 : Int32) (a2 : Int64) : Option (Bool × SS) :=
  if ((S 137 1) + a1) ≤ (200 : Int32) then
    cScribe_takes_L17 FU S a1 a2 (0 : Int32)
  else
    some (false, S)
theorem t_cScribe_takes {l : Launch} {G : aG} {d : Nat} {Q : Option Value → aHeap → Prop} {sl : Nat} {sx : Nat → Int32} {S : SS} {K : KS} {T : TS} {X : XS} {M : SS} {a1 : Int32} {a2 : Int64} {p : Bool × SS} (hd : cScribe_takes S a1 a2 = some p) (hQ : Q (some (.int (b2i p.1))) (LH (old0 sl sx) p.2 K T X M)) : aCall l G d 0 0 62 [.ref 137, .int a1, .long a2] (LH (old0 sl sx) S K T X M) Q := by
  refine aCall.of (by decide) (Nat.le_of_ble_eq_true rfl) ?_
  refine aAt.sub [(0, .ref 137), (1, .int a1), (2, .long a2)] rfl ?_
  unfold cScribe_takes at hd
  refine s_aload_n f_62_0 rfl ?_
  refine C_getI f_62_1 fd_7_15 (ocl (by decide)) (by decide) ?_
  refine s_iload_n f_62_4 rfl ?_
  refine s_iadd f_62_5 ?_
  refine k_sipush (v := 200) f_62_6 (by decide) ?_
  refine s_icmp_le 14 f_62_9 (by decide) (fun c1 => ?_) (fun c1 => ?_)
  · replace hd := ite_p c1 hd
    refine k_iconst (v := 0) f_62_14 (by decide) ?_
    refine s_istore f_62_15 (by decide) ?_
    refine aAt.sub [(0, .ref 137), (1, .int a1), (2, .long a2), (4, .int (0 : Int32))] rfl ?_
    exact t_cScribe_takes_L17 FU _ _ _ _  _ hd hQ
  · replace hd := ite_n c1 hd
    refine k_iconst (v := 0) f_62_12 (by decide) ?_
    refine s_iretB (b := false) f_62_13 rfl ?_
    cases hd
    exact hQ

def cD_feed (S : SS) (a1 : Int32) (a2 : Int64) : Option (Int32 × SS) :=
  (cD_within a1 (1 : Int32) (8 : Int32)).bind fun p1 =>
  if p1 = true then
    (cScribe_takes S a1 a2).bind fun p3 =>
    if p3.1 = true then
      some ((p3.2 137 1), p3.2)
    else
      (cD_found p3.2 (-100005 : Int32)).bind fun p5 =>
      some (p5.1, p5.2)
  else
    (cD_found S (-100001 : Int32)).bind fun p6 =>
    some (p6.1, p6.2)
theorem t_cD_feed {l : Launch} {G : aG} {d : Nat} {Q : Option Value → aHeap → Prop} {sl : Nat} {sx : Nat → Int32} {S : SS} {K : KS} {T : TS} {X : XS} {M : SS} {a1 : Int32} {a2 : Int64} {p : Int32 × SS} (hd : cD_feed S a1 a2 = some p) (hQ : Q (some (.int p.1)) (LH (old0 sl sx) p.2 K T X M)) : aCall l G (d + 1) 0 0 61 [.ref 8, .int a1, .long a2] (LH (old0 sl sx) S K T X M) Q := by
  refine aCall.of (by decide) (Nat.le_of_ble_eq_true rfl) ?_
  refine aAt.sub [(0, .ref 8), (1, .int a1), (2, .long a2)] rfl ?_
  unfold cD_feed at hd
  refine s_iload_n f_61_0 rfl ?_
  refine k_iconst (v := 1) f_61_1 (by decide) ?_
  refine k_bipush (v := 8) f_61_2 (by decide) ?_
  replace hd := obind hd
  obtain ⟨p1, e1, hd⟩ := hd
  refine L_stat (As := [.int a1, .int (1 : Int32), .int (8 : Int32)]) f_61_4 ca_0_75 rfl rfl (Nat.le_of_ble_eq_true rfl) ?_
  refine t_cD_within e1 ?_
  refine z_if_ne 17 f_61_7 (by decide) (fun c2 => ?_) (fun c2 => ?_)
  · replace hd := ite_p c2 hd
    refine s_aload_n f_61_17 rfl ?_
    refine L_getR f_61_18 fd_0_40 (obL (by decide)) (by decide) (by decide : rf 8 4 = 137) ?_
    refine s_iload_n f_61_21 rfl ?_
    refine s_lload_n f_61_22 rfl ?_
    replace hd := obind hd
    obtain ⟨p3, e3, hd⟩ := hd
    refine L_virt (As := [.int a1, .long a2]) f_61_23 ca_0_268 rfl rfl (obL (by decide)) (by decide) (Nat.le_of_ble_eq_true rfl) ?_
    refine t_cScribe_takes e3 ?_
    refine z_if_eq 39 f_61_26 (by decide) (fun c4 => ?_) (fun c4 => ?_)
    · replace hd := ite_n c4 hd
      refine s_aload_n f_61_39 rfl ?_
      refine s_ldc f_61_40 ko_0_91 ?_
      replace hd := obind hd
      obtain ⟨p5, e5, hd⟩ := hd
      refine L_virt (As := [.int (-100005 : Int32)]) f_61_42 ca_0_84 rfl rfl (obL (by decide)) (by decide) (Nat.le_of_ble_eq_true rfl) ?_
      refine t_cD_found e5 ?_
      refine s_ireturn f_61_45 rfl rfl ?_
      cases hd
      exact hQ
    · replace hd := ite_p c4 hd
      refine s_aload_n f_61_29 rfl ?_
      refine L_getR f_61_30 fd_0_40 (obL (by decide)) (by decide) (by decide : rf 8 4 = 137) ?_
      refine C_getI f_61_33 fd_0_272 (ocl (by decide)) (by decide) ?_
      refine s_goto 45 f_61_36 (by decide) ?_
      refine s_ireturn f_61_45 rfl rfl ?_
      cases hd
      exact hQ
  · replace hd := ite_n c2 hd
    refine s_aload_n f_61_10 rfl ?_
    refine s_ldc f_61_11 ko_0_83 ?_
    replace hd := obind hd
    obtain ⟨p6, e6, hd⟩ := hd
    refine L_virt (As := [.int (-100001 : Int32)]) f_61_13 ca_0_84 rfl rfl (obL (by decide)) (by decide) (Nat.le_of_ble_eq_true rfl) ?_
    refine t_cD_found e6 ?_
    refine s_ireturn f_61_16 rfl rfl ?_
    cases hd
    exact hQ

def cScribe_isLetter (S : SS) (a1 : Int32) : Option (Bool) :=
  if inb a1 200 then
    (cD_within (S 138 (ix a1)) (97 : Int32) (122 : Int32)).bind fun p2 =>
    some p2
  else none
theorem t_cScribe_isLetter {l : Launch} {G : aG} {d : Nat} {Q : Option Value → aHeap → Prop} {sl : Nat} {sx : Nat → Int32} {S : SS} {K : KS} {T : TS} {X : XS} {M : SS} {a1 : Int32} {p : Bool} (hd : cScribe_isLetter S a1 = some p) (hQ : Q (some (.int (b2i p))) (LH (old0 sl sx) S K T X M)) : aCall l G (d + 1) 0 0 67 [.ref 137, .int a1] (LH (old0 sl sx) S K T X M) Q := by
  refine aCall.of (by decide) (Nat.le_of_ble_eq_true rfl) ?_
  refine aAt.sub [(0, .ref 137), (1, .int a1)] rfl ?_
  unfold cScribe_isLetter at hd
  refine s_aload_n f_67_0 rfl ?_
  refine L_getR f_67_1 fd_7_11 (obL (by decide)) (by decide) (by decide : rf 137 0 = 138) ?_
  refine s_iload_n f_67_4 rfl ?_
  replace hd := gd hd
  obtain ⟨g1, hd⟩ := hd
  refine C_iaload (n := 200) (q := (ix a1)) f_67_5 (ocl (by decide)) (rfl : ln X.1 138 = 200) (Nat.le_of_ble_eq_true rfl) rfl g1 ?_
  refine k_bipush (v := 97) f_67_6 (by decide) ?_
  refine k_bipush (v := 122) f_67_8 (by decide) ?_
  replace hd := obind hd
  obtain ⟨p2, e2, hd⟩ := hd
  refine L_statN (As := [.int (S 138 (ix a1)), .int (97 : Int32), .int (122 : Int32)]) f_67_10 ca_7_97 rfl rfl (Nat.le_of_ble_eq_true rfl) ?_
  refine t_cD_within e2 ?_
  refine s_iretB (b := p2) f_67_13 rfl ?_
  cases hd
  exact hQ

def cScribe_isDigit (S : SS) (a1 : Int32) : Option (Bool) :=
  if inb a1 200 then
    (cD_within (S 138 (ix a1)) (48 : Int32) (57 : Int32)).bind fun p2 =>
    some p2
  else none
theorem t_cScribe_isDigit {l : Launch} {G : aG} {d : Nat} {Q : Option Value → aHeap → Prop} {sl : Nat} {sx : Nat → Int32} {S : SS} {K : KS} {T : TS} {X : XS} {M : SS} {a1 : Int32} {p : Bool} (hd : cScribe_isDigit S a1 = some p) (hQ : Q (some (.int (b2i p))) (LH (old0 sl sx) S K T X M)) : aCall l G (d + 1) 0 0 68 [.ref 137, .int a1] (LH (old0 sl sx) S K T X M) Q := by
  refine aCall.of (by decide) (Nat.le_of_ble_eq_true rfl) ?_
  refine aAt.sub [(0, .ref 137), (1, .int a1)] rfl ?_
  unfold cScribe_isDigit at hd
  refine s_aload_n f_68_0 rfl ?_
  refine L_getR f_68_1 fd_7_11 (obL (by decide)) (by decide) (by decide : rf 137 0 = 138) ?_
  refine s_iload_n f_68_4 rfl ?_
  replace hd := gd hd
  obtain ⟨g1, hd⟩ := hd
  refine C_iaload (n := 200) (q := (ix a1)) f_68_5 (ocl (by decide)) (rfl : ln X.1 138 = 200) (Nat.le_of_ble_eq_true rfl) rfl g1 ?_
  refine k_bipush (v := 48) f_68_6 (by decide) ?_
  refine k_bipush (v := 57) f_68_8 (by decide) ?_
  replace hd := obind hd
  obtain ⟨p2, e2, hd⟩ := hd
  refine L_statN (As := [.int (S 138 (ix a1)), .int (48 : Int32), .int (57 : Int32)]) f_68_10 ca_7_97 rfl rfl (Nat.le_of_ble_eq_true rfl) ?_
  refine t_cD_within e2 ?_
  refine s_iretB (b := p2) f_68_13 rfl ?_
  cases hd
  exact hQ

def cScribe_endOf_L42 (S : SS) : Nat → Int32 → Option (Int32)
  | 0, _ => none
  | n + 1, a2 =>
    if (S 137 1) ≤ a2 then
      some a2
    else
      (cScribe_isDigit S a2).bind fun p6 =>
      if p6 = true then
        cScribe_endOf_L42 S  n (a2 + 1)
      else
        some a2
theorem t_cScribe_endOf_L42 {l : Launch} {G : aG} {d : Nat} {Q : Option Value → aHeap → Prop} {sl : Nat} {sx : Nat → Int32} {S : SS} {K : KS} {T : TS} {X : XS} {M : SS} : ∀ (n : Nat), ∀ (a2 : Int32) (p : Int32), cScribe_endOf_L42 S n a2 = some p → Q (some (.int p)) (LH (old0 sl sx) S K T X M) → aAt l G (d + 2) 0 0 66 42 [(0, .ref 137), (2, .int a2)] [] 0 0 (LH (old0 sl sx) S K T X M) Q := by
  intro n
  induction n with
  | zero =>
    intro a2 p hd hQ
    rw [cScribe_endOf_L42] at hd
    cases hd
  | succ n ih =>
    intro a2 p hd hQ
    rw [cScribe_endOf_L42] at hd
    refine s_iload_n f_66_42 rfl ?_
    refine s_aload_n f_66_43 rfl ?_
    refine C_getI f_66_44 fd_7_15 (ocl (by decide)) (by decide) ?_
    refine s_icmp_ge 64 f_66_47 (by decide) (fun c5 => ?_) (fun c5 => ?_)
    · replace hd := ite_p c5 hd
      refine s_iload_n f_66_64 rfl ?_
      refine s_ireturn f_66_65 rfl rfl ?_
      cases hd
      exact hQ
    · replace hd := ite_n c5 hd
      refine s_aload_n f_66_50 rfl ?_
      refine s_iload_n f_66_51 rfl ?_
      replace hd := obind hd
      obtain ⟨p6, e6, hd⟩ := hd
      refine L_virt (As := [.int a2]) f_66_52 ca_7_72 rfl rfl (obL (by decide)) (by decide) (Nat.le_of_ble_eq_true rfl) ?_
      refine t_cScribe_isDigit e6 ?_
      refine z_if_eq 64 f_66_55 (by decide) (fun c7 => ?_) (fun c7 => ?_)
      · replace hd := ite_n c7 hd
        refine s_iload_n f_66_64 rfl ?_
        refine s_ireturn f_66_65 rfl rfl ?_
        cases hd
        exact hQ
      · replace hd := ite_p c7 hd
        refine k_iinc (w := 1) f_66_58 rfl (by decide) (by decide) ?_
        refine s_goto 42 f_66_61 (by decide) ?_
        refine aAt.sub [(0, .ref 137), (2, .int (a2 + 1))] rfl ?_
        exact ih _  _ hd hQ
def cScribe_endOf_L12 (S : SS) : Nat → Int32 → Option (Int32)
  | 0, _ => none
  | n + 1, a2 =>
    if (S 137 1) ≤ a2 then
      some a2
    else
      (cScribe_isLetter S a2).bind fun p9 =>
      if p9 = true then
        cScribe_endOf_L12 S  n (a2 + 1)
      else
        some a2
theorem t_cScribe_endOf_L12 {l : Launch} {G : aG} {d : Nat} {Q : Option Value → aHeap → Prop} {sl : Nat} {sx : Nat → Int32} {S : SS} {K : KS} {T : TS} {X : XS} {M : SS} : ∀ (n : Nat), ∀ (a2 : Int32) (p : Int32), cScribe_endOf_L12 S n a2 = some p → Q (some (.int p)) (LH (old0 sl sx) S K T X M) → aAt l G (d + 2) 0 0 66 12 [(0, .ref 137), (2, .int a2)] [] 0 0 (LH (old0 sl sx) S K T X M) Q := by
  intro n
  induction n with
  | zero =>
    intro a2 p hd hQ
    rw [cScribe_endOf_L12] at hd
    cases hd
  | succ n ih =>
    intro a2 p hd hQ
    rw [cScribe_endOf_L12] at hd
    refine s_iload_n f_66_12 rfl ?_
    refine s_aload_n f_66_13 rfl ?_
    refine C_getI f_66_14 fd_7_15 (ocl (by decide)) (by decide) ?_
    refine s_icmp_ge 64 f_66_17 (by decide) (fun c8 => ?_) (fun c8 => ?_)
    · replace hd := ite_p c8 hd
      refine s_iload_n f_66_64 rfl ?_
      refine s_ireturn f_66_65 rfl rfl ?_
      cases hd
      exact hQ
    · replace hd := ite_n c8 hd
      refine s_aload_n f_66_20 rfl ?_
      refine s_iload_n f_66_21 rfl ?_
      replace hd := obind hd
      obtain ⟨p9, e9, hd⟩ := hd
      refine L_virt (As := [.int a2]) f_66_22 ca_7_69 rfl rfl (obL (by decide)) (by decide) (Nat.le_of_ble_eq_true rfl) ?_
      refine t_cScribe_isLetter e9 ?_
      refine z_if_eq 64 f_66_25 (by decide) (fun c10 => ?_) (fun c10 => ?_)
      · replace hd := ite_n c10 hd
        refine s_iload_n f_66_64 rfl ?_
        refine s_ireturn f_66_65 rfl rfl ?_
        cases hd
        exact hQ
      · replace hd := ite_p c10 hd
        refine k_iinc (w := 1) f_66_28 rfl (by decide) (by decide) ?_
        refine s_goto 12 f_66_31 (by decide) ?_
        refine aAt.sub [(0, .ref 137), (2, .int (a2 + 1))] rfl ?_
        exact ih _  _ hd hQ
def cScribe_endOf (S : SS) (a1 : Int32) : Option (Int32) :=
  (cScribe_isLetter S a1).bind fun p1 =>
  if p1 = true then
    cScribe_endOf_L12 S FU (a1 + (1 : Int32))
  else
    (cScribe_isDigit S a1).bind fun p3 =>
    if p3 = true then
      cScribe_endOf_L42 S FU (a1 + (1 : Int32))
    else
      some (a1 + (1 : Int32))
theorem t_cScribe_endOf {l : Launch} {G : aG} {d : Nat} {Q : Option Value → aHeap → Prop} {sl : Nat} {sx : Nat → Int32} {S : SS} {K : KS} {T : TS} {X : XS} {M : SS} {a1 : Int32} {p : Int32} (hd : cScribe_endOf S a1 = some p) (hQ : Q (some (.int p)) (LH (old0 sl sx) S K T X M)) : aCall l G (d + 2) 0 0 66 [.ref 137, .int a1] (LH (old0 sl sx) S K T X M) Q := by
  refine aCall.of (by decide) (Nat.le_of_ble_eq_true rfl) ?_
  refine aAt.sub [(0, .ref 137), (1, .int a1)] rfl ?_
  unfold cScribe_endOf at hd
  refine s_iload_n f_66_0 rfl ?_
  refine k_iconst (v := 1) f_66_1 (by decide) ?_
  refine s_iadd f_66_2 ?_
  refine s_istore_n f_66_3 (by decide) ?_
  refine s_aload_n f_66_4 rfl ?_
  refine s_iload_n f_66_5 rfl ?_
  replace hd := obind hd
  obtain ⟨p1, e1, hd⟩ := hd
  refine L_virt (As := [.int a1]) f_66_6 ca_7_69 rfl rfl (obL (by decide)) (by decide) (Nat.le_of_ble_eq_true rfl) ?_
  refine t_cScribe_isLetter e1 ?_
  refine z_if_eq 34 f_66_9 (by decide) (fun c2 => ?_) (fun c2 => ?_)
  · replace hd := ite_n c2 hd
    refine s_aload_n f_66_34 rfl ?_
    refine s_iload_n f_66_35 rfl ?_
    replace hd := obind hd
    obtain ⟨p3, e3, hd⟩ := hd
    refine L_virt (As := [.int a1]) f_66_36 ca_7_72 rfl rfl (obL (by decide)) (by decide) (Nat.le_of_ble_eq_true rfl) ?_
    refine t_cScribe_isDigit e3 ?_
    refine z_if_eq 64 f_66_39 (by decide) (fun c4 => ?_) (fun c4 => ?_)
    · replace hd := ite_n c4 hd
      refine s_iload_n f_66_64 rfl ?_
      refine s_ireturn f_66_65 rfl rfl ?_
      cases hd
      exact hQ
    · replace hd := ite_p c4 hd
      refine aAt.sub [(0, .ref 137), (2, .int (a1 + (1 : Int32)))] rfl ?_
      exact t_cScribe_endOf_L42 FU _  _ hd hQ
  · replace hd := ite_p c2 hd
    refine aAt.sub [(0, .ref 137), (2, .int (a1 + (1 : Int32)))] rfl ?_
    exact t_cScribe_endOf_L12 FU _  _ hd hQ

def cScribe_numberOf_L15 (S : SS) : Nat → Int32 → Int32 → Int32 → Option (Int32)
  | 0, _, _, _ => none
  | n + 1, a2, a3, a4 =>
    if a2 ≤ a4 then
      some ((26 : Int32) + a3)
    else
      if inb a4 200 then
        cScribe_numberOf_L15 S  n a2 ((((10 : Int32) * a3) + (S 138 (ix a4))) - (48 : Int32)) (a4 + 1)
      else none
theorem t_cScribe_numberOf_L15 {l : Launch} {G : aG} {d : Nat} {Q : Option Value → aHeap → Prop} {sl : Nat} {sx : Nat → Int32} {S : SS} {K : KS} {T : TS} {X : XS} {M : SS} : ∀ (n : Nat), ∀ (a2 : Int32) (a3 : Int32) (a4 : Int32) (p : Int32), cScribe_numberOf_L15 S n a2 a3 a4 = some p → Q (some (.int p)) (LH (old0 sl sx) S K T X M) → aAt l G d 0 0 82 15 [(0, .ref 137), (2, .int a2), (3, .int a3), (4, .int a4)] [] 0 0 (LH (old0 sl sx) S K T X M) Q := by
  intro n
  induction n with
  | zero =>
    intro a2 a3 a4 p hd hQ
    rw [cScribe_numberOf_L15] at hd
    cases hd
  | succ n ih =>
    intro a2 a3 a4 p hd hQ
    rw [cScribe_numberOf_L15] at hd
    refine s_iload f_82_15 rfl ?_
    refine s_iload_n f_82_17 rfl ?_
    refine s_icmp_ge 43 f_82_18 (by decide) (fun c2 => ?_) (fun c2 => ?_)
    · replace hd := ite_p c2 hd
      refine k_bipush (v := 26) f_82_43 (by decide) ?_
      refine s_iload_n f_82_45 rfl ?_
      refine s_iadd f_82_46 ?_
      refine s_ireturn f_82_47 rfl rfl ?_
      cases hd
      exact hQ
    · replace hd := ite_n c2 hd
      refine k_bipush (v := 10) f_82_21 (by decide) ?_
      refine s_iload_n f_82_23 rfl ?_
      refine s_imul f_82_24 ?_
      refine s_aload_n f_82_25 rfl ?_
      refine L_getR f_82_26 fd_7_11 (obL (by decide)) (by decide) (by decide : rf 137 0 = 138) ?_
      refine s_iload f_82_29 rfl ?_
      replace hd := gd hd
      obtain ⟨g3, hd⟩ := hd
      refine C_iaload (n := 200) (q := (ix a4)) f_82_31 (ocl (by decide)) (rfl : ln X.1 138 = 200) (Nat.le_of_ble_eq_true rfl) rfl g3 ?_
      refine s_iadd f_82_32 ?_
      refine k_bipush (v := 48) f_82_33 (by decide) ?_
      refine s_isub f_82_35 ?_
      refine s_istore_n f_82_36 (by decide) ?_
      refine k_iinc (w := 1) f_82_37 rfl (by decide) (by decide) ?_
      refine s_goto 15 f_82_40 (by decide) ?_
      refine aAt.sub [(0, .ref 137), (2, .int a2), (3, .int ((((10 : Int32) * a3) + (S 138 (ix a4))) - (48 : Int32))), (4, .int (a4 + 1))] rfl ?_
      exact ih _ _ _  _ hd hQ
def cScribe_numberOf (S : SS) (a1 : Int32) (a2 : Int32) : Option (Int32) :=
  if (a2 - a1) ≤ (4 : Int32) then
    cScribe_numberOf_L15 S FU a2 (0 : Int32) a1
  else
    some (25 : Int32)
theorem t_cScribe_numberOf {l : Launch} {G : aG} {d : Nat} {Q : Option Value → aHeap → Prop} {sl : Nat} {sx : Nat → Int32} {S : SS} {K : KS} {T : TS} {X : XS} {M : SS} {a1 : Int32} {a2 : Int32} {p : Int32} (hd : cScribe_numberOf S a1 a2 = some p) (hQ : Q (some (.int p)) (LH (old0 sl sx) S K T X M)) : aCall l G d 0 0 82 [.ref 137, .int a1, .int a2] (LH (old0 sl sx) S K T X M) Q := by
  refine aCall.of (by decide) (Nat.le_of_ble_eq_true rfl) ?_
  refine aAt.sub [(0, .ref 137), (1, .int a1), (2, .int a2)] rfl ?_
  unfold cScribe_numberOf at hd
  refine s_iload_n f_82_0 rfl ?_
  refine s_iload_n f_82_1 rfl ?_
  refine s_isub f_82_2 ?_
  refine k_iconst (v := 4) f_82_3 (by decide) ?_
  refine s_icmp_le 10 f_82_4 (by decide) (fun c1 => ?_) (fun c1 => ?_)
  · replace hd := ite_p c1 hd
    refine k_iconst (v := 0) f_82_10 (by decide) ?_
    refine s_istore_n f_82_11 (by decide) ?_
    refine s_iload_n f_82_12 rfl ?_
    refine s_istore f_82_13 (by decide) ?_
    refine aAt.sub [(0, .ref 137), (2, .int a2), (3, .int (0 : Int32)), (4, .int a1)] rfl ?_
    exact t_cScribe_numberOf_L15 FU _ _ _  _ hd hQ
  · replace hd := ite_n c1 hd
    refine k_bipush (v := 25) f_82_7 (by decide) ?_
    refine s_ireturn f_82_9 rfl rfl ?_
    cases hd
    exact hQ

def cScribe_wordOf_J95 (S : SS) (k11 : Int32 → Int32 → Int32 → Int32 → Bool → Int32 → Option (Int32)) (a1 : Int32) (a2 : Int32) (a3 : Int32) (a4 : Int32) (a5 : Bool) (a6 : Int32) : Option (Int32) :=
  k11 a1 a2 a3 a4 a5 (a6 + 1)
theorem t_cScribe_wordOf_J95 {l : Launch} {G : aG} {d : Nat} {Q : Option Value → aHeap → Prop} {sl : Nat} {sx : Nat → Int32} {S : SS} {K : KS} {T : TS} {X : XS} {M : SS} {k11 : Int32 → Int32 → Int32 → Int32 → Bool → Int32 → Option (Int32)} (hk11 : ∀ (a1 : Int32) (a2 : Int32) (a3 : Int32) (a4 : Int32) (a5 : Bool) (a6 : Int32) (p : Int32), k11 a1 a2 a3 a4 a5 a6 = some p → Q (some (.int p)) (LH (old0 sl sx) S K T X M) → aAt l G (d + 8) 0 0 70 11 [(0, .ref 137), (1, .int a1), (2, .int a2), (3, .int a3), (4, .int a4), (5, .int (b2i a5)), (6, .int a6)] [] 0 0 (LH (old0 sl sx) S K T X M) Q) : ∀ (a1 : Int32) (a2 : Int32) (a3 : Int32) (a4 : Int32) (a5 : Bool) (a6 : Int32) (p : Int32), cScribe_wordOf_J95 S k11 a1 a2 a3 a4 a5 a6 = some p → Q (some (.int p)) (LH (old0 sl sx) S K T X M) → aAt l G (d + 8) 0 0 70 95 [(0, .ref 137), (1, .int a1), (2, .int a2), (3, .int a3), (4, .int a4), (5, .int (b2i a5)), (6, .int a6)] [] 0 0 (LH (old0 sl sx) S K T X M) Q := by
  intro a1 a2 a3 a4 a5 a6 p hd hQ
  unfold cScribe_wordOf_J95 at hd
  refine k_iinc (w := 1) f_70_95 rfl (by decide) (by decide) ?_
  refine s_goto 11 f_70_98 (by decide) ?_
  refine aAt.sub [(0, .ref 137), (1, .int a1), (2, .int a2), (3, .int a3), (4, .int a4), (5, .int (b2i a5)), (6, .int (a6 + 1))] rfl ?_
  exact hk11 _ _ _ _ _ _  _ hd hQ
def cScribe_wordOf_J90 (S : SS) (k11 : Int32 → Int32 → Int32 → Int32 → Bool → Int32 → Option (Int32)) (a1 : Int32) (a2 : Int32) (a3 : Int32) (a4 : Int32) (a6 : Int32) (w0 : Bool) : Option (Int32) :=
  cScribe_wordOf_J95 S k11 a1 a2 a3 (a4 + 1) w0 a6
theorem t_cScribe_wordOf_J90 {l : Launch} {G : aG} {d : Nat} {Q : Option Value → aHeap → Prop} {sl : Nat} {sx : Nat → Int32} {S : SS} {K : KS} {T : TS} {X : XS} {M : SS} {k11 : Int32 → Int32 → Int32 → Int32 → Bool → Int32 → Option (Int32)} (hk11 : ∀ (a1 : Int32) (a2 : Int32) (a3 : Int32) (a4 : Int32) (a5 : Bool) (a6 : Int32) (p : Int32), k11 a1 a2 a3 a4 a5 a6 = some p → Q (some (.int p)) (LH (old0 sl sx) S K T X M) → aAt l G (d + 8) 0 0 70 11 [(0, .ref 137), (1, .int a1), (2, .int a2), (3, .int a3), (4, .int a4), (5, .int (b2i a5)), (6, .int a6)] [] 0 0 (LH (old0 sl sx) S K T X M) Q) : ∀ (a1 : Int32) (a2 : Int32) (a3 : Int32) (a4 : Int32) (a6 : Int32) (w0 : Bool) (p : Int32), cScribe_wordOf_J90 S k11 a1 a2 a3 a4 a6 w0 = some p → Q (some (.int p)) (LH (old0 sl sx) S K T X M) → aAt l G (d + 8) 0 0 70 90 [(0, .ref 137), (1, .int a1), (2, .int a2), (3, .int a3), (4, .int a4), (6, .int a6)] [.int (b2i w0)] 0 0 (LH (old0 sl sx) S K T X M) Q := by
  intro a1 a2 a3 a4 a6 w0 p hd hQ
  unfold cScribe_wordOf_J90 at hd
  refine s_istore f_70_90 (by decide) ?_
  refine k_iinc (w := 1) f_70_92 rfl (by decide) (by decide) ?_
  refine aAt.sub [(0, .ref 137), (1, .int a1), (2, .int a2), (3, .int a3), (4, .int (a4 + 1)), (5, .int (b2i w0)), (6, .int a6)] rfl ?_
  exact t_cScribe_wordOf_J95 hk11 _ _ _ _ _ _  _ hd hQ
def cScribe_wordOf_J89 (S : SS) (k11 : Int32 → Int32 → Int32 → Int32 → Bool → Int32 → Option (Int32)) (a1 : Int32) (a2 : Int32) (a3 : Int32) (a4 : Int32) (a6 : Int32) : Option (Int32) :=
  cScribe_wordOf_J90 S k11 a1 a2 a3 a4 a6 false
theorem t_cScribe_wordOf_J89 {l : Launch} {G : aG} {d : Nat} {Q : Option Value → aHeap → Prop} {sl : Nat} {sx : Nat → Int32} {S : SS} {K : KS} {T : TS} {X : XS} {M : SS} {k11 : Int32 → Int32 → Int32 → Int32 → Bool → Int32 → Option (Int32)} (hk11 : ∀ (a1 : Int32) (a2 : Int32) (a3 : Int32) (a4 : Int32) (a5 : Bool) (a6 : Int32) (p : Int32), k11 a1 a2 a3 a4 a5 a6 = some p → Q (some (.int p)) (LH (old0 sl sx) S K T X M) → aAt l G (d + 8) 0 0 70 11 [(0, .ref 137), (1, .int a1), (2, .int a2), (3, .int a3), (4, .int a4), (5, .int (b2i a5)), (6, .int a6)] [] 0 0 (LH (old0 sl sx) S K T X M) Q) : ∀ (a1 : Int32) (a2 : Int32) (a3 : Int32) (a4 : Int32) (a6 : Int32) (p : Int32), cScribe_wordOf_J89 S k11 a1 a2 a3 a4 a6 = some p → Q (some (.int p)) (LH (old0 sl sx) S K T X M) → aAt l G (d + 8) 0 0 70 89 [(0, .ref 137), (1, .int a1), (2, .int a2), (3, .int a3), (4, .int a4), (6, .int a6)] [] 0 0 (LH (old0 sl sx) S K T X M) Q := by
  intro a1 a2 a3 a4 a6 p hd hQ
  unfold cScribe_wordOf_J89 at hd
  refine k_iconst (v := 0) f_70_89 (by decide) ?_
  refine aAt.sub [(0, .ref 137), (1, .int a1), (2, .int a2), (3, .int a3), (4, .int a4), (6, .int a6)] rfl ?_
  exact t_cScribe_wordOf_J90 hk11 _ _ _ _ _ _  _ hd hQ
def cScribe_wordOf_J50 (S : SS) (k11 : Int32 → Int32 → Int32 → Int32 → Bool → Int32 → Option (Int32)) (a1 : Int32) (a2 : Int32) (a3 : Int32) (a6 : Int32) : Option (Int32) :=
  cScribe_wordOf_J95 S k11 a1 a2 (a3 + 1) a1 true a6
theorem t_cScribe_wordOf_J50 {l : Launch} {G : aG} {d : Nat} {Q : Option Value → aHeap → Prop} {sl : Nat} {sx : Nat → Int32} {S : SS} {K : KS} {T : TS} {X : XS} {M : SS} {k11 : Int32 → Int32 → Int32 → Int32 → Bool → Int32 → Option (Int32)} (hk11 : ∀ (a1 : Int32) (a2 : Int32) (a3 : Int32) (a4 : Int32) (a5 : Bool) (a6 : Int32) (p : Int32), k11 a1 a2 a3 a4 a5 a6 = some p → Q (some (.int p)) (LH (old0 sl sx) S K T X M) → aAt l G (d + 8) 0 0 70 11 [(0, .ref 137), (1, .int a1), (2, .int a2), (3, .int a3), (4, .int a4), (5, .int (b2i a5)), (6, .int a6)] [] 0 0 (LH (old0 sl sx) S K T X M) Q) : ∀ (a1 : Int32) (a2 : Int32) (a3 : Int32) (a6 : Int32) (p : Int32), cScribe_wordOf_J50 S k11 a1 a2 a3 a6 = some p → Q (some (.int p)) (LH (old0 sl sx) S K T X M) → aAt l G (d + 8) 0 0 70 50 [(0, .ref 137), (1, .int a1), (2, .int a2), (3, .int a3), (6, .int a6)] [] 0 0 (LH (old0 sl sx) S K T X M) Q := by
  intro a1 a2 a3 a6 p hd hQ
  unfold cScribe_wordOf_J50 at hd
  refine k_iinc (w := 1) f_70_50 rfl (by decide) (by decide) ?_
  refine s_iload_n f_70_53 rfl ?_
  refine s_istore f_70_54 (by decide) ?_
  refine k_iconst (v := 1) f_70_56 (by decide) ?_
  refine s_istore f_70_57 (by decide) ?_
  refine s_goto 95 f_70_59 (by decide) ?_
  refine aAt.sub [(0, .ref 137), (1, .int a1), (2, .int a2), (3, .int (a3 + 1)), (4, .int a1), (5, .int (b2i true)), (6, .int a6)] rfl ?_
  exact t_cScribe_wordOf_J95 hk11 _ _ _ _ _ _  _ hd hQ
def cScribe_wordOf_L11 (S : SS) : Nat → Int32 → Int32 → Int32 → Int32 → Bool → Int32 → Option (Int32)
  | 0, _, _, _, _, _, _ => none
  | n + 1, a1, a2, a3, a4, a5, a6 =>
    if (86 : Int32) ≤ a6 then
      some (25 : Int32)
    else
      if inb a6 86 then
        if (wCh (ix a6)) = (32 : Int32) then
          if a5 = true then
            if a4 = a2 then
              some a3
            else
              cScribe_wordOf_J50 S (cScribe_wordOf_L11 S  n) a1 a2 a3 a6
          else
            cScribe_wordOf_J50 S (cScribe_wordOf_L11 S  n) a1 a2 a3 a6
        else
          if a5 = true then
            if a2 ≤ a4 then
              cScribe_wordOf_J89 S (cScribe_wordOf_L11 S  n) a1 a2 a3 a4 a6
            else
              if inb a4 200 then
                if (S 138 (ix a4)) = (wCh (ix a6)) then
                  cScribe_wordOf_J90 S (cScribe_wordOf_L11 S  n) a1 a2 a3 a4 a6 true
                else
                  cScribe_wordOf_J89 S (cScribe_wordOf_L11 S  n) a1 a2 a3 a4 a6
              else none
          else
            cScribe_wordOf_J89 S (cScribe_wordOf_L11 S  n) a1 a2 a3 a4 a6
      else none
theorem t_cScribe_wordOf_L11 {l : Launch} {G : aG} {d : Nat} {Q : Option Value → aHeap → Prop} {sl : Nat} {sx : Nat → Int32} {S : SS} {K : KS} {T : TS} {X : XS} {M : SS} : ∀ (n : Nat), ∀ (a1 : Int32) (a2 : Int32) (a3 : Int32) (a4 : Int32) (a5 : Bool) (a6 : Int32) (p : Int32), cScribe_wordOf_L11 S n a1 a2 a3 a4 a5 a6 = some p → Q (some (.int p)) (LH (old0 sl sx) S K T X M) → aAt l G (d + 8) 0 0 70 11 [(0, .ref 137), (1, .int a1), (2, .int a2), (3, .int a3), (4, .int a4), (5, .int (b2i a5)), (6, .int a6)] [] 0 0 (LH (old0 sl sx) S K T X M) Q := by
  intro n
  induction n with
  | zero =>
    intro a1 a2 a3 a4 a5 a6 p hd hQ
    rw [cScribe_wordOf_L11] at hd
    cases hd
  | succ n ih =>
    intro a1 a2 a3 a4 a5 a6 p hd hQ
    rw [cScribe_wordOf_L11] at hd
    refine s_iload f_70_11 rfl ?_
    refine s_ldcS3 f_70_13 rfl ?_
    refine X_len f_70_15 ca_7_90 rfl (Nat.le_of_ble_eq_true rfl) ?_
    refine s_icmp_ge 101 f_70_18 (by decide) (fun c1 => ?_) (fun c1 => ?_)
    · replace hd := ite_p c1 hd
      refine k_bipush (v := 25) f_70_101 (by decide) ?_
      refine s_ireturn f_70_103 rfl rfl ?_
      cases hd
      exact hQ
    · replace hd := ite_n c1 hd
      refine s_ldcS3 f_70_21 rfl ?_
      refine s_iload f_70_23 rfl ?_
      replace hd := gd hd
      obtain ⟨g2, hd⟩ := hd
      refine X_chr f_70_25 ca_7_93 rfl g2 (Nat.le_of_ble_eq_true rfl) ?_
      refine s_istore f_70_28 (by decide) ?_
      refine s_iload f_70_30 rfl ?_
      refine k_bipush (v := 32) f_70_32 (by decide) ?_
      refine s_icmp_ne 62 f_70_34 (by decide) (fun c3 => ?_) (fun c3 => ?_)
      · replace hd := ite_n c3 hd
        refine s_iload f_70_62 rfl ?_
        refine z_if_eq 89 f_70_64 (by decide) (fun c4 => ?_) (fun c4 => ?_)
        · replace hd := ite_n c4 hd
          refine aAt.sub [(0, .ref 137), (1, .int a1), (2, .int a2), (3, .int a3), (4, .int a4), (6, .int a6)] rfl ?_
          exact t_cScribe_wordOf_J89 ih _ _ _ _ _  _ hd hQ
        · replace hd := ite_p c4 hd
          refine s_iload f_70_67 rfl ?_
          refine s_iload_n f_70_69 rfl ?_
          refine s_icmp_ge 89 f_70_70 (by decide) (fun c5 => ?_) (fun c5 => ?_)
          · replace hd := ite_p c5 hd
            refine aAt.sub [(0, .ref 137), (1, .int a1), (2, .int a2), (3, .int a3), (4, .int a4), (6, .int a6)] rfl ?_
            exact t_cScribe_wordOf_J89 ih _ _ _ _ _  _ hd hQ
          · replace hd := ite_n c5 hd
            refine s_aload_n f_70_73 rfl ?_
            refine L_getR f_70_74 fd_7_11 (obL (by decide)) (by decide) (by decide : rf 137 0 = 138) ?_
            refine s_iload f_70_77 rfl ?_
            replace hd := gd hd
            obtain ⟨g6, hd⟩ := hd
            refine C_iaload (n := 200) (q := (ix a4)) f_70_79 (ocl (by decide)) (rfl : ln X.1 138 = 200) (Nat.le_of_ble_eq_true rfl) rfl g6 ?_
            refine s_iload f_70_80 rfl ?_
            refine s_icmp_ne 89 f_70_82 (by decide) (fun c7 => ?_) (fun c7 => ?_)
            · replace hd := ite_n c7 hd
              refine aAt.sub [(0, .ref 137), (1, .int a1), (2, .int a2), (3, .int a3), (4, .int a4), (6, .int a6)] rfl ?_
              exact t_cScribe_wordOf_J89 ih _ _ _ _ _  _ hd hQ
            · replace hd := ite_p c7 hd
              refine k_iconst (v := 1) f_70_85 (by decide) ?_
              refine s_goto 90 f_70_86 (by decide) ?_
              refine aAt.sub [(0, .ref 137), (1, .int a1), (2, .int a2), (3, .int a3), (4, .int a4), (6, .int a6)] rfl ?_
              exact t_cScribe_wordOf_J90 ih _ _ _ _ _ _  _ hd hQ
      · replace hd := ite_p c3 hd
        refine s_iload f_70_37 rfl ?_
        refine z_if_eq 50 f_70_39 (by decide) (fun c8 => ?_) (fun c8 => ?_)
        · replace hd := ite_n c8 hd
          refine aAt.sub [(0, .ref 137), (1, .int a1), (2, .int a2), (3, .int a3), (6, .int a6)] rfl ?_
          exact t_cScribe_wordOf_J50 ih _ _ _ _  _ hd hQ
        · replace hd := ite_p c8 hd
          refine s_iload f_70_42 rfl ?_
          refine s_iload_n f_70_44 rfl ?_
          refine s_icmp_ne 50 f_70_45 (by decide) (fun c9 => ?_) (fun c9 => ?_)
          · replace hd := ite_n c9 hd
            refine aAt.sub [(0, .ref 137), (1, .int a1), (2, .int a2), (3, .int a3), (6, .int a6)] rfl ?_
            exact t_cScribe_wordOf_J50 ih _ _ _ _  _ hd hQ
          · replace hd := ite_p c9 hd
            refine s_iload_n f_70_48 rfl ?_
            refine s_ireturn f_70_49 rfl rfl ?_
            cases hd
            exact hQ
def cScribe_wordOf (S : SS) (a1 : Int32) (a2 : Int32) : Option (Int32) :=
  cScribe_wordOf_L11 S FU a1 a2 (0 : Int32) a1 true (0 : Int32)
theorem t_cScribe_wordOf {l : Launch} {G : aG} {d : Nat} {Q : Option Value → aHeap → Prop} {sl : Nat} {sx : Nat → Int32} {S : SS} {K : KS} {T : TS} {X : XS} {M : SS} {a1 : Int32} {a2 : Int32} {p : Int32} (hd : cScribe_wordOf S a1 a2 = some p) (hQ : Q (some (.int p)) (LH (old0 sl sx) S K T X M)) : aCall l G (d + 8) 0 0 70 [.ref 137, .int a1, .int a2] (LH (old0 sl sx) S K T X M) Q := by
  refine aCall.of (by decide) (Nat.le_of_ble_eq_true rfl) ?_
  refine aAt.sub [(0, .ref 137), (1, .int a1), (2, .int a2)] rfl ?_
  unfold cScribe_wordOf at hd
  refine k_iconst (v := 0) f_70_0 (by decide) ?_
  refine s_istore_n f_70_1 (by decide) ?_
  refine s_iload_n f_70_2 rfl ?_
  refine s_istore f_70_3 (by decide) ?_
  refine k_iconst (v := 1) f_70_5 (by decide) ?_
  refine s_istore f_70_6 (by decide) ?_
  refine k_iconst (v := 0) f_70_8 (by decide) ?_
  refine s_istore f_70_9 (by decide) ?_
  refine aAt.sub [(0, .ref 137), (1, .int a1), (2, .int a2), (3, .int (0 : Int32)), (4, .int a1), (5, .int (b2i true)), (6, .int (0 : Int32))] rfl ?_
  exact t_cScribe_wordOf_L11 FU _ _ _ _ _ _  _ hd hQ

def cScribe_tokenOf (S : SS) (a1 : Int32) (a2 : Int32) : Option (Int32) :=
  (cScribe_isLetter S a1).bind fun p1 =>
  if p1 = true then
    (cScribe_wordOf S a1 a2).bind fun p8 =>
    some p8
  else
    (cScribe_isDigit S a1).bind fun p3 =>
    if p3 = true then
      (cScribe_numberOf S a1 a2).bind fun p7 =>
      some p7
    else
      if inb a1 200 then
        if 0 ≤ (sIx (((S 138 (ix a1)).toUInt32 % 65536).toInt32)) then
          some ((17 : Int32) + (sIx (((S 138 (ix a1)).toUInt32 % 65536).toInt32)))
        else
          some (25 : Int32)
      else none
theorem t_cScribe_tokenOf {l : Launch} {G : aG} {d : Nat} {Q : Option Value → aHeap → Prop} {sl : Nat} {sx : Nat → Int32} {S : SS} {K : KS} {T : TS} {X : XS} {M : SS} {a1 : Int32} {a2 : Int32} {p : Int32} (hd : cScribe_tokenOf S a1 a2 = some p) (hQ : Q (some (.int p)) (LH (old0 sl sx) S K T X M)) : aCall l G (d + 9) 0 0 69 [.ref 137, .int a1, .int a2] (LH (old0 sl sx) S K T X M) Q := by
  refine aCall.of (by decide) (Nat.le_of_ble_eq_true rfl) ?_
  refine aAt.sub [(0, .ref 137), (1, .int a1), (2, .int a2)] rfl ?_
  unfold cScribe_tokenOf at hd
  refine s_aload_n f_69_0 rfl ?_
  refine s_iload_n f_69_1 rfl ?_
  replace hd := obind hd
  obtain ⟨p1, e1, hd⟩ := hd
  refine L_virt (As := [.int a1]) f_69_2 ca_7_69 rfl rfl (obL (by decide)) (by decide) (Nat.le_of_ble_eq_true rfl) ?_
  refine t_cScribe_isLetter e1 ?_
  refine z_if_eq 15 f_69_5 (by decide) (fun c2 => ?_) (fun c2 => ?_)
  · replace hd := ite_n c2 hd
    refine s_aload_n f_69_15 rfl ?_
    refine s_iload_n f_69_16 rfl ?_
    replace hd := obind hd
    obtain ⟨p3, e3, hd⟩ := hd
    refine L_virt (As := [.int a1]) f_69_17 ca_7_72 rfl rfl (obL (by decide)) (by decide) (Nat.le_of_ble_eq_true rfl) ?_
    refine t_cScribe_isDigit e3 ?_
    refine z_if_eq 30 f_69_20 (by decide) (fun c4 => ?_) (fun c4 => ?_)
    · replace hd := ite_n c4 hd
      refine s_ldcS2 f_69_30 rfl ?_
      refine s_aload_n f_69_32 rfl ?_
      refine L_getR f_69_33 fd_7_11 (obL (by decide)) (by decide) (by decide : rf 137 0 = 138) ?_
      refine s_iload_n f_69_36 rfl ?_
      replace hd := gd hd
      obtain ⟨g5, hd⟩ := hd
      refine C_iaload (n := 200) (q := (ix a1)) f_69_37 (ocl (by decide)) (rfl : ln X.1 138 = 200) (Nat.le_of_ble_eq_true rfl) rfl g5 ?_
      refine s_i2c f_69_38 ?_
      refine X_ind f_69_39 ca_7_83 rfl (Nat.le_of_ble_eq_true rfl) ?_
      refine s_istore_n f_69_42 (by decide) ?_
      refine s_iload_n f_69_43 rfl ?_
      refine s_if_ge 52 f_69_44 (by decide) (fun c6 => ?_) (fun c6 => ?_)
      · replace hd := ite_p c6 hd
        refine k_bipush (v := 17) f_69_52 (by decide) ?_
        refine s_iload_n f_69_54 rfl ?_
        refine s_iadd f_69_55 ?_
        refine s_ireturn f_69_56 rfl rfl ?_
        cases hd
        exact hQ
      · replace hd := ite_n c6 hd
        refine k_bipush (v := 25) f_69_47 (by decide) ?_
        refine s_goto 56 f_69_49 (by decide) ?_
        refine s_ireturn f_69_56 rfl rfl ?_
        cases hd
        exact hQ
    · replace hd := ite_p c4 hd
      refine s_aload_n f_69_23 rfl ?_
      refine s_iload_n f_69_24 rfl ?_
      refine s_iload_n f_69_25 rfl ?_
      replace hd := obind hd
      obtain ⟨p7, e7, hd⟩ := hd
      refine L_virt (As := [.int a1, .int a2]) f_69_26 ca_7_78 rfl rfl (obL (by decide)) (by decide) (Nat.le_of_ble_eq_true rfl) ?_
      refine t_cScribe_numberOf e7 ?_
      refine s_ireturn f_69_29 rfl rfl ?_
      cases hd
      exact hQ
  · replace hd := ite_p c2 hd
    refine s_aload_n f_69_8 rfl ?_
    refine s_iload_n f_69_9 rfl ?_
    refine s_iload_n f_69_10 rfl ?_
    replace hd := obind hd
    obtain ⟨p8, e8, hd⟩ := hd
    refine L_virt (As := [.int a1, .int a2]) f_69_11 ca_7_75 rfl rfl (obL (by decide)) (by decide) (Nat.le_of_ble_eq_true rfl) ?_
    refine t_cScribe_wordOf e8 ?_
    refine s_ireturn f_69_14 rfl rfl ?_
    cases hd
    exact hQ

def cScribe_cut_J74 (k9 : SS → Int32 → Int32 → Option (SS)) (S : SS) (a1 : Int32) (a2 : Int32) : Option (SS) :=
  k9 S a1 (a2 + 1)
theorem t_cScribe_cut_J74 {l : Launch} {G : aG} {d : Nat} {Q : Option Value → aHeap → Prop} {sl : Nat} {sx : Nat → Int32} {K : KS} {T : TS} {X : XS} {M : SS} {k9 : SS → Int32 → Int32 → Option (SS)} (hk9 : ∀ (S : SS) (a1 : Int32) (a2 : Int32) (p : SS), k9 S a1 a2 = some p → Q none (LH (old0 sl sx) p K T X M) → aAt l G (d + 10) 0 0 65 9 [(0, .ref 137), (1, .int a1), (2, .int a2)] [] 0 0 (LH (old0 sl sx) S K T X M) Q) : ∀ (S : SS) (a1 : Int32) (a2 : Int32) (p : SS), cScribe_cut_J74 k9 S a1 a2 = some p → Q none (LH (old0 sl sx) p K T X M) → aAt l G (d + 10) 0 0 65 74 [(0, .ref 137), (1, .int a1), (2, .int a2)] [] 0 0 (LH (old0 sl sx) S K T X M) Q := by
  intro S a1 a2 p hd hQ
  unfold cScribe_cut_J74 at hd
  refine k_iinc (w := 1) f_65_74 rfl (by decide) (by decide) ?_
  refine s_goto 9 f_65_77 (by decide) ?_
  refine aAt.sub [(0, .ref 137), (1, .int a1), (2, .int (a2 + 1))] rfl ?_
  exact hk9 _ _ _  _ hd hQ
def cScribe_cut_L9 : Nat → SS → Int32 → Int32 → Option (SS)
  | 0, _, _, _ => none
  | n + 1, S, a1, a2 =>
    if (S 137 1) ≤ a2 then
      if inb (S 137 4) 201 then
        if inb ((up S 139 (ix (S 137 4)) (24 : Int32)) 137 4) 201 then
          some (up (up S 139 (ix (S 137 4)) (24 : Int32)) 140 (ix ((up S 139 (ix (S 137 4)) (24 : Int32)) 137 4)) ((up S 139 (ix (S 137 4)) (24 : Int32)) 137 1))
        else none
      else none
    else
      if a2 < a1 then
        cScribe_cut_J74 (cScribe_cut_L9  n) S a1 a2
      else
        if inb a2 200 then
          if (S 138 (ix a2)) = (32 : Int32) then
            cScribe_cut_J74 (cScribe_cut_L9  n) S a1 a2
          else
            (cScribe_endOf S a2).bind fun p7 =>
            (cScribe_tokenOf S a2 p7).bind fun p8 =>
            if inb (S 137 4) 201 then
              if inb ((up S 139 (ix (S 137 4)) p8) 137 4) 201 then
                cScribe_cut_J74 (cScribe_cut_L9  n) (up (up (up S 139 (ix (S 137 4)) p8) 140 (ix ((up S 139 (ix (S 137 4)) p8) 137 4)) a2) 137 4 (((up (up S 139 (ix (S 137 4)) p8) 140 (ix ((up S 139 (ix (S 137 4)) p8) 137 4)) a2) 137 4) + (1 : Int32))) p7 a2
              else none
            else none
        else none
theorem t_cScribe_cut_L9 {l : Launch} {G : aG} {d : Nat} {Q : Option Value → aHeap → Prop} {sl : Nat} {sx : Nat → Int32} {K : KS} {T : TS} {X : XS} {M : SS} : ∀ (n : Nat), ∀ (S : SS) (a1 : Int32) (a2 : Int32) (p : SS), cScribe_cut_L9 n S a1 a2 = some p → Q none (LH (old0 sl sx) p K T X M) → aAt l G (d + 10) 0 0 65 9 [(0, .ref 137), (1, .int a1), (2, .int a2)] [] 0 0 (LH (old0 sl sx) S K T X M) Q := by
  intro n
  induction n with
  | zero =>
    intro S a1 a2 p hd hQ
    rw [cScribe_cut_L9] at hd
    cases hd
  | succ n ih =>
    intro S a1 a2 p hd hQ
    rw [cScribe_cut_L9] at hd
    refine s_iload_n f_65_9 rfl ?_
    refine s_aload_n f_65_10 rfl ?_
    refine C_getI f_65_11 fd_7_15 (ocl (by decide)) (by decide) ?_
    refine s_icmp_ge 80 f_65_14 (by decide) (fun c1 => ?_) (fun c1 => ?_)
    · replace hd := ite_p c1 hd
      refine s_aload_n f_65_80 rfl ?_
      refine L_getR f_65_81 fd_7_19 (obL (by decide)) (by decide) (by decide : rf 137 2 = 139) ?_
      refine s_aload_n f_65_84 rfl ?_
      refine C_getI f_65_85 fd_7_25 (ocl (by decide)) (by decide) ?_
      refine k_bipush (v := 24) f_65_88 (by decide) ?_
      replace hd := gd hd
      obtain ⟨g2, hd⟩ := hd
      refine C_iastore (n := 201) (q := (ix (S 137 4))) f_65_90 (ocl (by decide)) (rfl : ln X.1 139 = 201) (Nat.le_of_ble_eq_true rfl) rfl g2 ?_
      refine s_aload_n f_65_91 rfl ?_
      refine L_getR f_65_92 fd_7_22 (obL (by decide)) (by decide) (by decide : rf 137 3 = 140) ?_
      refine s_aload_n f_65_95 rfl ?_
      refine C_getI f_65_96 fd_7_25 (ocl (by decide)) (by decide) ?_
      refine s_aload_n f_65_99 rfl ?_
      refine C_getI f_65_100 fd_7_15 (ocl (by decide)) (by decide) ?_
      replace hd := gd hd
      obtain ⟨g3, hd⟩ := hd
      refine C_iastore (n := 201) (q := (ix ((up S 139 (ix (S 137 4)) (24 : Int32)) 137 4))) f_65_103 (ocl (by decide)) (rfl : ln X.1 140 = 201) (Nat.le_of_ble_eq_true rfl) rfl g3 ?_
      refine s_return f_65_104 rfl ?_
      cases hd
      exact hQ
    · replace hd := ite_n c1 hd
      refine s_iload_n f_65_17 rfl ?_
      refine s_iload_n f_65_18 rfl ?_
      refine s_icmp_lt 74 f_65_19 (by decide) (fun c4 => ?_) (fun c4 => ?_)
      · replace hd := ite_p c4 hd
        refine aAt.sub [(0, .ref 137), (1, .int a1), (2, .int a2)] rfl ?_
        exact t_cScribe_cut_J74 ih _ _ _  _ hd hQ
      · replace hd := ite_n c4 hd
        refine s_aload_n f_65_22 rfl ?_
        refine L_getR f_65_23 fd_7_11 (obL (by decide)) (by decide) (by decide : rf 137 0 = 138) ?_
        refine s_iload_n f_65_26 rfl ?_
        replace hd := gd hd
        obtain ⟨g5, hd⟩ := hd
        refine C_iaload (n := 200) (q := (ix a2)) f_65_27 (ocl (by decide)) (rfl : ln X.1 138 = 200) (Nat.le_of_ble_eq_true rfl) rfl g5 ?_
        refine k_bipush (v := 32) f_65_28 (by decide) ?_
        refine s_icmp_eq 74 f_65_30 (by decide) (fun c6 => ?_) (fun c6 => ?_)
        · replace hd := ite_p c6 hd
          refine aAt.sub [(0, .ref 137), (1, .int a1), (2, .int a2)] rfl ?_
          exact t_cScribe_cut_J74 ih _ _ _  _ hd hQ
        · replace hd := ite_n c6 hd
          refine s_aload_n f_65_33 rfl ?_
          refine s_iload_n f_65_34 rfl ?_
          replace hd := obind hd
          obtain ⟨p7, e7, hd⟩ := hd
          refine L_virt (As := [.int a2]) f_65_35 ca_7_61 rfl rfl (obL (by decide)) (by decide) (Nat.le_of_ble_eq_true rfl) ?_
          refine t_cScribe_endOf e7 ?_
          refine s_istore_n f_65_38 (by decide) ?_
          refine s_aload_n f_65_39 rfl ?_
          refine L_getR f_65_40 fd_7_19 (obL (by decide)) (by decide) (by decide : rf 137 2 = 139) ?_
          refine s_aload_n f_65_43 rfl ?_
          refine C_getI f_65_44 fd_7_25 (ocl (by decide)) (by decide) ?_
          refine s_aload_n f_65_47 rfl ?_
          refine s_iload_n f_65_48 rfl ?_
          refine s_iload_n f_65_49 rfl ?_
          replace hd := obind hd
          obtain ⟨p8, e8, hd⟩ := hd
          refine L_virt (As := [.int a2, .int p7]) f_65_50 ca_7_65 rfl rfl (obL (by decide)) (by decide) (Nat.le_of_ble_eq_true rfl) ?_
          refine t_cScribe_tokenOf e8 ?_
          replace hd := gd hd
          obtain ⟨g9, hd⟩ := hd
          refine C_iastore (n := 201) (q := (ix (S 137 4))) f_65_53 (ocl (by decide)) (rfl : ln X.1 139 = 201) (Nat.le_of_ble_eq_true rfl) rfl g9 ?_
          refine s_aload_n f_65_54 rfl ?_
          refine L_getR f_65_55 fd_7_22 (obL (by decide)) (by decide) (by decide : rf 137 3 = 140) ?_
          refine s_aload_n f_65_58 rfl ?_
          refine C_getI f_65_59 fd_7_25 (ocl (by decide)) (by decide) ?_
          refine s_iload_n f_65_62 rfl ?_
          replace hd := gd hd
          obtain ⟨g10, hd⟩ := hd
          refine C_iastore (n := 201) (q := (ix ((up S 139 (ix (S 137 4)) p8) 137 4))) f_65_63 (ocl (by decide)) (rfl : ln X.1 140 = 201) (Nat.le_of_ble_eq_true rfl) rfl g10 ?_
          refine s_aload_n f_65_64 rfl ?_
          refine s_dup f_65_65 rfl ?_
          refine C_getI f_65_66 fd_7_25 (ocl (by decide)) (by decide) ?_
          refine k_iconst (v := 1) f_65_69 (by decide) ?_
          refine s_iadd f_65_70 ?_
          refine C_putI f_65_71 fd_7_25 (ocl (by decide)) (by decide) (Or.inl rfl) (by decide) ?_
          refine aAt.sub [(0, .ref 137), (1, .int p7), (2, .int a2)] rfl ?_
          exact t_cScribe_cut_J74 ih _ _ _  _ hd hQ
def cScribe_cut (S : SS) : Option (SS) :=
  cScribe_cut_L9 FU (up S 137 4 (0 : Int32)) (0 : Int32) (0 : Int32)
theorem t_cScribe_cut {l : Launch} {G : aG} {d : Nat} {Q : Option Value → aHeap → Prop} {sl : Nat} {sx : Nat → Int32} {S : SS} {K : KS} {T : TS} {X : XS} {M : SS} {p : SS} (hd : cScribe_cut S = some p) (hQ : Q none (LH (old0 sl sx) p K T X M)) : aCall l G (d + 10) 0 0 65 [.ref 137] (LH (old0 sl sx) S K T X M) Q := by
  refine aCall.of (by decide) (Nat.le_of_ble_eq_true rfl) ?_
  refine aAt.sub [(0, .ref 137)] rfl ?_
  unfold cScribe_cut at hd
  refine s_aload_n f_65_0 rfl ?_
  refine k_iconst (v := 0) f_65_1 (by decide) ?_
  refine C_putI f_65_2 fd_7_25 (ocl (by decide)) (by decide) (Or.inl rfl) (by decide) ?_
  refine k_iconst (v := 0) f_65_5 (by decide) ?_
  refine s_istore_n f_65_6 (by decide) ?_
  refine k_iconst (v := 0) f_65_7 (by decide) ?_
  refine s_istore_n f_65_8 (by decide) ?_
  refine aAt.sub [(0, .ref 137), (1, .int (0 : Int32)), (2, .int (0 : Int32))] rfl ?_
  exact t_cScribe_cut_L9 FU _ _ _  _ hd hQ

def cScribe_passes (S : SS) (a1 : Int32) : Option (Bool × SS) :=
  if inb (S 137 5) 201 then
    if (S 139 (ix (S 137 5))) = a1 then
      if (S 137 5) < (S 137 4) then
        some (true, (up S 137 5 ((S 137 5) + (1 : Int32))))
      else
        some (false, S)
    else
      some (false, S)
  else none
theorem t_cScribe_passes {l : Launch} {G : aG} {d : Nat} {Q : Option Value → aHeap → Prop} {sl : Nat} {sx : Nat → Int32} {S : SS} {K : KS} {T : TS} {X : XS} {M : SS} {a1 : Int32} {p : Bool × SS} (hd : cScribe_passes S a1 = some p) (hQ : Q (some (.int (b2i p.1))) (LH (old0 sl sx) p.2 K T X M)) : aCall l G d 0 0 98 [.ref 137, .int a1] (LH (old0 sl sx) S K T X M) Q := by
  refine aCall.of (by decide) (Nat.le_of_ble_eq_true rfl) ?_
  refine aAt.sub [(0, .ref 137), (1, .int a1)] rfl ?_
  unfold cScribe_passes at hd
  refine s_aload_n f_98_0 rfl ?_
  refine L_getR f_98_1 fd_7_19 (obL (by decide)) (by decide) (by decide : rf 137 2 = 139) ?_
  refine s_aload_n f_98_4 rfl ?_
  refine C_getI f_98_5 fd_7_28 (ocl (by decide)) (by decide) ?_
  replace hd := gd hd
  obtain ⟨g1, hd⟩ := hd
  refine C_iaload (n := 201) (q := (ix (S 137 5))) f_98_8 (ocl (by decide)) (rfl : ln X.1 139 = 201) (Nat.le_of_ble_eq_true rfl) rfl g1 ?_
  refine s_iload_n f_98_9 rfl ?_
  refine s_icmp_ne 24 f_98_10 (by decide) (fun c2 => ?_) (fun c2 => ?_)
  · replace hd := ite_n c2 hd
    refine k_iconst (v := 0) f_98_24 (by decide) ?_
    refine s_iretB (b := false) f_98_25 rfl ?_
    cases hd
    exact hQ
  · replace hd := ite_p c2 hd
    refine s_aload_n f_98_13 rfl ?_
    refine C_getI f_98_14 fd_7_28 (ocl (by decide)) (by decide) ?_
    refine s_aload_n f_98_17 rfl ?_
    refine C_getI f_98_18 fd_7_25 (ocl (by decide)) (by decide) ?_
    refine s_icmp_lt 26 f_98_21 (by decide) (fun c3 => ?_) (fun c3 => ?_)
    · replace hd := ite_p c3 hd
      refine s_aload_n f_98_26 rfl ?_
      refine s_dup f_98_27 rfl ?_
      refine C_getI f_98_28 fd_7_28 (ocl (by decide)) (by decide) ?_
      refine k_iconst (v := 1) f_98_31 (by decide) ?_
      refine s_iadd f_98_32 ?_
      refine C_putI f_98_33 fd_7_28 (ocl (by decide)) (by decide) (Or.inl rfl) (by decide) ?_
      refine k_iconst (v := 1) f_98_36 (by decide) ?_
      refine s_iretB (b := true) f_98_37 rfl ?_
      cases hd
      exact hQ
    · replace hd := ite_n c3 hd
      refine k_iconst (v := 0) f_98_24 (by decide) ?_
      refine s_iretB (b := false) f_98_25 rfl ?_
      cases hd
      exact hQ

def cScribe_write (S : SS) (a1 : Int32) : Option (SS) :=
  if (200 : Int32) ≤ (S 137 7) then
    some S
  else
    if inb (S 137 7) 200 then
      some (up (up S 141 (ix (S 137 7)) a1) 137 7 (((up S 141 (ix (S 137 7)) a1) 137 7) + (1 : Int32)))
    else none
theorem t_cScribe_write {l : Launch} {G : aG} {d : Nat} {Q : Option Value → aHeap → Prop} {sl : Nat} {sx : Nat → Int32} {S : SS} {K : KS} {T : TS} {X : XS} {M : SS} {a1 : Int32} {p : SS} (hd : cScribe_write S a1 = some p) (hQ : Q none (LH (old0 sl sx) p K T X M)) : aCall l G d 0 0 102 [.ref 137, .int a1] (LH (old0 sl sx) S K T X M) Q := by
  refine aCall.of (by decide) (Nat.le_of_ble_eq_true rfl) ?_
  refine aAt.sub [(0, .ref 137), (1, .int a1)] rfl ?_
  unfold cScribe_write at hd
  refine s_aload_n f_102_0 rfl ?_
  refine C_getI f_102_1 fd_7_34 (ocl (by decide)) (by decide) ?_
  refine k_sipush (v := 200) f_102_4 (by decide) ?_
  refine s_icmp_ge 30 f_102_7 (by decide) (fun c1 => ?_) (fun c1 => ?_)
  · replace hd := ite_p c1 hd
    refine s_return f_102_30 rfl ?_
    cases hd
    exact hQ
  · replace hd := ite_n c1 hd
    refine s_aload_n f_102_10 rfl ?_
    refine L_getR f_102_11 fd_7_31 (obL (by decide)) (by decide) (by decide : rf 137 6 = 141) ?_
    refine s_aload_n f_102_14 rfl ?_
    refine C_getI f_102_15 fd_7_34 (ocl (by decide)) (by decide) ?_
    refine s_iload_n f_102_18 rfl ?_
    replace hd := gd hd
    obtain ⟨g2, hd⟩ := hd
    refine C_iastore (n := 200) (q := (ix (S 137 7))) f_102_19 (ocl (by decide)) (rfl : ln X.1 141 = 200) (Nat.le_of_ble_eq_true rfl) rfl g2 ?_
    refine s_aload_n f_102_20 rfl ?_
    refine s_dup f_102_21 rfl ?_
    refine C_getI f_102_22 fd_7_34 (ocl (by decide)) (by decide) ?_
    refine k_iconst (v := 1) f_102_25 (by decide) ?_
    refine s_iadd f_102_26 ?_
    refine C_putI f_102_27 fd_7_34 (ocl (by decide)) (by decide) (Or.inl rfl) (by decide) ?_
    refine s_return f_102_30 rfl ?_
    cases hd
    exact hQ

def cScribe_one (fE : SS → Int32 → Option (Bool × SS)) (fN : SS → Int32 → Option (Bool × SS)) (S : SS) (a1 : Int32) : Option (Bool × SS) :=
  if inb (S 137 5) 201 then
    if (S 139 (ix (S 137 5))) < (26 : Int32) then
      if (10 : Int32) < (S 139 (ix (S 137 5))) then
        if (S 139 (ix (S 137 5))) = (17 : Int32) then
          if (4 : Int32) ≤ a1 then
            some (false, S)
          else
            (cScribe_passes S (17 : Int32)).bind fun p6 =>
            if p6.1 = true then
              (fE p6.2 (a1 + (1 : Int32))).bind fun p8 =>
              if p8.1 = true then
                (cScribe_passes p8.2 (18 : Int32)).bind fun p10 =>
                if p10.1 = true then
                  some (true, p10.2)
                else
                  some (false, p10.2)
              else
                some (false, p8.2)
            else
              some (false, p6.2)
        else
          some (false, S)
      else
        (cScribe_write S ((10000 : Int32) + (S 139 (ix (S 137 5))))).bind fun p12 =>
        (cScribe_passes p12 (S 139 (ix (S 137 5)))).bind fun p13 =>
        some (p13.1, p13.2)
    else
      (cScribe_write S ((S 139 (ix (S 137 5))) - (26 : Int32))).bind fun p14 =>
      (cScribe_passes p14 (S 139 (ix (S 137 5)))).bind fun p15 =>
      some (p15.1, p15.2)
  else none
theorem t_cScribe_one {l : Launch} {G : aG} {d : Nat} {Q : Option Value → aHeap → Prop} {sl : Nat} {sx : Nat → Int32} {S : SS} {K : KS} {T : TS} {X : XS} {M : SS} {fE : SS → Int32 → Option (Bool × SS)} {fN : SS → Int32 → Option (Bool × SS)} {a1 : Int32} (hfE : ∀ (e : Nat) (S : SS) (a1 : Int32) (p : Bool × SS) (Q : Option Value → aHeap → Prop), fE S a1 = some p → Q (some (.int (b2i p.1))) (LH (old0 sl sx) p.2 K T X M) → aCall l G (d + 2 + e) 0 0 99 [.ref 137, .int a1] (LH (old0 sl sx) S K T X M) Q) (hfN : ∀ (e : Nat) (S : SS) (a1 : Int32) (p : Bool × SS) (Q : Option Value → aHeap → Prop), fN S a1 = some p → Q (some (.int (b2i p.1))) (LH (old0 sl sx) p.2 K T X M) → aCall l G (d + 2 + e) 0 0 101 [.ref 137, .int a1] (LH (old0 sl sx) S K T X M) Q) {p : Bool × SS} (hd : cScribe_one fE fN S a1 = some p) (hQ : Q (some (.int (b2i p.1))) (LH (old0 sl sx) p.2 K T X M)) : aCall l G (d + 3) 0 0 104 [.ref 137, .int a1] (LH (old0 sl sx) S K T X M) Q := by
  refine aCall.of (by decide) (Nat.le_of_ble_eq_true rfl) ?_
  refine aAt.sub [(0, .ref 137), (1, .int a1)] rfl ?_
  unfold cScribe_one at hd
  refine s_aload_n f_104_0 rfl ?_
  refine L_getR f_104_1 fd_7_19 (obL (by decide)) (by decide) (by decide : rf 137 2 = 139) ?_
  refine s_aload_n f_104_4 rfl ?_
  refine C_getI f_104_5 fd_7_28 (ocl (by decide)) (by decide) ?_
  replace hd := gd hd
  obtain ⟨g1, hd⟩ := hd
  refine C_iaload (n := 201) (q := (ix (S 137 5))) f_104_8 (ocl (by decide)) (rfl : ln X.1 139 = 201) (Nat.le_of_ble_eq_true rfl) rfl g1 ?_
  refine s_istore_n f_104_9 (by decide) ?_
  refine s_iload_n f_104_10 rfl ?_
  refine k_bipush (v := 26) f_104_11 (by decide) ?_
  refine s_icmp_lt 30 f_104_13 (by decide) (fun c2 => ?_) (fun c2 => ?_)
  · replace hd := ite_p c2 hd
    refine s_iload_n f_104_30 rfl ?_
    refine k_bipush (v := 10) f_104_31 (by decide) ?_
    refine s_icmp_gt 51 f_104_33 (by decide) (fun c3 => ?_) (fun c3 => ?_)
    · replace hd := ite_p c3 hd
      refine s_iload_n f_104_51 rfl ?_
      refine k_bipush (v := 17) f_104_52 (by decide) ?_
      refine s_icmp_ne 94 f_104_54 (by decide) (fun c4 => ?_) (fun c4 => ?_)
      · replace hd := ite_n c4 hd
        refine k_iconst (v := 0) f_104_94 (by decide) ?_
        refine s_iretB (b := false) f_104_95 rfl ?_
        cases hd
        exact hQ
      · replace hd := ite_p c4 hd
        refine s_iload_n f_104_57 rfl ?_
        refine k_iconst (v := 4) f_104_58 (by decide) ?_
        refine s_icmp_ge 94 f_104_59 (by decide) (fun c5 => ?_) (fun c5 => ?_)
        · replace hd := ite_p c5 hd
          refine k_iconst (v := 0) f_104_94 (by decide) ?_
          refine s_iretB (b := false) f_104_95 rfl ?_
          cases hd
          exact hQ
        · replace hd := ite_n c5 hd
          refine s_aload_n f_104_62 rfl ?_
          refine k_bipush (v := 17) f_104_63 (by decide) ?_
          replace hd := obind hd
          obtain ⟨p6, e6, hd⟩ := hd
          refine L_virt (As := [.int (17 : Int32)]) f_104_65 ca_7_43 rfl rfl (obL (by decide)) (by decide) (Nat.le_of_ble_eq_true rfl) ?_
          refine t_cScribe_passes e6 ?_
          refine z_if_eq 94 f_104_68 (by decide) (fun c7 => ?_) (fun c7 => ?_)
          · replace hd := ite_n c7 hd
            refine k_iconst (v := 0) f_104_94 (by decide) ?_
            refine s_iretB (b := false) f_104_95 rfl ?_
            cases hd
            exact hQ
          · replace hd := ite_p c7 hd
            refine s_aload_n f_104_71 rfl ?_
            refine s_iload_n f_104_72 rfl ?_
            refine k_iconst (v := 1) f_104_73 (by decide) ?_
            refine s_iadd f_104_74 ?_
            replace hd := obind hd
            obtain ⟨p8, e8, hd⟩ := hd
            refine L_virt (As := [.int (a1 + (1 : Int32))]) f_104_75 ca_7_47 rfl rfl (obL (by decide)) (by decide) (Nat.le_of_ble_eq_true rfl) ?_
            refine hfE 0 _ _ _ _ e8 ?_
            refine z_if_eq 94 f_104_78 (by decide) (fun c9 => ?_) (fun c9 => ?_)
            · replace hd := ite_n c9 hd
              refine k_iconst (v := 0) f_104_94 (by decide) ?_
              refine s_iretB (b := false) f_104_95 rfl ?_
              cases hd
              exact hQ
            · replace hd := ite_p c9 hd
              refine s_aload_n f_104_81 rfl ?_
              refine k_bipush (v := 18) f_104_82 (by decide) ?_
              replace hd := obind hd
              obtain ⟨p10, e10, hd⟩ := hd
              refine L_virt (As := [.int (18 : Int32)]) f_104_84 ca_7_43 rfl rfl (obL (by decide)) (by decide) (Nat.le_of_ble_eq_true rfl) ?_
              refine t_cScribe_passes e10 ?_
              refine z_if_eq 94 f_104_87 (by decide) (fun c11 => ?_) (fun c11 => ?_)
              · replace hd := ite_n c11 hd
                refine k_iconst (v := 0) f_104_94 (by decide) ?_
                refine s_iretB (b := false) f_104_95 rfl ?_
                cases hd
                exact hQ
              · replace hd := ite_p c11 hd
                refine k_iconst (v := 1) f_104_90 (by decide) ?_
                refine s_goto 95 f_104_91 (by decide) ?_
                refine s_iretB (b := true) f_104_95 rfl ?_
                cases hd
                exact hQ
    · replace hd := ite_n c3 hd
      refine s_aload_n f_104_36 rfl ?_
      refine k_sipush (v := 10000) f_104_37 (by decide) ?_
      refine s_iload_n f_104_40 rfl ?_
      refine s_iadd f_104_41 ?_
      replace hd := obind hd
      obtain ⟨p12, e12, hd⟩ := hd
      refine L_virt (As := [.int ((10000 : Int32) + (S 139 (ix (S 137 5))))]) f_104_42 ca_7_104 rfl rfl (obL (by decide)) (by decide) (Nat.le_of_ble_eq_true rfl) ?_
      refine t_cScribe_write e12 ?_
      refine s_aload_n f_104_45 rfl ?_
      refine s_iload_n f_104_46 rfl ?_
      replace hd := obind hd
      obtain ⟨p13, e13, hd⟩ := hd
      refine L_virt (As := [.int (S 139 (ix (S 137 5)))]) f_104_47 ca_7_43 rfl rfl (obL (by decide)) (by decide) (Nat.le_of_ble_eq_true rfl) ?_
      refine t_cScribe_passes e13 ?_
      refine s_iretB (b := p13.1) f_104_50 rfl ?_
      cases hd
      exact hQ
  · replace hd := ite_n c2 hd
    refine s_aload_n f_104_16 rfl ?_
    refine s_iload_n f_104_17 rfl ?_
    refine k_bipush (v := 26) f_104_18 (by decide) ?_
    refine s_isub f_104_20 ?_
    replace hd := obind hd
    obtain ⟨p14, e14, hd⟩ := hd
    refine L_virt (As := [.int ((S 139 (ix (S 137 5))) - (26 : Int32))]) f_104_21 ca_7_104 rfl rfl (obL (by decide)) (by decide) (Nat.le_of_ble_eq_true rfl) ?_
    refine t_cScribe_write e14 ?_
    refine s_aload_n f_104_24 rfl ?_
    refine s_iload_n f_104_25 rfl ?_
    replace hd := obind hd
    obtain ⟨p15, e15, hd⟩ := hd
    refine L_virt (As := [.int (S 139 (ix (S 137 5)))]) f_104_26 ca_7_43 rfl rfl (obL (by decide)) (by decide) (Nat.le_of_ble_eq_true rfl) ?_
    refine t_cScribe_passes e15 ?_
    refine s_iretB (b := p15.1) f_104_29 rfl ?_
    cases hd
    exact hQ

def cScribe_total_J69 (fE : SS → Int32 → Option (Bool × SS)) (fN : SS → Int32 → Option (Bool × SS)) (k8 : SS → Int32 → Bool → Int32 → Option (Bool × SS)) (S : SS) (a1 : Int32) (a3 : Int32) (a4 : Int32) (w0 : Bool) : Option (Bool × SS) :=
  (cScribe_write S ((20000 : Int32) + a4)).bind fun p8 =>
  k8 p8 a1 w0 (a3 + 1)
theorem t_cScribe_total_J69 {l : Launch} {G : aG} {d : Nat} {Q : Option Value → aHeap → Prop} {sl : Nat} {sx : Nat → Int32} {K : KS} {T : TS} {X : XS} {M : SS} {fE : SS → Int32 → Option (Bool × SS)} {fN : SS → Int32 → Option (Bool × SS)} {k8 : SS → Int32 → Bool → Int32 → Option (Bool × SS)} (hfE : ∀ (e : Nat) (S : SS) (a1 : Int32) (p : Bool × SS) (Q : Option Value → aHeap → Prop), fE S a1 = some p → Q (some (.int (b2i p.1))) (LH (old0 sl sx) p.2 K T X M) → aCall l G (d + 2 + e) 0 0 99 [.ref 137, .int a1] (LH (old0 sl sx) S K T X M) Q) (hfN : ∀ (e : Nat) (S : SS) (a1 : Int32) (p : Bool × SS) (Q : Option Value → aHeap → Prop), fN S a1 = some p → Q (some (.int (b2i p.1))) (LH (old0 sl sx) p.2 K T X M) → aCall l G (d + 2 + e) 0 0 101 [.ref 137, .int a1] (LH (old0 sl sx) S K T X M) Q) (hk8 : ∀ (S : SS) (a1 : Int32) (a2 : Bool) (a3 : Int32) (p : Bool × SS), k8 S a1 a2 a3 = some p → Q (some (.int (b2i p.1))) (LH (old0 sl sx) p.2 K T X M) → aAt l G (d + 4) 0 0 103 8 [(0, .ref 137), (1, .int a1), (2, .int (b2i a2)), (3, .int a3)] [] 0 0 (LH (old0 sl sx) S K T X M) Q) : ∀ (S : SS) (a1 : Int32) (a3 : Int32) (a4 : Int32) (w0 : Bool) (p : Bool × SS), cScribe_total_J69 fE fN k8 S a1 a3 a4 w0 = some p → Q (some (.int (b2i p.1))) (LH (old0 sl sx) p.2 K T X M) → aAt l G (d + 4) 0 0 103 69 [(0, .ref 137), (1, .int a1), (3, .int a3), (4, .int a4)] [.int (b2i w0)] 0 0 (LH (old0 sl sx) S K T X M) Q := by
  intro S a1 a3 a4 w0 p hd hQ
  unfold cScribe_total_J69 at hd
  refine s_istore_n f_103_69 (by decide) ?_
  refine s_aload_n f_103_70 rfl ?_
  refine k_sipush (v := 20000) f_103_71 (by decide) ?_
  refine s_iload f_103_74 rfl ?_
  refine s_iadd f_103_76 ?_
  replace hd := obind hd
  obtain ⟨p8, e8, hd⟩ := hd
  refine L_virt (As := [.int ((20000 : Int32) + a4)]) f_103_77 ca_7_104 rfl rfl (obL (by decide)) (by decide) (Nat.le_of_ble_eq_true rfl) ?_
  refine t_cScribe_write e8 ?_
  refine k_iinc (w := 1) f_103_80 rfl (by decide) (by decide) ?_
  refine s_goto 8 f_103_83 (by decide) ?_
  refine aAt.sub [(0, .ref 137), (1, .int a1), (2, .int (b2i w0)), (3, .int (a3 + 1))] rfl ?_
  exact hk8 _ _ _ _  _ hd hQ
def cScribe_total_J68 (fE : SS → Int32 → Option (Bool × SS)) (fN : SS → Int32 → Option (Bool × SS)) (k8 : SS → Int32 → Bool → Int32 → Option (Bool × SS)) (S : SS) (a1 : Int32) (a3 : Int32) (a4 : Int32) : Option (Bool × SS) :=
  cScribe_total_J69 fE fN k8 S a1 a3 a4 false
theorem t_cScribe_total_J68 {l : Launch} {G : aG} {d : Nat} {Q : Option Value → aHeap → Prop} {sl : Nat} {sx : Nat → Int32} {K : KS} {T : TS} {X : XS} {M : SS} {fE : SS → Int32 → Option (Bool × SS)} {fN : SS → Int32 → Option (Bool × SS)} {k8 : SS → Int32 → Bool → Int32 → Option (Bool × SS)} (hfE : ∀ (e : Nat) (S : SS) (a1 : Int32) (p : Bool × SS) (Q : Option Value → aHeap → Prop), fE S a1 = some p → Q (some (.int (b2i p.1))) (LH (old0 sl sx) p.2 K T X M) → aCall l G (d + 2 + e) 0 0 99 [.ref 137, .int a1] (LH (old0 sl sx) S K T X M) Q) (hfN : ∀ (e : Nat) (S : SS) (a1 : Int32) (p : Bool × SS) (Q : Option Value → aHeap → Prop), fN S a1 = some p → Q (some (.int (b2i p.1))) (LH (old0 sl sx) p.2 K T X M) → aCall l G (d + 2 + e) 0 0 101 [.ref 137, .int a1] (LH (old0 sl sx) S K T X M) Q) (hk8 : ∀ (S : SS) (a1 : Int32) (a2 : Bool) (a3 : Int32) (p : Bool × SS), k8 S a1 a2 a3 = some p → Q (some (.int (b2i p.1))) (LH (old0 sl sx) p.2 K T X M) → aAt l G (d + 4) 0 0 103 8 [(0, .ref 137), (1, .int a1), (2, .int (b2i a2)), (3, .int a3)] [] 0 0 (LH (old0 sl sx) S K T X M) Q) : ∀ (S : SS) (a1 : Int32) (a3 : Int32) (a4 : Int32) (p : Bool × SS), cScribe_total_J68 fE fN k8 S a1 a3 a4 = some p → Q (some (.int (b2i p.1))) (LH (old0 sl sx) p.2 K T X M) → aAt l G (d + 4) 0 0 103 68 [(0, .ref 137), (1, .int a1), (3, .int a3), (4, .int a4)] [] 0 0 (LH (old0 sl sx) S K T X M) Q := by
  intro S a1 a3 a4 p hd hQ
  unfold cScribe_total_J68 at hd
  refine k_iconst (v := 0) f_103_68 (by decide) ?_
  refine aAt.sub [(0, .ref 137), (1, .int a1), (3, .int a3), (4, .int a4)] rfl ?_
  exact t_cScribe_total_J69 hfE hfN hk8 _ _ _ _ _  _ hd hQ
def cScribe_total_J47 (fE : SS → Int32 → Option (Bool × SS)) (fN : SS → Int32 → Option (Bool × SS)) (k8 : SS → Int32 → Bool → Int32 → Option (Bool × SS)) (S : SS) (a1 : Int32) (a3 : Int32) (a4 : Int32) : Option (Bool × SS) :=
  (cScribe_passes S a4).bind fun p6 =>
  if p6.1 = true then
    (cScribe_one fE fN p6.2 a1).bind fun p9 =>
    if p9.1 = true then
      cScribe_total_J69 fE fN k8 p9.2 a1 a3 a4 true
    else
      cScribe_total_J68 fE fN k8 p9.2 a1 a3 a4
  else
    cScribe_total_J68 fE fN k8 p6.2 a1 a3 a4
theorem t_cScribe_total_J47 {l : Launch} {G : aG} {d : Nat} {Q : Option Value → aHeap → Prop} {sl : Nat} {sx : Nat → Int32} {K : KS} {T : TS} {X : XS} {M : SS} {fE : SS → Int32 → Option (Bool × SS)} {fN : SS → Int32 → Option (Bool × SS)} {k8 : SS → Int32 → Bool → Int32 → Option (Bool × SS)} (hfE : ∀ (e : Nat) (S : SS) (a1 : Int32) (p : Bool × SS) (Q : Option Value → aHeap → Prop), fE S a1 = some p → Q (some (.int (b2i p.1))) (LH (old0 sl sx) p.2 K T X M) → aCall l G (d + 2 + e) 0 0 99 [.ref 137, .int a1] (LH (old0 sl sx) S K T X M) Q) (hfN : ∀ (e : Nat) (S : SS) (a1 : Int32) (p : Bool × SS) (Q : Option Value → aHeap → Prop), fN S a1 = some p → Q (some (.int (b2i p.1))) (LH (old0 sl sx) p.2 K T X M) → aCall l G (d + 2 + e) 0 0 101 [.ref 137, .int a1] (LH (old0 sl sx) S K T X M) Q) (hk8 : ∀ (S : SS) (a1 : Int32) (a2 : Bool) (a3 : Int32) (p : Bool × SS), k8 S a1 a2 a3 = some p → Q (some (.int (b2i p.1))) (LH (old0 sl sx) p.2 K T X M) → aAt l G (d + 4) 0 0 103 8 [(0, .ref 137), (1, .int a1), (2, .int (b2i a2)), (3, .int a3)] [] 0 0 (LH (old0 sl sx) S K T X M) Q) : ∀ (S : SS) (a1 : Int32) (a3 : Int32) (a4 : Int32) (p : Bool × SS), cScribe_total_J47 fE fN k8 S a1 a3 a4 = some p → Q (some (.int (b2i p.1))) (LH (old0 sl sx) p.2 K T X M) → aAt l G (d + 4) 0 0 103 47 [(0, .ref 137), (1, .int a1), (3, .int a3), (4, .int a4)] [] 0 0 (LH (old0 sl sx) S K T X M) Q := by
  intro S a1 a3 a4 p hd hQ
  unfold cScribe_total_J47 at hd
  refine s_aload_n f_103_47 rfl ?_
  refine s_iload f_103_48 rfl ?_
  replace hd := obind hd
  obtain ⟨p6, e6, hd⟩ := hd
  refine L_virt (As := [.int a4]) f_103_50 ca_7_43 rfl rfl (obL (by decide)) (by decide) (Nat.le_of_ble_eq_true rfl) ?_
  refine t_cScribe_passes e6 ?_
  refine z_if_eq 68 f_103_53 (by decide) (fun c7 => ?_) (fun c7 => ?_)
  · replace hd := ite_n c7 hd
    refine aAt.sub [(0, .ref 137), (1, .int a1), (3, .int a3), (4, .int a4)] rfl ?_
    exact t_cScribe_total_J68 hfE hfN hk8 _ _ _ _  _ hd hQ
  · replace hd := ite_p c7 hd
    refine s_aload_n f_103_56 rfl ?_
    refine s_iload_n f_103_57 rfl ?_
    replace hd := obind hd
    obtain ⟨p9, e9, hd⟩ := hd
    refine L_virt (As := [.int a1]) f_103_58 ca_7_114 rfl rfl (obL (by decide)) (by decide) (Nat.le_of_ble_eq_true rfl) ?_
    refine t_cScribe_one hfE hfN e9 ?_
    refine z_if_eq 68 f_103_61 (by decide) (fun c10 => ?_) (fun c10 => ?_)
    · replace hd := ite_n c10 hd
      refine aAt.sub [(0, .ref 137), (1, .int a1), (3, .int a3), (4, .int a4)] rfl ?_
      exact t_cScribe_total_J68 hfE hfN hk8 _ _ _ _  _ hd hQ
    · replace hd := ite_p c10 hd
      refine k_iconst (v := 1) f_103_64 (by decide) ?_
      refine s_goto 69 f_103_65 (by decide) ?_
      refine aAt.sub [(0, .ref 137), (1, .int a1), (3, .int a3), (4, .int a4)] rfl ?_
      exact t_cScribe_total_J69 hfE hfN hk8 _ _ _ _ _  _ hd hQ
def cScribe_total_L8 (fE : SS → Int32 → Option (Bool × SS)) (fN : SS → Int32 → Option (Bool × SS)) : Nat → SS → Int32 → Bool → Int32 → Option (Bool × SS)
  | 0, _, _, _, _ => none
  | n + 1, S, a1, a2, a3 =>
    if (200 : Int32) ≤ a3 then
      some (a2, S)
    else
      if a2 = true then
        if inb (S 137 5) 201 then
          if (S 139 (ix (S 137 5))) = (20 : Int32) then
            cScribe_total_J47 fE fN (cScribe_total_L8 fE fN  n) S a1 a3 (S 139 (ix (S 137 5)))
          else
            if (S 139 (ix (S 137 5))) = (21 : Int32) then
              cScribe_total_J47 fE fN (cScribe_total_L8 fE fN  n) S a1 a3 (S 139 (ix (S 137 5)))
            else
              some (a2, S)
        else none
      else
        some (a2, S)
theorem t_cScribe_total_L8 {l : Launch} {G : aG} {d : Nat} {Q : Option Value → aHeap → Prop} {sl : Nat} {sx : Nat → Int32} {K : KS} {T : TS} {X : XS} {M : SS} {fE : SS → Int32 → Option (Bool × SS)} {fN : SS → Int32 → Option (Bool × SS)} (hfE : ∀ (e : Nat) (S : SS) (a1 : Int32) (p : Bool × SS) (Q : Option Value → aHeap → Prop), fE S a1 = some p → Q (some (.int (b2i p.1))) (LH (old0 sl sx) p.2 K T X M) → aCall l G (d + 2 + e) 0 0 99 [.ref 137, .int a1] (LH (old0 sl sx) S K T X M) Q) (hfN : ∀ (e : Nat) (S : SS) (a1 : Int32) (p : Bool × SS) (Q : Option Value → aHeap → Prop), fN S a1 = some p → Q (some (.int (b2i p.1))) (LH (old0 sl sx) p.2 K T X M) → aCall l G (d + 2 + e) 0 0 101 [.ref 137, .int a1] (LH (old0 sl sx) S K T X M) Q) : ∀ (n : Nat), ∀ (S : SS) (a1 : Int32) (a2 : Bool) (a3 : Int32) (p : Bool × SS), cScribe_total_L8 fE fN n S a1 a2 a3 = some p → Q (some (.int (b2i p.1))) (LH (old0 sl sx) p.2 K T X M) → aAt l G (d + 4) 0 0 103 8 [(0, .ref 137), (1, .int a1), (2, .int (b2i a2)), (3, .int a3)] [] 0 0 (LH (old0 sl sx) S K T X M) Q := by
  intro n
  induction n with
  | zero =>
    intro S a1 a2 a3 p hd hQ
    rw [cScribe_total_L8] at hd
    cases hd
  | succ n ih =>
    intro S a1 a2 a3 p hd hQ
    rw [cScribe_total_L8] at hd
    refine s_iload_n f_103_8 rfl ?_
    refine k_sipush (v := 200) f_103_9 (by decide) ?_
    refine s_icmp_ge 86 f_103_12 (by decide) (fun c2 => ?_) (fun c2 => ?_)
    · replace hd := ite_p c2 hd
      refine s_iload_n f_103_86 rfl ?_
      refine s_iretB (b := a2) f_103_87 rfl ?_
      cases hd
      exact hQ
    · replace hd := ite_n c2 hd
      refine s_iload_n f_103_15 rfl ?_
      refine z_if_eq 86 f_103_16 (by decide) (fun c3 => ?_) (fun c3 => ?_)
      · replace hd := ite_n c3 hd
        refine s_iload_n f_103_86 rfl ?_
        refine s_iretB (b := a2) f_103_87 rfl ?_
        cases hd
        exact hQ
      · replace hd := ite_p c3 hd
        refine s_aload_n f_103_19 rfl ?_
        refine L_getR f_103_20 fd_7_19 (obL (by decide)) (by decide) (by decide : rf 137 2 = 139) ?_
        refine s_aload_n f_103_23 rfl ?_
        refine C_getI f_103_24 fd_7_28 (ocl (by decide)) (by decide) ?_
        replace hd := gd hd
        obtain ⟨g4, hd⟩ := hd
        refine C_iaload (n := 201) (q := (ix (S 137 5))) f_103_27 (ocl (by decide)) (rfl : ln X.1 139 = 201) (Nat.le_of_ble_eq_true rfl) rfl g4 ?_
        refine s_istore f_103_28 (by decide) ?_
        refine s_iload f_103_30 rfl ?_
        refine k_bipush (v := 20) f_103_32 (by decide) ?_
        refine s_icmp_eq 47 f_103_34 (by decide) (fun c5 => ?_) (fun c5 => ?_)
        · replace hd := ite_p c5 hd
          refine aAt.sub [(0, .ref 137), (1, .int a1), (3, .int a3), (4, .int (S 139 (ix (S 137 5))))] rfl ?_
          exact t_cScribe_total_J47 hfE hfN ih _ _ _ _  _ hd hQ
        · replace hd := ite_n c5 hd
          refine s_iload f_103_37 rfl ?_
          refine k_bipush (v := 21) f_103_39 (by decide) ?_
          refine s_icmp_eq 47 f_103_41 (by decide) (fun c11 => ?_) (fun c11 => ?_)
          · replace hd := ite_p c11 hd
            refine aAt.sub [(0, .ref 137), (1, .int a1), (3, .int a3), (4, .int (S 139 (ix (S 137 5))))] rfl ?_
            exact t_cScribe_total_J47 hfE hfN ih _ _ _ _  _ hd hQ
          · replace hd := ite_n c11 hd
            refine s_goto 86 f_103_44 (by decide) ?_
            refine s_iload_n f_103_86 rfl ?_
            refine s_iretB (b := a2) f_103_87 rfl ?_
            cases hd
            exact hQ
def cScribe_total (fE : SS → Int32 → Option (Bool × SS)) (fN : SS → Int32 → Option (Bool × SS)) (S : SS) (a1 : Int32) : Option (Bool × SS) :=
  (cScribe_one fE fN S a1).bind fun p1 =>
  cScribe_total_L8 fE fN FU p1.2 a1 p1.1 (0 : Int32)
theorem t_cScribe_total {l : Launch} {G : aG} {d : Nat} {Q : Option Value → aHeap → Prop} {sl : Nat} {sx : Nat → Int32} {S : SS} {K : KS} {T : TS} {X : XS} {M : SS} {fE : SS → Int32 → Option (Bool × SS)} {fN : SS → Int32 → Option (Bool × SS)} {a1 : Int32} (hfE : ∀ (e : Nat) (S : SS) (a1 : Int32) (p : Bool × SS) (Q : Option Value → aHeap → Prop), fE S a1 = some p → Q (some (.int (b2i p.1))) (LH (old0 sl sx) p.2 K T X M) → aCall l G (d + 2 + e) 0 0 99 [.ref 137, .int a1] (LH (old0 sl sx) S K T X M) Q) (hfN : ∀ (e : Nat) (S : SS) (a1 : Int32) (p : Bool × SS) (Q : Option Value → aHeap → Prop), fN S a1 = some p → Q (some (.int (b2i p.1))) (LH (old0 sl sx) p.2 K T X M) → aCall l G (d + 2 + e) 0 0 101 [.ref 137, .int a1] (LH (old0 sl sx) S K T X M) Q) {p : Bool × SS} (hd : cScribe_total fE fN S a1 = some p) (hQ : Q (some (.int (b2i p.1))) (LH (old0 sl sx) p.2 K T X M)) : aCall l G (d + 4) 0 0 103 [.ref 137, .int a1] (LH (old0 sl sx) S K T X M) Q := by
  refine aCall.of (by decide) (Nat.le_of_ble_eq_true rfl) ?_
  refine aAt.sub [(0, .ref 137), (1, .int a1)] rfl ?_
  unfold cScribe_total at hd
  refine s_aload_n f_103_0 rfl ?_
  refine s_iload_n f_103_1 rfl ?_
  replace hd := obind hd
  obtain ⟨p1, e1, hd⟩ := hd
  refine L_virt (As := [.int a1]) f_103_2 ca_7_114 rfl rfl (obL (by decide)) (by decide) (Nat.le_of_ble_eq_true rfl) ?_
  refine t_cScribe_one hfE hfN e1 ?_
  refine s_istore_n f_103_5 (by decide) ?_
  refine k_iconst (v := 0) f_103_6 (by decide) ?_
  refine s_istore_n f_103_7 (by decide) ?_
  refine aAt.sub [(0, .ref 137), (1, .int a1), (2, .int (b2i p1.1)), (3, .int (0 : Int32))] rfl ?_
  exact t_cScribe_total_L8 hfE hfN FU _ _ _ _  _ hd hQ

def cScribe_negated_J108 (fE : SS → Int32 → Option (Bool × SS)) (fN : SS → Int32 → Option (Bool × SS)) (S : SS) (a2 : Int32) (w0 : Bool) : Option (Bool × SS) :=
  (cScribe_write S ((20000 : Int32) + a2)).bind fun p9 =>
  some (w0, p9)
theorem t_cScribe_negated_J108 {l : Launch} {G : aG} {d : Nat} {Q : Option Value → aHeap → Prop} {sl : Nat} {sx : Nat → Int32} {K : KS} {T : TS} {X : XS} {M : SS} {fE : SS → Int32 → Option (Bool × SS)} {fN : SS → Int32 → Option (Bool × SS)} (hfE : ∀ (e : Nat) (S : SS) (a1 : Int32) (p : Bool × SS) (Q : Option Value → aHeap → Prop), fE S a1 = some p → Q (some (.int (b2i p.1))) (LH (old0 sl sx) p.2 K T X M) → aCall l G (d + 2 + e) 0 0 99 [.ref 137, .int a1] (LH (old0 sl sx) S K T X M) Q) (hfN : ∀ (e : Nat) (S : SS) (a1 : Int32) (p : Bool × SS) (Q : Option Value → aHeap → Prop), fN S a1 = some p → Q (some (.int (b2i p.1))) (LH (old0 sl sx) p.2 K T X M) → aCall l G (d + 2 + e) 0 0 101 [.ref 137, .int a1] (LH (old0 sl sx) S K T X M) Q) : ∀ (S : SS) (a2 : Int32) (w0 : Bool) (p : Bool × SS), cScribe_negated_J108 fE fN S a2 w0 = some p → Q (some (.int (b2i p.1))) (LH (old0 sl sx) p.2 K T X M) → aAt l G (d + 5) 0 0 101 108 [(0, .ref 137), (2, .int a2)] [.int (b2i w0)] 0 0 (LH (old0 sl sx) S K T X M) Q := by
  intro S a2 w0 p hd hQ
  unfold cScribe_negated_J108 at hd
  refine s_istore_n f_101_108 (by decide) ?_
  refine s_aload_n f_101_109 rfl ?_
  refine k_sipush (v := 20000) f_101_110 (by decide) ?_
  refine s_iload_n f_101_113 rfl ?_
  refine s_iadd f_101_114 ?_
  replace hd := obind hd
  obtain ⟨p9, e9, hd⟩ := hd
  refine L_virt (As := [.int ((20000 : Int32) + a2)]) f_101_115 ca_7_104 rfl rfl (obL (by decide)) (by decide) (Nat.le_of_ble_eq_true rfl) ?_
  refine t_cScribe_write e9 ?_
  refine s_iload_n f_101_118 rfl ?_
  refine s_iretB (b := w0) f_101_119 rfl ?_
  cases hd
  exact hQ
def cScribe_negated_J107 (fE : SS → Int32 → Option (Bool × SS)) (fN : SS → Int32 → Option (Bool × SS)) (S : SS) (a2 : Int32) : Option (Bool × SS) :=
  cScribe_negated_J108 fE fN S a2 false
theorem t_cScribe_negated_J107 {l : Launch} {G : aG} {d : Nat} {Q : Option Value → aHeap → Prop} {sl : Nat} {sx : Nat → Int32} {K : KS} {T : TS} {X : XS} {M : SS} {fE : SS → Int32 → Option (Bool × SS)} {fN : SS → Int32 → Option (Bool × SS)} (hfE : ∀ (e : Nat) (S : SS) (a1 : Int32) (p : Bool × SS) (Q : Option Value → aHeap → Prop), fE S a1 = some p → Q (some (.int (b2i p.1))) (LH (old0 sl sx) p.2 K T X M) → aCall l G (d + 2 + e) 0 0 99 [.ref 137, .int a1] (LH (old0 sl sx) S K T X M) Q) (hfN : ∀ (e : Nat) (S : SS) (a1 : Int32) (p : Bool × SS) (Q : Option Value → aHeap → Prop), fN S a1 = some p → Q (some (.int (b2i p.1))) (LH (old0 sl sx) p.2 K T X M) → aCall l G (d + 2 + e) 0 0 101 [.ref 137, .int a1] (LH (old0 sl sx) S K T X M) Q) : ∀ (S : SS) (a2 : Int32) (p : Bool × SS), cScribe_negated_J107 fE fN S a2 = some p → Q (some (.int (b2i p.1))) (LH (old0 sl sx) p.2 K T X M) → aAt l G (d + 5) 0 0 101 107 [(0, .ref 137), (2, .int a2)] [] 0 0 (LH (old0 sl sx) S K T X M) Q := by
  intro S a2 p hd hQ
  unfold cScribe_negated_J107 at hd
  refine k_iconst (v := 0) f_101_107 (by decide) ?_
  refine aAt.sub [(0, .ref 137), (2, .int a2)] rfl ?_
  exact t_cScribe_negated_J108 hfE hfN _ _ _  _ hd hQ
def cScribe_negated_J87 (fE : SS → Int32 → Option (Bool × SS)) (fN : SS → Int32 → Option (Bool × SS)) (S : SS) (a1 : Int32) (a2 : Int32) : Option (Bool × SS) :=
  (cScribe_passes S a2).bind fun p7 =>
  if p7.1 = true then
    (cScribe_total fE fN p7.2 a1).bind fun p10 =>
    if p10.1 = true then
      cScribe_negated_J108 fE fN p10.2 a2 true
    else
      cScribe_negated_J107 fE fN p10.2 a2
  else
    cScribe_negated_J107 fE fN p7.2 a2
theorem t_cScribe_negated_J87 {l : Launch} {G : aG} {d : Nat} {Q : Option Value → aHeap → Prop} {sl : Nat} {sx : Nat → Int32} {K : KS} {T : TS} {X : XS} {M : SS} {fE : SS → Int32 → Option (Bool × SS)} {fN : SS → Int32 → Option (Bool × SS)} (hfE : ∀ (e : Nat) (S : SS) (a1 : Int32) (p : Bool × SS) (Q : Option Value → aHeap → Prop), fE S a1 = some p → Q (some (.int (b2i p.1))) (LH (old0 sl sx) p.2 K T X M) → aCall l G (d + 2 + e) 0 0 99 [.ref 137, .int a1] (LH (old0 sl sx) S K T X M) Q) (hfN : ∀ (e : Nat) (S : SS) (a1 : Int32) (p : Bool × SS) (Q : Option Value → aHeap → Prop), fN S a1 = some p → Q (some (.int (b2i p.1))) (LH (old0 sl sx) p.2 K T X M) → aCall l G (d + 2 + e) 0 0 101 [.ref 137, .int a1] (LH (old0 sl sx) S K T X M) Q) : ∀ (S : SS) (a1 : Int32) (a2 : Int32) (p : Bool × SS), cScribe_negated_J87 fE fN S a1 a2 = some p → Q (some (.int (b2i p.1))) (LH (old0 sl sx) p.2 K T X M) → aAt l G (d + 5) 0 0 101 87 [(0, .ref 137), (1, .int a1), (2, .int a2)] [] 0 0 (LH (old0 sl sx) S K T X M) Q := by
  intro S a1 a2 p hd hQ
  unfold cScribe_negated_J87 at hd
  refine s_aload_n f_101_87 rfl ?_
  refine s_iload_n f_101_88 rfl ?_
  replace hd := obind hd
  obtain ⟨p7, e7, hd⟩ := hd
  refine L_virt (As := [.int a2]) f_101_89 ca_7_43 rfl rfl (obL (by decide)) (by decide) (Nat.le_of_ble_eq_true rfl) ?_
  refine t_cScribe_passes e7 ?_
  refine z_if_eq 107 f_101_92 (by decide) (fun c8 => ?_) (fun c8 => ?_)
  · replace hd := ite_n c8 hd
    refine aAt.sub [(0, .ref 137), (2, .int a2)] rfl ?_
    exact t_cScribe_negated_J107 hfE hfN _ _  _ hd hQ
  · replace hd := ite_p c8 hd
    refine s_aload_n f_101_95 rfl ?_
    refine s_iload_n f_101_96 rfl ?_
    replace hd := obind hd
    obtain ⟨p10, e10, hd⟩ := hd
    refine L_virt (As := [.int a1]) f_101_97 ca_7_111 rfl rfl (obL (by decide)) (by decide) (Nat.le_of_ble_eq_true rfl) ?_
    refine t_cScribe_total hfE hfN e10 ?_
    refine z_if_eq 107 f_101_100 (by decide) (fun c11 => ?_) (fun c11 => ?_)
    · replace hd := ite_n c11 hd
      refine aAt.sub [(0, .ref 137), (2, .int a2)] rfl ?_
      exact t_cScribe_negated_J107 hfE hfN _ _  _ hd hQ
    · replace hd := ite_p c11 hd
      refine k_iconst (v := 1) f_101_103 (by decide) ?_
      refine s_goto 108 f_101_104 (by decide) ?_
      refine aAt.sub [(0, .ref 137), (2, .int a2)] rfl ?_
      exact t_cScribe_negated_J108 hfE hfN _ _ _  _ hd hQ
def cScribe_negated_J43 (fE : SS → Int32 → Option (Bool × SS)) (fN : SS → Int32 → Option (Bool × SS)) (S : SS) (w0 : Bool) : Option (Bool × SS) :=
  (cScribe_write S (20016 : Int32)).bind fun p14 =>
  some (w0, p14)
theorem t_cScribe_negated_J43 {l : Launch} {G : aG} {d : Nat} {Q : Option Value → aHeap → Prop} {sl : Nat} {sx : Nat → Int32} {K : KS} {T : TS} {X : XS} {M : SS} {fE : SS → Int32 → Option (Bool × SS)} {fN : SS → Int32 → Option (Bool × SS)} (hfE : ∀ (e : Nat) (S : SS) (a1 : Int32) (p : Bool × SS) (Q : Option Value → aHeap → Prop), fE S a1 = some p → Q (some (.int (b2i p.1))) (LH (old0 sl sx) p.2 K T X M) → aCall l G (d + 2 + e) 0 0 99 [.ref 137, .int a1] (LH (old0 sl sx) S K T X M) Q) (hfN : ∀ (e : Nat) (S : SS) (a1 : Int32) (p : Bool × SS) (Q : Option Value → aHeap → Prop), fN S a1 = some p → Q (some (.int (b2i p.1))) (LH (old0 sl sx) p.2 K T X M) → aCall l G (d + 2 + e) 0 0 101 [.ref 137, .int a1] (LH (old0 sl sx) S K T X M) Q) : ∀ (S : SS) (w0 : Bool) (p : Bool × SS), cScribe_negated_J43 fE fN S w0 = some p → Q (some (.int (b2i p.1))) (LH (old0 sl sx) p.2 K T X M) → aAt l G (d + 5) 0 0 101 43 [(0, .ref 137)] [.int (b2i w0)] 0 0 (LH (old0 sl sx) S K T X M) Q := by
  intro S w0 p hd hQ
  unfold cScribe_negated_J43 at hd
  refine s_istore_n f_101_43 (by decide) ?_
  refine s_aload_n f_101_44 rfl ?_
  refine k_sipush (v := 20016) f_101_45 (by decide) ?_
  replace hd := obind hd
  obtain ⟨p14, e14, hd⟩ := hd
  refine L_virt (As := [.int (20016 : Int32)]) f_101_48 ca_7_104 rfl rfl (obL (by decide)) (by decide) (Nat.le_of_ble_eq_true rfl) ?_
  refine t_cScribe_write e14 ?_
  refine s_iload_n f_101_51 rfl ?_
  refine s_iretB (b := w0) f_101_52 rfl ?_
  cases hd
  exact hQ
def cScribe_negated_J42 (fE : SS → Int32 → Option (Bool × SS)) (fN : SS → Int32 → Option (Bool × SS)) (S : SS) : Option (Bool × SS) :=
  cScribe_negated_J43 fE fN S false
theorem t_cScribe_negated_J42 {l : Launch} {G : aG} {d : Nat} {Q : Option Value → aHeap → Prop} {sl : Nat} {sx : Nat → Int32} {K : KS} {T : TS} {X : XS} {M : SS} {fE : SS → Int32 → Option (Bool × SS)} {fN : SS → Int32 → Option (Bool × SS)} (hfE : ∀ (e : Nat) (S : SS) (a1 : Int32) (p : Bool × SS) (Q : Option Value → aHeap → Prop), fE S a1 = some p → Q (some (.int (b2i p.1))) (LH (old0 sl sx) p.2 K T X M) → aCall l G (d + 2 + e) 0 0 99 [.ref 137, .int a1] (LH (old0 sl sx) S K T X M) Q) (hfN : ∀ (e : Nat) (S : SS) (a1 : Int32) (p : Bool × SS) (Q : Option Value → aHeap → Prop), fN S a1 = some p → Q (some (.int (b2i p.1))) (LH (old0 sl sx) p.2 K T X M) → aCall l G (d + 2 + e) 0 0 101 [.ref 137, .int a1] (LH (old0 sl sx) S K T X M) Q) : ∀ (S : SS) (p : Bool × SS), cScribe_negated_J42 fE fN S = some p → Q (some (.int (b2i p.1))) (LH (old0 sl sx) p.2 K T X M) → aAt l G (d + 5) 0 0 101 42 [(0, .ref 137)] [] 0 0 (LH (old0 sl sx) S K T X M) Q := by
  intro S p hd hQ
  unfold cScribe_negated_J42 at hd
  refine k_iconst (v := 0) f_101_42 (by decide) ?_
  refine aAt.sub [(0, .ref 137)] rfl ?_
  exact t_cScribe_negated_J43 hfE hfN _ _  _ hd hQ
def cScribe_negated (fE : SS → Int32 → Option (Bool × SS)) (fN : SS → Int32 → Option (Bool × SS)) (S : SS) (a1 : Int32) : Option (Bool × SS) :=
  if inb (S 137 5) 201 then
    if (S 139 (ix (S 137 5))) = (16 : Int32) then
      if (4 : Int32) ≤ a1 then
        cScribe_negated_J42 fE fN S
      else
        (cScribe_passes S (16 : Int32)).bind fun p15 =>
        if p15.1 = true then
          (fN p15.2 (a1 + (1 : Int32))).bind fun p17 =>
          if p17.1 = true then
            cScribe_negated_J43 fE fN p17.2 true
          else
            cScribe_negated_J42 fE fN p17.2
        else
          cScribe_negated_J42 fE fN p15.2
    else
      (cScribe_total fE fN S a1).bind fun p3 =>
      if p3.1 = true then
        if inb (p3.2 137 5) 201 then
          if (p3.2 139 (ix (p3.2 137 5))) = (22 : Int32) then
            cScribe_negated_J87 fE fN p3.2 a1 (p3.2 139 (ix (p3.2 137 5)))
          else
            if (p3.2 139 (ix (p3.2 137 5))) = (23 : Int32) then
              cScribe_negated_J87 fE fN p3.2 a1 (p3.2 139 (ix (p3.2 137 5)))
            else
              some (true, p3.2)
        else none
      else
        some (false, p3.2)
  else none
theorem t_cScribe_negated {l : Launch} {G : aG} {d : Nat} {Q : Option Value → aHeap → Prop} {sl : Nat} {sx : Nat → Int32} {S : SS} {K : KS} {T : TS} {X : XS} {M : SS} {fE : SS → Int32 → Option (Bool × SS)} {fN : SS → Int32 → Option (Bool × SS)} {a1 : Int32} (hfE : ∀ (e : Nat) (S : SS) (a1 : Int32) (p : Bool × SS) (Q : Option Value → aHeap → Prop), fE S a1 = some p → Q (some (.int (b2i p.1))) (LH (old0 sl sx) p.2 K T X M) → aCall l G (d + 2 + e) 0 0 99 [.ref 137, .int a1] (LH (old0 sl sx) S K T X M) Q) (hfN : ∀ (e : Nat) (S : SS) (a1 : Int32) (p : Bool × SS) (Q : Option Value → aHeap → Prop), fN S a1 = some p → Q (some (.int (b2i p.1))) (LH (old0 sl sx) p.2 K T X M) → aCall l G (d + 2 + e) 0 0 101 [.ref 137, .int a1] (LH (old0 sl sx) S K T X M) Q) {p : Bool × SS} (hd : cScribe_negated fE fN S a1 = some p) (hQ : Q (some (.int (b2i p.1))) (LH (old0 sl sx) p.2 K T X M)) : aCall l G (d + 5) 0 0 101 [.ref 137, .int a1] (LH (old0 sl sx) S K T X M) Q := by
  refine aCall.of (by decide) (Nat.le_of_ble_eq_true rfl) ?_
  refine aAt.sub [(0, .ref 137), (1, .int a1)] rfl ?_
  unfold cScribe_negated at hd
  refine s_aload_n f_101_0 rfl ?_
  refine L_getR f_101_1 fd_7_19 (obL (by decide)) (by decide) (by decide : rf 137 2 = 139) ?_
  refine s_aload_n f_101_4 rfl ?_
  refine C_getI f_101_5 fd_7_28 (ocl (by decide)) (by decide) ?_
  replace hd := gd hd
  obtain ⟨g1, hd⟩ := hd
  refine C_iaload (n := 201) (q := (ix (S 137 5))) f_101_8 (ocl (by decide)) (rfl : ln X.1 139 = 201) (Nat.le_of_ble_eq_true rfl) rfl g1 ?_
  refine k_bipush (v := 16) f_101_9 (by decide) ?_
  refine s_icmp_ne 53 f_101_11 (by decide) (fun c2 => ?_) (fun c2 => ?_)
  · replace hd := ite_n c2 hd
    refine s_aload_n f_101_53 rfl ?_
    refine s_iload_n f_101_54 rfl ?_
    replace hd := obind hd
    obtain ⟨p3, e3, hd⟩ := hd
    refine L_virt (As := [.int a1]) f_101_55 ca_7_111 rfl rfl (obL (by decide)) (by decide) (Nat.le_of_ble_eq_true rfl) ?_
    refine t_cScribe_total hfE hfN e3 ?_
    refine z_if_ne 63 f_101_58 (by decide) (fun c4 => ?_) (fun c4 => ?_)
    · replace hd := ite_p c4 hd
      refine s_aload_n f_101_63 rfl ?_
      refine L_getR f_101_64 fd_7_19 (obL (by decide)) (by decide) (by decide : rf 137 2 = 139) ?_
      refine s_aload_n f_101_67 rfl ?_
      refine C_getI f_101_68 fd_7_28 (ocl (by decide)) (by decide) ?_
      replace hd := gd hd
      obtain ⟨g5, hd⟩ := hd
      refine C_iaload (n := 201) (q := (ix (p3.2 137 5))) f_101_71 (ocl (by decide)) (rfl : ln X.1 139 = 201) (Nat.le_of_ble_eq_true rfl) rfl g5 ?_
      refine s_istore_n f_101_72 (by decide) ?_
      refine s_iload_n f_101_73 rfl ?_
      refine k_bipush (v := 22) f_101_74 (by decide) ?_
      refine s_icmp_eq 87 f_101_76 (by decide) (fun c6 => ?_) (fun c6 => ?_)
      · replace hd := ite_p c6 hd
        refine aAt.sub [(0, .ref 137), (1, .int a1), (2, .int (p3.2 139 (ix (p3.2 137 5))))] rfl ?_
        exact t_cScribe_negated_J87 hfE hfN _ _ _  _ hd hQ
      · replace hd := ite_n c6 hd
        refine s_iload_n f_101_79 rfl ?_
        refine k_bipush (v := 23) f_101_80 (by decide) ?_
        refine s_icmp_eq 87 f_101_82 (by decide) (fun c12 => ?_) (fun c12 => ?_)
        · replace hd := ite_p c12 hd
          refine aAt.sub [(0, .ref 137), (1, .int a1), (2, .int (p3.2 139 (ix (p3.2 137 5))))] rfl ?_
          exact t_cScribe_negated_J87 hfE hfN _ _ _  _ hd hQ
        · replace hd := ite_n c12 hd
          refine k_iconst (v := 1) f_101_85 (by decide) ?_
          refine s_iretB (b := true) f_101_86 rfl ?_
          cases hd
          exact hQ
    · replace hd := ite_n c4 hd
      refine k_iconst (v := 0) f_101_61 (by decide) ?_
      refine s_iretB (b := false) f_101_62 rfl ?_
      cases hd
      exact hQ
  · replace hd := ite_p c2 hd
    refine s_iload_n f_101_14 rfl ?_
    refine k_iconst (v := 4) f_101_15 (by decide) ?_
    refine s_icmp_ge 42 f_101_16 (by decide) (fun c13 => ?_) (fun c13 => ?_)
    · replace hd := ite_p c13 hd
      refine aAt.sub [(0, .ref 137)] rfl ?_
      exact t_cScribe_negated_J42 hfE hfN _  _ hd hQ
    · replace hd := ite_n c13 hd
      refine s_aload_n f_101_19 rfl ?_
      refine k_bipush (v := 16) f_101_20 (by decide) ?_
      replace hd := obind hd
      obtain ⟨p15, e15, hd⟩ := hd
      refine L_virt (As := [.int (16 : Int32)]) f_101_22 ca_7_43 rfl rfl (obL (by decide)) (by decide) (Nat.le_of_ble_eq_true rfl) ?_
      refine t_cScribe_passes e15 ?_
      refine z_if_eq 42 f_101_25 (by decide) (fun c16 => ?_) (fun c16 => ?_)
      · replace hd := ite_n c16 hd
        refine aAt.sub [(0, .ref 137)] rfl ?_
        exact t_cScribe_negated_J42 hfE hfN _  _ hd hQ
      · replace hd := ite_p c16 hd
        refine s_aload_n f_101_28 rfl ?_
        refine s_iload_n f_101_29 rfl ?_
        refine k_iconst (v := 1) f_101_30 (by decide) ?_
        refine s_iadd f_101_31 ?_
        replace hd := obind hd
        obtain ⟨p17, e17, hd⟩ := hd
        refine L_virt (As := [.int (a1 + (1 : Int32))]) f_101_32 ca_7_108 rfl rfl (obL (by decide)) (by decide) (Nat.le_of_ble_eq_true rfl) ?_
        refine hfN 2 _ _ _ _ e17 ?_
        refine z_if_eq 42 f_101_35 (by decide) (fun c18 => ?_) (fun c18 => ?_)
        · replace hd := ite_n c18 hd
          refine aAt.sub [(0, .ref 137)] rfl ?_
          exact t_cScribe_negated_J42 hfE hfN _  _ hd hQ
        · replace hd := ite_p c18 hd
          refine k_iconst (v := 1) f_101_38 (by decide) ?_
          refine s_goto 43 f_101_39 (by decide) ?_
          refine aAt.sub [(0, .ref 137)] rfl ?_
          exact t_cScribe_negated_J43 hfE hfN _ _  _ hd hQ

def cScribe_both_L8 (fE : SS → Int32 → Option (Bool × SS)) (fN : SS → Int32 → Option (Bool × SS)) : Nat → SS → Int32 → Bool → Int32 → Option (Bool × SS)
  | 0, _, _, _, _ => none
  | n + 1, S, a1, a2, a3 =>
    if (200 : Int32) ≤ a3 then
      some (a2, S)
    else
      if a2 = true then
        (cScribe_passes S (15 : Int32)).bind fun p4 =>
        if p4.1 = true then
          (fN p4.2 a1).bind fun p6 =>
          (cScribe_write p6.2 (20015 : Int32)).bind fun p7 =>
          cScribe_both_L8 fE fN  n p7 a1 p6.1 (a3 + 1)
        else
          some (a2, p4.2)
      else
        some (a2, S)
theorem t_cScribe_both_L8 {l : Launch} {G : aG} {d : Nat} {Q : Option Value → aHeap → Prop} {sl : Nat} {sx : Nat → Int32} {K : KS} {T : TS} {X : XS} {M : SS} {fE : SS → Int32 → Option (Bool × SS)} {fN : SS → Int32 → Option (Bool × SS)} (hfE : ∀ (e : Nat) (S : SS) (a1 : Int32) (p : Bool × SS) (Q : Option Value → aHeap → Prop), fE S a1 = some p → Q (some (.int (b2i p.1))) (LH (old0 sl sx) p.2 K T X M) → aCall l G (d + 2 + e) 0 0 99 [.ref 137, .int a1] (LH (old0 sl sx) S K T X M) Q) (hfN : ∀ (e : Nat) (S : SS) (a1 : Int32) (p : Bool × SS) (Q : Option Value → aHeap → Prop), fN S a1 = some p → Q (some (.int (b2i p.1))) (LH (old0 sl sx) p.2 K T X M) → aCall l G (d + 2 + e) 0 0 101 [.ref 137, .int a1] (LH (old0 sl sx) S K T X M) Q) : ∀ (n : Nat), ∀ (S : SS) (a1 : Int32) (a2 : Bool) (a3 : Int32) (p : Bool × SS), cScribe_both_L8 fE fN n S a1 a2 a3 = some p → Q (some (.int (b2i p.1))) (LH (old0 sl sx) p.2 K T X M) → aAt l G (d + 3) 0 0 100 8 [(0, .ref 137), (1, .int a1), (2, .int (b2i a2)), (3, .int a3)] [] 0 0 (LH (old0 sl sx) S K T X M) Q := by
  intro n
  induction n with
  | zero =>
    intro S a1 a2 a3 p hd hQ
    rw [cScribe_both_L8] at hd
    cases hd
  | succ n ih =>
    intro S a1 a2 a3 p hd hQ
    rw [cScribe_both_L8] at hd
    refine s_iload_n f_100_8 rfl ?_
    refine k_sipush (v := 200) f_100_9 (by decide) ?_
    refine s_icmp_ge 47 f_100_12 (by decide) (fun c2 => ?_) (fun c2 => ?_)
    · replace hd := ite_p c2 hd
      refine s_iload_n f_100_47 rfl ?_
      refine s_iretB (b := a2) f_100_48 rfl ?_
      cases hd
      exact hQ
    · replace hd := ite_n c2 hd
      refine s_iload_n f_100_15 rfl ?_
      refine z_if_eq 47 f_100_16 (by decide) (fun c3 => ?_) (fun c3 => ?_)
      · replace hd := ite_n c3 hd
        refine s_iload_n f_100_47 rfl ?_
        refine s_iretB (b := a2) f_100_48 rfl ?_
        cases hd
        exact hQ
      · replace hd := ite_p c3 hd
        refine s_aload_n f_100_19 rfl ?_
        refine k_bipush (v := 15) f_100_20 (by decide) ?_
        replace hd := obind hd
        obtain ⟨p4, e4, hd⟩ := hd
        refine L_virt (As := [.int (15 : Int32)]) f_100_22 ca_7_43 rfl rfl (obL (by decide)) (by decide) (Nat.le_of_ble_eq_true rfl) ?_
        refine t_cScribe_passes e4 ?_
        refine z_if_eq 47 f_100_25 (by decide) (fun c5 => ?_) (fun c5 => ?_)
        · replace hd := ite_n c5 hd
          refine s_iload_n f_100_47 rfl ?_
          refine s_iretB (b := a2) f_100_48 rfl ?_
          cases hd
          exact hQ
        · replace hd := ite_p c5 hd
          refine s_aload_n f_100_28 rfl ?_
          refine s_iload_n f_100_29 rfl ?_
          replace hd := obind hd
          obtain ⟨p6, e6, hd⟩ := hd
          refine L_virt (As := [.int a1]) f_100_30 ca_7_108 rfl rfl (obL (by decide)) (by decide) (Nat.le_of_ble_eq_true rfl) ?_
          refine hfN 0 _ _ _ _ e6 ?_
          refine s_istore_n f_100_33 (by decide) ?_
          refine s_aload_n f_100_34 rfl ?_
          refine k_sipush (v := 20015) f_100_35 (by decide) ?_
          replace hd := obind hd
          obtain ⟨p7, e7, hd⟩ := hd
          refine L_virt (As := [.int (20015 : Int32)]) f_100_38 ca_7_104 rfl rfl (obL (by decide)) (by decide) (Nat.le_of_ble_eq_true rfl) ?_
          refine t_cScribe_write e7 ?_
          refine k_iinc (w := 1) f_100_41 rfl (by decide) (by decide) ?_
          refine s_goto 8 f_100_44 (by decide) ?_
          refine aAt.sub [(0, .ref 137), (1, .int a1), (2, .int (b2i p6.1)), (3, .int (a3 + 1))] rfl ?_
          exact ih _ _ _ _  _ hd hQ
def cScribe_both (fE : SS → Int32 → Option (Bool × SS)) (fN : SS → Int32 → Option (Bool × SS)) (S : SS) (a1 : Int32) : Option (Bool × SS) :=
  (fN S a1).bind fun p1 =>
  cScribe_both_L8 fE fN FU p1.2 a1 p1.1 (0 : Int32)
theorem t_cScribe_both {l : Launch} {G : aG} {d : Nat} {Q : Option Value → aHeap → Prop} {sl : Nat} {sx : Nat → Int32} {S : SS} {K : KS} {T : TS} {X : XS} {M : SS} {fE : SS → Int32 → Option (Bool × SS)} {fN : SS → Int32 → Option (Bool × SS)} {a1 : Int32} (hfE : ∀ (e : Nat) (S : SS) (a1 : Int32) (p : Bool × SS) (Q : Option Value → aHeap → Prop), fE S a1 = some p → Q (some (.int (b2i p.1))) (LH (old0 sl sx) p.2 K T X M) → aCall l G (d + 2 + e) 0 0 99 [.ref 137, .int a1] (LH (old0 sl sx) S K T X M) Q) (hfN : ∀ (e : Nat) (S : SS) (a1 : Int32) (p : Bool × SS) (Q : Option Value → aHeap → Prop), fN S a1 = some p → Q (some (.int (b2i p.1))) (LH (old0 sl sx) p.2 K T X M) → aCall l G (d + 2 + e) 0 0 101 [.ref 137, .int a1] (LH (old0 sl sx) S K T X M) Q) {p : Bool × SS} (hd : cScribe_both fE fN S a1 = some p) (hQ : Q (some (.int (b2i p.1))) (LH (old0 sl sx) p.2 K T X M)) : aCall l G (d + 3) 0 0 100 [.ref 137, .int a1] (LH (old0 sl sx) S K T X M) Q := by
  refine aCall.of (by decide) (Nat.le_of_ble_eq_true rfl) ?_
  refine aAt.sub [(0, .ref 137), (1, .int a1)] rfl ?_
  unfold cScribe_both at hd
  refine s_aload_n f_100_0 rfl ?_
  refine s_iload_n f_100_1 rfl ?_
  replace hd := obind hd
  obtain ⟨p1, e1, hd⟩ := hd
  refine L_virt (As := [.int a1]) f_100_2 ca_7_108 rfl rfl (obL (by decide)) (by decide) (Nat.le_of_ble_eq_true rfl) ?_
  refine hfN 0 _ _ _ _ e1 ?_
  refine s_istore_n f_100_5 (by decide) ?_
  refine k_iconst (v := 0) f_100_6 (by decide) ?_
  refine s_istore_n f_100_7 (by decide) ?_
  refine aAt.sub [(0, .ref 137), (1, .int a1), (2, .int (b2i p1.1)), (3, .int (0 : Int32))] rfl ?_
  exact t_cScribe_both_L8 hfE hfN FU _ _ _ _  _ hd hQ

def cScribe_either_L8 (fE : SS → Int32 → Option (Bool × SS)) (fN : SS → Int32 → Option (Bool × SS)) : Nat → SS → Int32 → Bool → Int32 → Option (Bool × SS)
  | 0, _, _, _, _ => none
  | n + 1, S, a1, a2, a3 =>
    if (200 : Int32) ≤ a3 then
      some (a2, S)
    else
      if a2 = true then
        (cScribe_passes S (14 : Int32)).bind fun p4 =>
        if p4.1 = true then
          (cScribe_both fE fN p4.2 a1).bind fun p6 =>
          (cScribe_write p6.2 (20014 : Int32)).bind fun p7 =>
          cScribe_either_L8 fE fN  n p7 a1 p6.1 (a3 + 1)
        else
          some (a2, p4.2)
      else
        some (a2, S)
theorem t_cScribe_either_L8 {l : Launch} {G : aG} {d : Nat} {Q : Option Value → aHeap → Prop} {sl : Nat} {sx : Nat → Int32} {K : KS} {T : TS} {X : XS} {M : SS} {fE : SS → Int32 → Option (Bool × SS)} {fN : SS → Int32 → Option (Bool × SS)} (hfE : ∀ (e : Nat) (S : SS) (a1 : Int32) (p : Bool × SS) (Q : Option Value → aHeap → Prop), fE S a1 = some p → Q (some (.int (b2i p.1))) (LH (old0 sl sx) p.2 K T X M) → aCall l G (d + 2 + e) 0 0 99 [.ref 137, .int a1] (LH (old0 sl sx) S K T X M) Q) (hfN : ∀ (e : Nat) (S : SS) (a1 : Int32) (p : Bool × SS) (Q : Option Value → aHeap → Prop), fN S a1 = some p → Q (some (.int (b2i p.1))) (LH (old0 sl sx) p.2 K T X M) → aCall l G (d + 2 + e) 0 0 101 [.ref 137, .int a1] (LH (old0 sl sx) S K T X M) Q) : ∀ (n : Nat), ∀ (S : SS) (a1 : Int32) (a2 : Bool) (a3 : Int32) (p : Bool × SS), cScribe_either_L8 fE fN n S a1 a2 a3 = some p → Q (some (.int (b2i p.1))) (LH (old0 sl sx) p.2 K T X M) → aAt l G (d + 4) 0 0 99 8 [(0, .ref 137), (1, .int a1), (2, .int (b2i a2)), (3, .int a3)] [] 0 0 (LH (old0 sl sx) S K T X M) Q := by
  intro n
  induction n with
  | zero =>
    intro S a1 a2 a3 p hd hQ
    rw [cScribe_either_L8] at hd
    cases hd
  | succ n ih =>
    intro S a1 a2 a3 p hd hQ
    rw [cScribe_either_L8] at hd
    refine s_iload_n f_99_8 rfl ?_
    refine k_sipush (v := 200) f_99_9 (by decide) ?_
    refine s_icmp_ge 47 f_99_12 (by decide) (fun c2 => ?_) (fun c2 => ?_)
    · replace hd := ite_p c2 hd
      refine s_iload_n f_99_47 rfl ?_
      refine s_iretB (b := a2) f_99_48 rfl ?_
      cases hd
      exact hQ
    · replace hd := ite_n c2 hd
      refine s_iload_n f_99_15 rfl ?_
      refine z_if_eq 47 f_99_16 (by decide) (fun c3 => ?_) (fun c3 => ?_)
      · replace hd := ite_n c3 hd
        refine s_iload_n f_99_47 rfl ?_
        refine s_iretB (b := a2) f_99_48 rfl ?_
        cases hd
        exact hQ
      · replace hd := ite_p c3 hd
        refine s_aload_n f_99_19 rfl ?_
        refine k_bipush (v := 14) f_99_20 (by decide) ?_
        replace hd := obind hd
        obtain ⟨p4, e4, hd⟩ := hd
        refine L_virt (As := [.int (14 : Int32)]) f_99_22 ca_7_43 rfl rfl (obL (by decide)) (by decide) (Nat.le_of_ble_eq_true rfl) ?_
        refine t_cScribe_passes e4 ?_
        refine z_if_eq 47 f_99_25 (by decide) (fun c5 => ?_) (fun c5 => ?_)
        · replace hd := ite_n c5 hd
          refine s_iload_n f_99_47 rfl ?_
          refine s_iretB (b := a2) f_99_48 rfl ?_
          cases hd
          exact hQ
        · replace hd := ite_p c5 hd
          refine s_aload_n f_99_28 rfl ?_
          refine s_iload_n f_99_29 rfl ?_
          replace hd := obind hd
          obtain ⟨p6, e6, hd⟩ := hd
          refine L_virt (As := [.int a1]) f_99_30 ca_7_101 rfl rfl (obL (by decide)) (by decide) (Nat.le_of_ble_eq_true rfl) ?_
          refine t_cScribe_both hfE hfN e6 ?_
          refine s_istore_n f_99_33 (by decide) ?_
          refine s_aload_n f_99_34 rfl ?_
          refine k_sipush (v := 20014) f_99_35 (by decide) ?_
          replace hd := obind hd
          obtain ⟨p7, e7, hd⟩ := hd
          refine L_virt (As := [.int (20014 : Int32)]) f_99_38 ca_7_104 rfl rfl (obL (by decide)) (by decide) (Nat.le_of_ble_eq_true rfl) ?_
          refine t_cScribe_write e7 ?_
          refine k_iinc (w := 1) f_99_41 rfl (by decide) (by decide) ?_
          refine s_goto 8 f_99_44 (by decide) ?_
          refine aAt.sub [(0, .ref 137), (1, .int a1), (2, .int (b2i p6.1)), (3, .int (a3 + 1))] rfl ?_
          exact ih _ _ _ _  _ hd hQ
def cScribe_either (fE : SS → Int32 → Option (Bool × SS)) (fN : SS → Int32 → Option (Bool × SS)) (S : SS) (a1 : Int32) : Option (Bool × SS) :=
  (cScribe_both fE fN S a1).bind fun p1 =>
  cScribe_either_L8 fE fN FU p1.2 a1 p1.1 (0 : Int32)
theorem t_cScribe_either {l : Launch} {G : aG} {d : Nat} {Q : Option Value → aHeap → Prop} {sl : Nat} {sx : Nat → Int32} {S : SS} {K : KS} {T : TS} {X : XS} {M : SS} {fE : SS → Int32 → Option (Bool × SS)} {fN : SS → Int32 → Option (Bool × SS)} {a1 : Int32} (hfE : ∀ (e : Nat) (S : SS) (a1 : Int32) (p : Bool × SS) (Q : Option Value → aHeap → Prop), fE S a1 = some p → Q (some (.int (b2i p.1))) (LH (old0 sl sx) p.2 K T X M) → aCall l G (d + 2 + e) 0 0 99 [.ref 137, .int a1] (LH (old0 sl sx) S K T X M) Q) (hfN : ∀ (e : Nat) (S : SS) (a1 : Int32) (p : Bool × SS) (Q : Option Value → aHeap → Prop), fN S a1 = some p → Q (some (.int (b2i p.1))) (LH (old0 sl sx) p.2 K T X M) → aCall l G (d + 2 + e) 0 0 101 [.ref 137, .int a1] (LH (old0 sl sx) S K T X M) Q) {p : Bool × SS} (hd : cScribe_either fE fN S a1 = some p) (hQ : Q (some (.int (b2i p.1))) (LH (old0 sl sx) p.2 K T X M)) : aCall l G (d + 4) 0 0 99 [.ref 137, .int a1] (LH (old0 sl sx) S K T X M) Q := by
  refine aCall.of (by decide) (Nat.le_of_ble_eq_true rfl) ?_
  refine aAt.sub [(0, .ref 137), (1, .int a1)] rfl ?_
  unfold cScribe_either at hd
  refine s_aload_n f_99_0 rfl ?_
  refine s_iload_n f_99_1 rfl ?_
  replace hd := obind hd
  obtain ⟨p1, e1, hd⟩ := hd
  refine L_virt (As := [.int a1]) f_99_2 ca_7_101 rfl rfl (obL (by decide)) (by decide) (Nat.le_of_ble_eq_true rfl) ?_
  refine t_cScribe_both hfE hfN e1 ?_
  refine s_istore_n f_99_5 (by decide) ?_
  refine k_iconst (v := 0) f_99_6 (by decide) ?_
  refine s_istore_n f_99_7 (by decide) ?_
  refine aAt.sub [(0, .ref 137), (1, .int a1), (2, .int (b2i p1.1)), (3, .int (0 : Int32))] rfl ?_
  exact t_cScribe_either_L8 hfE hfN FU _ _ _ _  _ hd hQ

def rPar : Nat → Bool → SS → Int32 → Option (Bool × SS)
  | 0, _, _, _ => none
  | n + 1, true, S, a1 => cScribe_either (rPar n true) (rPar n false) S a1
  | n + 1, false, S, a1 => cScribe_negated (rPar n true) (rPar n false) S a1
theorem t_rPar {l : Launch} {G : aG} {sl : Nat} {sx : Nat → Int32} {d : Nat} {K : KS} {T : TS} {X : XS} {M : SS} : ∀ (n : Nat), (∀ (e : Nat) (S : SS) (a1 : Int32) (p : Bool × SS) (Q : Option Value → aHeap → Prop), rPar n true S a1 = some p → Q (some (.int (b2i p.1))) (LH (old0 sl sx) p.2 K T X M) → aCall l G (d + 3 * n + 2 + e) 0 0 99 [.ref 137, .int a1] (LH (old0 sl sx) S K T X M) Q) ∧ (∀ (e : Nat) (S : SS) (a1 : Int32) (p : Bool × SS) (Q : Option Value → aHeap → Prop), rPar n false S a1 = some p → Q (some (.int (b2i p.1))) (LH (old0 sl sx) p.2 K T X M) → aCall l G (d + 3 * n + 2 + e) 0 0 101 [.ref 137, .int a1] (LH (old0 sl sx) S K T X M) Q) := by
  intro n
  induction n with
  | zero =>
    constructor
    · intro e S a1 p Q hd hQ
      rw [rPar] at hd
      cases hd
    · intro e S a1 p Q hd hQ
      rw [rPar] at hd
      cases hd
  | succ n ih =>
    constructor
    · intro e S a1 p Q hd hQ
      rw [rPar] at hd
      rw [show d + 3 * (n + 1) + 2 + e = (d + 3 * n + e + 1) + 4 from by omega]
      refine t_cScribe_either (fun e2 S a1 p Q h1 h2 => by rw [show d + 3 * n + e + 1 + 2 + e2 = d + 3 * n + 2 + (e + 1 + e2) from by omega]; exact ih.1 (e + 1 + e2) S a1 p Q h1 h2) (fun e2 S a1 p Q h1 h2 => by rw [show d + 3 * n + e + 1 + 2 + e2 = d + 3 * n + 2 + (e + 1 + e2) from by omega]; exact ih.2 (e + 1 + e2) S a1 p Q h1 h2) hd hQ
    · intro e S a1 p Q hd hQ
      rw [rPar] at hd
      rw [show d + 3 * (n + 1) + 2 + e = (d + 3 * n + e + 0) + 5 from by omega]
      refine t_cScribe_negated (fun e2 S a1 p Q h1 h2 => by rw [show d + 3 * n + e + 0 + 2 + e2 = d + 3 * n + 2 + (e + 0 + e2) from by omega]; exact ih.1 (e + 0 + e2) S a1 p Q h1 h2) (fun e2 S a1 p Q h1 h2 => by rw [show d + 3 * n + e + 0 + 2 + e2 = d + 3 * n + 2 + (e + 0 + e2) from by omega]; exact ih.2 (e + 0 + e2) S a1 p Q h1 h2) hd hQ
def cScribe_either_r (S : SS) (a1 : Int32) : Option (Bool × SS) := cScribe_either (rPar 40 true) (rPar 40 false) S a1
theorem t_cScribe_either_r {l : Launch} {G : aG} {sl : Nat} {sx : Nat → Int32} {d : Nat} {Q : Option Value → aHeap → Prop} {S : SS} {K : KS} {T : TS} {X : XS} {M : SS} {a1 : Int32} {p : Bool × SS} (hd : cScribe_either_r S a1 = some p) (hQ : Q (some (.int (b2i p.1))) (LH (old0 sl sx) p.2 K T X M)) : aCall l G (d + 124) 0 0 99 [.ref 137, .int a1] (LH (old0 sl sx) S K T X M) Q := by
  unfold cScribe_either_r at hd
  rw [show d + 124 = (d + 120) + 4 from by omega]
  refine t_cScribe_either (fun e2 S a1 p Q h1 h2 => by rw [show d + 120 + 2 + e2 = d + 3 * 40 + 2 + e2 from by omega]; exact (t_rPar 40).1 e2 S a1 p Q h1 h2) (fun e2 S a1 p Q h1 h2 => by rw [show d + 120 + 2 + e2 = d + 3 * 40 + 2 + e2 from by omega]; exact (t_rPar 40).2 e2 S a1 p Q h1 h2) hd hQ

def cScribe_reads_J59 (S : SS) : Option (Int32 × SS) :=
  if inb (S 137 5) 201 then
    some ((S 140 (ix (S 137 5))), S)
  else none
theorem t_cScribe_reads_J59 {l : Launch} {G : aG} {d : Nat} {Q : Option Value → aHeap → Prop} {sl : Nat} {sx : Nat → Int32} {K : KS} {T : TS} {X : XS} {M : SS} : ∀ (S : SS) (p : Int32 × SS), cScribe_reads_J59 S = some p → Q (some (.int p.1)) (LH (old0 sl sx) p.2 K T X M) → aAt l G (d + 125) 0 0 64 59 [(0, .ref 137)] [] 0 0 (LH (old0 sl sx) S K T X M) Q := by
  intro S p hd hQ
  unfold cScribe_reads_J59 at hd
  refine s_aload_n f_64_59 rfl ?_
  refine L_getR f_64_60 fd_7_22 (obL (by decide)) (by decide) (by decide : rf 137 3 = 140) ?_
  refine s_aload_n f_64_63 rfl ?_
  refine C_getI f_64_64 fd_7_28 (ocl (by decide)) (by decide) ?_
  replace hd := gd hd
  obtain ⟨g8, hd⟩ := hd
  refine C_iaload (n := 201) (q := (ix (S 137 5))) f_64_67 (ocl (by decide)) (rfl : ln X.1 140 = 201) (Nat.le_of_ble_eq_true rfl) rfl g8 ?_
  refine s_ireturn f_64_68 rfl rfl ?_
  cases hd
  exact hQ
def cScribe_reads_L16 : Nat → SS → Int32 → Option (Int32 × SS)
  | 0, _, _ => none
  | n + 1, S, a1 =>
    if (3 : Int32) ≤ a1 then
      if inb (S 137 5) 201 then
        if (S 139 (ix (S 137 5))) = (24 : Int32) then
          some ((-1 : Int32), S)
        else
          some ((S 140 (ix (S 137 5))), S)
      else none
    else
      if inb a1 3 then
        (cScribe_passes (up S 142 (ix a1) (S 137 7)) ((11 : Int32) + a1)).bind fun p6 =>
        if p6.1 = true then
          (cScribe_either_r p6.2 (0 : Int32)).bind fun p9 =>
          if p9.1 = true then
            (cScribe_passes p9.2 (19 : Int32)).bind fun p11 =>
            if p11.1 = true then
              cScribe_reads_L16  n p11.2 (a1 + 1)
            else
              cScribe_reads_J59 p11.2
          else
            cScribe_reads_J59 p9.2
        else
          cScribe_reads_J59 p6.2
      else none
theorem t_cScribe_reads_L16 {l : Launch} {G : aG} {d : Nat} {Q : Option Value → aHeap → Prop} {sl : Nat} {sx : Nat → Int32} {K : KS} {T : TS} {X : XS} {M : SS} : ∀ (n : Nat), ∀ (S : SS) (a1 : Int32) (p : Int32 × SS), cScribe_reads_L16 n S a1 = some p → Q (some (.int p.1)) (LH (old0 sl sx) p.2 K T X M) → aAt l G (d + 125) 0 0 64 16 [(0, .ref 137), (1, .int a1)] [] 0 0 (LH (old0 sl sx) S K T X M) Q := by
  intro n
  induction n with
  | zero =>
    intro S a1 p hd hQ
    rw [cScribe_reads_L16] at hd
    cases hd
  | succ n ih =>
    intro S a1 p hd hQ
    rw [cScribe_reads_L16] at hd
    refine s_iload_n f_64_16 rfl ?_
    refine k_iconst (v := 3) f_64_17 (by decide) ?_
    refine s_icmp_ge 75 f_64_18 (by decide) (fun c2 => ?_) (fun c2 => ?_)
    · replace hd := ite_p c2 hd
      refine s_aload_n f_64_75 rfl ?_
      refine L_getR f_64_76 fd_7_19 (obL (by decide)) (by decide) (by decide : rf 137 2 = 139) ?_
      refine s_aload_n f_64_79 rfl ?_
      refine C_getI f_64_80 fd_7_28 (ocl (by decide)) (by decide) ?_
      replace hd := gd hd
      obtain ⟨g3, hd⟩ := hd
      refine C_iaload (n := 201) (q := (ix (S 137 5))) f_64_83 (ocl (by decide)) (rfl : ln X.1 139 = 201) (Nat.le_of_ble_eq_true rfl) rfl g3 ?_
      refine k_bipush (v := 24) f_64_84 (by decide) ?_
      refine s_icmp_ne 93 f_64_86 (by decide) (fun c4 => ?_) (fun c4 => ?_)
      · replace hd := ite_n c4 hd
        refine s_aload_n f_64_93 rfl ?_
        refine L_getR f_64_94 fd_7_22 (obL (by decide)) (by decide) (by decide : rf 137 3 = 140) ?_
        refine s_aload_n f_64_97 rfl ?_
        refine C_getI f_64_98 fd_7_28 (ocl (by decide)) (by decide) ?_
        refine C_iaload (n := 201) (q := (ix (S 137 5))) f_64_101 (ocl (by decide)) (rfl : ln X.1 140 = 201) (Nat.le_of_ble_eq_true rfl) rfl g3 ?_
        refine s_ireturn f_64_102 rfl rfl ?_
        cases hd
        exact hQ
      · replace hd := ite_p c4 hd
        refine k_iconst (v := (-1)) f_64_89 (by decide) ?_
        refine s_goto 102 f_64_90 (by decide) ?_
        refine s_ireturn f_64_102 rfl rfl ?_
        cases hd
        exact hQ
    · replace hd := ite_n c2 hd
      refine s_aload_n f_64_21 rfl ?_
      refine L_getR f_64_22 fd_7_37 (obL (by decide)) (by decide) (by decide : rf 137 8 = 142) ?_
      refine s_iload_n f_64_25 rfl ?_
      refine s_aload_n f_64_26 rfl ?_
      refine C_getI f_64_27 fd_7_34 (ocl (by decide)) (by decide) ?_
      replace hd := gd hd
      obtain ⟨g5, hd⟩ := hd
      refine C_iastore (n := 3) (q := (ix a1)) f_64_30 (ocl (by decide)) (rfl : ln X.1 142 = 3) (Nat.le_of_ble_eq_true rfl) rfl g5 ?_
      refine s_aload_n f_64_31 rfl ?_
      refine k_bipush (v := 11) f_64_32 (by decide) ?_
      refine s_iload_n f_64_34 rfl ?_
      refine s_iadd f_64_35 ?_
      replace hd := obind hd
      obtain ⟨p6, e6, hd⟩ := hd
      refine L_virt (As := [.int ((11 : Int32) + a1)]) f_64_36 ca_7_43 rfl rfl (obL (by decide)) (by decide) (Nat.le_of_ble_eq_true rfl) ?_
      refine t_cScribe_passes e6 ?_
      refine z_if_eq 59 f_64_39 (by decide) (fun c7 => ?_) (fun c7 => ?_)
      · replace hd := ite_n c7 hd
        refine aAt.sub [(0, .ref 137)] rfl ?_
        exact t_cScribe_reads_J59 _  _ hd hQ
      · replace hd := ite_p c7 hd
        refine s_aload_n f_64_42 rfl ?_
        refine k_iconst (v := 0) f_64_43 (by decide) ?_
        replace hd := obind hd
        obtain ⟨p9, e9, hd⟩ := hd
        refine L_virt (As := [.int (0 : Int32)]) f_64_44 ca_7_47 rfl rfl (obL (by decide)) (by decide) (Nat.le_of_ble_eq_true rfl) ?_
        refine t_cScribe_either_r e9 ?_
        refine z_if_eq 59 f_64_47 (by decide) (fun c10 => ?_) (fun c10 => ?_)
        · replace hd := ite_n c10 hd
          refine aAt.sub [(0, .ref 137)] rfl ?_
          exact t_cScribe_reads_J59 _  _ hd hQ
        · replace hd := ite_p c10 hd
          refine s_aload_n f_64_50 rfl ?_
          refine k_bipush (v := 19) f_64_51 (by decide) ?_
          replace hd := obind hd
          obtain ⟨p11, e11, hd⟩ := hd
          refine L_virt (As := [.int (19 : Int32)]) f_64_53 ca_7_43 rfl rfl (obL (by decide)) (by decide) (Nat.le_of_ble_eq_true rfl) ?_
          refine t_cScribe_passes e11 ?_
          refine z_if_ne 69 f_64_56 (by decide) (fun c12 => ?_) (fun c12 => ?_)
          · replace hd := ite_p c12 hd
            refine k_iinc (w := 1) f_64_69 rfl (by decide) (by decide) ?_
            refine s_goto 16 f_64_72 (by decide) ?_
            refine aAt.sub [(0, .ref 137), (1, .int (a1 + 1))] rfl ?_
            exact ih _ _  _ hd hQ
          · replace hd := ite_n c12 hd
            refine aAt.sub [(0, .ref 137)] rfl ?_
            exact t_cScribe_reads_J59 _  _ hd hQ
def cScribe_reads (S : SS) : Option (Int32 × SS) :=
  (cScribe_cut S).bind fun p1 =>
  cScribe_reads_L16 FU (up (up p1 137 5 (0 : Int32)) 137 7 (0 : Int32)) (0 : Int32)
theorem t_cScribe_reads {l : Launch} {G : aG} {d : Nat} {Q : Option Value → aHeap → Prop} {sl : Nat} {sx : Nat → Int32} {S : SS} {K : KS} {T : TS} {X : XS} {M : SS} {p : Int32 × SS} (hd : cScribe_reads S = some p) (hQ : Q (some (.int p.1)) (LH (old0 sl sx) p.2 K T X M)) : aCall l G (d + 125) 0 0 64 [.ref 137] (LH (old0 sl sx) S K T X M) Q := by
  refine aCall.of (by decide) (Nat.le_of_ble_eq_true rfl) ?_
  refine aAt.sub [(0, .ref 137)] rfl ?_
  unfold cScribe_reads at hd
  refine s_aload_n f_64_0 rfl ?_
  replace hd := obind hd
  obtain ⟨p1, e1, hd⟩ := hd
  refine L_virt (As := []) f_64_1 ca_7_40 rfl rfl (obL (by decide)) (by decide) (Nat.le_of_ble_eq_true rfl) ?_
  refine t_cScribe_cut e1 ?_
  refine s_aload_n f_64_4 rfl ?_
  refine k_iconst (v := 0) f_64_5 (by decide) ?_
  refine C_putI f_64_6 fd_7_28 (ocl (by decide)) (by decide) (Or.inl rfl) (by decide) ?_
  refine s_aload_n f_64_9 rfl ?_
  refine k_iconst (v := 0) f_64_10 (by decide) ?_
  refine C_putI f_64_11 fd_7_34 (ocl (by decide)) (by decide) (Or.inl rfl) (by decide) ?_
  refine k_iconst (v := 0) f_64_14 (by decide) ?_
  refine s_istore_n f_64_15 (by decide) ?_
  refine aAt.sub [(0, .ref 137), (1, .int (0 : Int32))] rfl ?_
  exact t_cScribe_reads_L16 FU _ _  _ hd hQ

def cLaw_begin (S : SS) (T : TS) (a0 : Nat) (a1 : Nat) (a2 : Int32) (a3 : Int32) : Option (SS × TS) :=
  some ((up (up S a0 1 a2) a0 2 a3), (upTT T a0 0 a1))
theorem t_cLaw_begin {l : Launch} {G : aG} {d : Nat} {Q : Option Value → aHeap → Prop} {sl : Nat} {sx : Nat → Int32} {S : SS} {K : KS} {T : TS} {X : XS} {M : SS} {a0 : Nat} {a1 : Nat} {a2 : Int32} {a3 : Int32} (ha0 : oc X.2 a0 4) {p : SS × TS} (hd : cLaw_begin S T a0 a1 a2 a3 = some p) (hQ : Q none (LH (old0 sl sx) p.1 K p.2 X M)) : aCall l G d 0 0 109 [.ref a0, tv a1, .int a2, .int a3] (LH (old0 sl sx) S K T X M) Q := by
  refine aCall.of (by decide) (by rcases tv_or a1 with h | ⟨q, h⟩ <;> rw [h] <;> exact Nat.le_of_ble_eq_true rfl) ?_
  refine aAt.sub [(0, .ref a0), (1, tv a1), (2, .int a2), (3, .int a3)] (by rcases tv_or a1 with h | ⟨q, h⟩ <;> rw [h] <;> rfl) ?_
  unfold cLaw_begin at hd
  refine s_aload_n f_109_0 rfl ?_
  refine s_aload_nT f_109_1 rfl ?_
  refine C_putT (t := a1) f_109_2 fd_4_7 ha0 (scl0 (k := X.2) ha0.1) rfl (by decide) ?_
  refine s_aload_n f_109_5 rfl ?_
  refine s_iload_n f_109_6 rfl ?_
  refine C_putI f_109_7 fd_4_13 ha0 (scl1 (k := X.2) ha0.1 (by decide)) (Or.inl rfl) (by decide) ?_
  refine s_aload_n f_109_10 rfl ?_
  refine s_iload_n f_109_11 rfl ?_
  refine C_putI f_109_12 fd_4_17 ha0 (scl1 (k := X.2) ha0.1 (by decide)) (Or.inl rfl) (by decide) ?_
  refine s_return f_109_15 rfl ?_
  cases hd
  exact hQ

def cD_force_J23 (S : SS) (T : TS) : Option (Int32 × SS × TS) :=
  (cD_found S (-100001 : Int32)).bind fun p3 =>
  some (p3.1, p3.2, T)
theorem t_cD_force_J23 {l : Launch} {G : aG} {d : Nat} {Q : Option Value → aHeap → Prop} {sl : Nat} {sx : Nat → Int32} {K : KS} {X : XS} {M : SS} : ∀ (S : SS) (T : TS) (p : Int32 × SS × TS), cD_force_J23 S T = some p → Q (some (.int p.1)) (LH (old0 sl sx) p.2.1 K p.2.2 X M) → aAt l G (d + 2) 0 0 108 23 [(0, .ref 8)] [] 0 0 (LH (old0 sl sx) S K T X M) Q := by
  intro S T p hd hQ
  unfold cD_force_J23 at hd
  refine s_aload_n f_108_23 rfl ?_
  refine s_ldc f_108_24 ko_0_83 ?_
  replace hd := obind hd
  obtain ⟨p3, e3, hd⟩ := hd
  refine L_virt (As := [.int (-100001 : Int32)]) f_108_26 ca_0_84 rfl rfl (obL (by decide)) (by decide) (Nat.le_of_ble_eq_true rfl) ?_
  refine t_cD_found e3 ?_
  refine s_ireturn f_108_29 rfl rfl ?_
  cases hd
  exact hQ
def cD_force (S : SS) (T : TS) (a1 : Int32) (a2 : Int32) (a3 : Int32) : Option (Int32 × SS × TS) :=
  (cD_within a1 (0 : Int32) (4 : Int32)).bind fun p1 =>
  if p1 = true then
    (cD_isBench a2).bind fun p4 =>
    if p4 = true then
      (cD_isYear a3).bind fun p6 =>
      if p6 = true then
        if inb a1 5 then
          if (T 14 (ix a1)) = 0 then
            (cD_found S (-100006 : Int32)).bind fun p14 =>
            some (p14.1, p14.2, T)
          else
            if (S 9 10) < (12 : Int32) then
              if inb (S 9 10) 12 then
                (cLaw_begin S T (59 + (ix (S 9 10))) (T 14 (ix a1)) a2 a3).bind fun p12 =>
                some ((p12.1 9 10), (up p12.1 9 10 ((p12.1 9 10) + (1 : Int32))), p12.2)
              else none
            else
              (cD_found S (-100005 : Int32)).bind fun p13 =>
              some (p13.1, p13.2, T)
        else none
      else
        cD_force_J23 S T
    else
      cD_force_J23 S T
  else
    cD_force_J23 S T
theorem t_cD_force {l : Launch} {G : aG} {d : Nat} {Q : Option Value → aHeap → Prop} {sl : Nat} {sx : Nat → Int32} {S : SS} {K : KS} {T : TS} {X : XS} {M : SS} {a1 : Int32} {a2 : Int32} {a3 : Int32} {p : Int32 × SS × TS} (hd : cD_force S T a1 a2 a3 = some p) (hQ : Q (some (.int p.1)) (LH (old0 sl sx) p.2.1 K p.2.2 X M)) : aCall l G (d + 2) 0 0 108 [.ref 8, .int a1, .int a2, .int a3] (LH (old0 sl sx) S K T X M) Q := by
  refine aCall.of (by decide) (Nat.le_of_ble_eq_true rfl) ?_
  refine aAt.sub [(0, .ref 8), (1, .int a1), (2, .int a2), (3, .int a3)] rfl ?_
  unfold cD_force at hd
  refine s_iload_n f_108_0 rfl ?_
  refine k_iconst (v := 0) f_108_1 (by decide) ?_
  refine k_iconst (v := 4) f_108_2 (by decide) ?_
  replace hd := obind hd
  obtain ⟨p1, e1, hd⟩ := hd
  refine L_stat (As := [.int a1, .int (0 : Int32), .int (4 : Int32)]) f_108_3 ca_0_75 rfl rfl (Nat.le_of_ble_eq_true rfl) ?_
  refine t_cD_within e1 ?_
  refine z_if_eq 23 f_108_6 (by decide) (fun c2 => ?_) (fun c2 => ?_)
  · replace hd := ite_n c2 hd
    refine aAt.sub [(0, .ref 8)] rfl ?_
    exact t_cD_force_J23 _ _  _ hd hQ
  · replace hd := ite_p c2 hd
    refine s_iload_n f_108_9 rfl ?_
    replace hd := obind hd
    obtain ⟨p4, e4, hd⟩ := hd
    refine L_stat (As := [.int a2]) f_108_10 ca_0_255 rfl rfl (Nat.le_of_ble_eq_true rfl) ?_
    refine t_cD_isBench e4 ?_
    refine z_if_eq 23 f_108_13 (by decide) (fun c5 => ?_) (fun c5 => ?_)
    · replace hd := ite_n c5 hd
      refine aAt.sub [(0, .ref 8)] rfl ?_
      exact t_cD_force_J23 _ _  _ hd hQ
    · replace hd := ite_p c5 hd
      refine s_iload_n f_108_16 rfl ?_
      replace hd := obind hd
      obtain ⟨p6, e6, hd⟩ := hd
      refine L_stat (As := [.int a3]) f_108_17 ca_0_262 rfl rfl (Nat.le_of_ble_eq_true rfl) ?_
      refine t_cD_isYear e6 ?_
      refine z_if_ne 30 f_108_20 (by decide) (fun c7 => ?_) (fun c7 => ?_)
      · replace hd := ite_p c7 hd
        refine s_aload_n f_108_30 rfl ?_
        refine L_getR f_108_31 fd_0_10 (obL (by decide)) (by decide) (by decide : rf 8 0 = 9) ?_
        refine L_getR f_108_34 fd_0_278 (obL (by decide)) (by decide) (by decide : rf 9 4 = 14) ?_
        refine s_iload_n f_108_37 rfl ?_
        replace hd := gd hd
        obtain ⟨g8, hd⟩ := hd
        refine C_aaloadT (n := 5) (q := (ix a1)) f_108_38 (ocl (by decide)) (rfl : ln X.1 14 = 5) (Nat.le_of_ble_eq_true rfl) rfl rfl g8 ?_
        refine s_ifnonnullT 49 f_108_39 (by decide) (fun c9 => ?_) (fun c9 => ?_)
        · replace hd := ite_n c9 hd
          refine s_aload_n f_108_49 rfl ?_
          refine L_getR f_108_50 fd_0_10 (obL (by decide)) (by decide) (by decide : rf 8 0 = 9) ?_
          refine C_getI f_108_53 fd_0_286 (ocl (by decide)) (by decide) ?_
          refine k_bipush (v := 12) f_108_56 (by decide) ?_
          refine s_icmp_lt 68 f_108_58 (by decide) (fun c10 => ?_) (fun c10 => ?_)
          · replace hd := ite_p c10 hd
            refine s_aload_n f_108_68 rfl ?_
            refine L_getR f_108_69 fd_0_10 (obL (by decide)) (by decide) (by decide : rf 8 0 = 9) ?_
            refine L_getR f_108_72 fd_0_289 (obL (by decide)) (by decide) (by decide : rf 9 3 = 13) ?_
            refine s_aload_n f_108_75 rfl ?_
            refine L_getR f_108_76 fd_0_10 (obL (by decide)) (by decide) (by decide : rf 8 0 = 9) ?_
            refine C_getI f_108_79 fd_0_286 (ocl (by decide)) (by decide) ?_
            replace hd := gd hd
            obtain ⟨g11, hd⟩ := hd
            refine L_aaload (ak := 33) (q := (ix (S 9 10))) f_108_82 (obL (by decide)) (by decide) (inb_nI g11) (inb_lt g11) (Nat.le_of_ble_eq_true rfl) (scLr (inb_lt g11)) (rfL (inb_lt g11)) ?_
            refine s_aload_n f_108_83 rfl ?_
            refine L_getR f_108_84 fd_0_10 (obL (by decide)) (by decide) (by decide : rf 8 0 = 9) ?_
            refine L_getR f_108_87 fd_0_278 (obL (by decide)) (by decide) (by decide : rf 9 4 = 14) ?_
            refine s_iload_n f_108_90 rfl ?_
            refine C_aaloadT (n := 5) (q := (ix a1)) f_108_91 (ocl (by decide)) (rfl : ln X.1 14 = 5) (Nat.le_of_ble_eq_true rfl) rfl rfl g8 ?_
            refine s_iload_n f_108_92 rfl ?_
            refine s_iload_n f_108_93 rfl ?_
            replace hd := obind hd
            obtain ⟨p12, e12, hd⟩ := hd
            refine L_virt (As := [tv (T 14 (ix a1)), .int a2, .int a3]) f_108_94 ca_0_293 rfl rfl (ocL_ g11).1 (by decide) (Nat.le_of_ble_eq_true rfl) ?_
            refine t_cLaw_begin (ocL_ g11) e12 ?_
            refine s_aload_n f_108_97 rfl ?_
            refine L_getR f_108_98 fd_0_10 (obL (by decide)) (by decide) (by decide : rf 8 0 = 9) ?_
            refine s_dup f_108_101 rfl ?_
            refine C_getI f_108_102 fd_0_286 (ocl (by decide)) (by decide) ?_
            refine s_dup_x1 f_108_105 rfl rfl ?_
            refine k_iconst (v := 1) f_108_106 (by decide) ?_
            refine s_iadd f_108_107 ?_
            refine C_putI f_108_108 fd_0_286 (ocl (by decide)) (by decide) (Or.inl rfl) (by decide) ?_
            refine s_ireturn f_108_111 rfl rfl ?_
            cases hd
            exact hQ
          · replace hd := ite_n c10 hd
            refine s_aload_n f_108_61 rfl ?_
            refine s_ldc f_108_62 ko_0_91 ?_
            replace hd := obind hd
            obtain ⟨p13, e13, hd⟩ := hd
            refine L_virt (As := [.int (-100005 : Int32)]) f_108_64 ca_0_84 rfl rfl (obL (by decide)) (by decide) (Nat.le_of_ble_eq_true rfl) ?_
            refine t_cD_found e13 ?_
            refine s_ireturn f_108_67 rfl rfl ?_
            cases hd
            exact hQ
        · replace hd := ite_p c9 hd
          refine s_aload_n f_108_42 rfl ?_
          refine s_ldc f_108_43 ko_0_182 ?_
          replace hd := obind hd
          obtain ⟨p14, e14, hd⟩ := hd
          refine L_virt (As := [.int (-100006 : Int32)]) f_108_45 ca_0_84 rfl rfl (obL (by decide)) (by decide) (Nat.le_of_ble_eq_true rfl) ?_
          refine t_cD_found e14 ?_
          refine s_ireturn f_108_48 rfl rfl ?_
          cases hd
          exact hQ
      · replace hd := ite_n c7 hd
        refine aAt.sub [(0, .ref 8)] rfl ?_
        exact t_cD_force_J23 _ _  _ hd hQ

def cLand_lawOf_J39 (S : SS) (k7 : Int32 → Int32 → Int32 → Option (Int32)) (a1 : Int32) (a2 : Int32) (a3 : Int32) : Option (Int32) :=
  k7 a1 a2 (a3 + (-1))
theorem t_cLand_lawOf_J39 {l : Launch} {G : aG} {d : Nat} {Q : Option Value → aHeap → Prop} {sl : Nat} {sx : Nat → Int32} {S : SS} {K : KS} {T : TS} {X : XS} {M : SS} {k7 : Int32 → Int32 → Int32 → Option (Int32)} (hk7 : ∀ (a1 : Int32) (a2 : Int32) (a3 : Int32) (p : Int32), k7 a1 a2 a3 = some p → Q (some (.int p)) (LH (old0 sl sx) S K T X M) → aAt l G d 0 0 111 7 [(0, .ref 9), (1, .int a1), (2, .int a2), (3, .int a3)] [] 0 0 (LH (old0 sl sx) S K T X M) Q) : ∀ (a1 : Int32) (a2 : Int32) (a3 : Int32) (p : Int32), cLand_lawOf_J39 S k7 a1 a2 a3 = some p → Q (some (.int p)) (LH (old0 sl sx) S K T X M) → aAt l G d 0 0 111 39 [(0, .ref 9), (1, .int a1), (2, .int a2), (3, .int a3)] [] 0 0 (LH (old0 sl sx) S K T X M) Q := by
  intro a1 a2 a3 p hd hQ
  unfold cLand_lawOf_J39 at hd
  refine k_iinc (w := (-1)) f_111_39 rfl (by decide) (by decide) ?_
  refine s_goto 7 f_111_42 (by decide) ?_
  refine aAt.sub [(0, .ref 9), (1, .int a1), (2, .int a2), (3, .int (a3 + (-1)))] rfl ?_
  exact hk7 _ _ _  _ hd hQ
def cLand_lawOf_L7 (S : SS) : Nat → Int32 → Int32 → Int32 → Option (Int32)
  | 0, _, _, _ => none
  | n + 1, a1, a2, a3 =>
    if a3 < 0 then
      some (-1 : Int32)
    else
      if inb a3 12 then
        if (S (59 + (ix a3)) 1) = a1 then
          if a2 < (S (59 + (ix a3)) 2) then
            cLand_lawOf_J39 S (cLand_lawOf_L7 S  n) a1 a2 a3
          else
            some a3
        else
          cLand_lawOf_J39 S (cLand_lawOf_L7 S  n) a1 a2 a3
      else none
theorem t_cLand_lawOf_L7 {l : Launch} {G : aG} {d : Nat} {Q : Option Value → aHeap → Prop} {sl : Nat} {sx : Nat → Int32} {S : SS} {K : KS} {T : TS} {X : XS} {M : SS} : ∀ (n : Nat), ∀ (a1 : Int32) (a2 : Int32) (a3 : Int32) (p : Int32), cLand_lawOf_L7 S n a1 a2 a3 = some p → Q (some (.int p)) (LH (old0 sl sx) S K T X M) → aAt l G d 0 0 111 7 [(0, .ref 9), (1, .int a1), (2, .int a2), (3, .int a3)] [] 0 0 (LH (old0 sl sx) S K T X M) Q := by
  intro n
  induction n with
  | zero =>
    intro a1 a2 a3 p hd hQ
    rw [cLand_lawOf_L7] at hd
    cases hd
  | succ n ih =>
    intro a1 a2 a3 p hd hQ
    rw [cLand_lawOf_L7] at hd
    refine s_iload_n f_111_7 rfl ?_
    refine s_if_lt 45 f_111_8 (by decide) (fun c1 => ?_) (fun c1 => ?_)
    · replace hd := ite_p c1 hd
      refine k_iconst (v := (-1)) f_111_45 (by decide) ?_
      refine s_ireturn f_111_46 rfl rfl ?_
      cases hd
      exact hQ
    · replace hd := ite_n c1 hd
      refine s_aload_n f_111_11 rfl ?_
      refine L_getR f_111_12 fd_3_31 (obL (by decide)) (by decide) (by decide : rf 9 3 = 13) ?_
      refine s_iload_n f_111_15 rfl ?_
      replace hd := gd hd
      obtain ⟨g2, hd⟩ := hd
      refine L_aaload (ak := 33) (q := (ix a3)) f_111_16 (obL (by decide)) (by decide) (inb_nI g2) (inb_lt g2) (Nat.le_of_ble_eq_true rfl) (scLr (inb_lt g2)) (rfL (inb_lt g2)) ?_
      refine C_getI f_111_17 fd_3_94 (ocL_ g2) (scl1 (k := X.2) (ocL_ g2).1 (by decide)) ?_
      refine s_iload_n f_111_20 rfl ?_
      refine s_icmp_ne 39 f_111_21 (by decide) (fun c3 => ?_) (fun c3 => ?_)
      · replace hd := ite_n c3 hd
        refine aAt.sub [(0, .ref 9), (1, .int a1), (2, .int a2), (3, .int a3)] rfl ?_
        exact t_cLand_lawOf_J39 ih _ _ _  _ hd hQ
      · replace hd := ite_p c3 hd
        refine s_aload_n f_111_24 rfl ?_
        refine L_getR f_111_25 fd_3_31 (obL (by decide)) (by decide) (by decide : rf 9 3 = 13) ?_
        refine s_iload_n f_111_28 rfl ?_
        refine L_aaload (ak := 33) (q := (ix a3)) f_111_29 (obL (by decide)) (by decide) (inb_nI g2) (inb_lt g2) (Nat.le_of_ble_eq_true rfl) (scLr (inb_lt g2)) (rfL (inb_lt g2)) ?_
        refine C_getI f_111_30 fd_3_97 (ocL_ g2) (scl1 (k := X.2) (ocL_ g2).1 (by decide)) ?_
        refine s_iload_n f_111_33 rfl ?_
        refine s_icmp_gt 39 f_111_34 (by decide) (fun c4 => ?_) (fun c4 => ?_)
        · replace hd := ite_p c4 hd
          refine aAt.sub [(0, .ref 9), (1, .int a1), (2, .int a2), (3, .int a3)] rfl ?_
          exact t_cLand_lawOf_J39 ih _ _ _  _ hd hQ
        · replace hd := ite_n c4 hd
          refine s_iload_n f_111_37 rfl ?_
          refine s_ireturn f_111_38 rfl rfl ?_
          cases hd
          exact hQ
def cLand_lawOf (S : SS) (a1 : Int32) (a2 : Int32) : Option (Int32) :=
  cLand_lawOf_L7 S FU a1 a2 ((S 9 10) - (1 : Int32))
theorem t_cLand_lawOf {l : Launch} {G : aG} {d : Nat} {Q : Option Value → aHeap → Prop} {sl : Nat} {sx : Nat → Int32} {S : SS} {K : KS} {T : TS} {X : XS} {M : SS} {a1 : Int32} {a2 : Int32} {p : Int32} (hd : cLand_lawOf S a1 a2 = some p) (hQ : Q (some (.int p)) (LH (old0 sl sx) S K T X M)) : aCall l G d 0 0 111 [.ref 9, .int a1, .int a2] (LH (old0 sl sx) S K T X M) Q := by
  refine aCall.of (by decide) (Nat.le_of_ble_eq_true rfl) ?_
  refine aAt.sub [(0, .ref 9), (1, .int a1), (2, .int a2)] rfl ?_
  unfold cLand_lawOf at hd
  refine s_aload_n f_111_0 rfl ?_
  refine C_getI f_111_1 fd_3_58 (ocl (by decide)) (by decide) ?_
  refine k_iconst (v := 1) f_111_4 (by decide) ?_
  refine s_isub f_111_5 ?_
  refine s_istore_n f_111_6 (by decide) ?_
  refine aAt.sub [(0, .ref 9), (1, .int a1), (2, .int a2), (3, .int ((S 9 10) - (1 : Int32)))] rfl ?_
  exact t_cLand_lawOf_L7 FU _ _ _  _ hd hQ

def cD_law_J14 (S : SS) : Option (Int32 × SS) :=
  (cD_found S (-100001 : Int32)).bind fun p3 =>
  some (p3.1, p3.2)
theorem t_cD_law_J14 {l : Launch} {G : aG} {d : Nat} {Q : Option Value → aHeap → Prop} {sl : Nat} {sx : Nat → Int32} {K : KS} {T : TS} {X : XS} {M : SS} : ∀ (S : SS) (p : Int32 × SS), cD_law_J14 S = some p → Q (some (.int p.1)) (LH (old0 sl sx) p.2 K T X M) → aAt l G (d + 2) 0 0 110 14 [(0, .ref 8)] [] 0 0 (LH (old0 sl sx) S K T X M) Q := by
  intro S p hd hQ
  unfold cD_law_J14 at hd
  refine s_aload_n f_110_14 rfl ?_
  refine s_ldc f_110_15 ko_0_83 ?_
  replace hd := obind hd
  obtain ⟨p3, e3, hd⟩ := hd
  refine L_virt (As := [.int (-100001 : Int32)]) f_110_17 ca_0_84 rfl rfl (obL (by decide)) (by decide) (Nat.le_of_ble_eq_true rfl) ?_
  refine t_cD_found e3 ?_
  refine s_ireturn f_110_20 rfl rfl ?_
  cases hd
  exact hQ
def cD_law (S : SS) (a1 : Int32) (a2 : Int32) : Option (Int32 × SS) :=
  (cD_isBench a1).bind fun p1 =>
  if p1 = true then
    (cD_isYear a2).bind fun p4 =>
    if p4 = true then
      (cLand_lawOf S a1 a2).bind fun p6 =>
      if p6 < 0 then
        (cD_found S (-100006 : Int32)).bind fun p8 =>
        some (p8.1, p8.2)
      else
        some (p6, S)
    else
      cD_law_J14 S
  else
    cD_law_J14 S
theorem t_cD_law {l : Launch} {G : aG} {d : Nat} {Q : Option Value → aHeap → Prop} {sl : Nat} {sx : Nat → Int32} {S : SS} {K : KS} {T : TS} {X : XS} {M : SS} {a1 : Int32} {a2 : Int32} {p : Int32 × SS} (hd : cD_law S a1 a2 = some p) (hQ : Q (some (.int p.1)) (LH (old0 sl sx) p.2 K T X M)) : aCall l G (d + 2) 0 0 110 [.ref 8, .int a1, .int a2] (LH (old0 sl sx) S K T X M) Q := by
  refine aCall.of (by decide) (Nat.le_of_ble_eq_true rfl) ?_
  refine aAt.sub [(0, .ref 8), (1, .int a1), (2, .int a2)] rfl ?_
  unfold cD_law at hd
  refine s_iload_n f_110_0 rfl ?_
  replace hd := obind hd
  obtain ⟨p1, e1, hd⟩ := hd
  refine L_stat (As := [.int a1]) f_110_1 ca_0_255 rfl rfl (Nat.le_of_ble_eq_true rfl) ?_
  refine t_cD_isBench e1 ?_
  refine z_if_eq 14 f_110_4 (by decide) (fun c2 => ?_) (fun c2 => ?_)
  · replace hd := ite_n c2 hd
    refine aAt.sub [(0, .ref 8)] rfl ?_
    exact t_cD_law_J14 _  _ hd hQ
  · replace hd := ite_p c2 hd
    refine s_iload_n f_110_7 rfl ?_
    replace hd := obind hd
    obtain ⟨p4, e4, hd⟩ := hd
    refine L_stat (As := [.int a2]) f_110_8 ca_0_262 rfl rfl (Nat.le_of_ble_eq_true rfl) ?_
    refine t_cD_isYear e4 ?_
    refine z_if_ne 21 f_110_11 (by decide) (fun c5 => ?_) (fun c5 => ?_)
    · replace hd := ite_p c5 hd
      refine s_aload_n f_110_21 rfl ?_
      refine L_getR f_110_22 fd_0_10 (obL (by decide)) (by decide) (by decide : rf 8 0 = 9) ?_
      refine s_iload_n f_110_25 rfl ?_
      refine s_iload_n f_110_26 rfl ?_
      replace hd := obind hd
      obtain ⟨p6, e6, hd⟩ := hd
      refine L_virt (As := [.int a1, .int a2]) f_110_27 ca_0_298 rfl rfl (obL (by decide)) (by decide) (Nat.le_of_ble_eq_true rfl) ?_
      refine t_cLand_lawOf e6 ?_
      refine s_istore_n f_110_30 (by decide) ?_
      refine s_iload_n f_110_31 rfl ?_
      refine s_if_lt 39 f_110_32 (by decide) (fun c7 => ?_) (fun c7 => ?_)
      · replace hd := ite_p c7 hd
        refine s_aload_n f_110_39 rfl ?_
        refine s_ldc f_110_40 ko_0_182 ?_
        replace hd := obind hd
        obtain ⟨p8, e8, hd⟩ := hd
        refine L_virt (As := [.int (-100006 : Int32)]) f_110_42 ca_0_84 rfl rfl (obL (by decide)) (by decide) (Nat.le_of_ble_eq_true rfl) ?_
        refine t_cD_found e8 ?_
        refine s_ireturn f_110_45 rfl rfl ?_
        cases hd
        exact hQ
      · replace hd := ite_n c7 hd
        refine s_iload_n f_110_35 rfl ?_
        refine s_goto 45 f_110_36 (by decide) ?_
        refine s_ireturn f_110_45 rfl rfl ?_
        cases hd
        exact hQ
    · replace hd := ite_n c5 hd
      refine aAt.sub [(0, .ref 8)] rfl ?_
      exact t_cD_law_J14 _  _ hd hQ

def cD_mayBeJudged (S : SS) (a1 : Int32) (a2 : Int32) (a3 : Int32) : Option (Bool) :=
  (cLand_hasPaper S a1).bind fun p1 =>
  if p1 = true then
    (cD_isBench a2).bind fun p3 =>
    if p3 = true then
      (cD_isYear a3).bind fun p5 =>
      if p5 = true then
        if inb a1 20 then
          if a3 < (S (39 + (ix a1)) 5) then
            some false
          else
            some true
        else none
      else
        some false
    else
      some false
  else
    some false
theorem t_cD_mayBeJudged {l : Launch} {G : aG} {d : Nat} {Q : Option Value → aHeap → Prop} {sl : Nat} {sx : Nat → Int32} {S : SS} {K : KS} {T : TS} {X : XS} {M : SS} {a1 : Int32} {a2 : Int32} {a3 : Int32} {p : Bool} (hd : cD_mayBeJudged S a1 a2 a3 = some p) (hQ : Q (some (.int (b2i p))) (LH (old0 sl sx) S K T X M)) : aCall l G (d + 2) 0 0 113 [.ref 8, .int a1, .int a2, .int a3] (LH (old0 sl sx) S K T X M) Q := by
  refine aCall.of (by decide) (Nat.le_of_ble_eq_true rfl) ?_
  refine aAt.sub [(0, .ref 8), (1, .int a1), (2, .int a2), (3, .int a3)] rfl ?_
  unfold cD_mayBeJudged at hd
  refine s_aload_n f_113_0 rfl ?_
  refine L_getR f_113_1 fd_0_10 (obL (by decide)) (by decide) (by decide : rf 8 0 = 9) ?_
  refine s_iload_n f_113_4 rfl ?_
  replace hd := obind hd
  obtain ⟨p1, e1, hd⟩ := hd
  refine L_virt (As := [.int a1]) f_113_5 ca_0_203 rfl rfl (obL (by decide)) (by decide) (Nat.le_of_ble_eq_true rfl) ?_
  refine t_cLand_hasPaper e1 ?_
  refine z_if_eq 45 f_113_8 (by decide) (fun c2 => ?_) (fun c2 => ?_)
  · replace hd := ite_n c2 hd
    refine k_iconst (v := 0) f_113_45 (by decide) ?_
    refine s_iretB (b := false) f_113_46 rfl ?_
    cases hd
    exact hQ
  · replace hd := ite_p c2 hd
    refine s_iload_n f_113_11 rfl ?_
    replace hd := obind hd
    obtain ⟨p3, e3, hd⟩ := hd
    refine L_stat (As := [.int a2]) f_113_12 ca_0_255 rfl rfl (Nat.le_of_ble_eq_true rfl) ?_
    refine t_cD_isBench e3 ?_
    refine z_if_eq 45 f_113_15 (by decide) (fun c4 => ?_) (fun c4 => ?_)
    · replace hd := ite_n c4 hd
      refine k_iconst (v := 0) f_113_45 (by decide) ?_
      refine s_iretB (b := false) f_113_46 rfl ?_
      cases hd
      exact hQ
    · replace hd := ite_p c4 hd
      refine s_iload_n f_113_18 rfl ?_
      replace hd := obind hd
      obtain ⟨p5, e5, hd⟩ := hd
      refine L_stat (As := [.int a3]) f_113_19 ca_0_262 rfl rfl (Nat.le_of_ble_eq_true rfl) ?_
      refine t_cD_isYear e5 ?_
      refine z_if_eq 45 f_113_22 (by decide) (fun c6 => ?_) (fun c6 => ?_)
      · replace hd := ite_n c6 hd
        refine k_iconst (v := 0) f_113_45 (by decide) ?_
        refine s_iretB (b := false) f_113_46 rfl ?_
        cases hd
        exact hQ
      · replace hd := ite_p c6 hd
        refine s_iload_n f_113_25 rfl ?_
        refine s_aload_n f_113_26 rfl ?_
        refine L_getR f_113_27 fd_0_10 (obL (by decide)) (by decide) (by decide : rf 8 0 = 9) ?_
        refine L_getR f_113_30 fd_0_206 (obL (by decide)) (by decide) (by decide : rf 9 2 = 12) ?_
        refine s_iload_n f_113_33 rfl ?_
        replace hd := gd hd
        obtain ⟨g7, hd⟩ := hd
        refine L_aaload (ak := 32) (q := (ix a1)) f_113_34 (obL (by decide)) (by decide) (inb_nI g7) (inb_lt g7) (Nat.le_of_ble_eq_true rfl) (scAr (inb_lt g7)) (rfA (inb_lt g7)) ?_
        refine C_getI f_113_35 fd_0_246 (ocA g7) (sck0 (k := X.2) (ocA g7).1 (by decide)) ?_
        refine s_icmp_lt 45 f_113_38 (by decide) (fun c8 => ?_) (fun c8 => ?_)
        · replace hd := ite_p c8 hd
          refine k_iconst (v := 0) f_113_45 (by decide) ?_
          refine s_iretB (b := false) f_113_46 rfl ?_
          cases hd
          exact hQ
        · replace hd := ite_n c8 hd
          refine k_iconst (v := 1) f_113_41 (by decide) ?_
          refine s_goto 46 f_113_42 (by decide) ?_
          refine s_iretB (b := true) f_113_46 rfl ?_
          cases hd
          exact hQ

def cCourt_tellField (S : SS) (a1 : Nat) : Option (SS) :=
  if ((up S 134 6 (S a1 1)) a1 3) = 0 ∨ ((up S 134 6 (S a1 1)) a1 3) = 1 then
    (cD_bit (decide (((up S 134 6 (S a1 1)) a1 3) = 1))).bind fun p2 =>
    some (up (up S 134 6 (S a1 1)) 134 9 p2)
  else none
theorem t_cCourt_tellField {l : Launch} {G : aG} {d : Nat} {Q : Option Value → aHeap → Prop} {sl : Nat} {sx : Nat → Int32} {S : SS} {K : KS} {T : TS} {X : XS} {M : SS} {a1 : Nat} (ha1 : oc X.2 a1 2) {p : SS} (hd : cCourt_tellField S a1 = some p) (hQ : Q none (LH (old0 sl sx) p K T X M)) : aCall l G (d + 1) 0 0 118 [.ref 133, .ref a1] (LH (old0 sl sx) S K T X M) Q := by
  refine aCall.of (by decide) (Nat.le_of_ble_eq_true rfl) ?_
  refine aAt.sub [(0, .ref 133), (1, .ref a1)] rfl ?_
  unfold cCourt_tellField at hd
  refine s_aload_n f_118_0 rfl ?_
  refine L_getR f_118_1 fd_1_11 (obL (by decide)) (by decide) (by decide : rf 133 1 = 134) ?_
  refine k_bipush (v := 6) f_118_4 (by decide) ?_
  refine s_aload_n f_118_6 rfl ?_
  refine C_getI f_118_7 fd_1_120 ha1 (sck0 (k := X.2) ha1.1 (by decide)) ?_
  refine C_iastore (n := 11) (q := 6) f_118_10 (ocl (by decide)) (rfl : ln X.1 134 = 11) (Nat.le_of_ble_eq_true rfl) (by decide) (by decide) ?_
  refine s_aload_n f_118_11 rfl ?_
  refine L_getR f_118_12 fd_1_11 (obL (by decide)) (by decide) (by decide : rf 133 1 = 134) ?_
  refine k_bipush (v := 9) f_118_15 (by decide) ?_
  refine s_aload_n f_118_17 rfl ?_
  refine C_getI f_118_18 fd_1_123 ha1 (sck0 (k := X.2) ha1.1 (by decide)) ?_
  replace hd := gd hd
  obtain ⟨g1, hd⟩ := hd
  refine aAt.stk [.int (b2i (decide (((up S 134 6 (S a1 1)) a1 3) = 1))), .int (9 : Int32), .ref 134] (by rw [← z01 g1] <;> rfl) ?_
  replace hd := obind hd
  obtain ⟨p2, e2, hd⟩ := hd
  refine L_statN (As := [.int (b2i (decide (((up S 134 6 (S a1 1)) a1 3) = 1)))]) f_118_21 ca_1_61 rfl rfl (Nat.le_of_ble_eq_true rfl) ?_
  refine t_cD_bit e2 ?_
  refine C_iastore (n := 11) (q := 9) f_118_24 (ocl (by decide)) (rfl : ln X.1 134 = 11) (Nat.le_of_ble_eq_true rfl) (by decide) (by decide) ?_
  refine s_return f_118_25 rfl ?_
  cases hd
  exact hQ

def cCourt_tellPaper_J100 (S : SS) (a1 : Nat) (w1 : Int32) (w2 : Bool) : Option (SS) :=
  (cD_bit w2).bind fun p4 =>
  if inb w1 11 then
    (cLand_hasField (up (up S 134 (ix w1) p4) 134 10 (((up S 134 (ix w1) p4) a1 6) - ((up S 134 (ix w1) p4) a1 5))) ((up (up S 134 (ix w1) p4) 134 10 (((up S 134 (ix w1) p4) a1 6) - ((up S 134 (ix w1) p4) a1 5))) a1 7)).bind fun p6 =>
    if p6 = true then
      if inb ((up (up S 134 (ix w1) p4) 134 10 (((up S 134 (ix w1) p4) a1 6) - ((up S 134 (ix w1) p4) a1 5))) a1 7) 8 then
        (cCourt_tellField (up (up S 134 (ix w1) p4) 134 10 (((up S 134 (ix w1) p4) a1 6) - ((up S 134 (ix w1) p4) a1 5))) (31 + (ix ((up (up S 134 (ix w1) p4) 134 10 (((up S 134 (ix w1) p4) a1 6) - ((up S 134 (ix w1) p4) a1 5))) a1 7)))).bind fun p9 =>
        some p9
      else none
    else
      some (up (up S 134 (ix w1) p4) 134 10 (((up S 134 (ix w1) p4) a1 6) - ((up S 134 (ix w1) p4) a1 5)))
  else none
theorem t_cCourt_tellPaper_J100 {l : Launch} {G : aG} {d : Nat} {Q : Option Value → aHeap → Prop} {sl : Nat} {sx : Nat → Int32} {K : KS} {T : TS} {X : XS} {M : SS} : ∀ (S : SS) (a1 : Nat) (w1 : Int32) (w2 : Bool) (_ : oc X.2 a1 5) (p : SS), cCourt_tellPaper_J100 S a1 w1 w2 = some p → Q none (LH (old0 sl sx) p K T X M) → aAt l G (d + 2) 0 0 117 100 [(0, .ref 133), (1, .ref a1)] [.int (b2i w2), .int w1, .ref 134] 0 0 (LH (old0 sl sx) S K T X M) Q := by
  intro S a1 w1 w2 ha1 p hd hQ
  unfold cCourt_tellPaper_J100 at hd
  replace hd := obind hd
  obtain ⟨p4, e4, hd⟩ := hd
  refine L_statN (As := [.int (b2i w2)]) f_117_100 ca_1_61 rfl rfl (Nat.le_of_ble_eq_true rfl) ?_
  refine t_cD_bit e4 ?_
  replace hd := gd hd
  obtain ⟨g5, hd⟩ := hd
  refine C_iastore (n := 11) (q := (ix w1)) f_117_103 (ocl (by decide)) (rfl : ln X.1 134 = 11) (Nat.le_of_ble_eq_true rfl) rfl g5 ?_
  refine s_aload_n f_117_104 rfl ?_
  refine L_getR f_117_105 fd_1_11 (obL (by decide)) (by decide) (by decide : rf 133 1 = 134) ?_
  refine k_bipush (v := 10) f_117_108 (by decide) ?_
  refine s_aload_n f_117_110 rfl ?_
  refine C_getI f_117_111 fd_1_106 ha1 (sck0 (k := X.2) ha1.1 (by decide)) ?_
  refine s_aload_n f_117_114 rfl ?_
  refine C_getI f_117_115 fd_1_87 ha1 (sck0 (k := X.2) ha1.1 (by decide)) ?_
  refine s_isub f_117_118 ?_
  refine C_iastore (n := 11) (q := 10) f_117_119 (ocl (by decide)) (rfl : ln X.1 134 = 11) (Nat.le_of_ble_eq_true rfl) (by decide) (by decide) ?_
  refine s_aload_n f_117_120 rfl ?_
  refine L_getR f_117_121 fd_1_20 (obL (by decide)) (by decide) (by decide : rf 133 0 = 9) ?_
  refine s_aload_n f_117_124 rfl ?_
  refine C_getI f_117_125 fd_1_109 ha1 (sck0 (k := X.2) ha1.1 (by decide)) ?_
  replace hd := obind hd
  obtain ⟨p6, e6, hd⟩ := hd
  refine L_virt (As := [.int ((up (up S 134 (ix w1) p4) 134 10 (((up S 134 (ix w1) p4) a1 6) - ((up S 134 (ix w1) p4) a1 5))) a1 7)]) f_117_128 ca_1_112 rfl rfl (obL (by decide)) (by decide) (Nat.le_of_ble_eq_true rfl) ?_
  refine t_cLand_hasField e6 ?_
  refine z_if_eq 150 f_117_131 (by decide) (fun c7 => ?_) (fun c7 => ?_)
  · replace hd := ite_n c7 hd
    refine s_return f_117_150 rfl ?_
    cases hd
    exact hQ
  · replace hd := ite_p c7 hd
    refine s_aload_n f_117_134 rfl ?_
    refine s_aload_n f_117_135 rfl ?_
    refine L_getR f_117_136 fd_1_20 (obL (by decide)) (by decide) (by decide : rf 133 0 = 9) ?_
    refine L_getR f_117_139 fd_1_116 (obL (by decide)) (by decide) (by decide : rf 9 1 = 11) ?_
    refine s_aload_n f_117_142 rfl ?_
    refine C_getI f_117_143 fd_1_109 ha1 (sck0 (k := X.2) ha1.1 (by decide)) ?_
    replace hd := gd hd
    obtain ⟨g8, hd⟩ := hd
    refine L_aaload (ak := 31) (q := (ix ((up (up S 134 (ix w1) p4) 134 10 (((up S 134 (ix w1) p4) a1 6) - ((up S 134 (ix w1) p4) a1 5))) a1 7))) f_117_146 (obL (by decide)) (by decide) (inb_nI g8) (inb_lt g8) (Nat.le_of_ble_eq_true rfl) (scFr (inb_lt g8)) (rfF (inb_lt g8)) ?_
    replace hd := obind hd
    obtain ⟨p9, e9, hd⟩ := hd
    refine L_virt (As := [.ref (31 + (ix ((up (up S 134 (ix w1) p4) 134 10 (((up S 134 (ix w1) p4) a1 6) - ((up S 134 (ix w1) p4) a1 5))) a1 7)))]) f_117_147 ca_1_65 rfl rfl (obL (by decide)) (by decide) (Nat.le_of_ble_eq_true rfl) ?_
    refine t_cCourt_tellField (ocF g8) e9 ?_
    refine s_return f_117_150 rfl ?_
    cases hd
    exact hQ
def cCourt_tellPaper_J95 (S : SS) (a1 : Nat) (w1 : Int32) : Option (SS) :=
  cCourt_tellPaper_J100 S a1 w1 true
theorem t_cCourt_tellPaper_J95 {l : Launch} {G : aG} {d : Nat} {Q : Option Value → aHeap → Prop} {sl : Nat} {sx : Nat → Int32} {K : KS} {T : TS} {X : XS} {M : SS} : ∀ (S : SS) (a1 : Nat) (w1 : Int32) (_ : oc X.2 a1 5) (p : SS), cCourt_tellPaper_J95 S a1 w1 = some p → Q none (LH (old0 sl sx) p K T X M) → aAt l G (d + 2) 0 0 117 95 [(0, .ref 133), (1, .ref a1)] [.int w1, .ref 134] 0 0 (LH (old0 sl sx) S K T X M) Q := by
  intro S a1 w1 ha1 p hd hQ
  unfold cCourt_tellPaper_J95 at hd
  refine k_iconst (v := 1) f_117_95 (by decide) ?_
  refine s_goto 100 f_117_96 (by decide) ?_
  refine aAt.sub [(0, .ref 133), (1, .ref a1)] rfl ?_
  exact t_cCourt_tellPaper_J100 _ _ _ _ ha1 _ hd hQ
def cCourt_tellPaper (S : SS) (a1 : Nat) (a2 : Int32) : Option (SS) :=
  (cPaper_owed (up S 134 1 (a2 - (S a1 5))) a1).bind fun p1 =>
  if inb ((up (up (up (up (up S 134 1 (a2 - (S a1 5))) 134 3 p1) 134 4 ((up (up S 134 1 (a2 - (S a1 5))) 134 3 p1) a1 4)) 134 5 ((up (up (up S 134 1 (a2 - (S a1 5))) 134 3 p1) 134 4 ((up (up S 134 1 (a2 - (S a1 5))) 134 3 p1) a1 4)) a1 3)) 134 7 ((up (up (up (up S 134 1 (a2 - (S a1 5))) 134 3 p1) 134 4 ((up (up S 134 1 (a2 - (S a1 5))) 134 3 p1) a1 4)) 134 5 ((up (up (up S 134 1 (a2 - (S a1 5))) 134 3 p1) 134 4 ((up (up S 134 1 (a2 - (S a1 5))) 134 3 p1) a1 4)) a1 3)) a1 8)) a1 1) 14 then
    if ((up (up (up (up (up S 134 1 (a2 - (S a1 5))) 134 3 p1) 134 4 ((up (up S 134 1 (a2 - (S a1 5))) 134 3 p1) a1 4)) 134 5 ((up (up (up S 134 1 (a2 - (S a1 5))) 134 3 p1) 134 4 ((up (up S 134 1 (a2 - (S a1 5))) 134 3 p1) a1 4)) a1 3)) 134 7 ((up (up (up (up S 134 1 (a2 - (S a1 5))) 134 3 p1) 134 4 ((up (up S 134 1 (a2 - (S a1 5))) 134 3 p1) a1 4)) 134 5 ((up (up (up S 134 1 (a2 - (S a1 5))) 134 3 p1) 134 4 ((up (up S 134 1 (a2 - (S a1 5))) 134 3 p1) a1 4)) a1 3)) a1 8)) (17 + (ix ((up (up (up (up (up S 134 1 (a2 - (S a1 5))) 134 3 p1) 134 4 ((up (up S 134 1 (a2 - (S a1 5))) 134 3 p1) a1 4)) 134 5 ((up (up (up S 134 1 (a2 - (S a1 5))) 134 3 p1) 134 4 ((up (up S 134 1 (a2 - (S a1 5))) 134 3 p1) a1 4)) a1 3)) 134 7 ((up (up (up (up S 134 1 (a2 - (S a1 5))) 134 3 p1) 134 4 ((up (up S 134 1 (a2 - (S a1 5))) 134 3 p1) a1 4)) 134 5 ((up (up (up S 134 1 (a2 - (S a1 5))) 134 3 p1) 134 4 ((up (up S 134 1 (a2 - (S a1 5))) 134 3 p1) a1 4)) a1 3)) a1 8)) a1 1))) 8) = 0 then
      if inb ((up (up (up (up (up S 134 1 (a2 - (S a1 5))) 134 3 p1) 134 4 ((up (up S 134 1 (a2 - (S a1 5))) 134 3 p1) a1 4)) 134 5 ((up (up (up S 134 1 (a2 - (S a1 5))) 134 3 p1) 134 4 ((up (up S 134 1 (a2 - (S a1 5))) 134 3 p1) a1 4)) a1 3)) 134 7 ((up (up (up (up S 134 1 (a2 - (S a1 5))) 134 3 p1) 134 4 ((up (up S 134 1 (a2 - (S a1 5))) 134 3 p1) a1 4)) 134 5 ((up (up (up S 134 1 (a2 - (S a1 5))) 134 3 p1) 134 4 ((up (up S 134 1 (a2 - (S a1 5))) 134 3 p1) a1 4)) a1 3)) a1 8)) a1 2) 14 then
        if ((up (up (up (up (up S 134 1 (a2 - (S a1 5))) 134 3 p1) 134 4 ((up (up S 134 1 (a2 - (S a1 5))) 134 3 p1) a1 4)) 134 5 ((up (up (up S 134 1 (a2 - (S a1 5))) 134 3 p1) 134 4 ((up (up S 134 1 (a2 - (S a1 5))) 134 3 p1) a1 4)) a1 3)) 134 7 ((up (up (up (up S 134 1 (a2 - (S a1 5))) 134 3 p1) 134 4 ((up (up S 134 1 (a2 - (S a1 5))) 134 3 p1) a1 4)) 134 5 ((up (up (up S 134 1 (a2 - (S a1 5))) 134 3 p1) 134 4 ((up (up S 134 1 (a2 - (S a1 5))) 134 3 p1) a1 4)) a1 3)) a1 8)) (17 + (ix ((up (up (up (up (up S 134 1 (a2 - (S a1 5))) 134 3 p1) 134 4 ((up (up S 134 1 (a2 - (S a1 5))) 134 3 p1) a1 4)) 134 5 ((up (up (up S 134 1 (a2 - (S a1 5))) 134 3 p1) 134 4 ((up (up S 134 1 (a2 - (S a1 5))) 134 3 p1) a1 4)) a1 3)) 134 7 ((up (up (up (up S 134 1 (a2 - (S a1 5))) 134 3 p1) 134 4 ((up (up S 134 1 (a2 - (S a1 5))) 134 3 p1) a1 4)) 134 5 ((up (up (up S 134 1 (a2 - (S a1 5))) 134 3 p1) 134 4 ((up (up S 134 1 (a2 - (S a1 5))) 134 3 p1) a1 4)) a1 3)) a1 8)) a1 2))) 8) = 0 then
          cCourt_tellPaper_J100 (up (up (up (up (up S 134 1 (a2 - (S a1 5))) 134 3 p1) 134 4 ((up (up S 134 1 (a2 - (S a1 5))) 134 3 p1) a1 4)) 134 5 ((up (up (up S 134 1 (a2 - (S a1 5))) 134 3 p1) 134 4 ((up (up S 134 1 (a2 - (S a1 5))) 134 3 p1) a1 4)) a1 3)) 134 7 ((up (up (up (up S 134 1 (a2 - (S a1 5))) 134 3 p1) 134 4 ((up (up S 134 1 (a2 - (S a1 5))) 134 3 p1) a1 4)) 134 5 ((up (up (up S 134 1 (a2 - (S a1 5))) 134 3 p1) 134 4 ((up (up S 134 1 (a2 - (S a1 5))) 134 3 p1) a1 4)) a1 3)) a1 8)) a1 (8 : Int32) false
        else
          cCourt_tellPaper_J95 (up (up (up (up (up S 134 1 (a2 - (S a1 5))) 134 3 p1) 134 4 ((up (up S 134 1 (a2 - (S a1 5))) 134 3 p1) a1 4)) 134 5 ((up (up (up S 134 1 (a2 - (S a1 5))) 134 3 p1) 134 4 ((up (up S 134 1 (a2 - (S a1 5))) 134 3 p1) a1 4)) a1 3)) 134 7 ((up (up (up (up S 134 1 (a2 - (S a1 5))) 134 3 p1) 134 4 ((up (up S 134 1 (a2 - (S a1 5))) 134 3 p1) a1 4)) 134 5 ((up (up (up S 134 1 (a2 - (S a1 5))) 134 3 p1) 134 4 ((up (up S 134 1 (a2 - (S a1 5))) 134 3 p1) a1 4)) a1 3)) a1 8)) a1 (8 : Int32)
      else none
    else
      cCourt_tellPaper_J95 (up (up (up (up (up S 134 1 (a2 - (S a1 5))) 134 3 p1) 134 4 ((up (up S 134 1 (a2 - (S a1 5))) 134 3 p1) a1 4)) 134 5 ((up (up (up S 134 1 (a2 - (S a1 5))) 134 3 p1) 134 4 ((up (up S 134 1 (a2 - (S a1 5))) 134 3 p1) a1 4)) a1 3)) 134 7 ((up (up (up (up S 134 1 (a2 - (S a1 5))) 134 3 p1) 134 4 ((up (up S 134 1 (a2 - (S a1 5))) 134 3 p1) a1 4)) 134 5 ((up (up (up S 134 1 (a2 - (S a1 5))) 134 3 p1) 134 4 ((up (up S 134 1 (a2 - (S a1 5))) 134 3 p1) a1 4)) a1 3)) a1 8)) a1 (8 : Int32)
  else none
theorem t_cCourt_tellPaper {l : Launch} {G : aG} {d : Nat} {Q : Option Value → aHeap → Prop} {sl : Nat} {sx : Nat → Int32} {S : SS} {K : KS} {T : TS} {X : XS} {M : SS} {a1 : Nat} {a2 : Int32} (ha1 : oc X.2 a1 5) {p : SS} (hd : cCourt_tellPaper S a1 a2 = some p) (hQ : Q none (LH (old0 sl sx) p K T X M)) : aCall l G (d + 2) 0 0 117 [.ref 133, .ref a1, .int a2] (LH (old0 sl sx) S K T X M) Q := by
  refine aCall.of (by decide) (Nat.le_of_ble_eq_true rfl) ?_
  refine aAt.sub [(0, .ref 133), (1, .ref a1), (2, .int a2)] rfl ?_
  unfold cCourt_tellPaper at hd
  refine s_aload_n f_117_0 rfl ?_
  refine L_getR f_117_1 fd_1_11 (obL (by decide)) (by decide) (by decide : rf 133 1 = 134) ?_
  refine k_iconst (v := 1) f_117_4 (by decide) ?_
  refine s_iload_n f_117_5 rfl ?_
  refine s_aload_n f_117_6 rfl ?_
  refine C_getI f_117_7 fd_1_87 ha1 (sck0 (k := X.2) ha1.1 (by decide)) ?_
  refine s_isub f_117_10 ?_
  refine C_iastore (n := 11) (q := 1) f_117_11 (ocl (by decide)) (rfl : ln X.1 134 = 11) (Nat.le_of_ble_eq_true rfl) (by decide) (by decide) ?_
  refine s_aload_n f_117_12 rfl ?_
  refine L_getR f_117_13 fd_1_11 (obL (by decide)) (by decide) (by decide : rf 133 1 = 134) ?_
  refine k_iconst (v := 3) f_117_16 (by decide) ?_
  refine s_aload_n f_117_17 rfl ?_
  replace hd := obind hd
  obtain ⟨p1, e1, hd⟩ := hd
  refine L_virt (As := []) f_117_18 ca_1_90 rfl rfl ha1.1 (by decide) (Nat.le_of_ble_eq_true rfl) ?_
  refine t_cPaper_owed ha1 e1 ?_
  refine C_iastore (n := 11) (q := 3) f_117_21 (ocl (by decide)) (rfl : ln X.1 134 = 11) (Nat.le_of_ble_eq_true rfl) (by decide) (by decide) ?_
  refine s_aload_n f_117_22 rfl ?_
  refine L_getR f_117_23 fd_1_11 (obL (by decide)) (by decide) (by decide : rf 133 1 = 134) ?_
  refine k_iconst (v := 4) f_117_26 (by decide) ?_
  refine s_aload_n f_117_27 rfl ?_
  refine C_getI f_117_28 fd_1_94 ha1 (sck0 (k := X.2) ha1.1 (by decide)) ?_
  refine C_iastore (n := 11) (q := 4) f_117_31 (ocl (by decide)) (rfl : ln X.1 134 = 11) (Nat.le_of_ble_eq_true rfl) (by decide) (by decide) ?_
  refine s_aload_n f_117_32 rfl ?_
  refine L_getR f_117_33 fd_1_11 (obL (by decide)) (by decide) (by decide : rf 133 1 = 134) ?_
  refine k_iconst (v := 5) f_117_36 (by decide) ?_
  refine s_aload_n f_117_37 rfl ?_
  refine C_getI f_117_38 fd_1_97 ha1 (sck0 (k := X.2) ha1.1 (by decide)) ?_
  refine C_iastore (n := 11) (q := 5) f_117_41 (ocl (by decide)) (rfl : ln X.1 134 = 11) (Nat.le_of_ble_eq_true rfl) (by decide) (by decide) ?_
  refine s_aload_n f_117_42 rfl ?_
  refine L_getR f_117_43 fd_1_11 (obL (by decide)) (by decide) (by decide : rf 133 1 = 134) ?_
  refine k_bipush (v := 7) f_117_46 (by decide) ?_
  refine s_aload_n f_117_48 rfl ?_
  refine C_getI f_117_49 fd_1_84 ha1 (sck0 (k := X.2) ha1.1 (by decide)) ?_
  refine C_iastore (n := 11) (q := 7) f_117_52 (ocl (by decide)) (rfl : ln X.1 134 = 11) (Nat.le_of_ble_eq_true rfl) (by decide) (by decide) ?_
  refine s_aload_n f_117_53 rfl ?_
  refine L_getR f_117_54 fd_1_11 (obL (by decide)) (by decide) (by decide : rf 133 1 = 134) ?_
  refine k_bipush (v := 8) f_117_57 (by decide) ?_
  refine s_aload_n f_117_59 rfl ?_
  refine L_getR f_117_60 fd_1_20 (obL (by decide)) (by decide) (by decide : rf 133 0 = 9) ?_
  refine L_getR f_117_63 fd_1_46 (obL (by decide)) (by decide) (by decide : rf 9 0 = 10) ?_
  refine s_aload_n f_117_66 rfl ?_
  refine C_getI f_117_67 fd_1_100 ha1 (sck0 (k := X.2) ha1.1 (by decide)) ?_
  replace hd := gd hd
  obtain ⟨g2, hd⟩ := hd
  refine L_aaload (ak := 30) (q := (ix ((up (up (up (up (up S 134 1 (a2 - (S a1 5))) 134 3 p1) 134 4 ((up (up S 134 1 (a2 - (S a1 5))) 134 3 p1) a1 4)) 134 5 ((up (up (up S 134 1 (a2 - (S a1 5))) 134 3 p1) 134 4 ((up (up S 134 1 (a2 - (S a1 5))) 134 3 p1) a1 4)) a1 3)) 134 7 ((up (up (up (up S 134 1 (a2 - (S a1 5))) 134 3 p1) 134 4 ((up (up S 134 1 (a2 - (S a1 5))) 134 3 p1) a1 4)) 134 5 ((up (up (up S 134 1 (a2 - (S a1 5))) 134 3 p1) 134 4 ((up (up S 134 1 (a2 - (S a1 5))) 134 3 p1) a1 4)) a1 3)) a1 8)) a1 1))) f_117_70 (obL (by decide)) (by decide) (inb_nI g2) (inb_lt g2) (Nat.le_of_ble_eq_true rfl) (scPr (inb_lt g2)) (rfP (inb_lt g2)) ?_
  refine C_getI f_117_71 fd_1_55 (ocP g2) (sck0 (k := X.2) (ocP g2).1 (by decide)) ?_
  refine s_if_ne 95 f_117_74 (by decide) (fun c3 => ?_) (fun c3 => ?_)
  · replace hd := ite_n c3 hd
    refine aAt.sub [(0, .ref 133), (1, .ref a1)] rfl ?_
    exact t_cCourt_tellPaper_J95 _ _ _ ha1 _ hd hQ
  · replace hd := ite_p c3 hd
    refine s_aload_n f_117_77 rfl ?_
    refine L_getR f_117_78 fd_1_20 (obL (by decide)) (by decide) (by decide : rf 133 0 = 9) ?_
    refine L_getR f_117_81 fd_1_46 (obL (by decide)) (by decide) (by decide : rf 9 0 = 10) ?_
    refine s_aload_n f_117_84 rfl ?_
    refine C_getI f_117_85 fd_1_103 ha1 (sck0 (k := X.2) ha1.1 (by decide)) ?_
    replace hd := gd hd
    obtain ⟨g10, hd⟩ := hd
    refine L_aaload (ak := 30) (q := (ix ((up (up (up (up (up S 134 1 (a2 - (S a1 5))) 134 3 p1) 134 4 ((up (up S 134 1 (a2 - (S a1 5))) 134 3 p1) a1 4)) 134 5 ((up (up (up S 134 1 (a2 - (S a1 5))) 134 3 p1) 134 4 ((up (up S 134 1 (a2 - (S a1 5))) 134 3 p1) a1 4)) a1 3)) 134 7 ((up (up (up (up S 134 1 (a2 - (S a1 5))) 134 3 p1) 134 4 ((up (up S 134 1 (a2 - (S a1 5))) 134 3 p1) a1 4)) 134 5 ((up (up (up S 134 1 (a2 - (S a1 5))) 134 3 p1) 134 4 ((up (up S 134 1 (a2 - (S a1 5))) 134 3 p1) a1 4)) a1 3)) a1 8)) a1 2))) f_117_88 (obL (by decide)) (by decide) (inb_nI g10) (inb_lt g10) (Nat.le_of_ble_eq_true rfl) (scPr (inb_lt g10)) (rfP (inb_lt g10)) ?_
    refine C_getI f_117_89 fd_1_55 (ocP g10) (sck0 (k := X.2) (ocP g10).1 (by decide)) ?_
    refine s_if_eq 99 f_117_92 (by decide) (fun c11 => ?_) (fun c11 => ?_)
    · replace hd := ite_p c11 hd
      refine k_iconst (v := 0) f_117_99 (by decide) ?_
      refine aAt.sub [(0, .ref 133), (1, .ref a1)] rfl ?_
      exact t_cCourt_tellPaper_J100 _ _ _ _ ha1 _ hd hQ
    · replace hd := ite_n c11 hd
      refine aAt.sub [(0, .ref 133), (1, .ref a1)] rfl ?_
      exact t_cCourt_tellPaper_J95 _ _ _ ha1 _ hd hQ
