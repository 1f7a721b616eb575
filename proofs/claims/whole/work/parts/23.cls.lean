def cText_to (S : SS) (X : XS) (a0 : Nat) (a1 : Int32) : Option (Int32) :=
  if a1 = 0 then
    some (S a0 1)
  else
    if a1 = (1 : Int32) then
      some (S a0 2)
    else
      some (nI (X.1 (a0 + 1)))
theorem t_cText_to {l : Launch} {G : aG} {d : Nat} {Q : Option Value → aHeap → Prop} {sl : Nat} {sx : Nat → Int32} {S : SS} {K : KS} {T : TS} {X : XS} {M : SS} {a0 : Nat} {a1 : Int32} (ha0 : tok X a0) {p : Int32} (hd : cText_to S X a0 a1 = some p) (hQ : Q (some (.int p)) (LH (old0 sl sx) S K T X M)) : aCall l G d 0 0 120 [.ref a0, .int a1] (LH (old0 sl sx) S K T X M) Q := by
  refine aCall.of (by decide) (Nat.le_of_ble_eq_true rfl) ?_
  refine aAt.sub [(0, .ref a0), (1, .int a1)] rfl ?_
  unfold cText_to at hd
  refine s_iload_n f_120_0 rfl ?_
  refine s_if_ne 11 f_120_1 (by decide) (fun c1 => ?_) (fun c1 => ?_)
  · replace hd := ite_n c1 hd
    refine s_iload_n f_120_11 rfl ?_
    refine k_iconst (v := 1) f_120_12 (by decide) ?_
    refine s_icmp_ne 23 f_120_13 (by decide) (fun c2 => ?_) (fun c2 => ?_)
    · replace hd := ite_n c2 hd
      refine s_aload_n f_120_23 rfl ?_
      refine L_getR f_120_24 fd_10_9 (oct ha0).1 (sct0 ha0) (rft0 ha0) ?_
      refine C_alen f_120_27 (octn ha0) (by decide) (lnt ha0) ?_
      refine s_ireturn f_120_28 rfl rfl ?_
      cases hd
      exact hQ
    · replace hd := ite_p c2 hd
      refine s_aload_n f_120_16 rfl ?_
      refine C_getI f_120_17 fd_10_19 (oct ha0) (sct1 ha0 (by decide)) ?_
      refine s_goto 28 f_120_20 (by decide) ?_
      refine s_ireturn f_120_28 rfl rfl ?_
      cases hd
      exact hQ
  · replace hd := ite_p c1 hd
    refine s_aload_n f_120_4 rfl ?_
    refine C_getI f_120_5 fd_10_15 (oct ha0) (sct1 ha0 (by decide)) ?_
    refine s_goto 28 f_120_8 (by decide) ?_
    refine s_ireturn f_120_28 rfl rfl ?_
    cases hd
    exact hQ

def cText_from (S : SS) (a0 : Nat) (a1 : Int32) : Option (Int32) :=
  if a1 = 0 then
    some (0 : Int32)
  else
    if a1 = (1 : Int32) then
      some (S a0 1)
    else
      some (S a0 2)
theorem t_cText_from {l : Launch} {G : aG} {d : Nat} {Q : Option Value → aHeap → Prop} {sl : Nat} {sx : Nat → Int32} {S : SS} {K : KS} {T : TS} {X : XS} {M : SS} {a0 : Nat} {a1 : Int32} (ha0 : tok X a0) {p : Int32} (hd : cText_from S a0 a1 = some p) (hQ : Q (some (.int p)) (LH (old0 sl sx) S K T X M)) : aCall l G d 0 0 121 [.ref a0, .int a1] (LH (old0 sl sx) S K T X M) Q := by
  refine aCall.of (by decide) (Nat.le_of_ble_eq_true rfl) ?_
  refine aAt.sub [(0, .ref a0), (1, .int a1)] rfl ?_
  unfold cText_from at hd
  refine s_iload_n f_121_0 rfl ?_
  refine s_if_ne 8 f_121_1 (by decide) (fun c1 => ?_) (fun c1 => ?_)
  · replace hd := ite_n c1 hd
    refine s_iload_n f_121_8 rfl ?_
    refine k_iconst (v := 1) f_121_9 (by decide) ?_
    refine s_icmp_ne 20 f_121_10 (by decide) (fun c2 => ?_) (fun c2 => ?_)
    · replace hd := ite_n c2 hd
      refine s_aload_n f_121_20 rfl ?_
      refine C_getI f_121_21 fd_10_19 (oct ha0) (sct1 ha0 (by decide)) ?_
      refine s_ireturn f_121_24 rfl rfl ?_
      cases hd
      exact hQ
    · replace hd := ite_p c2 hd
      refine s_aload_n f_121_13 rfl ?_
      refine C_getI f_121_14 fd_10_15 (oct ha0) (sct1 ha0 (by decide)) ?_
      refine s_goto 24 f_121_17 (by decide) ?_
      refine s_ireturn f_121_24 rfl rfl ?_
      cases hd
      exact hQ
  · replace hd := ite_p c1 hd
    refine k_iconst (v := 0) f_121_4 (by decide) ?_
    refine s_goto 24 f_121_5 (by decide) ?_
    refine s_ireturn f_121_24 rfl rfl ?_
    cases hd
    exact hQ

def cCourt_work_J73 (w0 : Bool) : Option (Int32) :=
  (cD_bit w0).bind fun p3 =>
  some p3
theorem t_cCourt_work_J73 {l : Launch} {G : aG} {d : Nat} {Q : Option Value → aHeap → Prop} {sl : Nat} {sx : Nat → Int32} {S : SS} {K : KS} {T : TS} {X : XS} {M : SS} : ∀ (w0 : Bool) (p : Int32), cCourt_work_J73 w0 = some p → Q (some (.int p)) (LH (old0 sl sx) S K T X M) → aAt l G (d + 1) 0 0 123 73 [] [.int (b2i w0)] 0 0 (LH (old0 sl sx) S K T X M) Q := by
  intro w0 p hd hQ
  unfold cCourt_work_J73 at hd
  replace hd := obind hd
  obtain ⟨p3, e3, hd⟩ := hd
  refine L_statN (As := [.int (b2i w0)]) f_123_73 ca_1_61 rfl rfl (Nat.le_of_ble_eq_true rfl) ?_
  refine t_cD_bit e3 ?_
  refine s_ireturn f_123_76 rfl rfl ?_
  cases hd
  exact hQ
def cCourt_work_J68 : Option (Int32) :=
  cCourt_work_J73 true
theorem t_cCourt_work_J68 {l : Launch} {G : aG} {d : Nat} {Q : Option Value → aHeap → Prop} {sl : Nat} {sx : Nat → Int32} {S : SS} {K : KS} {T : TS} {X : XS} {M : SS} : ∀ (p : Int32), cCourt_work_J68 = some p → Q (some (.int p)) (LH (old0 sl sx) S K T X M) → aAt l G (d + 1) 0 0 123 68 [] [] 0 0 (LH (old0 sl sx) S K T X M) Q := by
  intro p hd hQ
  unfold cCourt_work_J68 at hd
  refine k_iconst (v := 1) f_123_68 (by decide) ?_
  refine s_goto 73 f_123_69 (by decide) ?_
  refine aAt.sub [] rfl ?_
  exact t_cCourt_work_J73 _  _ hd hQ
def cCourt_work_J90 (w0 : Bool) : Option (Int32) :=
  (cD_bit w0).bind fun p7 =>
  some p7
theorem t_cCourt_work_J90 {l : Launch} {G : aG} {d : Nat} {Q : Option Value → aHeap → Prop} {sl : Nat} {sx : Nat → Int32} {S : SS} {K : KS} {T : TS} {X : XS} {M : SS} : ∀ (w0 : Bool) (p : Int32), cCourt_work_J90 w0 = some p → Q (some (.int p)) (LH (old0 sl sx) S K T X M) → aAt l G (d + 1) 0 0 123 90 [] [.int (b2i w0)] 0 0 (LH (old0 sl sx) S K T X M) Q := by
  intro w0 p hd hQ
  unfold cCourt_work_J90 at hd
  replace hd := obind hd
  obtain ⟨p7, e7, hd⟩ := hd
  refine L_statN (As := [.int (b2i w0)]) f_123_90 ca_1_61 rfl rfl (Nat.le_of_ble_eq_true rfl) ?_
  refine t_cD_bit e7 ?_
  refine s_ireturn f_123_93 rfl rfl ?_
  cases hd
  exact hQ
def cCourt_work_J89 : Option (Int32) :=
  cCourt_work_J90 false
theorem t_cCourt_work_J89 {l : Launch} {G : aG} {d : Nat} {Q : Option Value → aHeap → Prop} {sl : Nat} {sx : Nat → Int32} {S : SS} {K : KS} {T : TS} {X : XS} {M : SS} : ∀ (p : Int32), cCourt_work_J89 = some p → Q (some (.int p)) (LH (old0 sl sx) S K T X M) → aAt l G (d + 1) 0 0 123 89 [] [] 0 0 (LH (old0 sl sx) S K T X M) Q := by
  intro p hd hQ
  unfold cCourt_work_J89 at hd
  refine k_iconst (v := 0) f_123_89 (by decide) ?_
  refine aAt.sub [] rfl ?_
  exact t_cCourt_work_J90 _  _ hd hQ
def cCourt_work_J104 (w0 : Bool) : Option (Int32) :=
  (cD_bit w0).bind fun p17 =>
  some p17
theorem t_cCourt_work_J104 {l : Launch} {G : aG} {d : Nat} {Q : Option Value → aHeap → Prop} {sl : Nat} {sx : Nat → Int32} {S : SS} {K : KS} {T : TS} {X : XS} {M : SS} : ∀ (w0 : Bool) (p : Int32), cCourt_work_J104 w0 = some p → Q (some (.int p)) (LH (old0 sl sx) S K T X M) → aAt l G (d + 1) 0 0 123 104 [] [.int (b2i w0)] 0 0 (LH (old0 sl sx) S K T X M) Q := by
  intro w0 p hd hQ
  unfold cCourt_work_J104 at hd
  replace hd := obind hd
  obtain ⟨p17, e17, hd⟩ := hd
  refine L_statN (As := [.int (b2i w0)]) f_123_104 ca_1_61 rfl rfl (Nat.le_of_ble_eq_true rfl) ?_
  refine t_cD_bit e17 ?_
  refine s_ireturn f_123_107 rfl rfl ?_
  cases hd
  exact hQ
def cCourt_work_J118 (w0 : Bool) : Option (Int32) :=
  (cD_bit w0).bind fun p20 =>
  some p20
theorem t_cCourt_work_J118 {l : Launch} {G : aG} {d : Nat} {Q : Option Value → aHeap → Prop} {sl : Nat} {sx : Nat → Int32} {S : SS} {K : KS} {T : TS} {X : XS} {M : SS} : ∀ (w0 : Bool) (p : Int32), cCourt_work_J118 w0 = some p → Q (some (.int p)) (LH (old0 sl sx) S K T X M) → aAt l G (d + 1) 0 0 123 118 [] [.int (b2i w0)] 0 0 (LH (old0 sl sx) S K T X M) Q := by
  intro w0 p hd hQ
  unfold cCourt_work_J118 at hd
  replace hd := obind hd
  obtain ⟨p20, e20, hd⟩ := hd
  refine L_statN (As := [.int (b2i w0)]) f_123_118 ca_1_61 rfl rfl (Nat.le_of_ble_eq_true rfl) ?_
  refine t_cD_bit e20 ?_
  refine s_ireturn f_123_121 rfl rfl ?_
  cases hd
  exact hQ
def cCourt_work (a0 : Int32) (a1 : Int32) (a2 : Int32) : Option (Int32) :=
  if (a0 - (20000 : Int32)) = 14 then
    if a1 = 0 then
      if a2 = 0 then
        cCourt_work_J73 false
      else
        cCourt_work_J68 
    else
      cCourt_work_J68 
  else
    if (a0 - (20000 : Int32)) = 15 then
      if a1 = 0 then
        cCourt_work_J89 
      else
        if a2 = 0 then
          cCourt_work_J89 
        else
          cCourt_work_J90 true
    else
      if (a0 - (20000 : Int32)) = 16 then
        some (a1 - a2)
      else
        if (a0 - (20000 : Int32)) = 17 then
          some (a1 - a2)
        else
          if (a0 - (20000 : Int32)) = 18 then
            some (a1 - a2)
          else
            if (a0 - (20000 : Int32)) = 19 then
              some (a1 - a2)
            else
              if (a0 - (20000 : Int32)) = 20 then
                some (a1 + a2)
              else
                if (a0 - (20000 : Int32)) = 21 then
                  some (a1 - a2)
                else
                  if (a0 - (20000 : Int32)) = 22 then
                    if a2 ≤ a1 then
                      cCourt_work_J104 false
                    else
                      cCourt_work_J104 true
                  else
                    if (a0 - (20000 : Int32)) = 23 then
                      if a1 = a2 then
                        cCourt_work_J118 true
                      else
                        cCourt_work_J118 false
                    else
                      some (a1 - a2)
theorem t_cCourt_work {l : Launch} {G : aG} {d : Nat} {Q : Option Value → aHeap → Prop} {sl : Nat} {sx : Nat → Int32} {S : SS} {K : KS} {T : TS} {X : XS} {M : SS} {a0 : Int32} {a1 : Int32} {a2 : Int32} {p : Int32} (hd : cCourt_work a0 a1 a2 = some p) (hQ : Q (some (.int p)) (LH (old0 sl sx) S K T X M)) : aCall l G (d + 1) 0 0 123 [.int a0, .int a1, .int a2] (LH (old0 sl sx) S K T X M) Q := by
  refine aCall.of (by decide) (Nat.le_of_ble_eq_true rfl) ?_
  refine aAt.sub [(0, .int a0), (1, .int a1), (2, .int a2)] rfl ?_
  unfold cCourt_work at hd
  refine s_iload_n f_123_0 rfl ?_
  refine k_sipush (v := 20000) f_123_1 (by decide) ?_
  refine s_isub f_123_4 ?_
  by_cases c1 : (a0 - (20000 : Int32)) = 14
  · replace hd := ite_p c1 hd
    refine s_tabJ (off := 55) (14 : Int32) 60 c1 f_123_5 (by decide) (by decide) (by decide) (by decide) ?_
    refine s_iload_n f_123_60 rfl ?_
    refine s_if_ne 68 f_123_61 (by decide) (fun c2 => ?_) (fun c2 => ?_)
    · replace hd := ite_n c2 hd
      refine aAt.sub [] rfl ?_
      exact t_cCourt_work_J68   _ hd hQ
    · replace hd := ite_p c2 hd
      refine s_iload_n f_123_64 rfl ?_
      refine s_if_eq 72 f_123_65 (by decide) (fun c4 => ?_) (fun c4 => ?_)
      · replace hd := ite_p c4 hd
        refine k_iconst (v := 0) f_123_72 (by decide) ?_
        refine aAt.sub [] rfl ?_
        exact t_cCourt_work_J73 _  _ hd hQ
      · replace hd := ite_n c4 hd
        refine aAt.sub [] rfl ?_
        exact t_cCourt_work_J68   _ hd hQ
  replace hd := ite_n c1 hd
  by_cases c5 : (a0 - (20000 : Int32)) = 15
  · replace hd := ite_p c5 hd
    refine s_tabJ (off := 72) (15 : Int32) 77 c5 f_123_5 (by decide) (by decide) (by decide) (by decide) ?_
    refine s_iload_n f_123_77 rfl ?_
    refine s_if_eq 89 f_123_78 (by decide) (fun c6 => ?_) (fun c6 => ?_)
    · replace hd := ite_p c6 hd
      refine aAt.sub [] rfl ?_
      exact t_cCourt_work_J89   _ hd hQ
    · replace hd := ite_n c6 hd
      refine s_iload_n f_123_81 rfl ?_
      refine s_if_eq 89 f_123_82 (by decide) (fun c8 => ?_) (fun c8 => ?_)
      · replace hd := ite_p c8 hd
        refine aAt.sub [] rfl ?_
        exact t_cCourt_work_J89   _ hd hQ
      · replace hd := ite_n c8 hd
        refine k_iconst (v := 1) f_123_85 (by decide) ?_
        refine s_goto 90 f_123_86 (by decide) ?_
        refine aAt.sub [] rfl ?_
        exact t_cCourt_work_J90 _  _ hd hQ
  replace hd := ite_n c5 hd
  by_cases c9 : (a0 - (20000 : Int32)) = 16
  · replace hd := ite_p c9 hd
    refine s_tabJ (off := 121) (16 : Int32) 126 c9 f_123_5 (by decide) (by decide) (by decide) (by decide) ?_
    refine s_iload_n f_123_126 rfl ?_
    refine s_iload_n f_123_127 rfl ?_
    refine s_isub f_123_128 ?_
    refine s_ireturn f_123_129 rfl rfl ?_
    cases hd
    exact hQ
  replace hd := ite_n c9 hd
  by_cases c10 : (a0 - (20000 : Int32)) = 17
  · replace hd := ite_p c10 hd
    refine s_tabJ (off := 121) (17 : Int32) 126 c10 f_123_5 (by decide) (by decide) (by decide) (by decide) ?_
    refine s_iload_n f_123_126 rfl ?_
    refine s_iload_n f_123_127 rfl ?_
    refine s_isub f_123_128 ?_
    refine s_ireturn f_123_129 rfl rfl ?_
    cases hd
    exact hQ
  replace hd := ite_n c10 hd
  by_cases c11 : (a0 - (20000 : Int32)) = 18
  · replace hd := ite_p c11 hd
    refine s_tabJ (off := 121) (18 : Int32) 126 c11 f_123_5 (by decide) (by decide) (by decide) (by decide) ?_
    refine s_iload_n f_123_126 rfl ?_
    refine s_iload_n f_123_127 rfl ?_
    refine s_isub f_123_128 ?_
    refine s_ireturn f_123_129 rfl rfl ?_
    cases hd
    exact hQ
  replace hd := ite_n c11 hd
  by_cases c12 : (a0 - (20000 : Int32)) = 19
  · replace hd := ite_p c12 hd
    refine s_tabJ (off := 121) (19 : Int32) 126 c12 f_123_5 (by decide) (by decide) (by decide) (by decide) ?_
    refine s_iload_n f_123_126 rfl ?_
    refine s_iload_n f_123_127 rfl ?_
    refine s_isub f_123_128 ?_
    refine s_ireturn f_123_129 rfl rfl ?_
    cases hd
    exact hQ
  replace hd := ite_n c12 hd
  by_cases c13 : (a0 - (20000 : Int32)) = 20
  · replace hd := ite_p c13 hd
    refine s_tabJ (off := 117) (20 : Int32) 122 c13 f_123_5 (by decide) (by decide) (by decide) (by decide) ?_
    refine s_iload_n f_123_122 rfl ?_
    refine s_iload_n f_123_123 rfl ?_
    refine s_iadd f_123_124 ?_
    refine s_ireturn f_123_125 rfl rfl ?_
    cases hd
    exact hQ
  replace hd := ite_n c13 hd
  by_cases c14 : (a0 - (20000 : Int32)) = 21
  · replace hd := ite_p c14 hd
    refine s_tabJ (off := 121) (21 : Int32) 126 c14 f_123_5 (by decide) (by decide) (by decide) (by decide) ?_
    refine s_iload_n f_123_126 rfl ?_
    refine s_iload_n f_123_127 rfl ?_
    refine s_isub f_123_128 ?_
    refine s_ireturn f_123_129 rfl rfl ?_
    cases hd
    exact hQ
  replace hd := ite_n c14 hd
  by_cases c15 : (a0 - (20000 : Int32)) = 22
  · replace hd := ite_p c15 hd
    refine s_tabJ (off := 89) (22 : Int32) 94 c15 f_123_5 (by decide) (by decide) (by decide) (by decide) ?_
    refine s_iload_n f_123_94 rfl ?_
    refine s_iload_n f_123_95 rfl ?_
    refine s_icmp_ge 103 f_123_96 (by decide) (fun c16 => ?_) (fun c16 => ?_)
    · replace hd := ite_p c16 hd
      refine k_iconst (v := 0) f_123_103 (by decide) ?_
      refine aAt.sub [] rfl ?_
      exact t_cCourt_work_J104 _  _ hd hQ
    · replace hd := ite_n c16 hd
      refine k_iconst (v := 1) f_123_99 (by decide) ?_
      refine s_goto 104 f_123_100 (by decide) ?_
      refine aAt.sub [] rfl ?_
      exact t_cCourt_work_J104 _  _ hd hQ
  replace hd := ite_n c15 hd
  by_cases c18 : (a0 - (20000 : Int32)) = 23
  · replace hd := ite_p c18 hd
    refine s_tabJ (off := 103) (23 : Int32) 108 c18 f_123_5 (by decide) (by decide) (by decide) (by decide) ?_
    refine s_iload_n f_123_108 rfl ?_
    refine s_iload_n f_123_109 rfl ?_
    refine s_icmp_ne 117 f_123_110 (by decide) (fun c19 => ?_) (fun c19 => ?_)
    · replace hd := ite_n c19 hd
      refine k_iconst (v := 0) f_123_117 (by decide) ?_
      refine aAt.sub [] rfl ?_
      exact t_cCourt_work_J118 _  _ hd hQ
    · replace hd := ite_p c19 hd
      refine k_iconst (v := 1) f_123_113 (by decide) ?_
      refine s_goto 118 f_123_114 (by decide) ?_
      refine aAt.sub [] rfl ?_
      exact t_cCourt_work_J118 _  _ hd hQ
  replace hd := ite_n c18 hd
  refine s_tableOut 126 f_123_5 (sw_out (lo := 14) (n := 9) (by decide) (by decide) (fun j hj e => by
    have : j = 0 ∨ j = 1 ∨ j = 2 ∨ j = 3 ∨ j = 4 ∨ j = 5 ∨ j = 6 ∨ j = 7 ∨ j = 8 ∨ j = 9 := by omega
    rcases this with rfl | rfl | rfl | rfl | rfl | rfl | rfl | rfl | rfl | rfl
    · exact c1 (e.trans (by decide))
    · exact c5 (e.trans (by decide))
    · exact c9 (e.trans (by decide))
    · exact c10 (e.trans (by decide))
    · exact c11 (e.trans (by decide))
    · exact c12 (e.trans (by decide))
    · exact c13 (e.trans (by decide))
    · exact c14 (e.trans (by decide))
    · exact c15 (e.trans (by decide))
    · exact c18 (e.trans (by decide)))) (by decide) ?_
  refine s_iload_n f_123_126 rfl ?_
  refine s_iload_n f_123_127 rfl ?_
  refine s_isub f_123_128 ?_
  refine s_ireturn f_123_129 rfl rfl ?_
  cases hd
  exact hQ

def cCourt_valueOf (S : SS) (a1 : Int32) : Option (Int32) :=
  (cD_within (a1 - (10000 : Int32)) (0 : Int32) (10 : Int32)).bind fun p1 =>
  if p1 = true then
    if inb (a1 - (10000 : Int32)) 11 then
      some (S 134 (ix (a1 - (10000 : Int32))))
    else none
  else
    some a1
theorem t_cCourt_valueOf {l : Launch} {G : aG} {d : Nat} {Q : Option Value → aHeap → Prop} {sl : Nat} {sx : Nat → Int32} {S : SS} {K : KS} {T : TS} {X : XS} {M : SS} {a1 : Int32} {p : Int32} (hd : cCourt_valueOf S a1 = some p) (hQ : Q (some (.int p)) (LH (old0 sl sx) S K T X M)) : aCall l G (d + 1) 0 0 122 [.ref 133, .int a1] (LH (old0 sl sx) S K T X M) Q := by
  refine aCall.of (by decide) (Nat.le_of_ble_eq_true rfl) ?_
  refine aAt.sub [(0, .ref 133), (1, .int a1)] rfl ?_
  unfold cCourt_valueOf at hd
  refine s_iload_n f_122_0 rfl ?_
  refine k_sipush (v := 10000) f_122_1 (by decide) ?_
  refine s_isub f_122_4 ?_
  refine s_istore_n f_122_5 (by decide) ?_
  refine s_iload_n f_122_6 rfl ?_
  refine k_iconst (v := 0) f_122_7 (by decide) ?_
  refine k_bipush (v := 10) f_122_8 (by decide) ?_
  replace hd := obind hd
  obtain ⟨p1, e1, hd⟩ := hd
  refine L_statN (As := [.int (a1 - (10000 : Int32)), .int (0 : Int32), .int (10 : Int32)]) f_122_10 ca_1_161 rfl rfl (Nat.le_of_ble_eq_true rfl) ?_
  refine t_cD_within e1 ?_
  refine z_if_eq 25 f_122_13 (by decide) (fun c2 => ?_) (fun c2 => ?_)
  · replace hd := ite_n c2 hd
    refine s_iload_n f_122_25 rfl ?_
    refine s_ireturn f_122_26 rfl rfl ?_
    cases hd
    exact hQ
  · replace hd := ite_p c2 hd
    refine s_aload_n f_122_16 rfl ?_
    refine L_getR f_122_17 fd_1_11 (obL (by decide)) (by decide) (by decide : rf 133 1 = 134) ?_
    refine s_iload_n f_122_20 rfl ?_
    replace hd := gd hd
    obtain ⟨g3, hd⟩ := hd
    refine C_iaload (n := 11) (q := (ix (a1 - (10000 : Int32)))) f_122_21 (ocl (by decide)) (rfl : ln X.1 134 = 11) (Nat.le_of_ble_eq_true rfl) rfl g3 ?_
    refine s_goto 26 f_122_22 (by decide) ?_
    refine s_ireturn f_122_26 rfl rfl ?_
    cases hd
    exact hQ

def cCourt_comes_J208 (T : TS) (X : XS) (k70 : SS → Nat → Int32 → Int32 → Int32 → Option (Bool × SS)) (S : SS) (a5 : Nat) (a6 : Int32) (a7 : Int32) (a8 : Int32) : Option (Bool × SS) :=
  k70 S a5 a6 a7 (a8 + 1)
theorem t_cCourt_comes_J208 {l : Launch} {G : aG} {d : Nat} {Q : Option Value → aHeap → Prop} {sl : Nat} {sx : Nat → Int32} {K : KS} {T : TS} {X : XS} {M : SS} {k70 : SS → Nat → Int32 → Int32 → Int32 → Option (Bool × SS)} (hk70 : ∀ (S : SS) (a5 : Nat) (a6 : Int32) (a7 : Int32) (a8 : Int32) (p : Bool × SS), k70 S a5 a6 a7 a8 = some p → Q (some (.int (b2i p.1))) (LH (old0 sl sx) p.2 K T X M) → aAt l G (d + 2) 0 0 119 70 [(0, .ref 133), (5, tv a5), (6, .int a6), (7, .int a7), (8, .int a8)] [] 0 0 (LH (old0 sl sx) S K T X M) Q) : ∀ (S : SS) (a5 : Nat) (a6 : Int32) (a7 : Int32) (a8 : Int32) (p : Bool × SS), cCourt_comes_J208 T X k70 S a5 a6 a7 a8 = some p → Q (some (.int (b2i p.1))) (LH (old0 sl sx) p.2 K T X M) → aAt l G (d + 2) 0 0 119 208 [(0, .ref 133), (5, tv a5), (6, .int a6), (7, .int a7), (8, .int a8)] [] 0 0 (LH (old0 sl sx) S K T X M) Q := by
  intro S a5 a6 a7 a8 p hd hQ
  unfold cCourt_comes_J208 at hd
  refine k_iinc (w := 1) f_119_208 rfl (by decide) (by decide) ?_
  refine s_goto 70 f_119_211 (by decide) ?_
  refine aAt.sub [(0, .ref 133), (5, tv a5), (6, .int a6), (7, .int a7), (8, .int (a8 + 1))] (by (rcases tv_or a5 with h | ⟨q, h⟩ <;> rw [h]) <;> rfl) ?_
  exact hk70 _ _ _ _ _  _ hd hQ
def cCourt_comes_J162 (T : TS) (X : XS) (k70 : SS → Nat → Int32 → Int32 → Int32 → Option (Bool × SS)) (S : SS) (a5 : Nat) (a6 : Int32) (a7 : Int32) (a8 : Int32) (w1 : Int32) (w2 : Bool) : Option (Bool × SS) :=
  (cD_bit w2).bind fun p21 =>
  if inb w1 200 then
    cCourt_comes_J208 T X k70 (up S 135 (ix w1) p21) a5 a6 a7 a8
  else none
theorem t_cCourt_comes_J162 {l : Launch} {G : aG} {d : Nat} {Q : Option Value → aHeap → Prop} {sl : Nat} {sx : Nat → Int32} {K : KS} {T : TS} {X : XS} {M : SS} {k70 : SS → Nat → Int32 → Int32 → Int32 → Option (Bool × SS)} (hk70 : ∀ (S : SS) (a5 : Nat) (a6 : Int32) (a7 : Int32) (a8 : Int32) (p : Bool × SS), k70 S a5 a6 a7 a8 = some p → Q (some (.int (b2i p.1))) (LH (old0 sl sx) p.2 K T X M) → aAt l G (d + 2) 0 0 119 70 [(0, .ref 133), (5, tv a5), (6, .int a6), (7, .int a7), (8, .int a8)] [] 0 0 (LH (old0 sl sx) S K T X M) Q) : ∀ (S : SS) (a5 : Nat) (a6 : Int32) (a7 : Int32) (a8 : Int32) (w1 : Int32) (w2 : Bool) (p : Bool × SS), cCourt_comes_J162 T X k70 S a5 a6 a7 a8 w1 w2 = some p → Q (some (.int (b2i p.1))) (LH (old0 sl sx) p.2 K T X M) → aAt l G (d + 2) 0 0 119 162 [(0, .ref 133), (5, tv a5), (6, .int a6), (7, .int a7), (8, .int a8)] [.int (b2i w2), .int w1, .ref 135] 0 0 (LH (old0 sl sx) S K T X M) Q := by
  intro S a5 a6 a7 a8 w1 w2 p hd hQ
  unfold cCourt_comes_J162 at hd
  replace hd := obind hd
  obtain ⟨p21, e21, hd⟩ := hd
  refine L_statN (As := [.int (b2i w2)]) f_119_162 ca_1_61 rfl rfl (Nat.le_of_ble_eq_true rfl) ?_
  refine t_cD_bit e21 ?_
  replace hd := gd hd
  obtain ⟨g22, hd⟩ := hd
  refine C_iastore (n := 200) (q := (ix w1)) f_119_165 (ocl (by decide)) (rfl : ln X.1 135 = 200) (Nat.le_of_ble_eq_true rfl) rfl g22 ?_
  refine s_goto 208 f_119_166 (by decide) ?_
  refine aAt.sub [(0, .ref 133), (5, tv a5), (6, .int a6), (7, .int a7), (8, .int a8)] (by (rcases tv_or a5 with h | ⟨q, h⟩ <;> rw [h]) <;> rfl) ?_
  exact t_cCourt_comes_J208 hk70 _ _ _ _ _  _ hd hQ
def cCourt_comes_L70 (T : TS) (X : XS) : Nat → SS → Nat → Int32 → Int32 → Int32 → Option (Bool × SS)
  | 0, _, _, _, _, _ => none
  | n + 1, S, a5, a6, a7, a8 =>
    if a7 ≤ a8 then
      if a6 ≤ 0 then
        some (false, S)
      else
        if (S 135 0) = 0 then
          some (false, S)
        else
          some (true, S)
    else
      if tok X a5 then
        if inb a8 (X.1 (a5 + 1)) then
          if (20000 : Int32) ≤ (S (a5 + 1) (ix a8)) then
            if (S (a5 + 1) (ix a8)) = (20016 : Int32) then
              if a6 ≤ 0 then
                cCourt_comes_J208 T X (cCourt_comes_L70 T X  n) S a5 a6 a7 a8
              else
                if inb (a6 - (1 : Int32)) 200 then
                  if (S 135 (ix (a6 - (1 : Int32)))) = 0 then
                    cCourt_comes_J162 T X (cCourt_comes_L70 T X  n) S a5 a6 a7 a8 (a6 - (1 : Int32)) true
                  else
                    cCourt_comes_J162 T X (cCourt_comes_L70 T X  n) S a5 a6 a7 a8 (a6 - (1 : Int32)) false
                else none
            else
              if a6 ≤ (1 : Int32) then
                cCourt_comes_J208 T X (cCourt_comes_L70 T X  n) S a5 a6 a7 a8
              else
                if inb ((a6 + (-1)) - (1 : Int32)) 200 then
                  if inb (a6 + (-1)) 200 then
                    (cCourt_work (S (a5 + 1) (ix a8)) (S 135 (ix ((a6 + (-1)) - (1 : Int32)))) (S 135 (ix (a6 + (-1))))).bind fun p17 =>
                    cCourt_comes_J208 T X (cCourt_comes_L70 T X  n) (up S 135 (ix ((a6 + (-1)) - (1 : Int32))) p17) a5 (a6 + (-1)) a7 a8
                  else none
                else none
          else
            if (200 : Int32) ≤ a6 then
              cCourt_comes_J208 T X (cCourt_comes_L70 T X  n) S a5 a6 a7 a8
            else
              (cCourt_valueOf S (S (a5 + 1) (ix a8))).bind fun p24 =>
              if inb a6 200 then
                cCourt_comes_J208 T X (cCourt_comes_L70 T X  n) (up S 135 (ix a6) p24) a5 (a6 + 1) a7 a8
              else none
        else none
      else none
theorem t_cCourt_comes_L70 {l : Launch} {G : aG} {d : Nat} {Q : Option Value → aHeap → Prop} {sl : Nat} {sx : Nat → Int32} {K : KS} {T : TS} {X : XS} {M : SS} : ∀ (n : Nat), ∀ (S : SS) (a5 : Nat) (a6 : Int32) (a7 : Int32) (a8 : Int32) (p : Bool × SS), cCourt_comes_L70 T X n S a5 a6 a7 a8 = some p → Q (some (.int (b2i p.1))) (LH (old0 sl sx) p.2 K T X M) → aAt l G (d + 2) 0 0 119 70 [(0, .ref 133), (5, tv a5), (6, .int a6), (7, .int a7), (8, .int a8)] [] 0 0 (LH (old0 sl sx) S K T X M) Q := by
  intro n
  induction n with
  | zero =>
    intro S a5 a6 a7 a8 p hd hQ
    rw [cCourt_comes_L70] at hd
    cases hd
  | succ n ih =>
    intro S a5 a6 a7 a8 p hd hQ
    rw [cCourt_comes_L70] at hd
    refine s_iload f_119_70 rfl ?_
    refine s_iload f_119_72 rfl ?_
    refine s_icmp_ge 214 f_119_74 (by decide) (fun c7 => ?_) (fun c7 => ?_)
    · replace hd := ite_p c7 hd
      refine s_iload f_119_214 rfl ?_
      refine s_if_le 232 f_119_216 (by decide) (fun c8 => ?_) (fun c8 => ?_)
      · replace hd := ite_p c8 hd
        refine k_iconst (v := 0) f_119_232 (by decide) ?_
        refine s_iretB (b := false) f_119_233 rfl ?_
        cases hd
        exact hQ
      · replace hd := ite_n c8 hd
        refine s_aload_n f_119_219 rfl ?_
        refine L_getR f_119_220 fd_1_17 (obL (by decide)) (by decide) (by decide : rf 133 2 = 135) ?_
        refine k_iconst (v := 0) f_119_223 (by decide) ?_
        refine C_iaload (n := 200) (q := 0) f_119_224 (ocl (by decide)) (rfl : ln X.1 135 = 200) (Nat.le_of_ble_eq_true rfl) (by decide) (by decide) ?_
        refine s_if_eq 232 f_119_225 (by decide) (fun c9 => ?_) (fun c9 => ?_)
        · replace hd := ite_p c9 hd
          refine k_iconst (v := 0) f_119_232 (by decide) ?_
          refine s_iretB (b := false) f_119_233 rfl ?_
          cases hd
          exact hQ
        · replace hd := ite_n c9 hd
          refine k_iconst (v := 1) f_119_228 (by decide) ?_
          refine s_goto 233 f_119_229 (by decide) ?_
          refine s_iretB (b := true) f_119_233 rfl ?_
          cases hd
          exact hQ
    · replace hd := ite_n c7 hd
      refine s_aloadT f_119_77 rfl ?_
      replace hd := gd hd
      obtain ⟨g10, hd⟩ := hd
      refine aAt.stk [.ref a5] (by rw [tv1 (show ¬ a5 = 0 from by have := g10.1; omega)] <;> rfl) ?_
      refine L_getR f_119_79 fd_1_143 (oct g10).1 (sct0 g10) (rft0 g10) ?_
      refine s_iload f_119_82 rfl ?_
      replace hd := gd hd
      obtain ⟨g11, hd⟩ := hd
      refine C_iaload (q := (ix a8)) f_119_84 (octn g10) (lnt g10) (lnt2 g10) rfl g11 ?_
      refine s_istore f_119_85 (by decide) ?_
      refine s_iload f_119_87 rfl ?_
      refine k_sipush (v := 20000) f_119_89 (by decide) ?_
      refine s_icmp_ge 124 f_119_92 (by decide) (fun c12 => ?_) (fun c12 => ?_)
      · replace hd := ite_p c12 hd
        refine s_iload f_119_124 rfl ?_
        refine k_sipush (v := 20016) f_119_126 (by decide) ?_
        refine s_icmp_ne 169 f_119_129 (by decide) (fun c13 => ?_) (fun c13 => ?_)
        · replace hd := ite_n c13 hd
          refine s_iload f_119_169 rfl ?_
          refine k_iconst (v := 1) f_119_171 (by decide) ?_
          refine s_icmp_le 208 f_119_172 (by decide) (fun c14 => ?_) (fun c14 => ?_)
          · replace hd := ite_p c14 hd
            refine aAt.sub [(0, .ref 133), (5, tv a5), (6, .int a6), (7, .int a7), (8, .int a8)] (by (rcases tv_or a5 with h | ⟨q, h⟩ <;> rw [h]) <;> rfl) ?_
            exact t_cCourt_comes_J208 ih _ _ _ _ _  _ hd hQ
          · replace hd := ite_n c14 hd
            refine k_iinc (w := (-1)) f_119_175 rfl (by decide) (by decide) ?_
            refine s_aload_n f_119_178 rfl ?_
            refine L_getR f_119_179 fd_1_17 (obL (by decide)) (by decide) (by decide : rf 133 2 = 135) ?_
            refine s_iload f_119_182 rfl ?_
            refine k_iconst (v := 1) f_119_184 (by decide) ?_
            refine s_isub f_119_185 ?_
            refine s_iload f_119_186 rfl ?_
            refine s_aload_n f_119_188 rfl ?_
            refine L_getR f_119_189 fd_1_17 (obL (by decide)) (by decide) (by decide : rf 133 2 = 135) ?_
            refine s_iload f_119_192 rfl ?_
            refine k_iconst (v := 1) f_119_194 (by decide) ?_
            refine s_isub f_119_195 ?_
            replace hd := gd hd
            obtain ⟨g15, hd⟩ := hd
            refine C_iaload (n := 200) (q := (ix ((a6 + (-1)) - (1 : Int32)))) f_119_196 (ocl (by decide)) (rfl : ln X.1 135 = 200) (Nat.le_of_ble_eq_true rfl) rfl g15 ?_
            refine s_aload_n f_119_197 rfl ?_
            refine L_getR f_119_198 fd_1_17 (obL (by decide)) (by decide) (by decide : rf 133 2 = 135) ?_
            refine s_iload f_119_201 rfl ?_
            replace hd := gd hd
            obtain ⟨g16, hd⟩ := hd
            refine C_iaload (n := 200) (q := (ix (a6 + (-1)))) f_119_203 (ocl (by decide)) (rfl : ln X.1 135 = 200) (Nat.le_of_ble_eq_true rfl) rfl g16 ?_
            replace hd := obind hd
            obtain ⟨p17, e17, hd⟩ := hd
            refine L_stat (As := [.int (S (a5 + 1) (ix a8)), .int (S 135 (ix ((a6 + (-1)) - (1 : Int32)))), .int (S 135 (ix (a6 + (-1))))]) f_119_204 ca_1_157 rfl rfl (Nat.le_of_ble_eq_true rfl) ?_
            refine t_cCourt_work e17 ?_
            refine C_iastore (n := 200) (q := (ix ((a6 + (-1)) - (1 : Int32)))) f_119_207 (ocl (by decide)) (rfl : ln X.1 135 = 200) (Nat.le_of_ble_eq_true rfl) rfl g15 ?_
            refine aAt.sub [(0, .ref 133), (5, tv a5), (6, .int (a6 + (-1))), (7, .int a7), (8, .int a8)] (by (rcases tv_or a5 with h | ⟨q, h⟩ <;> rw [h]) <;> rfl) ?_
            exact t_cCourt_comes_J208 ih _ _ _ _ _  _ hd hQ
        · replace hd := ite_p c13 hd
          refine s_iload f_119_132 rfl ?_
          refine s_if_le 208 f_119_134 (by decide) (fun c18 => ?_) (fun c18 => ?_)
          · replace hd := ite_p c18 hd
            refine aAt.sub [(0, .ref 133), (5, tv a5), (6, .int a6), (7, .int a7), (8, .int a8)] (by (rcases tv_or a5 with h | ⟨q, h⟩ <;> rw [h]) <;> rfl) ?_
            exact t_cCourt_comes_J208 ih _ _ _ _ _  _ hd hQ
          · replace hd := ite_n c18 hd
            refine s_aload_n f_119_137 rfl ?_
            refine L_getR f_119_138 fd_1_17 (obL (by decide)) (by decide) (by decide : rf 133 2 = 135) ?_
            refine s_iload f_119_141 rfl ?_
            refine k_iconst (v := 1) f_119_143 (by decide) ?_
            refine s_isub f_119_144 ?_
            refine s_aload_n f_119_145 rfl ?_
            refine L_getR f_119_146 fd_1_17 (obL (by decide)) (by decide) (by decide : rf 133 2 = 135) ?_
            refine s_iload f_119_149 rfl ?_
            refine k_iconst (v := 1) f_119_151 (by decide) ?_
            refine s_isub f_119_152 ?_
            replace hd := gd hd
            obtain ⟨g19, hd⟩ := hd
            refine C_iaload (n := 200) (q := (ix (a6 - (1 : Int32)))) f_119_153 (ocl (by decide)) (rfl : ln X.1 135 = 200) (Nat.le_of_ble_eq_true rfl) rfl g19 ?_
            refine s_if_ne 161 f_119_154 (by decide) (fun c20 => ?_) (fun c20 => ?_)
            · replace hd := ite_n c20 hd
              refine k_iconst (v := 0) f_119_161 (by decide) ?_
              refine aAt.sub [(0, .ref 133), (5, tv a5), (6, .int a6), (7, .int a7), (8, .int a8)] (by (rcases tv_or a5 with h | ⟨q, h⟩ <;> rw [h]) <;> rfl) ?_
              exact t_cCourt_comes_J162 ih _ _ _ _ _ _ _  _ hd hQ
            · replace hd := ite_p c20 hd
              refine k_iconst (v := 1) f_119_157 (by decide) ?_
              refine s_goto 162 f_119_158 (by decide) ?_
              refine aAt.sub [(0, .ref 133), (5, tv a5), (6, .int a6), (7, .int a7), (8, .int a8)] (by (rcases tv_or a5 with h | ⟨q, h⟩ <;> rw [h]) <;> rfl) ?_
              exact t_cCourt_comes_J162 ih _ _ _ _ _ _ _  _ hd hQ
      · replace hd := ite_n c12 hd
        refine s_iload f_119_95 rfl ?_
        refine s_aload_n f_119_97 rfl ?_
        refine L_getR f_119_98 fd_1_17 (obL (by decide)) (by decide) (by decide : rf 133 2 = 135) ?_
        refine L_alen (ak := 20) f_119_101 (obL (by decide)) (by decide) (rfl : ln _ 135 = 200) ?_
        refine s_icmp_ge 208 f_119_102 (by decide) (fun c23 => ?_) (fun c23 => ?_)
        · replace hd := ite_p c23 hd
          refine aAt.sub [(0, .ref 133), (5, tv a5), (6, .int a6), (7, .int a7), (8, .int a8)] (by (rcases tv_or a5 with h | ⟨q, h⟩ <;> rw [h]) <;> rfl) ?_
          exact t_cCourt_comes_J208 ih _ _ _ _ _  _ hd hQ
        · replace hd := ite_n c23 hd
          refine s_aload_n f_119_105 rfl ?_
          refine L_getR f_119_106 fd_1_17 (obL (by decide)) (by decide) (by decide : rf 133 2 = 135) ?_
          refine s_iload f_119_109 rfl ?_
          refine s_aload_n f_119_111 rfl ?_
          refine s_iload f_119_112 rfl ?_
          replace hd := obind hd
          obtain ⟨p24, e24, hd⟩ := hd
          refine L_virt (As := [.int (S (a5 + 1) (ix a8))]) f_119_114 ca_1_154 rfl rfl (obL (by decide)) (by decide) (Nat.le_of_ble_eq_true rfl) ?_
          refine t_cCourt_valueOf e24 ?_
          replace hd := gd hd
          obtain ⟨g25, hd⟩ := hd
          refine C_iastore (n := 200) (q := (ix a6)) f_119_117 (ocl (by decide)) (rfl : ln X.1 135 = 200) (Nat.le_of_ble_eq_true rfl) rfl g25 ?_
          refine k_iinc (w := 1) f_119_118 rfl (by decide) (by decide) ?_
          refine s_goto 208 f_119_121 (by decide) ?_
          refine aAt.sub [(0, .ref 133), (5, tv a5), (6, .int (a6 + 1)), (7, .int a7), (8, .int a8)] (by (rcases tv_or a5 with h | ⟨q, h⟩ <;> rw [h]) <;> rfl) ?_
          exact t_cCourt_comes_J208 ih _ _ _ _ _  _ hd hQ
def cCourt_comes_J33 (T : TS) (X : XS) (S : SS) (a1 : Int32) (w0 : Nat) : Option (Bool × SS) :=
  if w0 = 0 then
    some (false, S)
  else
    if tok X w0 then
      (cText_to S X w0 a1).bind fun p5 =>
      (cText_from S w0 a1).bind fun p6 =>
      cCourt_comes_L70 T X FU S w0 (0 : Int32) (if (nI (X.1 (w0 + 1))) < p5 then (nI (X.1 (w0 + 1))) else p5) p6
    else none
theorem t_cCourt_comes_J33 {l : Launch} {G : aG} {d : Nat} {Q : Option Value → aHeap → Prop} {sl : Nat} {sx : Nat → Int32} {K : KS} {T : TS} {X : XS} {M : SS} : ∀ (S : SS) (a1 : Int32) (w0 : Nat) (p : Bool × SS), cCourt_comes_J33 T X S a1 w0 = some p → Q (some (.int (b2i p.1))) (LH (old0 sl sx) p.2 K T X M) → aAt l G (d + 2) 0 0 119 33 [(0, .ref 133), (1, .int a1)] [tv w0] 0 0 (LH (old0 sl sx) S K T X M) Q := by
  intro S a1 w0 p hd hQ
  unfold cCourt_comes_J33 at hd
  refine s_astoreT f_119_33 (by decide) ?_
  refine s_aloadT f_119_35 rfl ?_
  refine s_ifnonnullT 42 f_119_37 (by decide) (fun c3 => ?_) (fun c3 => ?_)
  · replace hd := ite_n c3 hd
    refine k_iconst (v := 0) f_119_42 (by decide) ?_
    refine s_istore f_119_43 (by decide) ?_
    refine aAt.sub [(0, .ref 133), (1, .int a1), (5, tv w0), (6, .int (0 : Int32))] (by rcases tv_or w0 with h | ⟨q, h⟩ <;> rw [h] <;> rfl) ?_
    refine s_aloadT f_119_45 rfl ?_
    refine s_iload_n f_119_47 rfl ?_
    replace hd := gd hd
    obtain ⟨g4, hd⟩ := hd
    refine aAt.stk [.int a1, .ref w0] (by rw [tv1 (show ¬ w0 = 0 from by have := g4.1; omega)] <;> rfl) ?_
    replace hd := obind hd
    obtain ⟨p5, e5, hd⟩ := hd
    refine L_virt (As := [.int a1]) f_119_48 ca_1_139 rfl rfl (oct g4).1 (by decide) (Nat.le_of_ble_eq_true rfl) ?_
    refine t_cText_to g4 e5 ?_
    refine s_aloadT f_119_51 rfl ?_
    refine aAt.stk [.ref w0, .int p5] (by rw [tv1 (show ¬ w0 = 0 from by have := g4.1; omega)] <;> rfl) ?_
    refine L_getR f_119_53 fd_1_143 (oct g4).1 (sct0 g4) (rft0 g4) ?_
    refine C_alen f_119_56 (octn g4) (by decide) (lnt g4) ?_
    refine s_min f_119_57 ca_1_146 (Nat.le_of_ble_eq_true rfl) ?_
    refine s_istore f_119_60 (by decide) ?_
    refine s_aloadT f_119_62 rfl ?_
    refine s_iload_n f_119_64 rfl ?_
    refine aAt.stk [.int a1, .ref w0] (by rw [tv1 (show ¬ w0 = 0 from by have := g4.1; omega)] <;> rfl) ?_
    replace hd := obind hd
    obtain ⟨p6, e6, hd⟩ := hd
    refine L_virt (As := [.int a1]) f_119_65 ca_1_151 rfl rfl (oct g4).1 (by decide) (Nat.le_of_ble_eq_true rfl) ?_
    refine t_cText_from g4 e6 ?_
    refine s_istore f_119_68 (by decide) ?_
    refine aAt.sub [(0, .ref 133), (5, tv w0), (6, .int (0 : Int32)), (7, .int (if (nI (X.1 (w0 + 1))) < p5 then (nI (X.1 (w0 + 1))) else p5)), (8, .int p6)] (by (rcases tv_or w0 with h | ⟨q, h⟩ <;> rw [h]) <;> rfl) ?_
    exact t_cCourt_comes_L70 FU _ _ _ _ _  _ hd hQ
  · replace hd := ite_p c3 hd
    refine k_iconst (v := 0) f_119_40 (by decide) ?_
    refine s_iretB (b := false) f_119_41 rfl ?_
    cases hd
    exact hQ
def cCourt_comes (S : SS) (T : TS) (X : XS) (a1 : Int32) (a2 : Int32) (a3 : Int32) : Option (Bool × SS) :=
  (cLand_lawOf S a2 a3).bind fun p1 =>
  if p1 < 0 then
    cCourt_comes_J33 T X S a1 0
  else
    if inb p1 12 then
      cCourt_comes_J33 T X S a1 (T (59 + (ix p1)) 0)
    else none
theorem t_cCourt_comes {l : Launch} {G : aG} {d : Nat} {Q : Option Value → aHeap → Prop} {sl : Nat} {sx : Nat → Int32} {S : SS} {K : KS} {T : TS} {X : XS} {M : SS} {a1 : Int32} {a2 : Int32} {a3 : Int32} {p : Bool × SS} (hd : cCourt_comes S T X a1 a2 a3 = some p) (hQ : Q (some (.int (b2i p.1))) (LH (old0 sl sx) p.2 K T X M)) : aCall l G (d + 2) 0 0 119 [.ref 133, .int a1, .int a2, .int a3] (LH (old0 sl sx) S K T X M) Q := by
  refine aCall.of (by decide) (Nat.le_of_ble_eq_true rfl) ?_
  refine aAt.sub [(0, .ref 133), (1, .int a1), (2, .int a2), (3, .int a3)] rfl ?_
  unfold cCourt_comes at hd
  refine s_aload_n f_119_0 rfl ?_
  refine L_getR f_119_1 fd_1_20 (obL (by decide)) (by decide) (by decide : rf 133 0 = 9) ?_
  refine s_iload_n f_119_4 rfl ?_
  refine s_iload_n f_119_5 rfl ?_
  replace hd := obind hd
  obtain ⟨p1, e1, hd⟩ := hd
  refine L_virt (As := [.int a2, .int a3]) f_119_6 ca_1_126 rfl rfl (obL (by decide)) (by decide) (Nat.le_of_ble_eq_true rfl) ?_
  refine t_cLand_lawOf e1 ?_
  refine s_istore f_119_9 (by decide) ?_
  refine s_iload f_119_11 rfl ?_
  refine s_if_lt 32 f_119_13 (by decide) (fun c2 => ?_) (fun c2 => ?_)
  · replace hd := ite_p c2 hd
    refine s_null f_119_32 ?_
    refine aAt.sub [(0, .ref 133), (1, .int a1)] rfl ?_
    exact t_cCourt_comes_J33 _ _ _  _ hd hQ
  · replace hd := ite_n c2 hd
    refine s_aload_n f_119_16 rfl ?_
    refine L_getR f_119_17 fd_1_20 (obL (by decide)) (by decide) (by decide : rf 133 0 = 9) ?_
    refine L_getR f_119_20 fd_1_129 (obL (by decide)) (by decide) (by decide : rf 9 3 = 13) ?_
    refine s_iload f_119_23 rfl ?_
    replace hd := gd hd
    obtain ⟨g26, hd⟩ := hd
    refine L_aaload (ak := 33) (q := (ix p1)) f_119_25 (obL (by decide)) (by decide) (inb_nI g26) (inb_lt g26) (Nat.le_of_ble_eq_true rfl) (scLr (inb_lt g26)) (rfL (inb_lt g26)) ?_
    refine C_getT f_119_26 fd_1_133 (ocL_ g26) (scl0 (k := X.2) (ocL_ g26).1) ?_
    refine s_goto 33 f_119_29 (by decide) ?_
    refine aAt.sub [(0, .ref 133), (1, .int a1)] rfl ?_
    exact t_cCourt_comes_J33 _ _ _  _ hd hQ

def cCourt_judgeAs (S : SS) (T : TS) (X : XS) (a1 : Nat) (a2 : Int32) (a3 : Int32) (a4 : Int32) (a5 : Int32) : Option (Int32 × SS) :=
  (cFill 11 S 134 (0 : Int32)).bind fun p1 =>
  (cLand_leftBy (up p1 134 0 a2) a4 a5).bind fun p2 =>
  (cCourt_tellPaper (up (up p1 134 0 a2) 134 2 p2) a1 a5).bind fun p3 =>
  if (p3 a1 8) = (2 : Int32) then
    (cCourt_comes (up p3 134 7 (0 : Int32)) T X a3 a4 a5).bind fun p5 =>
    (cD_bit p5.1).bind fun p6 =>
    (cCourt_comes (up p5.2 134 7 (1 : Int32)) T X a3 a4 a5).bind fun p7 =>
    (cD_bit p7.1).bind fun p8 =>
    some ((p6 + p8), p7.2)
  else
    (cCourt_comes p3 T X a3 a4 a5).bind fun p9 =>
    if p9.1 = true then
      some ((2 : Int32), p9.2)
    else
      some ((0 : Int32), p9.2)
theorem t_cCourt_judgeAs {l : Launch} {G : aG} {d : Nat} {Q : Option Value → aHeap → Prop} {sl : Nat} {sx : Nat → Int32} {S : SS} {K : KS} {T : TS} {X : XS} {M : SS} {a1 : Nat} {a2 : Int32} {a3 : Int32} {a4 : Int32} {a5 : Int32} (ha1 : oc X.2 a1 5) {p : Int32 × SS} (hd : cCourt_judgeAs S T X a1 a2 a3 a4 a5 = some p) (hQ : Q (some (.int p.1)) (LH (old0 sl sx) p.2 K T X M)) : aCall l G (d + 3) 0 0 115 [.ref 133, .ref a1, .int a2, .int a3, .int a4, .int a5] (LH (old0 sl sx) S K T X M) Q := by
  refine aCall.of (by decide) (Nat.le_of_ble_eq_true rfl) ?_
  refine aAt.sub [(0, .ref 133), (1, .ref a1), (2, .int a2), (3, .int a3), (4, .int a4), (5, .int a5)] rfl ?_
  unfold cCourt_judgeAs at hd
  refine s_aload_n f_115_0 rfl ?_
  refine L_getR f_115_1 fd_1_11 (obL (by decide)) (by decide) (by decide : rf 133 1 = 134) ?_
  refine k_iconst (v := 0) f_115_4 (by decide) ?_
  replace hd := obind hd
  obtain ⟨p1, e1, hd⟩ := hd
  refine L_stat (As := [.ref 134, .int (0 : Int32)]) f_115_5 ca_1_34 rfl rfl (Nat.le_of_ble_eq_true rfl) ?_
  refine t_cFill (ocl (by decide)) rfl (Nat.le_of_ble_eq_true rfl) e1 ?_
  refine s_aload_n f_115_8 rfl ?_
  refine L_getR f_115_9 fd_1_11 (obL (by decide)) (by decide) (by decide : rf 133 1 = 134) ?_
  refine k_iconst (v := 0) f_115_12 (by decide) ?_
  refine s_iload_n f_115_13 rfl ?_
  refine C_iastore (n := 11) (q := 0) f_115_14 (ocl (by decide)) (rfl : ln X.1 134 = 11) (Nat.le_of_ble_eq_true rfl) (by decide) (by decide) ?_
  refine s_aload_n f_115_15 rfl ?_
  refine L_getR f_115_16 fd_1_11 (obL (by decide)) (by decide) (by decide : rf 133 1 = 134) ?_
  refine k_iconst (v := 2) f_115_19 (by decide) ?_
  refine s_aload_n f_115_20 rfl ?_
  refine L_getR f_115_21 fd_1_20 (obL (by decide)) (by decide) (by decide : rf 133 0 = 9) ?_
  refine s_iload f_115_24 rfl ?_
  refine s_iload f_115_26 rfl ?_
  replace hd := obind hd
  obtain ⟨p2, e2, hd⟩ := hd
  refine L_virt (As := [.int a4, .int a5]) f_115_28 ca_1_40 rfl rfl (obL (by decide)) (by decide) (Nat.le_of_ble_eq_true rfl) ?_
  refine t_cLand_leftBy e2 ?_
  refine C_iastore (n := 11) (q := 2) f_115_31 (ocl (by decide)) (rfl : ln X.1 134 = 11) (Nat.le_of_ble_eq_true rfl) (by decide) (by decide) ?_
  refine s_aload_n f_115_32 rfl ?_
  refine s_aload_n f_115_33 rfl ?_
  refine s_iload f_115_34 rfl ?_
  replace hd := obind hd
  obtain ⟨p3, e3, hd⟩ := hd
  refine L_virt (As := [.ref a1, .int a5]) f_115_36 ca_1_80 rfl rfl (obL (by decide)) (by decide) (Nat.le_of_ble_eq_true rfl) ?_
  refine t_cCourt_tellPaper ha1 e3 ?_
  refine s_aload_n f_115_39 rfl ?_
  refine C_getI f_115_40 fd_1_84 ha1 (sck0 (k := X.2) ha1.1 (by decide)) ?_
  refine k_iconst (v := 2) f_115_43 (by decide) ?_
  refine s_icmp_eq 65 f_115_44 (by decide) (fun c4 => ?_) (fun c4 => ?_)
  · replace hd := ite_p c4 hd
    refine s_aload_n f_115_65 rfl ?_
    refine L_getR f_115_66 fd_1_11 (obL (by decide)) (by decide) (by decide : rf 133 1 = 134) ?_
    refine k_bipush (v := 7) f_115_69 (by decide) ?_
    refine k_iconst (v := 0) f_115_71 (by decide) ?_
    refine C_iastore (n := 11) (q := 7) f_115_72 (ocl (by decide)) (rfl : ln X.1 134 = 11) (Nat.le_of_ble_eq_true rfl) (by decide) (by decide) ?_
    refine s_aload_n f_115_73 rfl ?_
    refine s_iload_n f_115_74 rfl ?_
    refine s_iload f_115_75 rfl ?_
    refine s_iload f_115_77 rfl ?_
    replace hd := obind hd
    obtain ⟨p5, e5, hd⟩ := hd
    refine L_virt (As := [.int a3, .int a4, .int a5]) f_115_79 ca_1_69 rfl rfl (obL (by decide)) (by decide) (Nat.le_of_ble_eq_true rfl) ?_
    refine t_cCourt_comes e5 ?_
    replace hd := obind hd
    obtain ⟨p6, e6, hd⟩ := hd
    refine L_statN (As := [.int (b2i p5.1)]) f_115_82 ca_1_61 rfl rfl (Nat.le_of_ble_eq_true rfl) ?_
    refine t_cD_bit e6 ?_
    refine s_istore f_115_85 (by decide) ?_
    refine s_aload_n f_115_87 rfl ?_
    refine L_getR f_115_88 fd_1_11 (obL (by decide)) (by decide) (by decide : rf 133 1 = 134) ?_
    refine k_bipush (v := 7) f_115_91 (by decide) ?_
    refine k_iconst (v := 1) f_115_93 (by decide) ?_
    refine C_iastore (n := 11) (q := 7) f_115_94 (ocl (by decide)) (rfl : ln X.1 134 = 11) (Nat.le_of_ble_eq_true rfl) (by decide) (by decide) ?_
    refine s_iload f_115_95 rfl ?_
    refine s_aload_n f_115_97 rfl ?_
    refine s_iload_n f_115_98 rfl ?_
    refine s_iload f_115_99 rfl ?_
    refine s_iload f_115_101 rfl ?_
    replace hd := obind hd
    obtain ⟨p7, e7, hd⟩ := hd
    refine L_virt (As := [.int a3, .int a4, .int a5]) f_115_103 ca_1_69 rfl rfl (obL (by decide)) (by decide) (Nat.le_of_ble_eq_true rfl) ?_
    refine t_cCourt_comes e7 ?_
    replace hd := obind hd
    obtain ⟨p8, e8, hd⟩ := hd
    refine L_statN (As := [.int (b2i p7.1)]) f_115_106 ca_1_61 rfl rfl (Nat.le_of_ble_eq_true rfl) ?_
    refine t_cD_bit e8 ?_
    refine s_iadd f_115_109 ?_
    refine s_ireturn f_115_110 rfl rfl ?_
    cases hd
    exact hQ
  · replace hd := ite_n c4 hd
    refine s_aload_n f_115_47 rfl ?_
    refine s_iload_n f_115_48 rfl ?_
    refine s_iload f_115_49 rfl ?_
    refine s_iload f_115_51 rfl ?_
    replace hd := obind hd
    obtain ⟨p9, e9, hd⟩ := hd
    refine L_virt (As := [.int a3, .int a4, .int a5]) f_115_53 ca_1_69 rfl rfl (obL (by decide)) (by decide) (Nat.le_of_ble_eq_true rfl) ?_
    refine t_cCourt_comes e9 ?_
    refine z_if_eq 63 f_115_56 (by decide) (fun c10 => ?_) (fun c10 => ?_)
    · replace hd := ite_n c10 hd
      refine k_iconst (v := 0) f_115_63 (by decide) ?_
      refine s_ireturn f_115_64 rfl rfl ?_
      cases hd
      exact hQ
    · replace hd := ite_p c10 hd
      refine k_iconst (v := 2) f_115_59 (by decide) ?_
      refine s_goto 64 f_115_60 (by decide) ?_
      refine s_ireturn f_115_64 rfl rfl ?_
      cases hd
      exact hQ

def cCourt_judge (S : SS) (T : TS) (X : XS) (a1 : Nat) (a2 : Int32) (a3 : Int32) (a4 : Int32) : Option (Int32 × SS) :=
  (cCourt_judgeAs S T X a1 (S a1 0) a2 a3 a4).bind fun p1 =>
  some (p1.1, p1.2)
theorem t_cCourt_judge {l : Launch} {G : aG} {d : Nat} {Q : Option Value → aHeap → Prop} {sl : Nat} {sx : Nat → Int32} {S : SS} {K : KS} {T : TS} {X : XS} {M : SS} {a1 : Nat} {a2 : Int32} {a3 : Int32} {a4 : Int32} (ha1 : oc X.2 a1 5) {p : Int32 × SS} (hd : cCourt_judge S T X a1 a2 a3 a4 = some p) (hQ : Q (some (.int p.1)) (LH (old0 sl sx) p.2 K T X M)) : aCall l G (d + 4) 0 0 114 [.ref 133, .ref a1, .int a2, .int a3, .int a4] (LH (old0 sl sx) S K T X M) Q := by
  refine aCall.of (by decide) (Nat.le_of_ble_eq_true rfl) ?_
  refine aAt.sub [(0, .ref 133), (1, .ref a1), (2, .int a2), (3, .int a3), (4, .int a4)] rfl ?_
  unfold cCourt_judge at hd
  refine s_aload_n f_114_0 rfl ?_
  refine s_aload_n f_114_1 rfl ?_
  refine s_aload_n f_114_2 rfl ?_
  refine C_getI f_114_3 fd_1_24 ha1 (sck0 (k := X.2) ha1.1 (by decide)) ?_
  refine s_iload_n f_114_6 rfl ?_
  refine s_iload_n f_114_7 rfl ?_
  refine s_iload f_114_8 rfl ?_
  replace hd := obind hd
  obtain ⟨p1, e1, hd⟩ := hd
  refine L_virt (As := [.ref a1, .int (S a1 0), .int a2, .int a3, .int a4]) f_114_10 ca_1_30 rfl rfl (obL (by decide)) (by decide) (Nat.le_of_ble_eq_true rfl) ?_
  refine t_cCourt_judgeAs ha1 e1 ?_
  refine s_ireturn f_114_13 rfl rfl ?_
  cases hd
  exact hQ

def cD_falls (S : SS) (T : TS) (X : XS) (a1 : Int32) (a2 : Int32) (a3 : Int32) : Option (Int32 × SS) :=
  (cD_mayBeJudged S a1 a2 a3).bind fun p1 =>
  if p1 = true then
    if inb a1 20 then
      (cCourt_judge S T X (39 + (ix a1)) (0 : Int32) a2 a3).bind fun p4 =>
      some (p4.1, p4.2)
    else none
  else
    (cD_found S (-100001 : Int32)).bind fun p5 =>
    some (p5.1, p5.2)
theorem t_cD_falls {l : Launch} {G : aG} {d : Nat} {Q : Option Value → aHeap → Prop} {sl : Nat} {sx : Nat → Int32} {S : SS} {K : KS} {T : TS} {X : XS} {M : SS} {a1 : Int32} {a2 : Int32} {a3 : Int32} {p : Int32 × SS} (hd : cD_falls S T X a1 a2 a3 = some p) (hQ : Q (some (.int p.1)) (LH (old0 sl sx) p.2 K T X M)) : aCall l G (d + 5) 0 0 112 [.ref 8, .int a1, .int a2, .int a3] (LH (old0 sl sx) S K T X M) Q := by
  refine aCall.of (by decide) (Nat.le_of_ble_eq_true rfl) ?_
  refine aAt.sub [(0, .ref 8), (1, .int a1), (2, .int a2), (3, .int a3)] rfl ?_
  unfold cD_falls at hd
  refine s_aload_n f_112_0 rfl ?_
  refine s_iload_n f_112_1 rfl ?_
  refine s_iload_n f_112_2 rfl ?_
  refine s_iload_n f_112_3 rfl ?_
  replace hd := obind hd
  obtain ⟨p1, e1, hd⟩ := hd
  refine L_virt (As := [.int a1, .int a2, .int a3]) f_112_4 ca_0_301 rfl rfl (obL (by decide)) (by decide) (Nat.le_of_ble_eq_true rfl) ?_
  refine t_cD_mayBeJudged e1 ?_
  refine z_if_ne 17 f_112_7 (by decide) (fun c2 => ?_) (fun c2 => ?_)
  · replace hd := ite_p c2 hd
    refine s_aload_n f_112_17 rfl ?_
    refine L_getR f_112_18 fd_0_24 (obL (by decide)) (by decide) (by decide : rf 8 2 = 133) ?_
    refine s_aload_n f_112_21 rfl ?_
    refine L_getR f_112_22 fd_0_10 (obL (by decide)) (by decide) (by decide : rf 8 0 = 9) ?_
    refine L_getR f_112_25 fd_0_206 (obL (by decide)) (by decide) (by decide : rf 9 2 = 12) ?_
    refine s_iload_n f_112_28 rfl ?_
    replace hd := gd hd
    obtain ⟨g3, hd⟩ := hd
    refine L_aaload (ak := 32) (q := (ix a1)) f_112_29 (obL (by decide)) (by decide) (inb_nI g3) (inb_lt g3) (Nat.le_of_ble_eq_true rfl) (scAr (inb_lt g3)) (rfA (inb_lt g3)) ?_
    refine k_iconst (v := 0) f_112_30 (by decide) ?_
    refine s_iload_n f_112_31 rfl ?_
    refine s_iload_n f_112_32 rfl ?_
    replace hd := obind hd
    obtain ⟨p4, e4, hd⟩ := hd
    refine L_virt (As := [.ref (39 + (ix a1)), .int (0 : Int32), .int a2, .int a3]) f_112_33 ca_0_304 rfl rfl (obL (by decide)) (by decide) (Nat.le_of_ble_eq_true rfl) ?_
    refine t_cCourt_judge (ocA g3) e4 ?_
    refine s_ireturn f_112_36 rfl rfl ?_
    cases hd
    exact hQ
  · replace hd := ite_n c2 hd
    refine s_aload_n f_112_10 rfl ?_
    refine s_ldc f_112_11 ko_0_83 ?_
    replace hd := obind hd
    obtain ⟨p5, e5, hd⟩ := hd
    refine L_virt (As := [.int (-100001 : Int32)]) f_112_13 ca_0_84 rfl rfl (obL (by decide)) (by decide) (Nat.le_of_ble_eq_true rfl) ?_
    refine t_cD_found e5 ?_
    refine s_ireturn f_112_16 rfl rfl ?_
    cases hd
    exact hQ

def cD_truly (S : SS) (T : TS) (X : XS) (a1 : Int32) (a2 : Int32) (a3 : Int32) : Option (Int32 × SS) :=
  (cD_mayBeJudged S a1 a2 a3).bind fun p1 =>
  if p1 = true then
    if inb a1 20 then
      (cCourt_judge S T X (39 + (ix a1)) (2 : Int32) a2 a3).bind fun p4 =>
      some (p4.1, p4.2)
    else none
  else
    (cD_found S (-100001 : Int32)).bind fun p5 =>
    some (p5.1, p5.2)
theorem t_cD_truly {l : Launch} {G : aG} {d : Nat} {Q : Option Value → aHeap → Prop} {sl : Nat} {sx : Nat → Int32} {S : SS} {K : KS} {T : TS} {X : XS} {M : SS} {a1 : Int32} {a2 : Int32} {a3 : Int32} {p : Int32 × SS} (hd : cD_truly S T X a1 a2 a3 = some p) (hQ : Q (some (.int p.1)) (LH (old0 sl sx) p.2 K T X M)) : aCall l G (d + 5) 0 0 124 [.ref 8, .int a1, .int a2, .int a3] (LH (old0 sl sx) S K T X M) Q := by
  refine aCall.of (by decide) (Nat.le_of_ble_eq_true rfl) ?_
  refine aAt.sub [(0, .ref 8), (1, .int a1), (2, .int a2), (3, .int a3)] rfl ?_
  unfold cD_truly at hd
  refine s_aload_n f_124_0 rfl ?_
  refine s_iload_n f_124_1 rfl ?_
  refine s_iload_n f_124_2 rfl ?_
  refine s_iload_n f_124_3 rfl ?_
  replace hd := obind hd
  obtain ⟨p1, e1, hd⟩ := hd
  refine L_virt (As := [.int a1, .int a2, .int a3]) f_124_4 ca_0_301 rfl rfl (obL (by decide)) (by decide) (Nat.le_of_ble_eq_true rfl) ?_
  refine t_cD_mayBeJudged e1 ?_
  refine z_if_ne 17 f_124_7 (by decide) (fun c2 => ?_) (fun c2 => ?_)
  · replace hd := ite_p c2 hd
    refine s_aload_n f_124_17 rfl ?_
    refine L_getR f_124_18 fd_0_24 (obL (by decide)) (by decide) (by decide : rf 8 2 = 133) ?_
    refine s_aload_n f_124_21 rfl ?_
    refine L_getR f_124_22 fd_0_10 (obL (by decide)) (by decide) (by decide : rf 8 0 = 9) ?_
    refine L_getR f_124_25 fd_0_206 (obL (by decide)) (by decide) (by decide : rf 9 2 = 12) ?_
    refine s_iload_n f_124_28 rfl ?_
    replace hd := gd hd
    obtain ⟨g3, hd⟩ := hd
    refine L_aaload (ak := 32) (q := (ix a1)) f_124_29 (obL (by decide)) (by decide) (inb_nI g3) (inb_lt g3) (Nat.le_of_ble_eq_true rfl) (scAr (inb_lt g3)) (rfA (inb_lt g3)) ?_
    refine k_iconst (v := 2) f_124_30 (by decide) ?_
    refine s_iload_n f_124_31 rfl ?_
    refine s_iload_n f_124_32 rfl ?_
    replace hd := obind hd
    obtain ⟨p4, e4, hd⟩ := hd
    refine L_virt (As := [.ref (39 + (ix a1)), .int (2 : Int32), .int a2, .int a3]) f_124_33 ca_0_304 rfl rfl (obL (by decide)) (by decide) (Nat.le_of_ble_eq_true rfl) ?_
    refine t_cCourt_judge (ocA g3) e4 ?_
    refine s_ireturn f_124_36 rfl rfl ?_
    cases hd
    exact hQ
  · replace hd := ite_n c2 hd
    refine s_aload_n f_124_10 rfl ?_
    refine s_ldc f_124_11 ko_0_83 ?_
    replace hd := obind hd
    obtain ⟨p5, e5, hd⟩ := hd
    refine L_virt (As := [.int (-100001 : Int32)]) f_124_13 ca_0_84 rfl rfl (obL (by decide)) (by decide) (Nat.le_of_ble_eq_true rfl) ?_
    refine t_cD_found e5 ?_
    refine s_ireturn f_124_16 rfl rfl ?_
    cases hd
    exact hQ

def cCourt_givesBack (S : SS) (T : TS) (X : XS) (a1 : Nat) (a2 : Int32) (a3 : Int32) : Option (Bool × SS) :=
  (cFill 11 S 134 (0 : Int32)).bind fun p1 =>
  (cLand_leftBy p1 a2 a3).bind fun p2 =>
  if inb ((up p1 134 2 p2) a1 2) 14 then
    if ((up p1 134 2 p2) (17 + (ix ((up p1 134 2 p2) a1 2))) 8) = 0 ∨ ((up p1 134 2 p2) (17 + (ix ((up p1 134 2 p2) a1 2))) 8) = 1 then
      (cD_bit (decide (((up p1 134 2 p2) (17 + (ix ((up p1 134 2 p2) a1 2))) 8) = 1))).bind fun p5 =>
      (cCourt_tellField (up (up p1 134 2 p2) 134 8 p5) a1).bind fun p6 =>
      (cCourt_comes p6 T X (1 : Int32) a2 a3).bind fun p7 =>
      if p7.1 = true then
        (cLand_heirsOf p7.2 (p7.2 a1 0)).bind fun p9 =>
        if p9 = ((1 : Int32) <<< ((p7.2 a1 2) &&& 31)) then
          some (false, p7.2)
        else
          some (true, p7.2)
      else
        some (false, p7.2)
    else none
  else none
theorem t_cCourt_givesBack {l : Launch} {G : aG} {d : Nat} {Q : Option Value → aHeap → Prop} {sl : Nat} {sx : Nat → Int32} {S : SS} {K : KS} {T : TS} {X : XS} {M : SS} {a1 : Nat} {a2 : Int32} {a3 : Int32} (ha1 : oc X.2 a1 2) {p : Bool × SS} (hd : cCourt_givesBack S T X a1 a2 a3 = some p) (hQ : Q (some (.int (b2i p.1))) (LH (old0 sl sx) p.2 K T X M)) : aCall l G (d + 15) 0 0 126 [.ref 133, .ref a1, .int a2, .int a3] (LH (old0 sl sx) S K T X M) Q := by
  refine aCall.of (by decide) (Nat.le_of_ble_eq_true rfl) ?_
  refine aAt.sub [(0, .ref 133), (1, .ref a1), (2, .int a2), (3, .int a3)] rfl ?_
  unfold cCourt_givesBack at hd
  refine s_aload_n f_126_0 rfl ?_
  refine L_getR f_126_1 fd_1_11 (obL (by decide)) (by decide) (by decide : rf 133 1 = 134) ?_
  refine k_iconst (v := 0) f_126_4 (by decide) ?_
  replace hd := obind hd
  obtain ⟨p1, e1, hd⟩ := hd
  refine L_stat (As := [.ref 134, .int (0 : Int32)]) f_126_5 ca_1_34 rfl rfl (Nat.le_of_ble_eq_true rfl) ?_
  refine t_cFill (ocl (by decide)) rfl (Nat.le_of_ble_eq_true rfl) e1 ?_
  refine s_aload_n f_126_8 rfl ?_
  refine L_getR f_126_9 fd_1_11 (obL (by decide)) (by decide) (by decide : rf 133 1 = 134) ?_
  refine k_iconst (v := 2) f_126_12 (by decide) ?_
  refine s_aload_n f_126_13 rfl ?_
  refine L_getR f_126_14 fd_1_20 (obL (by decide)) (by decide) (by decide : rf 133 0 = 9) ?_
  refine s_iload_n f_126_17 rfl ?_
  refine s_iload_n f_126_18 rfl ?_
  replace hd := obind hd
  obtain ⟨p2, e2, hd⟩ := hd
  refine L_virt (As := [.int a2, .int a3]) f_126_19 ca_1_40 rfl rfl (obL (by decide)) (by decide) (Nat.le_of_ble_eq_true rfl) ?_
  refine t_cLand_leftBy e2 ?_
  refine C_iastore (n := 11) (q := 2) f_126_22 (ocl (by decide)) (rfl : ln X.1 134 = 11) (Nat.le_of_ble_eq_true rfl) (by decide) (by decide) ?_
  refine s_aload_n f_126_23 rfl ?_
  refine L_getR f_126_24 fd_1_11 (obL (by decide)) (by decide) (by decide : rf 133 1 = 134) ?_
  refine k_bipush (v := 8) f_126_27 (by decide) ?_
  refine s_aload_n f_126_29 rfl ?_
  refine L_getR f_126_30 fd_1_20 (obL (by decide)) (by decide) (by decide : rf 133 0 = 9) ?_
  refine L_getR f_126_33 fd_1_46 (obL (by decide)) (by decide) (by decide : rf 9 0 = 10) ?_
  refine s_aload_n f_126_36 rfl ?_
  refine C_getI f_126_37 fd_1_50 ha1 (sck0 (k := X.2) ha1.1 (by decide)) ?_
  replace hd := gd hd
  obtain ⟨g3, hd⟩ := hd
  refine L_aaload (ak := 30) (q := (ix ((up p1 134 2 p2) a1 2))) f_126_40 (obL (by decide)) (by decide) (inb_nI g3) (inb_lt g3) (Nat.le_of_ble_eq_true rfl) (scPr (inb_lt g3)) (rfP (inb_lt g3)) ?_
  refine C_getI f_126_41 fd_1_55 (ocP g3) (sck0 (k := X.2) (ocP g3).1 (by decide)) ?_
  replace hd := gd hd
  obtain ⟨g4, hd⟩ := hd
  refine aAt.stk [.int (b2i (decide (((up p1 134 2 p2) (17 + (ix ((up p1 134 2 p2) a1 2))) 8) = 1))), .int (8 : Int32), .ref 134] (by rw [← z01 g4] <;> rfl) ?_
  replace hd := obind hd
  obtain ⟨p5, e5, hd⟩ := hd
  refine L_statN (As := [.int (b2i (decide (((up p1 134 2 p2) (17 + (ix ((up p1 134 2 p2) a1 2))) 8) = 1)))]) f_126_44 ca_1_61 rfl rfl (Nat.le_of_ble_eq_true rfl) ?_
  refine t_cD_bit e5 ?_
  refine C_iastore (n := 11) (q := 8) f_126_47 (ocl (by decide)) (rfl : ln X.1 134 = 11) (Nat.le_of_ble_eq_true rfl) (by decide) (by decide) ?_
  refine s_aload_n f_126_48 rfl ?_
  refine s_aload_n f_126_49 rfl ?_
  replace hd := obind hd
  obtain ⟨p6, e6, hd⟩ := hd
  refine L_virt (As := [.ref a1]) f_126_50 ca_1_65 rfl rfl (obL (by decide)) (by decide) (Nat.le_of_ble_eq_true rfl) ?_
  refine t_cCourt_tellField ha1 e6 ?_
  refine s_aload_n f_126_53 rfl ?_
  refine k_iconst (v := 1) f_126_54 (by decide) ?_
  refine s_iload_n f_126_55 rfl ?_
  refine s_iload_n f_126_56 rfl ?_
  replace hd := obind hd
  obtain ⟨p7, e7, hd⟩ := hd
  refine L_virt (As := [.int (1 : Int32), .int a2, .int a3]) f_126_57 ca_1_69 rfl rfl (obL (by decide)) (by decide) (Nat.le_of_ble_eq_true rfl) ?_
  refine t_cCourt_comes e7 ?_
  refine z_if_eq 87 f_126_60 (by decide) (fun c8 => ?_) (fun c8 => ?_)
  · replace hd := ite_n c8 hd
    refine k_iconst (v := 0) f_126_87 (by decide) ?_
    refine s_iretB (b := false) f_126_88 rfl ?_
    cases hd
    exact hQ
  · replace hd := ite_p c8 hd
    refine s_aload_n f_126_63 rfl ?_
    refine L_getR f_126_64 fd_1_20 (obL (by decide)) (by decide) (by decide : rf 133 0 = 9) ?_
    refine s_aload_n f_126_67 rfl ?_
    refine C_getI f_126_68 fd_1_73 ha1 (sck0 (k := X.2) ha1.1 (by decide)) ?_
    replace hd := obind hd
    obtain ⟨p9, e9, hd⟩ := hd
    refine L_virt (As := [.int (p7.2 a1 0)]) f_126_71 ca_1_76 rfl rfl (obL (by decide)) (by decide) (Nat.le_of_ble_eq_true rfl) ?_
    refine t_cLand_heirsOf e9 ?_
    refine k_iconst (v := 1) f_126_74 (by decide) ?_
    refine s_aload_n f_126_75 rfl ?_
    refine C_getI f_126_76 fd_1_50 ha1 (sck0 (k := X.2) ha1.1 (by decide)) ?_
    refine s_ishl f_126_79 ?_
    refine s_icmp_eq 87 f_126_80 (by decide) (fun c10 => ?_) (fun c10 => ?_)
    · replace hd := ite_p c10 hd
      refine k_iconst (v := 0) f_126_87 (by decide) ?_
      refine s_iretB (b := false) f_126_88 rfl ?_
      cases hd
      exact hQ
    · replace hd := ite_n c10 hd
      refine k_iconst (v := 1) f_126_83 (by decide) ?_
      refine s_goto 88 f_126_84 (by decide) ?_
      refine s_iretB (b := true) f_126_88 rfl ?_
      cases hd
      exact hQ

def cD_back_J25 (T : TS) (X : XS) (S : SS) : Option (Int32 × SS) :=
  (cD_found S (-100001 : Int32)).bind fun p3 =>
  some (p3.1, p3.2)
theorem t_cD_back_J25 {l : Launch} {G : aG} {d : Nat} {Q : Option Value → aHeap → Prop} {sl : Nat} {sx : Nat → Int32} {K : KS} {T : TS} {X : XS} {M : SS} : ∀ (S : SS) (p : Int32 × SS), cD_back_J25 T X S = some p → Q (some (.int p.1)) (LH (old0 sl sx) p.2 K T X M) → aAt l G (d + 16) 0 0 125 25 [(0, .ref 8)] [] 0 0 (LH (old0 sl sx) S K T X M) Q := by
  intro S p hd hQ
  unfold cD_back_J25 at hd
  refine s_aload_n f_125_25 rfl ?_
  refine s_ldc f_125_26 ko_0_83 ?_
  replace hd := obind hd
  obtain ⟨p3, e3, hd⟩ := hd
  refine L_virt (As := [.int (-100001 : Int32)]) f_125_28 ca_0_84 rfl rfl (obL (by decide)) (by decide) (Nat.le_of_ble_eq_true rfl) ?_
  refine t_cD_found e3 ?_
  refine s_ireturn f_125_31 rfl rfl ?_
  cases hd
  exact hQ
def cD_back (S : SS) (T : TS) (X : XS) (a1 : Int32) (a2 : Int32) (a3 : Int32) : Option (Int32 × SS) :=
  (cLand_hasField S a1).bind fun p1 =>
  if p1 = true then
    (cD_isBench a2).bind fun p4 =>
    if p4 = true then
      (cD_isYear a3).bind fun p6 =>
      if p6 = true then
        if inb a1 8 then
          (cCourt_givesBack S T X (31 + (ix a1)) a2 a3).bind fun p9 =>
          (cD_bit p9.1).bind fun p10 =>
          some (p10, p9.2)
        else none
      else
        cD_back_J25 T X S
    else
      cD_back_J25 T X S
  else
    cD_back_J25 T X S
theorem t_cD_back {l : Launch} {G : aG} {d : Nat} {Q : Option Value → aHeap → Prop} {sl : Nat} {sx : Nat → Int32} {S : SS} {K : KS} {T : TS} {X : XS} {M : SS} {a1 : Int32} {a2 : Int32} {a3 : Int32} {p : Int32 × SS} (hd : cD_back S T X a1 a2 a3 = some p) (hQ : Q (some (.int p.1)) (LH (old0 sl sx) p.2 K T X M)) : aCall l G (d + 16) 0 0 125 [.ref 8, .int a1, .int a2, .int a3] (LH (old0 sl sx) S K T X M) Q := by
  refine aCall.of (by decide) (Nat.le_of_ble_eq_true rfl) ?_
  refine aAt.sub [(0, .ref 8), (1, .int a1), (2, .int a2), (3, .int a3)] rfl ?_
  unfold cD_back at hd
  refine s_aload_n f_125_0 rfl ?_
  refine L_getR f_125_1 fd_0_10 (obL (by decide)) (by decide) (by decide : rf 8 0 = 9) ?_
  refine s_iload_n f_125_4 rfl ?_
  replace hd := obind hd
  obtain ⟨p1, e1, hd⟩ := hd
  refine L_virt (As := [.int a1]) f_125_5 ca_0_159 rfl rfl (obL (by decide)) (by decide) (Nat.le_of_ble_eq_true rfl) ?_
  refine t_cLand_hasField e1 ?_
  refine z_if_eq 25 f_125_8 (by decide) (fun c2 => ?_) (fun c2 => ?_)
  · replace hd := ite_n c2 hd
    refine aAt.sub [(0, .ref 8)] rfl ?_
    exact t_cD_back_J25 _  _ hd hQ
  · replace hd := ite_p c2 hd
    refine s_iload_n f_125_11 rfl ?_
    replace hd := obind hd
    obtain ⟨p4, e4, hd⟩ := hd
    refine L_stat (As := [.int a2]) f_125_12 ca_0_255 rfl rfl (Nat.le_of_ble_eq_true rfl) ?_
    refine t_cD_isBench e4 ?_
    refine z_if_eq 25 f_125_15 (by decide) (fun c5 => ?_) (fun c5 => ?_)
    · replace hd := ite_n c5 hd
      refine aAt.sub [(0, .ref 8)] rfl ?_
      exact t_cD_back_J25 _  _ hd hQ
    · replace hd := ite_p c5 hd
      refine s_iload_n f_125_18 rfl ?_
      replace hd := obind hd
      obtain ⟨p6, e6, hd⟩ := hd
      refine L_stat (As := [.int a3]) f_125_19 ca_0_262 rfl rfl (Nat.le_of_ble_eq_true rfl) ?_
      refine t_cD_isYear e6 ?_
      refine z_if_ne 32 f_125_22 (by decide) (fun c7 => ?_) (fun c7 => ?_)
      · replace hd := ite_p c7 hd
        refine s_aload_n f_125_32 rfl ?_
        refine L_getR f_125_33 fd_0_24 (obL (by decide)) (by decide) (by decide : rf 8 2 = 133) ?_
        refine s_aload_n f_125_36 rfl ?_
        refine L_getR f_125_37 fd_0_10 (obL (by decide)) (by decide) (by decide : rf 8 0 = 9) ?_
        refine L_getR f_125_40 fd_0_150 (obL (by decide)) (by decide) (by decide : rf 9 1 = 11) ?_
        refine s_iload_n f_125_43 rfl ?_
        replace hd := gd hd
        obtain ⟨g8, hd⟩ := hd
        refine L_aaload (ak := 31) (q := (ix a1)) f_125_44 (obL (by decide)) (by decide) (inb_nI g8) (inb_lt g8) (Nat.le_of_ble_eq_true rfl) (scFr (inb_lt g8)) (rfF (inb_lt g8)) ?_
        refine s_iload_n f_125_45 rfl ?_
        refine s_iload_n f_125_46 rfl ?_
        replace hd := obind hd
        obtain ⟨p9, e9, hd⟩ := hd
        refine L_virt (As := [.ref (31 + (ix a1)), .int a2, .int a3]) f_125_47 ca_0_308 rfl rfl (obL (by decide)) (by decide) (Nat.le_of_ble_eq_true rfl) ?_
        refine t_cCourt_givesBack (ocF g8) e9 ?_
        replace hd := obind hd
        obtain ⟨p10, e10, hd⟩ := hd
        refine L_stat (As := [.int (b2i p9.1)]) f_125_50 ca_0_172 rfl rfl (Nat.le_of_ble_eq_true rfl) ?_
        refine t_cD_bit e10 ?_
        refine s_ireturn f_125_53 rfl rfl ?_
        cases hd
        exact hQ
      · replace hd := ite_n c7 hd
        refine aAt.sub [(0, .ref 8)] rfl ?_
        exact t_cD_back_J25 _  _ hd hQ

def cCourt_safeKinds_J33 (T : TS) (X : XS) (k6 : SS → Nat → Int32 → Int32 → Int32 → Int32 → Option (Int32 × SS)) (S : SS) (a1 : Nat) (a2 : Int32) (a3 : Int32) (a5 : Int32) (w0 : Int32) (w1 : Bool) : Option (Int32 × SS) :=
  (cD_bit w1).bind fun p4 =>
  k6 S a1 a2 a3 (w0 ||| (p4 <<< (a5 &&& 31))) (a5 + 1)
theorem t_cCourt_safeKinds_J33 {l : Launch} {G : aG} {d : Nat} {Q : Option Value → aHeap → Prop} {sl : Nat} {sx : Nat → Int32} {K : KS} {T : TS} {X : XS} {M : SS} {k6 : SS → Nat → Int32 → Int32 → Int32 → Int32 → Option (Int32 × SS)} (hk6 : ∀ (S : SS) (a1 : Nat) (a2 : Int32) (a3 : Int32) (a4 : Int32) (a5 : Int32) (_ : oc X.2 a1 5) (p : Int32 × SS), k6 S a1 a2 a3 a4 a5 = some p → Q (some (.int p.1)) (LH (old0 sl sx) p.2 K T X M) → aAt l G (d + 4) 0 0 128 6 [(0, .ref 133), (1, .ref a1), (2, .int a2), (3, .int a3), (4, .int a4), (5, .int a5)] [] 0 0 (LH (old0 sl sx) S K T X M) Q) : ∀ (S : SS) (a1 : Nat) (a2 : Int32) (a3 : Int32) (a5 : Int32) (w0 : Int32) (w1 : Bool) (_ : oc X.2 a1 5) (p : Int32 × SS), cCourt_safeKinds_J33 T X k6 S a1 a2 a3 a5 w0 w1 = some p → Q (some (.int p.1)) (LH (old0 sl sx) p.2 K T X M) → aAt l G (d + 4) 0 0 128 33 [(0, .ref 133), (1, .ref a1), (2, .int a2), (3, .int a3), (5, .int a5)] [.int (b2i w1), .int w0] 0 0 (LH (old0 sl sx) S K T X M) Q := by
  intro S a1 a2 a3 a5 w0 w1 ha1 p hd hQ
  unfold cCourt_safeKinds_J33 at hd
  replace hd := obind hd
  obtain ⟨p4, e4, hd⟩ := hd
  refine L_statN (As := [.int (b2i w1)]) f_128_33 ca_1_61 rfl rfl (Nat.le_of_ble_eq_true rfl) ?_
  refine t_cD_bit e4 ?_
  refine s_iload f_128_36 rfl ?_
  refine s_ishl f_128_38 ?_
  refine s_ior f_128_39 ?_
  refine s_istore f_128_40 (by decide) ?_
  refine k_iinc (w := 1) f_128_42 rfl (by decide) (by decide) ?_
  refine s_goto 6 f_128_45 (by decide) ?_
  refine aAt.sub [(0, .ref 133), (1, .ref a1), (2, .int a2), (3, .int a3), (4, .int (w0 ||| (p4 <<< (a5 &&& 31)))), (5, .int (a5 + 1))] rfl ?_
  exact hk6 _ _ _ _ _ _ ha1 _ hd hQ
def cCourt_safeKinds_L6 (T : TS) (X : XS) : Nat → SS → Nat → Int32 → Int32 → Int32 → Int32 → Option (Int32 × SS)
  | 0, _, _, _, _, _, _ => none
  | n + 1, S, a1, a2, a3, a4, a5 =>
    if (7 : Int32) ≤ a5 then
      some (a4, S)
    else
      (cCourt_judgeAs S T X a1 a5 (0 : Int32) a2 a3).bind fun p2 =>
      if p2.1 = 0 then
        cCourt_safeKinds_J33 T X (cCourt_safeKinds_L6 T X  n) p2.2 a1 a2 a3 a5 a4 true
      else
        cCourt_safeKinds_J33 T X (cCourt_safeKinds_L6 T X  n) p2.2 a1 a2 a3 a5 a4 false
theorem t_cCourt_safeKinds_L6 {l : Launch} {G : aG} {d : Nat} {Q : Option Value → aHeap → Prop} {sl : Nat} {sx : Nat → Int32} {K : KS} {T : TS} {X : XS} {M : SS} : ∀ (n : Nat), ∀ (S : SS) (a1 : Nat) (a2 : Int32) (a3 : Int32) (a4 : Int32) (a5 : Int32) (_ : oc X.2 a1 5) (p : Int32 × SS), cCourt_safeKinds_L6 T X n S a1 a2 a3 a4 a5 = some p → Q (some (.int p.1)) (LH (old0 sl sx) p.2 K T X M) → aAt l G (d + 4) 0 0 128 6 [(0, .ref 133), (1, .ref a1), (2, .int a2), (3, .int a3), (4, .int a4), (5, .int a5)] [] 0 0 (LH (old0 sl sx) S K T X M) Q := by
  intro n
  induction n with
  | zero =>
    intro S a1 a2 a3 a4 a5 ha1 p hd hQ
    rw [cCourt_safeKinds_L6] at hd
    cases hd
  | succ n ih =>
    intro S a1 a2 a3 a4 a5 ha1 p hd hQ
    rw [cCourt_safeKinds_L6] at hd
    refine s_iload f_128_6 rfl ?_
    refine k_bipush (v := 7) f_128_8 (by decide) ?_
    refine s_icmp_ge 48 f_128_10 (by decide) (fun c1 => ?_) (fun c1 => ?_)
    · replace hd := ite_p c1 hd
      refine s_iload f_128_48 rfl ?_
      refine s_ireturn f_128_50 rfl rfl ?_
      cases hd
      exact hQ
    · replace hd := ite_n c1 hd
      refine s_iload f_128_13 rfl ?_
      refine s_aload_n f_128_15 rfl ?_
      refine s_aload_n f_128_16 rfl ?_
      refine s_iload f_128_17 rfl ?_
      refine k_iconst (v := 0) f_128_19 (by decide) ?_
      refine s_iload_n f_128_20 rfl ?_
      refine s_iload_n f_128_21 rfl ?_
      replace hd := obind hd
      obtain ⟨p2, e2, hd⟩ := hd
      refine L_virt (As := [.ref a1, .int a5, .int (0 : Int32), .int a2, .int a3]) f_128_22 ca_1_30 rfl rfl (obL (by decide)) (by decide) (Nat.le_of_ble_eq_true rfl) ?_
      refine t_cCourt_judgeAs ha1 e2 ?_
      refine s_if_ne 32 f_128_25 (by decide) (fun c3 => ?_) (fun c3 => ?_)
      · replace hd := ite_n c3 hd
        refine k_iconst (v := 0) f_128_32 (by decide) ?_
        refine aAt.sub [(0, .ref 133), (1, .ref a1), (2, .int a2), (3, .int a3), (5, .int a5)] rfl ?_
        exact t_cCourt_safeKinds_J33 ih _ _ _ _ _ _ _ ha1 _ hd hQ
      · replace hd := ite_p c3 hd
        refine k_iconst (v := 1) f_128_28 (by decide) ?_
        refine s_goto 33 f_128_29 (by decide) ?_
        refine aAt.sub [(0, .ref 133), (1, .ref a1), (2, .int a2), (3, .int a3), (5, .int a5)] rfl ?_
        exact t_cCourt_safeKinds_J33 ih _ _ _ _ _ _ _ ha1 _ hd hQ
def cCourt_safeKinds (S : SS) (T : TS) (X : XS) (a1 : Nat) (a2 : Int32) (a3 : Int32) : Option (Int32 × SS) :=
  cCourt_safeKinds_L6 T X FU S a1 a2 a3 (0 : Int32) (0 : Int32)
theorem t_cCourt_safeKinds {l : Launch} {G : aG} {d : Nat} {Q : Option Value → aHeap → Prop} {sl : Nat} {sx : Nat → Int32} {S : SS} {K : KS} {T : TS} {X : XS} {M : SS} {a1 : Nat} {a2 : Int32} {a3 : Int32} (ha1 : oc X.2 a1 5) {p : Int32 × SS} (hd : cCourt_safeKinds S T X a1 a2 a3 = some p) (hQ : Q (some (.int p.1)) (LH (old0 sl sx) p.2 K T X M)) : aCall l G (d + 4) 0 0 128 [.ref 133, .ref a1, .int a2, .int a3] (LH (old0 sl sx) S K T X M) Q := by
  refine aCall.of (by decide) (Nat.le_of_ble_eq_true rfl) ?_
  refine aAt.sub [(0, .ref 133), (1, .ref a1), (2, .int a2), (3, .int a3)] rfl ?_
  unfold cCourt_safeKinds at hd
  refine k_iconst (v := 0) f_128_0 (by decide) ?_
  refine s_istore f_128_1 (by decide) ?_
  refine k_iconst (v := 0) f_128_3 (by decide) ?_
  refine s_istore f_128_4 (by decide) ?_
  refine aAt.sub [(0, .ref 133), (1, .ref a1), (2, .int a2), (3, .int a3), (4, .int (0 : Int32)), (5, .int (0 : Int32))] rfl ?_
  exact t_cCourt_safeKinds_L6 FU _ _ _ _ _ _ ha1 _ hd hQ

def cD_dress (S : SS) (T : TS) (X : XS) (a1 : Int32) (a2 : Int32) (a3 : Int32) : Option (Int32 × SS) :=
  (cD_mayBeJudged S a1 a2 a3).bind fun p1 =>
  if p1 = true then
    if inb a1 20 then
      (cCourt_safeKinds S T X (39 + (ix a1)) a2 a3).bind fun p4 =>
      some (p4.1, p4.2)
    else none
  else
    (cD_found S (-100001 : Int32)).bind fun p5 =>
    some (p5.1, p5.2)
theorem t_cD_dress {l : Launch} {G : aG} {d : Nat} {Q : Option Value → aHeap → Prop} {sl : Nat} {sx : Nat → Int32} {S : SS} {K : KS} {T : TS} {X : XS} {M : SS} {a1 : Int32} {a2 : Int32} {a3 : Int32} {p : Int32 × SS} (hd : cD_dress S T X a1 a2 a3 = some p) (hQ : Q (some (.int p.1)) (LH (old0 sl sx) p.2 K T X M)) : aCall l G (d + 5) 0 0 127 [.ref 8, .int a1, .int a2, .int a3] (LH (old0 sl sx) S K T X M) Q := by
  refine aCall.of (by decide) (Nat.le_of_ble_eq_true rfl) ?_
  refine aAt.sub [(0, .ref 8), (1, .int a1), (2, .int a2), (3, .int a3)] rfl ?_
  unfold cD_dress at hd
  refine s_aload_n f_127_0 rfl ?_
  refine s_iload_n f_127_1 rfl ?_
  refine s_iload_n f_127_2 rfl ?_
  refine s_iload_n f_127_3 rfl ?_
  replace hd := obind hd
  obtain ⟨p1, e1, hd⟩ := hd
  refine L_virt (As := [.int a1, .int a2, .int a3]) f_127_4 ca_0_301 rfl rfl (obL (by decide)) (by decide) (Nat.le_of_ble_eq_true rfl) ?_
  refine t_cD_mayBeJudged e1 ?_
  refine z_if_ne 17 f_127_7 (by decide) (fun c2 => ?_) (fun c2 => ?_)
  · replace hd := ite_p c2 hd
    refine s_aload_n f_127_17 rfl ?_
    refine L_getR f_127_18 fd_0_24 (obL (by decide)) (by decide) (by decide : rf 8 2 = 133) ?_
    refine s_aload_n f_127_21 rfl ?_
    refine L_getR f_127_22 fd_0_10 (obL (by decide)) (by decide) (by decide : rf 8 0 = 9) ?_
    refine L_getR f_127_25 fd_0_206 (obL (by decide)) (by decide) (by decide : rf 9 2 = 12) ?_
    refine s_iload_n f_127_28 rfl ?_
    replace hd := gd hd
    obtain ⟨g3, hd⟩ := hd
    refine L_aaload (ak := 32) (q := (ix a1)) f_127_29 (obL (by decide)) (by decide) (inb_nI g3) (inb_lt g3) (Nat.le_of_ble_eq_true rfl) (scAr (inb_lt g3)) (rfA (inb_lt g3)) ?_
    refine s_iload_n f_127_30 rfl ?_
    refine s_iload_n f_127_31 rfl ?_
    replace hd := obind hd
    obtain ⟨p4, e4, hd⟩ := hd
    refine L_virt (As := [.ref (39 + (ix a1)), .int a2, .int a3]) f_127_32 ca_0_312 rfl rfl (obL (by decide)) (by decide) (Nat.le_of_ble_eq_true rfl) ?_
    refine t_cCourt_safeKinds (ocA g3) e4 ?_
    refine s_ireturn f_127_35 rfl rfl ?_
    cases hd
    exact hQ
  · replace hd := ite_n c2 hd
    refine s_aload_n f_127_10 rfl ?_
    refine s_ldc f_127_11 ko_0_83 ?_
    replace hd := obind hd
    obtain ⟨p5, e5, hd⟩ := hd
    refine L_virt (As := [.int (-100001 : Int32)]) f_127_13 ca_0_84 rfl rfl (obL (by decide)) (by decide) (Nat.le_of_ble_eq_true rfl) ?_
    refine t_cD_found e5 ?_
    refine s_ireturn f_127_16 rfl rfl ?_
    cases hd
    exact hQ

def cD_price_J18 (S : SS) : Option (Int32 × SS) :=
  (cD_found S (-100001 : Int32)).bind fun p3 =>
  some (p3.1, p3.2)
theorem t_cD_price_J18 {l : Launch} {G : aG} {d : Nat} {Q : Option Value → aHeap → Prop} {sl : Nat} {sx : Nat → Int32} {K : KS} {T : TS} {X : XS} {M : SS} : ∀ (S : SS) (p : Int32 × SS), cD_price_J18 S = some p → Q (some (.int p.1)) (LH (old0 sl sx) p.2 K T X M) → aAt l G (d + 2) 0 0 129 18 [(0, .ref 8)] [] 0 0 (LH (old0 sl sx) S K T X M) Q := by
  intro S p hd hQ
  unfold cD_price_J18 at hd
  refine s_aload_n f_129_18 rfl ?_
  refine s_ldc f_129_19 ko_0_83 ?_
  replace hd := obind hd
  obtain ⟨p3, e3, hd⟩ := hd
  refine L_virt (As := [.int (-100001 : Int32)]) f_129_21 ca_0_84 rfl rfl (obL (by decide)) (by decide) (Nat.le_of_ble_eq_true rfl) ?_
  refine t_cD_found e3 ?_
  refine s_ireturn f_129_24 rfl rfl ?_
  cases hd
  exact hQ
def cD_price (S : SS) (a1 : Int32) (a2 : Int32) : Option (Int32 × SS) :=
  (cLand_hasField S a1).bind fun p1 =>
  if p1 = true then
    (cD_isBench a2).bind fun p4 =>
    if p4 = true then
      if inb a1 8 then
        (cLand_leftBy S a2 (S 9 11)).bind fun p7 =>
        some (((S (31 + (ix a1)) 1) * p7), S)
      else none
    else
      cD_price_J18 S
  else
    cD_price_J18 S
theorem t_cD_price {l : Launch} {G : aG} {d : Nat} {Q : Option Value → aHeap → Prop} {sl : Nat} {sx : Nat → Int32} {S : SS} {K : KS} {T : TS} {X : XS} {M : SS} {a1 : Int32} {a2 : Int32} {p : Int32 × SS} (hd : cD_price S a1 a2 = some p) (hQ : Q (some (.int p.1)) (LH (old0 sl sx) p.2 K T X M)) : aCall l G (d + 2) 0 0 129 [.ref 8, .int a1, .int a2] (LH (old0 sl sx) S K T X M) Q := by
  refine aCall.of (by decide) (Nat.le_of_ble_eq_true rfl) ?_
  refine aAt.sub [(0, .ref 8), (1, .int a1), (2, .int a2)] rfl ?_
  unfold cD_price at hd
  refine s_aload_n f_129_0 rfl ?_
  refine L_getR f_129_1 fd_0_10 (obL (by decide)) (by decide) (by decide : rf 8 0 = 9) ?_
  refine s_iload_n f_129_4 rfl ?_
  replace hd := obind hd
  obtain ⟨p1, e1, hd⟩ := hd
  refine L_virt (As := [.int a1]) f_129_5 ca_0_159 rfl rfl (obL (by decide)) (by decide) (Nat.le_of_ble_eq_true rfl) ?_
  refine t_cLand_hasField e1 ?_
  refine z_if_eq 18 f_129_8 (by decide) (fun c2 => ?_) (fun c2 => ?_)
  · replace hd := ite_n c2 hd
    refine aAt.sub [(0, .ref 8)] rfl ?_
    exact t_cD_price_J18 _  _ hd hQ
  · replace hd := ite_p c2 hd
    refine s_iload_n f_129_11 rfl ?_
    replace hd := obind hd
    obtain ⟨p4, e4, hd⟩ := hd
    refine L_stat (As := [.int a2]) f_129_12 ca_0_255 rfl rfl (Nat.le_of_ble_eq_true rfl) ?_
    refine t_cD_isBench e4 ?_
    refine z_if_ne 25 f_129_15 (by decide) (fun c5 => ?_) (fun c5 => ?_)
    · replace hd := ite_p c5 hd
      refine s_aload_n f_129_25 rfl ?_
      refine L_getR f_129_26 fd_0_10 (obL (by decide)) (by decide) (by decide : rf 8 0 = 9) ?_
      refine L_getR f_129_29 fd_0_150 (obL (by decide)) (by decide) (by decide : rf 9 1 = 11) ?_
      refine s_iload_n f_129_32 rfl ?_
      replace hd := gd hd
      obtain ⟨g6, hd⟩ := hd
      refine L_aaload (ak := 31) (q := (ix a1)) f_129_33 (obL (by decide)) (by decide) (inb_nI g6) (inb_lt g6) (Nat.le_of_ble_eq_true rfl) (scFr (inb_lt g6)) (rfF (inb_lt g6)) ?_
      refine C_getI f_129_34 fd_0_162 (ocF g6) (sck0 (k := X.2) (ocF g6).1 (by decide)) ?_
      refine s_aload_n f_129_37 rfl ?_
      refine L_getR f_129_38 fd_0_10 (obL (by decide)) (by decide) (by decide : rf 8 0 = 9) ?_
      refine s_iload_n f_129_41 rfl ?_
      refine s_aload_n f_129_42 rfl ?_
      refine L_getR f_129_43 fd_0_10 (obL (by decide)) (by decide) (by decide : rf 8 0 = 9) ?_
      refine C_getI f_129_46 fd_0_66 (ocl (by decide)) (by decide) ?_
      replace hd := obind hd
      obtain ⟨p7, e7, hd⟩ := hd
      refine L_virt (As := [.int a2, .int (S 9 11)]) f_129_49 ca_0_265 rfl rfl (obL (by decide)) (by decide) (Nat.le_of_ble_eq_true rfl) ?_
      refine t_cLand_leftBy e7 ?_
      refine s_imul f_129_52 ?_
      refine s_ireturn f_129_53 rfl rfl ?_
      cases hd
      exact hQ
    · replace hd := ite_n c5 hd
      refine aAt.sub [(0, .ref 8)] rfl ?_
      exact t_cD_price_J18 _  _ hd hQ

def cD_isHarvest (a0 : Int32) : Option (Bool) :=
  (cD_within a0 (0 : Int32) (30 : Int32)).bind fun p1 =>
  some p1
theorem t_cD_isHarvest {l : Launch} {G : aG} {d : Nat} {Q : Option Value → aHeap → Prop} {sl : Nat} {sx : Nat → Int32} {S : SS} {K : KS} {T : TS} {X : XS} {M : SS} {a0 : Int32} {p : Bool} (hd : cD_isHarvest a0 = some p) (hQ : Q (some (.int (b2i p))) (LH (old0 sl sx) S K T X M)) : aCall l G (d + 1) 0 0 131 [.int a0] (LH (old0 sl sx) S K T X M) Q := by
  refine aCall.of (by decide) (Nat.le_of_ble_eq_true rfl) ?_
  refine aAt.sub [(0, .int a0)] rfl ?_
  unfold cD_isHarvest at hd
  refine s_iload_n f_131_0 rfl ?_
  refine k_iconst (v := 0) f_131_1 (by decide) ?_
  refine k_bipush (v := 30) f_131_2 (by decide) ?_
  replace hd := obind hd
  obtain ⟨p1, e1, hd⟩ := hd
  refine L_stat (As := [.int a0, .int (0 : Int32), .int (30 : Int32)]) f_131_4 ca_0_75 rfl rfl (Nat.le_of_ble_eq_true rfl) ?_
  refine t_cD_within e1 ?_
  refine s_iretB (b := p1) f_131_7 rfl ?_
  cases hd
  exact hQ

def cD_leastOf_L2 : Nat → Int32 → Int32 → Option (Int32)
  | 0, _, _ => none
  | n + 1, a0, a1 =>
    if (13 : Int32) ≤ a1 then
      some a1
    else
      if ((a0 >>> (a1 &&& 31)) &&& (1 : Int32)) = 0 then
        cD_leastOf_L2  n a0 (a1 + 1)
      else
        some a1
theorem t_cD_leastOf_L2 {l : Launch} {G : aG} {d : Nat} {Q : Option Value → aHeap → Prop} {sl : Nat} {sx : Nat → Int32} {S : SS} {K : KS} {T : TS} {X : XS} {M : SS} : ∀ (n : Nat), ∀ (a0 : Int32) (a1 : Int32) (p : Int32), cD_leastOf_L2 n a0 a1 = some p → Q (some (.int p)) (LH (old0 sl sx) S K T X M) → aAt l G d 0 0 138 2 [(0, .int a0), (1, .int a1)] [] 0 0 (LH (old0 sl sx) S K T X M) Q := by
  intro n
  induction n with
  | zero =>
    intro a0 a1 p hd hQ
    rw [cD_leastOf_L2] at hd
    cases hd
  | succ n ih =>
    intro a0 a1 p hd hQ
    rw [cD_leastOf_L2] at hd
    refine s_iload_n f_138_2 rfl ?_
    refine k_bipush (v := 13) f_138_3 (by decide) ?_
    refine s_icmp_ge 22 f_138_5 (by decide) (fun c1 => ?_) (fun c1 => ?_)
    · replace hd := ite_p c1 hd
      refine s_iload_n f_138_22 rfl ?_
      refine s_ireturn f_138_23 rfl rfl ?_
      cases hd
      exact hQ
    · replace hd := ite_n c1 hd
      refine s_iload_n f_138_8 rfl ?_
      refine s_iload_n f_138_9 rfl ?_
      refine s_ishr f_138_10 ?_
      refine k_iconst (v := 1) f_138_11 (by decide) ?_
      refine s_iand f_138_12 ?_
      refine s_if_ne 22 f_138_13 (by decide) (fun c2 => ?_) (fun c2 => ?_)
      · replace hd := ite_n c2 hd
        refine s_iload_n f_138_22 rfl ?_
        refine s_ireturn f_138_23 rfl rfl ?_
        cases hd
        exact hQ
      · replace hd := ite_p c2 hd
        refine k_iinc (w := 1) f_138_16 rfl (by decide) (by decide) ?_
        refine s_goto 2 f_138_19 (by decide) ?_
        refine aAt.sub [(0, .int a0), (1, .int (a1 + 1))] rfl ?_
        exact ih _ _  _ hd hQ
def cD_leastOf (a0 : Int32) : Option (Int32) :=
  cD_leastOf_L2 FU a0 (0 : Int32)
theorem t_cD_leastOf {l : Launch} {G : aG} {d : Nat} {Q : Option Value → aHeap → Prop} {sl : Nat} {sx : Nat → Int32} {S : SS} {K : KS} {T : TS} {X : XS} {M : SS} {a0 : Int32} {p : Int32} (hd : cD_leastOf a0 = some p) (hQ : Q (some (.int p)) (LH (old0 sl sx) S K T X M)) : aCall l G d 0 0 138 [.int a0] (LH (old0 sl sx) S K T X M) Q := by
  refine aCall.of (by decide) (Nat.le_of_ble_eq_true rfl) ?_
  refine aAt.sub [(0, .int a0)] rfl ?_
  unfold cD_leastOf at hd
  refine k_iconst (v := 0) f_138_0 (by decide) ?_
  refine s_istore_n f_138_1 (by decide) ?_
  refine aAt.sub [(0, .int a0), (1, .int (0 : Int32))] rfl ?_
  exact t_cD_leastOf_L2 FU _ _  _ hd hQ

def cSeason_strike_J132 (T : TS) (X : XS) (k68 : SS → Int32 → Option (SS)) (S : SS) (a1 : Int32) : Option (SS) :=
  k68 S (a1 + 1)
theorem t_cSeason_strike_J132 {l : Launch} {G : aG} {d : Nat} {Q : Option Value → aHeap → Prop} {sl : Nat} {sx : Nat → Int32} {K : KS} {T : TS} {X : XS} {M : SS} {k68 : SS → Int32 → Option (SS)} (hk68 : ∀ (S : SS) (a1 : Int32) (p : SS), k68 S a1 = some p → Q none (LH (old0 sl sx) p K T X M) → aAt l G (d + 16) 0 0 137 68 [(0, .ref 136), (1, .int a1)] [] 0 0 (LH (old0 sl sx) S K T X M) Q) : ∀ (S : SS) (a1 : Int32) (p : SS), cSeason_strike_J132 T X k68 S a1 = some p → Q none (LH (old0 sl sx) p K T X M) → aAt l G (d + 16) 0 0 137 132 [(0, .ref 136), (1, .int a1)] [] 0 0 (LH (old0 sl sx) S K T X M) Q := by
  intro S a1 p hd hQ
  unfold cSeason_strike_J132 at hd
  refine k_iinc (w := 1) f_137_132 rfl (by decide) (by decide) ?_
  refine s_goto 68 f_137_135 (by decide) ?_
  refine aAt.sub [(0, .ref 136), (1, .int (a1 + 1))] rfl ?_
  exact hk68 _ _  _ hd hQ
def cSeason_strike_L68 (T : TS) (X : XS) : Nat → SS → Int32 → Option (SS)
  | 0, _, _ => none
  | n + 1, S, a1 =>
    if (S 9 8) ≤ a1 then
      some S
    else
      if inb a1 8 then
        (cLand_heirsOf S (S (31 + (ix a1)) 0)).bind fun p4 =>
        if p4 = 0 then
          cSeason_strike_J132 T X (cSeason_strike_L68 T X  n) S a1
        else
          (cCourt_givesBack S T X (31 + (ix a1)) (0 : Int32) (S 9 11)).bind fun p6 =>
          if p6.1 = true then
            (cD_leastOf p4).bind fun p8 =>
            cSeason_strike_J132 T X (cSeason_strike_L68 T X  n) (up p6.2 (31 + (ix a1)) 2 p8) a1
          else
            cSeason_strike_J132 T X (cSeason_strike_L68 T X  n) p6.2 a1
      else none
theorem t_cSeason_strike_L68 {l : Launch} {G : aG} {d : Nat} {Q : Option Value → aHeap → Prop} {sl : Nat} {sx : Nat → Int32} {K : KS} {T : TS} {X : XS} {M : SS} : ∀ (n : Nat), ∀ (S : SS) (a1 : Int32) (p : SS), cSeason_strike_L68 T X n S a1 = some p → Q none (LH (old0 sl sx) p K T X M) → aAt l G (d + 16) 0 0 137 68 [(0, .ref 136), (1, .int a1)] [] 0 0 (LH (old0 sl sx) S K T X M) Q := by
  intro n
  induction n with
  | zero =>
    intro S a1 p hd hQ
    rw [cSeason_strike_L68] at hd
    cases hd
  | succ n ih =>
    intro S a1 p hd hQ
    rw [cSeason_strike_L68] at hd
    refine s_iload_n f_137_68 rfl ?_
    refine s_aload_n f_137_69 rfl ?_
    refine L_getR f_137_70 fd_8_9 (obL (by decide)) (by decide) (by decide : rf 136 0 = 9) ?_
    refine C_getI f_137_73 fd_8_19 (ocl (by decide)) (by decide) ?_
    refine s_icmp_ge 138 f_137_76 (by decide) (fun c2 => ?_) (fun c2 => ?_)
    · replace hd := ite_p c2 hd
      refine s_return f_137_138 rfl ?_
      cases hd
      exact hQ
    · replace hd := ite_n c2 hd
      refine s_aload_n f_137_79 rfl ?_
      refine L_getR f_137_80 fd_8_9 (obL (by decide)) (by decide) (by decide : rf 136 0 = 9) ?_
      refine L_getR f_137_83 fd_8_25 (obL (by decide)) (by decide) (by decide : rf 9 1 = 11) ?_
      refine s_iload_n f_137_86 rfl ?_
      replace hd := gd hd
      obtain ⟨g3, hd⟩ := hd
      refine L_aaload (ak := 31) (q := (ix a1)) f_137_87 (obL (by decide)) (by decide) (inb_nI g3) (inb_lt g3) (Nat.le_of_ble_eq_true rfl) (scFr (inb_lt g3)) (rfF (inb_lt g3)) ?_
      refine s_astore_n f_137_88 (by decide) ?_
      refine s_aload_n f_137_89 rfl ?_
      refine L_getR f_137_90 fd_8_9 (obL (by decide)) (by decide) (by decide : rf 136 0 = 9) ?_
      refine s_aload_n f_137_93 rfl ?_
      refine C_getI f_137_94 fd_8_168 (ocF g3) (sck0 (k := X.2) (ocF g3).1 (by decide)) ?_
      replace hd := obind hd
      obtain ⟨p4, e4, hd⟩ := hd
      refine L_virt (As := [.int (S (31 + (ix a1)) 0)]) f_137_97 ca_8_171 rfl rfl (obL (by decide)) (by decide) (Nat.le_of_ble_eq_true rfl) ?_
      refine t_cLand_heirsOf e4 ?_
      refine s_istore_n f_137_100 (by decide) ?_
      refine s_iload_n f_137_101 rfl ?_
      refine s_if_eq 132 f_137_102 (by decide) (fun c5 => ?_) (fun c5 => ?_)
      · replace hd := ite_p c5 hd
        refine aAt.sub [(0, .ref 136), (1, .int a1)] rfl ?_
        exact t_cSeason_strike_J132 ih _ _  _ hd hQ
      · replace hd := ite_n c5 hd
        refine s_aload_n f_137_105 rfl ?_
        refine L_getR f_137_106 fd_8_15 (obL (by decide)) (by decide) (by decide : rf 136 1 = 133) ?_
        refine s_aload_n f_137_109 rfl ?_
        refine k_iconst (v := 0) f_137_110 (by decide) ?_
        refine s_aload_n f_137_111 rfl ?_
        refine L_getR f_137_112 fd_8_9 (obL (by decide)) (by decide) (by decide : rf 136 0 = 9) ?_
        refine C_getI f_137_115 fd_8_73 (ocl (by decide)) (by decide) ?_
        replace hd := obind hd
        obtain ⟨p6, e6, hd⟩ := hd
        refine L_virt (As := [.ref (31 + (ix a1)), .int (0 : Int32), .int (S 9 11)]) f_137_118 ca_8_174 rfl rfl (obL (by decide)) (by decide) (Nat.le_of_ble_eq_true rfl) ?_
        refine t_cCourt_givesBack (ocF g3) e6 ?_
        refine z_if_eq 132 f_137_121 (by decide) (fun c7 => ?_) (fun c7 => ?_)
        · replace hd := ite_n c7 hd
          refine aAt.sub [(0, .ref 136), (1, .int a1)] rfl ?_
          exact t_cSeason_strike_J132 ih _ _  _ hd hQ
        · replace hd := ite_p c7 hd
          refine s_aload_n f_137_124 rfl ?_
          refine s_iload_n f_137_125 rfl ?_
          replace hd := obind hd
          obtain ⟨p8, e8, hd⟩ := hd
          refine L_statN (As := [.int p4]) f_137_126 ca_8_178 rfl rfl (Nat.le_of_ble_eq_true rfl) ?_
          refine t_cD_leastOf e8 ?_
          refine C_putI f_137_129 fd_8_29 (ocF g3) (sck0 (k := X.2) (ocF g3).1 (by decide)) (Or.inl rfl) (by decide) ?_
          refine aAt.sub [(0, .ref 136), (1, .int a1)] rfl ?_
          exact t_cSeason_strike_J132 ih _ _  _ hd hQ
def cSeason_strike_J60 (T : TS) (X : XS) (k2 : SS → Int32 → Option (SS)) (S : SS) (a1 : Int32) : Option (SS) :=
  k2 S (a1 + 1)
theorem t_cSeason_strike_J60 {l : Launch} {G : aG} {d : Nat} {Q : Option Value → aHeap → Prop} {sl : Nat} {sx : Nat → Int32} {K : KS} {T : TS} {X : XS} {M : SS} {k2 : SS → Int32 → Option (SS)} (hk2 : ∀ (S : SS) (a1 : Int32) (p : SS), k2 S a1 = some p → Q none (LH (old0 sl sx) p K T X M) → aAt l G (d + 16) 0 0 137 2 [(0, .ref 136), (1, .int a1)] [] 0 0 (LH (old0 sl sx) S K T X M) Q) : ∀ (S : SS) (a1 : Int32) (p : SS), cSeason_strike_J60 T X k2 S a1 = some p → Q none (LH (old0 sl sx) p K T X M) → aAt l G (d + 16) 0 0 137 60 [(0, .ref 136), (1, .int a1)] [] 0 0 (LH (old0 sl sx) S K T X M) Q := by
  intro S a1 p hd hQ
  unfold cSeason_strike_J60 at hd
  refine k_iinc (w := 1) f_137_60 rfl (by decide) (by decide) ?_
  refine s_goto 2 f_137_63 (by decide) ?_
  refine aAt.sub [(0, .ref 136), (1, .int (a1 + 1))] rfl ?_
  exact hk2 _ _  _ hd hQ
def cSeason_strike_L2 (T : TS) (X : XS) : Nat → SS → Int32 → Option (SS)
  | 0, _, _ => none
  | n + 1, S, a1 =>
    if (S 9 9) ≤ a1 then
      cSeason_strike_L68 T X FU S (0 : Int32)
    else
      if inb a1 20 then
        if (S (39 + (ix a1)) 9) = 0 then
          (cCourt_judge S T X (39 + (ix a1)) (0 : Int32) (0 : Int32) (S 9 11)).bind fun p11 =>
          if p11.1 = (2 : Int32) then
            (cLand_end p11.2 (39 + (ix a1)) (2 : Int32)).bind fun p13 =>
            cSeason_strike_J60 T X (cSeason_strike_L2 T X  n) p13 a1
          else
            cSeason_strike_J60 T X (cSeason_strike_L2 T X  n) p11.2 a1
        else
          cSeason_strike_J60 T X (cSeason_strike_L2 T X  n) S a1
      else none
theorem t_cSeason_strike_L2 {l : Launch} {G : aG} {d : Nat} {Q : Option Value → aHeap → Prop} {sl : Nat} {sx : Nat → Int32} {K : KS} {T : TS} {X : XS} {M : SS} : ∀ (n : Nat), ∀ (S : SS) (a1 : Int32) (p : SS), cSeason_strike_L2 T X n S a1 = some p → Q none (LH (old0 sl sx) p K T X M) → aAt l G (d + 16) 0 0 137 2 [(0, .ref 136), (1, .int a1)] [] 0 0 (LH (old0 sl sx) S K T X M) Q := by
  intro n
  induction n with
  | zero =>
    intro S a1 p hd hQ
    rw [cSeason_strike_L2] at hd
    cases hd
  | succ n ih =>
    intro S a1 p hd hQ
    rw [cSeason_strike_L2] at hd
    refine s_iload_n f_137_2 rfl ?_
    refine s_aload_n f_137_3 rfl ?_
    refine L_getR f_137_4 fd_8_9 (obL (by decide)) (by decide) (by decide : rf 136 0 = 9) ?_
    refine C_getI f_137_7 fd_8_58 (ocl (by decide)) (by decide) ?_
    refine s_icmp_ge 66 f_137_10 (by decide) (fun c1 => ?_) (fun c1 => ?_)
    · replace hd := ite_p c1 hd
      refine k_iconst (v := 0) f_137_66 (by decide) ?_
      refine s_istore_n f_137_67 (by decide) ?_
      refine aAt.sub [(0, .ref 136), (1, .int (0 : Int32))] rfl ?_
      exact t_cSeason_strike_L68 FU _ _  _ hd hQ
    · replace hd := ite_n c1 hd
      refine s_aload_n f_137_13 rfl ?_
      refine L_getR f_137_14 fd_8_9 (obL (by decide)) (by decide) (by decide : rf 136 0 = 9) ?_
      refine L_getR f_137_17 fd_8_61 (obL (by decide)) (by decide) (by decide : rf 9 2 = 12) ?_
      refine s_iload_n f_137_20 rfl ?_
      replace hd := gd hd
      obtain ⟨g9, hd⟩ := hd
      refine L_aaload (ak := 32) (q := (ix a1)) f_137_21 (obL (by decide)) (by decide) (inb_nI g9) (inb_lt g9) (Nat.le_of_ble_eq_true rfl) (scAr (inb_lt g9)) (rfA (inb_lt g9)) ?_
      refine s_astore_n f_137_22 (by decide) ?_
      refine s_aload_n f_137_23 rfl ?_
      refine C_getI f_137_24 fd_8_65 (ocA g9) (sck0 (k := X.2) (ocA g9).1 (by decide)) ?_
      refine s_if_ne 60 f_137_27 (by decide) (fun c10 => ?_) (fun c10 => ?_)
      · replace hd := ite_n c10 hd
        refine aAt.sub [(0, .ref 136), (1, .int a1)] rfl ?_
        exact t_cSeason_strike_J60 ih _ _  _ hd hQ
      · replace hd := ite_p c10 hd
        refine s_aload_n f_137_30 rfl ?_
        refine L_getR f_137_31 fd_8_15 (obL (by decide)) (by decide) (by decide : rf 136 1 = 133) ?_
        refine s_aload_n f_137_34 rfl ?_
        refine k_iconst (v := 0) f_137_35 (by decide) ?_
        refine k_iconst (v := 0) f_137_36 (by decide) ?_
        refine s_aload_n f_137_37 rfl ?_
        refine L_getR f_137_38 fd_8_9 (obL (by decide)) (by decide) (by decide : rf 136 0 = 9) ?_
        refine C_getI f_137_41 fd_8_73 (ocl (by decide)) (by decide) ?_
        replace hd := obind hd
        obtain ⟨p11, e11, hd⟩ := hd
        refine L_virt (As := [.ref (39 + (ix a1)), .int (0 : Int32), .int (0 : Int32), .int (S 9 11)]) f_137_44 ca_8_162 rfl rfl (obL (by decide)) (by decide) (Nat.le_of_ble_eq_true rfl) ?_
        refine t_cCourt_judge (ocA g9) e11 ?_
        refine k_iconst (v := 2) f_137_47 (by decide) ?_
        refine s_icmp_ne 60 f_137_48 (by decide) (fun c12 => ?_) (fun c12 => ?_)
        · replace hd := ite_n c12 hd
          refine aAt.sub [(0, .ref 136), (1, .int a1)] rfl ?_
          exact t_cSeason_strike_J60 ih _ _  _ hd hQ
        · replace hd := ite_p c12 hd
          refine s_aload_n f_137_51 rfl ?_
          refine L_getR f_137_52 fd_8_9 (obL (by decide)) (by decide) (by decide : rf 136 0 = 9) ?_
          refine s_aload_n f_137_55 rfl ?_
          refine k_iconst (v := 2) f_137_56 (by decide) ?_
          replace hd := obind hd
          obtain ⟨p13, e13, hd⟩ := hd
          refine L_virt (As := [.ref (39 + (ix a1)), .int (2 : Int32)]) f_137_57 ca_8_159 rfl rfl (obL (by decide)) (by decide) (Nat.le_of_ble_eq_true rfl) ?_
          refine t_cLand_end (ocA g9) e13 ?_
          refine aAt.sub [(0, .ref 136), (1, .int a1)] rfl ?_
          exact t_cSeason_strike_J60 ih _ _  _ hd hQ
def cSeason_strike (S : SS) (T : TS) (X : XS) : Option (SS) :=
  cSeason_strike_L2 T X FU S (0 : Int32)
theorem t_cSeason_strike {l : Launch} {G : aG} {d : Nat} {Q : Option Value → aHeap → Prop} {sl : Nat} {sx : Nat → Int32} {S : SS} {K : KS} {T : TS} {X : XS} {M : SS} {p : SS} (hd : cSeason_strike S T X = some p) (hQ : Q none (LH (old0 sl sx) p K T X M)) : aCall l G (d + 16) 0 0 137 [.ref 136] (LH (old0 sl sx) S K T X M) Q := by
  refine aCall.of (by decide) (Nat.le_of_ble_eq_true rfl) ?_
  refine aAt.sub [(0, .ref 136)] rfl ?_
  unfold cSeason_strike at hd
  refine k_iconst (v := 0) f_137_0 (by decide) ?_
  refine s_istore_n f_137_1 (by decide) ?_
  refine aAt.sub [(0, .ref 136), (1, .int (0 : Int32))] rfl ?_
  exact t_cSeason_strike_L2 FU _ _  _ hd hQ

def cSeason_fallDue_J39 (S : SS) (a1 : Nat) : Option (SS) :=
  if (S a1 9) = 0 then
    if (S a1 0) = (2 : Int32) then
      (cLand_hasField S (S a1 7)).bind fun p6 =>
      if p6 = true then
        if inb (S a1 7) 8 then
          if (S (31 + (ix (S a1 7))) 2) = (S a1 1) then
            (cLand_end (up S (31 + (ix (S a1 7))) 2 (S a1 2)) a1 (1 : Int32)).bind fun p10 =>
            some p10
          else
            some S
        else none
      else
        some S
    else
      some S
  else
    some S
theorem t_cSeason_fallDue_J39 {l : Launch} {G : aG} {d : Nat} {Q : Option Value → aHeap → Prop} {sl : Nat} {sx : Nat → Int32} {K : KS} {T : TS} {X : XS} {M : SS} : ∀ (S : SS) (a1 : Nat) (_ : oc X.2 a1 5) (p : SS), cSeason_fallDue_J39 S a1 = some p → Q none (LH (old0 sl sx) p K T X M) → aAt l G (d + 4) 0 0 136 39 [(0, .ref 136), (1, .ref a1)] [] 0 0 (LH (old0 sl sx) S K T X M) Q := by
  intro S a1 ha1 p hd hQ
  unfold cSeason_fallDue_J39 at hd
  refine s_aload_n f_136_39 rfl ?_
  refine C_getI f_136_40 fd_8_65 ha1 (sck0 (k := X.2) ha1.1 (by decide)) ?_
  refine s_if_ne 118 f_136_43 (by decide) (fun c4 => ?_) (fun c4 => ?_)
  · replace hd := ite_n c4 hd
    refine s_return f_136_118 rfl ?_
    cases hd
    exact hQ
  · replace hd := ite_p c4 hd
    refine s_aload_n f_136_46 rfl ?_
    refine C_getI f_136_47 fd_8_146 ha1 (sck0 (k := X.2) ha1.1 (by decide)) ?_
    refine k_iconst (v := 2) f_136_50 (by decide) ?_
    refine s_icmp_ne 118 f_136_51 (by decide) (fun c5 => ?_) (fun c5 => ?_)
    · replace hd := ite_n c5 hd
      refine s_return f_136_118 rfl ?_
      cases hd
      exact hQ
    · replace hd := ite_p c5 hd
      refine s_aload_n f_136_54 rfl ?_
      refine L_getR f_136_55 fd_8_9 (obL (by decide)) (by decide) (by decide : rf 136 0 = 9) ?_
      refine s_aload_n f_136_58 rfl ?_
      refine C_getI f_136_59 fd_8_149 ha1 (sck0 (k := X.2) ha1.1 (by decide)) ?_
      replace hd := obind hd
      obtain ⟨p6, e6, hd⟩ := hd
      refine L_virt (As := [.int (S a1 7)]) f_136_62 ca_8_152 rfl rfl (obL (by decide)) (by decide) (Nat.le_of_ble_eq_true rfl) ?_
      refine t_cLand_hasField e6 ?_
      refine z_if_eq 118 f_136_65 (by decide) (fun c7 => ?_) (fun c7 => ?_)
      · replace hd := ite_n c7 hd
        refine s_return f_136_118 rfl ?_
        cases hd
        exact hQ
      · replace hd := ite_p c7 hd
        refine s_aload_n f_136_68 rfl ?_
        refine L_getR f_136_69 fd_8_9 (obL (by decide)) (by decide) (by decide : rf 136 0 = 9) ?_
        refine L_getR f_136_72 fd_8_25 (obL (by decide)) (by decide) (by decide : rf 9 1 = 11) ?_
        refine s_aload_n f_136_75 rfl ?_
        refine C_getI f_136_76 fd_8_149 ha1 (sck0 (k := X.2) ha1.1 (by decide)) ?_
        replace hd := gd hd
        obtain ⟨g8, hd⟩ := hd
        refine L_aaload (ak := 31) (q := (ix (S a1 7))) f_136_79 (obL (by decide)) (by decide) (inb_nI g8) (inb_lt g8) (Nat.le_of_ble_eq_true rfl) (scFr (inb_lt g8)) (rfF (inb_lt g8)) ?_
        refine C_getI f_136_80 fd_8_29 (ocF g8) (sck0 (k := X.2) (ocF g8).1 (by decide)) ?_
        refine s_aload_n f_136_83 rfl ?_
        refine C_getI f_136_84 fd_8_135 ha1 (sck0 (k := X.2) ha1.1 (by decide)) ?_
        refine s_icmp_ne 118 f_136_87 (by decide) (fun c9 => ?_) (fun c9 => ?_)
        · replace hd := ite_n c9 hd
          refine s_return f_136_118 rfl ?_
          cases hd
          exact hQ
        · replace hd := ite_p c9 hd
          refine s_aload_n f_136_90 rfl ?_
          refine L_getR f_136_91 fd_8_9 (obL (by decide)) (by decide) (by decide : rf 136 0 = 9) ?_
          refine L_getR f_136_94 fd_8_25 (obL (by decide)) (by decide) (by decide : rf 9 1 = 11) ?_
          refine s_aload_n f_136_97 rfl ?_
          refine C_getI f_136_98 fd_8_149 ha1 (sck0 (k := X.2) ha1.1 (by decide)) ?_
          refine L_aaload (ak := 31) (q := (ix (S a1 7))) f_136_101 (obL (by decide)) (by decide) (inb_nI g8) (inb_lt g8) (Nat.le_of_ble_eq_true rfl) (scFr (inb_lt g8)) (rfF (inb_lt g8)) ?_
          refine s_aload_n f_136_102 rfl ?_
          refine C_getI f_136_103 fd_8_156 ha1 (sck0 (k := X.2) ha1.1 (by decide)) ?_
          refine C_putI f_136_106 fd_8_29 (ocF g8) (sck0 (k := X.2) (ocF g8).1 (by decide)) (Or.inl rfl) (by decide) ?_
          refine s_aload_n f_136_109 rfl ?_
          refine L_getR f_136_110 fd_8_9 (obL (by decide)) (by decide) (by decide : rf 136 0 = 9) ?_
          refine s_aload_n f_136_113 rfl ?_
          refine k_iconst (v := 1) f_136_114 (by decide) ?_
          replace hd := obind hd
          obtain ⟨p10, e10, hd⟩ := hd
          refine L_virt (As := [.ref a1, .int (1 : Int32)]) f_136_115 ca_8_159 rfl rfl (obL (by decide)) (by decide) (Nat.le_of_ble_eq_true rfl) ?_
          refine t_cLand_end ha1 e10 ?_
          refine s_return f_136_118 rfl ?_
          cases hd
          exact hQ
def cSeason_fallDue (S : SS) (a1 : Nat) : Option (SS) :=
  if inb (S a1 1) 14 then
    (cPerson_isDead S (17 + (ix (S a1 1)))).bind fun p2 =>
    if p2 = true then
      cSeason_fallDue_J39 S a1
    else
      (cPaper_owed S a1).bind fun p11 =>
      (cLand_payOn S a1 (if p11 < (S (17 + (ix (S a1 1))) 3) then p11 else (S (17 + (ix (S a1 1))) 3))).bind fun p12 =>
      cSeason_fallDue_J39 p12 a1
  else none
theorem t_cSeason_fallDue {l : Launch} {G : aG} {d : Nat} {Q : Option Value → aHeap → Prop} {sl : Nat} {sx : Nat → Int32} {S : SS} {K : KS} {T : TS} {X : XS} {M : SS} {a1 : Nat} (ha1 : oc X.2 a1 5) {p : SS} (hd : cSeason_fallDue S a1 = some p) (hQ : Q none (LH (old0 sl sx) p K T X M)) : aCall l G (d + 4) 0 0 136 [.ref 136, .ref a1] (LH (old0 sl sx) S K T X M) Q := by
  refine aCall.of (by decide) (Nat.le_of_ble_eq_true rfl) ?_
  refine aAt.sub [(0, .ref 136), (1, .ref a1)] rfl ?_
  unfold cSeason_fallDue at hd
  refine s_aload_n f_136_0 rfl ?_
  refine L_getR f_136_1 fd_8_9 (obL (by decide)) (by decide) (by decide : rf 136 0 = 9) ?_
  refine L_getR f_136_4 fd_8_44 (obL (by decide)) (by decide) (by decide : rf 9 0 = 10) ?_
  refine s_aload_n f_136_7 rfl ?_
  refine C_getI f_136_8 fd_8_135 ha1 (sck0 (k := X.2) ha1.1 (by decide)) ?_
  replace hd := gd hd
  obtain ⟨g1, hd⟩ := hd
  refine L_aaload (ak := 30) (q := (ix (S a1 1))) f_136_11 (obL (by decide)) (by decide) (inb_nI g1) (inb_lt g1) (Nat.le_of_ble_eq_true rfl) (scPr (inb_lt g1)) (rfP (inb_lt g1)) ?_
  refine s_astore_n f_136_12 (by decide) ?_
  refine s_aload_n f_136_13 rfl ?_
  replace hd := obind hd
  obtain ⟨p2, e2, hd⟩ := hd
  refine L_virt (As := []) f_136_14 ca_8_48 rfl rfl (ocP g1).1 (by decide) (Nat.le_of_ble_eq_true rfl) ?_
  refine t_cPerson_isDead (ocP g1) e2 ?_
  refine z_if_ne 39 f_136_17 (by decide) (fun c3 => ?_) (fun c3 => ?_)
  · replace hd := ite_p c3 hd
    refine aAt.sub [(0, .ref 136), (1, .ref a1)] rfl ?_
    exact t_cSeason_fallDue_J39 _ _ ha1 _ hd hQ
  · replace hd := ite_n c3 hd
    refine s_aload_n f_136_20 rfl ?_
    refine L_getR f_136_21 fd_8_9 (obL (by decide)) (by decide) (by decide : rf 136 0 = 9) ?_
    refine s_aload_n f_136_24 rfl ?_
    refine s_aload_n f_136_25 rfl ?_
    refine C_getI f_136_26 fd_8_87 (ocP g1) (sck0 (k := X.2) (ocP g1).1 (by decide)) ?_
    refine s_aload_n f_136_29 rfl ?_
    replace hd := obind hd
    obtain ⟨p11, e11, hd⟩ := hd
    refine L_virt (As := []) f_136_30 ca_8_138 rfl rfl ha1.1 (by decide) (Nat.le_of_ble_eq_true rfl) ?_
    refine t_cPaper_owed ha1 e11 ?_
    refine s_min f_136_33 ca_8_108 (Nat.le_of_ble_eq_true rfl) ?_
    replace hd := obind hd
    obtain ⟨p12, e12, hd⟩ := hd
    refine L_virt (As := [.ref a1, .int (if p11 < (S (17 + (ix (S a1 1))) 3) then p11 else (S (17 + (ix (S a1 1))) 3))]) f_136_36 ca_8_142 rfl rfl (obL (by decide)) (by decide) (Nat.le_of_ble_eq_true rfl) ?_
    refine t_cLand_payOn ha1 e12 ?_
    refine aAt.sub [(0, .ref 136), (1, .ref a1)] rfl ?_
    exact t_cSeason_fallDue_J39 _ _ ha1 _ hd hQ

def cSeason_lenderFor_J96 (S : SS) (k19 : Int32 → Int32 → Int32 → Int32 → Option (Int32)) (a1 : Int32) (a2 : Int32) (a3 : Int32) (a4 : Int32) : Option (Int32) :=
  k19 a1 a2 a3 (a4 + 1)
theorem t_cSeason_lenderFor_J96 {l : Launch} {G : aG} {d : Nat} {Q : Option Value → aHeap → Prop} {sl : Nat} {sx : Nat → Int32} {S : SS} {K : KS} {T : TS} {X : XS} {M : SS} {k19 : Int32 → Int32 → Int32 → Int32 → Option (Int32)} (hk19 : ∀ (a1 : Int32) (a2 : Int32) (a3 : Int32) (a4 : Int32) (p : Int32), k19 a1 a2 a3 a4 = some p → Q (some (.int p)) (LH (old0 sl sx) S K T X M) → aAt l G (d + 2) 0 0 135 19 [(0, .ref 136), (1, .int a1), (2, .int a2), (3, .int a3), (4, .int a4)] [] 0 0 (LH (old0 sl sx) S K T X M) Q) : ∀ (a1 : Int32) (a2 : Int32) (a3 : Int32) (a4 : Int32) (p : Int32), cSeason_lenderFor_J96 S k19 a1 a2 a3 a4 = some p → Q (some (.int p)) (LH (old0 sl sx) S K T X M) → aAt l G (d + 2) 0 0 135 96 [(0, .ref 136), (1, .int a1), (2, .int a2), (3, .int a3), (4, .int a4)] [] 0 0 (LH (old0 sl sx) S K T X M) Q := by
  intro a1 a2 a3 a4 p hd hQ
  unfold cSeason_lenderFor_J96 at hd
  refine k_iinc (w := 1) f_135_96 rfl (by decide) (by decide) ?_
  refine s_goto 19 f_135_99 (by decide) ?_
  refine aAt.sub [(0, .ref 136), (1, .int a1), (2, .int a2), (3, .int a3), (4, .int (a4 + 1))] rfl ?_
  exact hk19 _ _ _ _  _ hd hQ
def cSeason_lenderFor_L19 (S : SS) : Nat → Int32 → Int32 → Int32 → Int32 → Option (Int32)
  | 0, _, _, _, _ => none
  | n + 1, a1, a2, a3, a4 =>
    if (S 9 7) ≤ a4 then
      some (-1 : Int32)
    else
      if inb a4 14 then
        if a4 = a1 then
          cSeason_lenderFor_J96 S (cSeason_lenderFor_L19 S  n) a1 a2 a3 a4
        else
          (cPerson_isDead S (17 + (ix a4))).bind fun p5 =>
          if p5 = true then
            cSeason_lenderFor_J96 S (cSeason_lenderFor_L19 S  n) a1 a2 a3 a4
          else
            if ((S (17 + (ix a4)) 3) - a2) < (20 : Int32) then
              cSeason_lenderFor_J96 S (cSeason_lenderFor_L19 S  n) a1 a2 a3 a4
            else
              if inb a1 14 then
                if (S (17 + (ix a1)) 8) = 0 then
                  if a3 ≤ (S (17 + (ix a4)) 5) then
                    cSeason_lenderFor_J96 S (cSeason_lenderFor_L19 S  n) a1 a2 a3 a4
                  else
                    some a4
                else
                  some a4
              else none
      else none
theorem t_cSeason_lenderFor_L19 {l : Launch} {G : aG} {d : Nat} {Q : Option Value → aHeap → Prop} {sl : Nat} {sx : Nat → Int32} {S : SS} {K : KS} {T : TS} {X : XS} {M : SS} : ∀ (n : Nat), ∀ (a1 : Int32) (a2 : Int32) (a3 : Int32) (a4 : Int32) (p : Int32), cSeason_lenderFor_L19 S n a1 a2 a3 a4 = some p → Q (some (.int p)) (LH (old0 sl sx) S K T X M) → aAt l G (d + 2) 0 0 135 19 [(0, .ref 136), (1, .int a1), (2, .int a2), (3, .int a3), (4, .int a4)] [] 0 0 (LH (old0 sl sx) S K T X M) Q := by
  intro n
  induction n with
  | zero =>
    intro a1 a2 a3 a4 p hd hQ
    rw [cSeason_lenderFor_L19] at hd
    cases hd
  | succ n ih =>
    intro a1 a2 a3 a4 p hd hQ
    rw [cSeason_lenderFor_L19] at hd
    refine s_iload f_135_19 rfl ?_
    refine s_aload_n f_135_21 rfl ?_
    refine L_getR f_135_22 fd_8_9 (obL (by decide)) (by decide) (by decide : rf 136 0 = 9) ?_
    refine C_getI f_135_25 fd_8_41 (ocl (by decide)) (by decide) ?_
    refine s_icmp_ge 102 f_135_28 (by decide) (fun c2 => ?_) (fun c2 => ?_)
    · replace hd := ite_p c2 hd
      refine k_iconst (v := (-1)) f_135_102 (by decide) ?_
      refine s_ireturn f_135_103 rfl rfl ?_
      cases hd
      exact hQ
    · replace hd := ite_n c2 hd
      refine s_aload_n f_135_31 rfl ?_
      refine L_getR f_135_32 fd_8_9 (obL (by decide)) (by decide) (by decide : rf 136 0 = 9) ?_
      refine L_getR f_135_35 fd_8_44 (obL (by decide)) (by decide) (by decide : rf 9 0 = 10) ?_
      refine s_iload f_135_38 rfl ?_
      replace hd := gd hd
      obtain ⟨g3, hd⟩ := hd
      refine L_aaload (ak := 30) (q := (ix a4)) f_135_40 (obL (by decide)) (by decide) (inb_nI g3) (inb_lt g3) (Nat.le_of_ble_eq_true rfl) (scPr (inb_lt g3)) (rfP (inb_lt g3)) ?_
      refine s_astore f_135_41 (by decide) ?_
      refine s_iload f_135_43 rfl ?_
      refine s_iload_n f_135_45 rfl ?_
      refine s_icmp_eq 96 f_135_46 (by decide) (fun c4 => ?_) (fun c4 => ?_)
      · replace hd := ite_p c4 hd
        refine aAt.sub [(0, .ref 136), (1, .int a1), (2, .int a2), (3, .int a3), (4, .int a4)] rfl ?_
        exact t_cSeason_lenderFor_J96 ih _ _ _ _  _ hd hQ
      · replace hd := ite_n c4 hd
        refine s_aload f_135_49 rfl ?_
        replace hd := obind hd
        obtain ⟨p5, e5, hd⟩ := hd
        refine L_virt (As := []) f_135_51 ca_8_48 rfl rfl (ocP g3).1 (by decide) (Nat.le_of_ble_eq_true rfl) ?_
        refine t_cPerson_isDead (ocP g3) e5 ?_
        refine z_if_ne 96 f_135_54 (by decide) (fun c6 => ?_) (fun c6 => ?_)
        · replace hd := ite_p c6 hd
          refine aAt.sub [(0, .ref 136), (1, .int a1), (2, .int a2), (3, .int a3), (4, .int a4)] rfl ?_
          exact t_cSeason_lenderFor_J96 ih _ _ _ _  _ hd hQ
        · replace hd := ite_n c6 hd
          refine s_aload f_135_57 rfl ?_
          refine C_getI f_135_59 fd_8_87 (ocP g3) (sck0 (k := X.2) (ocP g3).1 (by decide)) ?_
          refine s_iload_n f_135_62 rfl ?_
          refine s_isub f_135_63 ?_
          refine k_bipush (v := 20) f_135_64 (by decide) ?_
          refine s_icmp_lt 96 f_135_66 (by decide) (fun c7 => ?_) (fun c7 => ?_)
          · replace hd := ite_p c7 hd
            refine aAt.sub [(0, .ref 136), (1, .int a1), (2, .int a2), (3, .int a3), (4, .int a4)] rfl ?_
            exact t_cSeason_lenderFor_J96 ih _ _ _ _  _ hd hQ
          · replace hd := ite_n c7 hd
            refine s_aload_n f_135_69 rfl ?_
            refine L_getR f_135_70 fd_8_9 (obL (by decide)) (by decide) (by decide : rf 136 0 = 9) ?_
            refine L_getR f_135_73 fd_8_44 (obL (by decide)) (by decide) (by decide : rf 9 0 = 10) ?_
            refine s_iload_n f_135_76 rfl ?_
            replace hd := gd hd
            obtain ⟨g8, hd⟩ := hd
            refine L_aaload (ak := 30) (q := (ix a1)) f_135_77 (obL (by decide)) (by decide) (inb_nI g8) (inb_lt g8) (Nat.le_of_ble_eq_true rfl) (scPr (inb_lt g8)) (rfP (inb_lt g8)) ?_
            refine C_getI f_135_78 fd_8_128 (ocP g8) (sck0 (k := X.2) (ocP g8).1 (by decide)) ?_
            refine s_if_ne 93 f_135_81 (by decide) (fun c9 => ?_) (fun c9 => ?_)
            · replace hd := ite_n c9 hd
              refine s_iload f_135_93 rfl ?_
              refine s_ireturn f_135_95 rfl rfl ?_
              cases hd
              exact hQ
            · replace hd := ite_p c9 hd
              refine s_iload_n f_135_84 rfl ?_
              refine s_aload f_135_85 rfl ?_
              refine C_getI f_135_87 fd_8_132 (ocP g3) (sck0 (k := X.2) (ocP g3).1 (by decide)) ?_
              refine s_icmp_le 96 f_135_90 (by decide) (fun c10 => ?_) (fun c10 => ?_)
              · replace hd := ite_p c10 hd
                refine aAt.sub [(0, .ref 136), (1, .int a1), (2, .int a2), (3, .int a3), (4, .int a4)] rfl ?_
                exact t_cSeason_lenderFor_J96 ih _ _ _ _  _ hd hQ
              · replace hd := ite_n c10 hd
                refine s_iload f_135_93 rfl ?_
                refine s_ireturn f_135_95 rfl rfl ?_
                cases hd
                exact hQ
def cSeason_lenderFor (S : SS) (a1 : Int32) (a2 : Int32) : Option (Int32) :=
  (cLand_leftBy S (1 : Int32) (S 9 11)).bind fun p1 =>
  cSeason_lenderFor_L19 S FU a1 a2 p1 (0 : Int32)
theorem t_cSeason_lenderFor {l : Launch} {G : aG} {d : Nat} {Q : Option Value → aHeap → Prop} {sl : Nat} {sx : Nat → Int32} {S : SS} {K : KS} {T : TS} {X : XS} {M : SS} {a1 : Int32} {a2 : Int32} {p : Int32} (hd : cSeason_lenderFor S a1 a2 = some p) (hQ : Q (some (.int p)) (LH (old0 sl sx) S K T X M)) : aCall l G (d + 2) 0 0 135 [.ref 136, .int a1, .int a2] (LH (old0 sl sx) S K T X M) Q := by
  refine aCall.of (by decide) (Nat.le_of_ble_eq_true rfl) ?_
  refine aAt.sub [(0, .ref 136), (1, .int a1), (2, .int a2)] rfl ?_
  unfold cSeason_lenderFor at hd
  refine s_aload_n f_135_0 rfl ?_
  refine L_getR f_135_1 fd_8_9 (obL (by decide)) (by decide) (by decide : rf 136 0 = 9) ?_
  refine k_iconst (v := 1) f_135_4 (by decide) ?_
  refine s_aload_n f_135_5 rfl ?_
  refine L_getR f_135_6 fd_8_9 (obL (by decide)) (by decide) (by decide : rf 136 0 = 9) ?_
  refine C_getI f_135_9 fd_8_73 (ocl (by decide)) (by decide) ?_
  replace hd := obind hd
  obtain ⟨p1, e1, hd⟩ := hd
  refine L_virt (As := [.int (1 : Int32), .int (S 9 11)]) f_135_12 ca_8_125 rfl rfl (obL (by decide)) (by decide) (Nat.le_of_ble_eq_true rfl) ?_
  refine t_cLand_leftBy e1 ?_
  refine s_istore_n f_135_15 (by decide) ?_
  refine k_iconst (v := 0) f_135_16 (by decide) ?_
  refine s_istore f_135_17 (by decide) ?_
  refine aAt.sub [(0, .ref 136), (1, .int a1), (2, .int a2), (3, .int p1), (4, .int (0 : Int32))] rfl ?_
  exact t_cSeason_lenderFor_L19 FU _ _ _ _  _ hd hQ

def cSeason_borrow (S : SS) (a1 : Int32) (a2 : Int32) : Option (Bool × SS) :=
  (cSeason_lenderFor S a1 a2).bind fun p1 =>
  if p1 < 0 then
    some (false, S)
  else
    if (S 9 9) < (20 : Int32) then
      if inb p1 14 then
        (cLand_nextPaper (up S (17 + (ix p1)) 3 ((S (17 + (ix p1)) 3) - a2))).bind fun p5 =>
        (cPaper_begin (up S (17 + (ix p1)) 3 ((S (17 + (ix p1)) 3) - a2)) p5 (1 : Int32) a1 p1 a2 ((up S (17 + (ix p1)) 3 ((S (17 + (ix p1)) 3) - a2)) 9 11) (if (((up S (17 + (ix p1)) 3 ((S (17 + (ix p1)) 3) - a2)) 9 11) + (5 : Int32)) < (400 : Int32) then (((up S (17 + (ix p1)) 3 ((S (17 + (ix p1)) 3) - a2)) 9 11) + (5 : Int32)) else (400 : Int32))).bind fun p6 =>
        (cLand_bindNewPaper (up p6 p5 8 (0 : Int32)) (-1 : Int32)).bind fun p7 =>
        some (true, p7.2)
      else none
    else
      some (false, S)
theorem t_cSeason_borrow {l : Launch} {G : aG} {d : Nat} {Q : Option Value → aHeap → Prop} {sl : Nat} {sx : Nat → Int32} {S : SS} {K : KS} {T : TS} {X : XS} {M : SS} {a1 : Int32} {a2 : Int32} {p : Bool × SS} (hd : cSeason_borrow S a1 a2 = some p) (hQ : Q (some (.int (b2i p.1))) (LH (old0 sl sx) p.2 K T X M)) : aCall l G (d + 4) 0 0 134 [.ref 136, .int a1, .int a2] (LH (old0 sl sx) S K T X M) Q := by
  refine aCall.of (by decide) (Nat.le_of_ble_eq_true rfl) ?_
  refine aAt.sub [(0, .ref 136), (1, .int a1), (2, .int a2)] rfl ?_
  unfold cSeason_borrow at hd
  refine s_aload_n f_134_0 rfl ?_
  refine s_iload_n f_134_1 rfl ?_
  refine s_iload_n f_134_2 rfl ?_
  replace hd := obind hd
  obtain ⟨p1, e1, hd⟩ := hd
  refine L_virt (As := [.int a1, .int a2]) f_134_3 ca_8_105 rfl rfl (obL (by decide)) (by decide) (Nat.le_of_ble_eq_true rfl) ?_
  refine t_cSeason_lenderFor e1 ?_
  refine s_istore_n f_134_6 (by decide) ?_
  refine s_iload_n f_134_7 rfl ?_
  refine s_if_lt 23 f_134_8 (by decide) (fun c2 => ?_) (fun c2 => ?_)
  · replace hd := ite_p c2 hd
    refine k_iconst (v := 0) f_134_23 (by decide) ?_
    refine s_iretB (b := false) f_134_24 rfl ?_
    cases hd
    exact hQ
  · replace hd := ite_n c2 hd
    refine s_aload_n f_134_11 rfl ?_
    refine L_getR f_134_12 fd_8_9 (obL (by decide)) (by decide) (by decide : rf 136 0 = 9) ?_
    refine C_getI f_134_15 fd_8_58 (ocl (by decide)) (by decide) ?_
    refine k_bipush (v := 20) f_134_18 (by decide) ?_
    refine s_icmp_lt 25 f_134_20 (by decide) (fun c3 => ?_) (fun c3 => ?_)
    · replace hd := ite_p c3 hd
      refine s_aload_n f_134_25 rfl ?_
      refine L_getR f_134_26 fd_8_9 (obL (by decide)) (by decide) (by decide : rf 136 0 = 9) ?_
      refine L_getR f_134_29 fd_8_44 (obL (by decide)) (by decide) (by decide : rf 9 0 = 10) ?_
      refine s_iload_n f_134_32 rfl ?_
      replace hd := gd hd
      obtain ⟨g4, hd⟩ := hd
      refine L_aaload (ak := 30) (q := (ix p1)) f_134_33 (obL (by decide)) (by decide) (inb_nI g4) (inb_lt g4) (Nat.le_of_ble_eq_true rfl) (scPr (inb_lt g4)) (rfP (inb_lt g4)) ?_
      refine s_dup f_134_34 rfl ?_
      refine C_getI f_134_35 fd_8_87 (ocP g4) (sck0 (k := X.2) (ocP g4).1 (by decide)) ?_
      refine s_iload_n f_134_38 rfl ?_
      refine s_isub f_134_39 ?_
      refine C_putI f_134_40 fd_8_87 (ocP g4) (sck0 (k := X.2) (ocP g4).1 (by decide)) (Or.inl rfl) (by decide) ?_
      refine k_sipush (v := 400) f_134_43 (by decide) ?_
      refine s_aload_n f_134_46 rfl ?_
      refine L_getR f_134_47 fd_8_9 (obL (by decide)) (by decide) (by decide : rf 136 0 = 9) ?_
      refine C_getI f_134_50 fd_8_73 (ocl (by decide)) (by decide) ?_
      refine k_iconst (v := 5) f_134_53 (by decide) ?_
      refine s_iadd f_134_54 ?_
      refine s_min f_134_55 ca_8_108 (Nat.le_of_ble_eq_true rfl) ?_
      refine s_istore f_134_58 (by decide) ?_
      refine s_aload_n f_134_60 rfl ?_
      refine L_getR f_134_61 fd_8_9 (obL (by decide)) (by decide) (by decide : rf 136 0 = 9) ?_
      replace hd := obind hd
      obtain ⟨p5, e5, hd⟩ := hd
      refine L_virt (As := []) f_134_64 ca_8_111 rfl rfl (obL (by decide)) (by decide) (Nat.le_of_ble_eq_true rfl) ?_
      refine t_cLand_nextPaper e5 (fun hp5 => ?_)
      refine s_astore f_134_67 (by decide) ?_
      refine s_aload f_134_69 rfl ?_
      refine k_iconst (v := 1) f_134_71 (by decide) ?_
      refine s_iload_n f_134_72 rfl ?_
      refine s_iload_n f_134_73 rfl ?_
      refine s_iload_n f_134_74 rfl ?_
      refine s_aload_n f_134_75 rfl ?_
      refine L_getR f_134_76 fd_8_9 (obL (by decide)) (by decide) (by decide : rf 136 0 = 9) ?_
      refine C_getI f_134_79 fd_8_73 (ocl (by decide)) (by decide) ?_
      refine s_iload f_134_82 rfl ?_
      replace hd := obind hd
      obtain ⟨p6, e6, hd⟩ := hd
      refine L_virt (As := [.int (1 : Int32), .int a1, .int p1, .int a2, .int ((up S (17 + (ix p1)) 3 ((S (17 + (ix p1)) 3) - a2)) 9 11), .int (if (((up S (17 + (ix p1)) 3 ((S (17 + (ix p1)) 3) - a2)) 9 11) + (5 : Int32)) < (400 : Int32) then (((up S (17 + (ix p1)) 3 ((S (17 + (ix p1)) 3) - a2)) 9 11) + (5 : Int32)) else (400 : Int32))]) f_134_84 ca_8_115 rfl rfl hp5.1 (by decide) (Nat.le_of_ble_eq_true rfl) ?_
      refine t_cPaper_begin hp5 e6 ?_
      refine s_aload f_134_87 rfl ?_
      refine k_iconst (v := 0) f_134_89 (by decide) ?_
      refine C_putI f_134_90 fd_8_119 hp5 (sck0 (k := X.2) hp5.1 (by decide)) (Or.inl rfl) (by decide) ?_
      refine s_aload_n f_134_93 rfl ?_
      refine L_getR f_134_94 fd_8_9 (obL (by decide)) (by decide) (by decide : rf 136 0 = 9) ?_
      refine k_iconst (v := (-1)) f_134_97 (by decide) ?_
      replace hd := obind hd
      obtain ⟨p7, e7, hd⟩ := hd
      refine L_virt (As := [.int (-1 : Int32)]) f_134_98 ca_8_122 rfl rfl (obL (by decide)) (by decide) (Nat.le_of_ble_eq_true rfl) ?_
      refine t_cLand_bindNewPaper e7 ?_
      refine s_pop f_134_101 rfl ?_
      refine k_iconst (v := 1) f_134_102 (by decide) ?_
      refine s_iretB (b := true) f_134_103 rfl ?_
      cases hd
      exact hQ
    · replace hd := ite_n c3 hd
      refine k_iconst (v := 0) f_134_23 (by decide) ?_
      refine s_iretB (b := false) f_134_24 rfl ?_
      cases hd
      exact hQ

def cSeason_eat_J37 (S : SS) (a2 : Nat) (a3 : Int32) : Option (Int32 × SS) :=
  some (a3, (up (up (up S a2 3 (if (0 : Int32) < ((S a2 3) - (10 : Int32)) then ((S a2 3) - (10 : Int32)) else (0 : Int32))) a2 7 (((up S a2 3 (if (0 : Int32) < ((S a2 3) - (10 : Int32)) then ((S a2 3) - (10 : Int32)) else (0 : Int32))) a2 7) + a3)) 9 12 (((up (up S a2 3 (if (0 : Int32) < ((S a2 3) - (10 : Int32)) then ((S a2 3) - (10 : Int32)) else (0 : Int32))) a2 7 (((up S a2 3 (if (0 : Int32) < ((S a2 3) - (10 : Int32)) then ((S a2 3) - (10 : Int32)) else (0 : Int32))) a2 7) + a3)) 9 12) + ((10 : Int32) - a3))))
theorem t_cSeason_eat_J37 {l : Launch} {G : aG} {d : Nat} {Q : Option Value → aHeap → Prop} {sl : Nat} {sx : Nat → Int32} {K : KS} {T : TS} {X : XS} {M : SS} : ∀ (S : SS) (a2 : Nat) (a3 : Int32) (_ : oc X.2 a2 6) (p : Int32 × SS), cSeason_eat_J37 S a2 a3 = some p → Q (some (.int p.1)) (LH (old0 sl sx) p.2 K T X M) → aAt l G (d + 5) 0 0 133 37 [(0, .ref 136), (2, .ref a2), (3, .int a3)] [] 0 0 (LH (old0 sl sx) S K T X M) Q := by
  intro S a2 a3 ha2 p hd hQ
  unfold cSeason_eat_J37 at hd
  refine s_aload_n f_133_37 rfl ?_
  refine k_iconst (v := 0) f_133_38 (by decide) ?_
  refine s_aload_n f_133_39 rfl ?_
  refine C_getI f_133_40 fd_8_87 ha2 (sck0 (k := X.2) ha2.1 (by decide)) ?_
  refine k_bipush (v := 10) f_133_43 (by decide) ?_
  refine s_isub f_133_45 ?_
  refine s_max f_133_46 ca_8_90 (Nat.le_of_ble_eq_true rfl) ?_
  refine C_putI f_133_49 fd_8_87 ha2 (sck0 (k := X.2) ha2.1 (by decide)) (Or.inl rfl) (by decide) ?_
  refine s_aload_n f_133_52 rfl ?_
  refine s_dup f_133_53 rfl ?_
  refine C_getI f_133_54 fd_8_99 ha2 (sck0 (k := X.2) ha2.1 (by decide)) ?_
  refine s_iload_n f_133_57 rfl ?_
  refine s_iadd f_133_58 ?_
  refine C_putI f_133_59 fd_8_99 ha2 (sck0 (k := X.2) ha2.1 (by decide)) (Or.inl rfl) (by decide) ?_
  refine s_aload_n f_133_62 rfl ?_
  refine L_getR f_133_63 fd_8_9 (obL (by decide)) (by decide) (by decide : rf 136 0 = 9) ?_
  refine s_dup f_133_66 rfl ?_
  refine C_getI f_133_67 fd_8_102 (ocl (by decide)) (by decide) ?_
  refine k_bipush (v := 10) f_133_70 (by decide) ?_
  refine s_iload_n f_133_72 rfl ?_
  refine s_isub f_133_73 ?_
  refine s_iadd f_133_74 ?_
  refine C_putI f_133_75 fd_8_102 (ocl (by decide)) (by decide) (Or.inl rfl) (by decide) ?_
  refine s_iload_n f_133_78 rfl ?_
  refine s_ireturn f_133_79 rfl rfl ?_
  cases hd
  exact hQ
def cSeason_eat (S : SS) (a1 : Int32) : Option (Int32 × SS) :=
  if inb a1 14 then
    if (if (0 : Int32) < ((10 : Int32) - (S (17 + (ix a1)) 3)) then ((10 : Int32) - (S (17 + (ix a1)) 3)) else (0 : Int32)) ≤ 0 then
      cSeason_eat_J37 S (17 + (ix a1)) (if (0 : Int32) < ((10 : Int32) - (S (17 + (ix a1)) 3)) then ((10 : Int32) - (S (17 + (ix a1)) 3)) else (0 : Int32))
    else
      (cSeason_borrow S a1 (if (0 : Int32) < ((10 : Int32) - (S (17 + (ix a1)) 3)) then ((10 : Int32) - (S (17 + (ix a1)) 3)) else (0 : Int32))).bind fun p3 =>
      if p3.1 = true then
        cSeason_eat_J37 p3.2 (17 + (ix a1)) (0 : Int32)
      else
        cSeason_eat_J37 p3.2 (17 + (ix a1)) (if (0 : Int32) < ((10 : Int32) - (S (17 + (ix a1)) 3)) then ((10 : Int32) - (S (17 + (ix a1)) 3)) else (0 : Int32))
  else none
theorem t_cSeason_eat {l : Launch} {G : aG} {d : Nat} {Q : Option Value → aHeap → Prop} {sl : Nat} {sx : Nat → Int32} {S : SS} {K : KS} {T : TS} {X : XS} {M : SS} {a1 : Int32} {p : Int32 × SS} (hd : cSeason_eat S a1 = some p) (hQ : Q (some (.int p.1)) (LH (old0 sl sx) p.2 K T X M)) : aCall l G (d + 5) 0 0 133 [.ref 136, .int a1] (LH (old0 sl sx) S K T X M) Q := by
  refine aCall.of (by decide) (Nat.le_of_ble_eq_true rfl) ?_
  refine aAt.sub [(0, .ref 136), (1, .int a1)] rfl ?_
  unfold cSeason_eat at hd
  refine s_aload_n f_133_0 rfl ?_
  refine L_getR f_133_1 fd_8_9 (obL (by decide)) (by decide) (by decide : rf 136 0 = 9) ?_
  refine L_getR f_133_4 fd_8_44 (obL (by decide)) (by decide) (by decide : rf 9 0 = 10) ?_
  refine s_iload_n f_133_7 rfl ?_
  replace hd := gd hd
  obtain ⟨g1, hd⟩ := hd
  refine L_aaload (ak := 30) (q := (ix a1)) f_133_8 (obL (by decide)) (by decide) (inb_nI g1) (inb_lt g1) (Nat.le_of_ble_eq_true rfl) (scPr (inb_lt g1)) (rfP (inb_lt g1)) ?_
  refine s_astore_n f_133_9 (by decide) ?_
  refine k_iconst (v := 0) f_133_10 (by decide) ?_
  refine k_bipush (v := 10) f_133_11 (by decide) ?_
  refine s_aload_n f_133_13 rfl ?_
  refine C_getI f_133_14 fd_8_87 (ocP g1) (sck0 (k := X.2) (ocP g1).1 (by decide)) ?_
  refine s_isub f_133_17 ?_
  refine s_max f_133_18 ca_8_90 (Nat.le_of_ble_eq_true rfl) ?_
  refine s_istore_n f_133_21 (by decide) ?_
  refine s_iload_n f_133_22 rfl ?_
  refine s_if_le 37 f_133_23 (by decide) (fun c2 => ?_) (fun c2 => ?_)
  · replace hd := ite_p c2 hd
    refine aAt.sub [(0, .ref 136), (2, .ref (17 + (ix a1))), (3, .int (if (0 : Int32) < ((10 : Int32) - (S (17 + (ix a1)) 3)) then ((10 : Int32) - (S (17 + (ix a1)) 3)) else (0 : Int32)))] rfl ?_
    exact t_cSeason_eat_J37 _ _ _ (ocP g1) _ hd hQ
  · replace hd := ite_n c2 hd
    refine s_aload_n f_133_26 rfl ?_
    refine s_iload_n f_133_27 rfl ?_
    refine s_iload_n f_133_28 rfl ?_
    replace hd := obind hd
    obtain ⟨p3, e3, hd⟩ := hd
    refine L_virt (As := [.int a1, .int (if (0 : Int32) < ((10 : Int32) - (S (17 + (ix a1)) 3)) then ((10 : Int32) - (S (17 + (ix a1)) 3)) else (0 : Int32))]) f_133_29 ca_8_95 rfl rfl (obL (by decide)) (by decide) (Nat.le_of_ble_eq_true rfl) ?_
    refine t_cSeason_borrow e3 ?_
    refine z_if_eq 37 f_133_32 (by decide) (fun c4 => ?_) (fun c4 => ?_)
    · replace hd := ite_n c4 hd
      refine aAt.sub [(0, .ref 136), (2, .ref (17 + (ix a1))), (3, .int (if (0 : Int32) < ((10 : Int32) - (S (17 + (ix a1)) 3)) then ((10 : Int32) - (S (17 + (ix a1)) 3)) else (0 : Int32)))] rfl ?_
      exact t_cSeason_eat_J37 _ _ _ (ocP g1) _ hd hQ
    · replace hd := ite_p c4 hd
      refine k_iconst (v := 0) f_133_35 (by decide) ?_
      refine s_istore_n f_133_36 (by decide) ?_
      refine aAt.sub [(0, .ref 136), (2, .ref (17 + (ix a1))), (3, .int (0 : Int32))] rfl ?_
      exact t_cSeason_eat_J37 _ _ _ (ocP g1) _ hd hQ

def cSeason_goBy_J152 (T : TS) (X : XS) (k101 : SS → Int32 → Int32 → Option (Int32 × SS)) (S : SS) (a2 : Int32) (a3 : Int32) : Option (Int32 × SS) :=
  k101 S a2 (a3 + 1)
theorem t_cSeason_goBy_J152 {l : Launch} {G : aG} {d : Nat} {Q : Option Value → aHeap → Prop} {sl : Nat} {sx : Nat → Int32} {K : KS} {T : TS} {X : XS} {M : SS} {k101 : SS → Int32 → Int32 → Option (Int32 × SS)} (hk101 : ∀ (S : SS) (a2 : Int32) (a3 : Int32) (p : Int32 × SS), k101 S a2 a3 = some p → Q (some (.int p.1)) (LH (old0 sl sx) p.2 K T X M) → aAt l G (d + 17) 0 0 132 101 [(0, .ref 136), (2, .int a2), (3, .int a3)] [] 0 0 (LH (old0 sl sx) S K T X M) Q) : ∀ (S : SS) (a2 : Int32) (a3 : Int32) (p : Int32 × SS), cSeason_goBy_J152 T X k101 S a2 a3 = some p → Q (some (.int p.1)) (LH (old0 sl sx) p.2 K T X M) → aAt l G (d + 17) 0 0 132 152 [(0, .ref 136), (2, .int a2), (3, .int a3)] [] 0 0 (LH (old0 sl sx) S K T X M) Q := by
  intro S a2 a3 p hd hQ
  unfold cSeason_goBy_J152 at hd
  refine k_iinc (w := 1) f_132_152 rfl (by decide) (by decide) ?_
  refine s_goto 101 f_132_155 (by decide) ?_
  refine aAt.sub [(0, .ref 136), (2, .int a2), (3, .int (a3 + 1))] rfl ?_
  exact hk101 _ _ _  _ hd hQ
def cSeason_goBy_L101 (T : TS) (X : XS) : Nat → SS → Int32 → Int32 → Option (Int32 × SS)
  | 0, _, _, _ => none
  | n + 1, S, a2, a3 =>
    if (S 9 9) ≤ a3 then
      (cLand_countBy (up S 9 11 ((S 9 11) + (1 : Int32))) (0 : Int32) ((up S 9 11 ((S 9 11) + (1 : Int32))) 9 11)).bind fun p4 =>
      if p4 = 0 then
        (cSeason_strike (up S 9 11 ((S 9 11) + (1 : Int32))) T X).bind fun p6 =>
        some (a2, p6)
      else
        some (a2, (up S 9 11 ((S 9 11) + (1 : Int32))))
    else
      if inb a3 20 then
        if (S (39 + (ix a3)) 9) = 0 then
          if (S 9 11) < (S (39 + (ix a3)) 6) then
            cSeason_goBy_J152 T X (cSeason_goBy_L101 T X  n) S a2 a3
          else
            (cSeason_fallDue S (39 + (ix a3))).bind fun p10 =>
            cSeason_goBy_J152 T X (cSeason_goBy_L101 T X  n) p10 a2 a3
        else
          cSeason_goBy_J152 T X (cSeason_goBy_L101 T X  n) S a2 a3
      else none
theorem t_cSeason_goBy_L101 {l : Launch} {G : aG} {d : Nat} {Q : Option Value → aHeap → Prop} {sl : Nat} {sx : Nat → Int32} {K : KS} {T : TS} {X : XS} {M : SS} : ∀ (n : Nat), ∀ (S : SS) (a2 : Int32) (a3 : Int32) (p : Int32 × SS), cSeason_goBy_L101 T X n S a2 a3 = some p → Q (some (.int p.1)) (LH (old0 sl sx) p.2 K T X M) → aAt l G (d + 17) 0 0 132 101 [(0, .ref 136), (2, .int a2), (3, .int a3)] [] 0 0 (LH (old0 sl sx) S K T X M) Q := by
  intro n
  induction n with
  | zero =>
    intro S a2 a3 p hd hQ
    rw [cSeason_goBy_L101] at hd
    cases hd
  | succ n ih =>
    intro S a2 a3 p hd hQ
    rw [cSeason_goBy_L101] at hd
    refine s_iload_n f_132_101 rfl ?_
    refine s_aload_n f_132_102 rfl ?_
    refine L_getR f_132_103 fd_8_9 (obL (by decide)) (by decide) (by decide : rf 136 0 = 9) ?_
    refine C_getI f_132_106 fd_8_58 (ocl (by decide)) (by decide) ?_
    refine s_icmp_ge 158 f_132_109 (by decide) (fun c3 => ?_) (fun c3 => ?_)
    · replace hd := ite_p c3 hd
      refine s_aload_n f_132_158 rfl ?_
      refine L_getR f_132_159 fd_8_9 (obL (by decide)) (by decide) (by decide : rf 136 0 = 9) ?_
      refine s_dup f_132_162 rfl ?_
      refine C_getI f_132_163 fd_8_73 (ocl (by decide)) (by decide) ?_
      refine k_iconst (v := 1) f_132_166 (by decide) ?_
      refine s_iadd f_132_167 ?_
      refine C_putI f_132_168 fd_8_73 (ocl (by decide)) (by decide) (Or.inl rfl) (by decide) ?_
      refine s_aload_n f_132_171 rfl ?_
      refine L_getR f_132_172 fd_8_9 (obL (by decide)) (by decide) (by decide : rf 136 0 = 9) ?_
      refine k_iconst (v := 0) f_132_175 (by decide) ?_
      refine s_aload_n f_132_176 rfl ?_
      refine L_getR f_132_177 fd_8_9 (obL (by decide)) (by decide) (by decide : rf 136 0 = 9) ?_
      refine C_getI f_132_180 fd_8_73 (ocl (by decide)) (by decide) ?_
      replace hd := obind hd
      obtain ⟨p4, e4, hd⟩ := hd
      refine L_virt (As := [.int (0 : Int32), .int ((up S 9 11 ((S 9 11) + (1 : Int32))) 9 11)]) f_132_183 ca_8_80 rfl rfl (obL (by decide)) (by decide) (Nat.le_of_ble_eq_true rfl) ?_
      refine t_cLand_countBy e4 ?_
      refine s_if_ne 193 f_132_186 (by decide) (fun c5 => ?_) (fun c5 => ?_)
      · replace hd := ite_n c5 hd
        refine s_iload_n f_132_193 rfl ?_
        refine s_ireturn f_132_194 rfl rfl ?_
        cases hd
        exact hQ
      · replace hd := ite_p c5 hd
        refine s_aload_n f_132_189 rfl ?_
        replace hd := obind hd
        obtain ⟨p6, e6, hd⟩ := hd
        refine L_virt (As := []) f_132_190 ca_8_84 rfl rfl (obL (by decide)) (by decide) (Nat.le_of_ble_eq_true rfl) ?_
        refine t_cSeason_strike e6 ?_
        refine s_iload_n f_132_193 rfl ?_
        refine s_ireturn f_132_194 rfl rfl ?_
        cases hd
        exact hQ
    · replace hd := ite_n c3 hd
      refine s_aload_n f_132_112 rfl ?_
      refine L_getR f_132_113 fd_8_9 (obL (by decide)) (by decide) (by decide : rf 136 0 = 9) ?_
      refine L_getR f_132_116 fd_8_61 (obL (by decide)) (by decide) (by decide : rf 9 2 = 12) ?_
      refine s_iload_n f_132_119 rfl ?_
      replace hd := gd hd
      obtain ⟨g7, hd⟩ := hd
      refine L_aaload (ak := 32) (q := (ix a3)) f_132_120 (obL (by decide)) (by decide) (inb_nI g7) (inb_lt g7) (Nat.le_of_ble_eq_true rfl) (scAr (inb_lt g7)) (rfA (inb_lt g7)) ?_
      refine s_astore f_132_121 (by decide) ?_
      refine s_aload f_132_123 rfl ?_
      refine C_getI f_132_125 fd_8_65 (ocA g7) (sck0 (k := X.2) (ocA g7).1 (by decide)) ?_
      refine s_if_ne 152 f_132_128 (by decide) (fun c8 => ?_) (fun c8 => ?_)
      · replace hd := ite_n c8 hd
        refine aAt.sub [(0, .ref 136), (2, .int a2), (3, .int a3)] rfl ?_
        exact t_cSeason_goBy_J152 ih _ _ _  _ hd hQ
      · replace hd := ite_p c8 hd
        refine s_aload f_132_131 rfl ?_
        refine C_getI f_132_133 fd_8_70 (ocA g7) (sck0 (k := X.2) (ocA g7).1 (by decide)) ?_
        refine s_aload_n f_132_136 rfl ?_
        refine L_getR f_132_137 fd_8_9 (obL (by decide)) (by decide) (by decide : rf 136 0 = 9) ?_
        refine C_getI f_132_140 fd_8_73 (ocl (by decide)) (by decide) ?_
        refine s_icmp_gt 152 f_132_143 (by decide) (fun c9 => ?_) (fun c9 => ?_)
        · replace hd := ite_p c9 hd
          refine aAt.sub [(0, .ref 136), (2, .int a2), (3, .int a3)] rfl ?_
          exact t_cSeason_goBy_J152 ih _ _ _  _ hd hQ
        · replace hd := ite_n c9 hd
          refine s_aload_n f_132_146 rfl ?_
          refine s_aload f_132_147 rfl ?_
          replace hd := obind hd
          obtain ⟨p10, e10, hd⟩ := hd
          refine L_virt (As := [.ref (39 + (ix a3))]) f_132_149 ca_8_76 rfl rfl (obL (by decide)) (by decide) (Nat.le_of_ble_eq_true rfl) ?_
          refine t_cSeason_fallDue (ocA g7) e10 ?_
          refine aAt.sub [(0, .ref 136), (2, .int a2), (3, .int a3)] rfl ?_
          exact t_cSeason_goBy_J152 ih _ _ _  _ hd hQ
def cSeason_goBy_J93 (T : TS) (X : XS) (k59 : SS → Int32 → Int32 → Option (Int32 × SS)) (S : SS) (a2 : Int32) (a3 : Int32) : Option (Int32 × SS) :=
  k59 S a2 (a3 + 1)
theorem t_cSeason_goBy_J93 {l : Launch} {G : aG} {d : Nat} {Q : Option Value → aHeap → Prop} {sl : Nat} {sx : Nat → Int32} {K : KS} {T : TS} {X : XS} {M : SS} {k59 : SS → Int32 → Int32 → Option (Int32 × SS)} (hk59 : ∀ (S : SS) (a2 : Int32) (a3 : Int32) (p : Int32 × SS), k59 S a2 a3 = some p → Q (some (.int p.1)) (LH (old0 sl sx) p.2 K T X M) → aAt l G (d + 17) 0 0 132 59 [(0, .ref 136), (2, .int a2), (3, .int a3)] [] 0 0 (LH (old0 sl sx) S K T X M) Q) : ∀ (S : SS) (a2 : Int32) (a3 : Int32) (p : Int32 × SS), cSeason_goBy_J93 T X k59 S a2 a3 = some p → Q (some (.int p.1)) (LH (old0 sl sx) p.2 K T X M) → aAt l G (d + 17) 0 0 132 93 [(0, .ref 136), (2, .int a2), (3, .int a3)] [] 0 0 (LH (old0 sl sx) S K T X M) Q := by
  intro S a2 a3 p hd hQ
  unfold cSeason_goBy_J93 at hd
  refine k_iinc (w := 1) f_132_93 rfl (by decide) (by decide) ?_
  refine s_goto 59 f_132_96 (by decide) ?_
  refine aAt.sub [(0, .ref 136), (2, .int a2), (3, .int (a3 + 1))] rfl ?_
  exact hk59 _ _ _  _ hd hQ
def cSeason_goBy_L59 (T : TS) (X : XS) : Nat → SS → Int32 → Int32 → Option (Int32 × SS)
  | 0, _, _, _ => none
  | n + 1, S, a2, a3 =>
    if (S 9 7) ≤ a3 then
      cSeason_goBy_L101 T X FU S a2 (0 : Int32)
    else
      if inb a3 14 then
        (cPerson_isDead S (17 + (ix a3))).bind fun p12 =>
        if p12 = true then
          cSeason_goBy_J93 T X (cSeason_goBy_L59 T X  n) S a2 a3
        else
          (cSeason_eat S a3).bind fun p14 =>
          cSeason_goBy_J93 T X (cSeason_goBy_L59 T X  n) p14.2 (a2 + p14.1) a3
      else none
theorem t_cSeason_goBy_L59 {l : Launch} {G : aG} {d : Nat} {Q : Option Value → aHeap → Prop} {sl : Nat} {sx : Nat → Int32} {K : KS} {T : TS} {X : XS} {M : SS} : ∀ (n : Nat), ∀ (S : SS) (a2 : Int32) (a3 : Int32) (p : Int32 × SS), cSeason_goBy_L59 T X n S a2 a3 = some p → Q (some (.int p.1)) (LH (old0 sl sx) p.2 K T X M) → aAt l G (d + 17) 0 0 132 59 [(0, .ref 136), (2, .int a2), (3, .int a3)] [] 0 0 (LH (old0 sl sx) S K T X M) Q := by
  intro n
  induction n with
  | zero =>
    intro S a2 a3 p hd hQ
    rw [cSeason_goBy_L59] at hd
    cases hd
  | succ n ih =>
    intro S a2 a3 p hd hQ
    rw [cSeason_goBy_L59] at hd
    refine s_iload_n f_132_59 rfl ?_
    refine s_aload_n f_132_60 rfl ?_
    refine L_getR f_132_61 fd_8_9 (obL (by decide)) (by decide) (by decide : rf 136 0 = 9) ?_
    refine C_getI f_132_64 fd_8_41 (ocl (by decide)) (by decide) ?_
    refine s_icmp_ge 99 f_132_67 (by decide) (fun c2 => ?_) (fun c2 => ?_)
    · replace hd := ite_p c2 hd
      refine k_iconst (v := 0) f_132_99 (by decide) ?_
      refine s_istore_n f_132_100 (by decide) ?_
      refine aAt.sub [(0, .ref 136), (2, .int a2), (3, .int (0 : Int32))] rfl ?_
      exact t_cSeason_goBy_L101 FU _ _ _  _ hd hQ
    · replace hd := ite_n c2 hd
      refine s_aload_n f_132_70 rfl ?_
      refine L_getR f_132_71 fd_8_9 (obL (by decide)) (by decide) (by decide : rf 136 0 = 9) ?_
      refine L_getR f_132_74 fd_8_44 (obL (by decide)) (by decide) (by decide : rf 9 0 = 10) ?_
      refine s_iload_n f_132_77 rfl ?_
      replace hd := gd hd
      obtain ⟨g11, hd⟩ := hd
      refine L_aaload (ak := 30) (q := (ix a3)) f_132_78 (obL (by decide)) (by decide) (inb_nI g11) (inb_lt g11) (Nat.le_of_ble_eq_true rfl) (scPr (inb_lt g11)) (rfP (inb_lt g11)) ?_
      replace hd := obind hd
      obtain ⟨p12, e12, hd⟩ := hd
      refine L_virt (As := []) f_132_79 ca_8_48 rfl rfl (ocP g11).1 (by decide) (Nat.le_of_ble_eq_true rfl) ?_
      refine t_cPerson_isDead (ocP g11) e12 ?_
      refine z_if_ne 93 f_132_82 (by decide) (fun c13 => ?_) (fun c13 => ?_)
      · replace hd := ite_p c13 hd
        refine aAt.sub [(0, .ref 136), (2, .int a2), (3, .int a3)] rfl ?_
        exact t_cSeason_goBy_J93 ih _ _ _  _ hd hQ
      · replace hd := ite_n c13 hd
        refine s_iload_n f_132_85 rfl ?_
        refine s_aload_n f_132_86 rfl ?_
        refine s_iload_n f_132_87 rfl ?_
        replace hd := obind hd
        obtain ⟨p14, e14, hd⟩ := hd
        refine L_virt (As := [.int a3]) f_132_88 ca_8_54 rfl rfl (obL (by decide)) (by decide) (Nat.le_of_ble_eq_true rfl) ?_
        refine t_cSeason_eat e14 ?_
        refine s_iadd f_132_91 ?_
        refine s_istore_n f_132_92 (by decide) ?_
        refine aAt.sub [(0, .ref 136), (2, .int (a2 + p14.1)), (3, .int a3)] rfl ?_
        exact t_cSeason_goBy_J93 ih _ _ _  _ hd hQ
def cSeason_goBy_L2 (T : TS) (X : XS) : Nat → SS → Int32 → Int32 → Option (Int32 × SS)
  | 0, _, _, _ => none
  | n + 1, S, a1, a2 =>
    if (S 9 8) ≤ a2 then
      cSeason_goBy_L59 T X FU S (0 : Int32) (0 : Int32)
    else
      if inb a2 8 then
        (cLand_bring S (S (31 + (ix a2)) 2) (((S (31 + (ix a2)) 1) * a1) / (10 : Int32))).bind fun p16 =>
        cSeason_goBy_L2 T X  n p16 a1 (a2 + 1)
      else none
theorem t_cSeason_goBy_L2 {l : Launch} {G : aG} {d : Nat} {Q : Option Value → aHeap → Prop} {sl : Nat} {sx : Nat → Int32} {K : KS} {T : TS} {X : XS} {M : SS} : ∀ (n : Nat), ∀ (S : SS) (a1 : Int32) (a2 : Int32) (p : Int32 × SS), cSeason_goBy_L2 T X n S a1 a2 = some p → Q (some (.int p.1)) (LH (old0 sl sx) p.2 K T X M) → aAt l G (d + 17) 0 0 132 2 [(0, .ref 136), (1, .int a1), (2, .int a2)] [] 0 0 (LH (old0 sl sx) S K T X M) Q := by
  intro n
  induction n with
  | zero =>
    intro S a1 a2 p hd hQ
    rw [cSeason_goBy_L2] at hd
    cases hd
  | succ n ih =>
    intro S a1 a2 p hd hQ
    rw [cSeason_goBy_L2] at hd
    refine s_iload_n f_132_2 rfl ?_
    refine s_aload_n f_132_3 rfl ?_
    refine L_getR f_132_4 fd_8_9 (obL (by decide)) (by decide) (by decide : rf 136 0 = 9) ?_
    refine C_getI f_132_7 fd_8_19 (ocl (by decide)) (by decide) ?_
    refine s_icmp_ge 55 f_132_10 (by decide) (fun c1 => ?_) (fun c1 => ?_)
    · replace hd := ite_p c1 hd
      refine k_iconst (v := 0) f_132_55 (by decide) ?_
      refine s_istore_n f_132_56 (by decide) ?_
      refine k_iconst (v := 0) f_132_57 (by decide) ?_
      refine s_istore_n f_132_58 (by decide) ?_
      refine aAt.sub [(0, .ref 136), (2, .int (0 : Int32)), (3, .int (0 : Int32))] rfl ?_
      exact t_cSeason_goBy_L59 FU _ _ _  _ hd hQ
    · replace hd := ite_n c1 hd
      refine s_aload_n f_132_13 rfl ?_
      refine L_getR f_132_14 fd_8_9 (obL (by decide)) (by decide) (by decide : rf 136 0 = 9) ?_
      refine s_aload_n f_132_17 rfl ?_
      refine L_getR f_132_18 fd_8_9 (obL (by decide)) (by decide) (by decide : rf 136 0 = 9) ?_
      refine L_getR f_132_21 fd_8_25 (obL (by decide)) (by decide) (by decide : rf 9 1 = 11) ?_
      refine s_iload_n f_132_24 rfl ?_
      replace hd := gd hd
      obtain ⟨g15, hd⟩ := hd
      refine L_aaload (ak := 31) (q := (ix a2)) f_132_25 (obL (by decide)) (by decide) (inb_nI g15) (inb_lt g15) (Nat.le_of_ble_eq_true rfl) (scFr (inb_lt g15)) (rfF (inb_lt g15)) ?_
      refine C_getI f_132_26 fd_8_29 (ocF g15) (sck0 (k := X.2) (ocF g15).1 (by decide)) ?_
      refine s_aload_n f_132_29 rfl ?_
      refine L_getR f_132_30 fd_8_9 (obL (by decide)) (by decide) (by decide : rf 136 0 = 9) ?_
      refine L_getR f_132_33 fd_8_25 (obL (by decide)) (by decide) (by decide : rf 9 1 = 11) ?_
      refine s_iload_n f_132_36 rfl ?_
      refine L_aaload (ak := 31) (q := (ix a2)) f_132_37 (obL (by decide)) (by decide) (inb_nI g15) (inb_lt g15) (Nat.le_of_ble_eq_true rfl) (scFr (inb_lt g15)) (rfF (inb_lt g15)) ?_
      refine C_getI f_132_38 fd_8_34 (ocF g15) (sck0 (k := X.2) (ocF g15).1 (by decide)) ?_
      refine s_iload_n f_132_41 rfl ?_
      refine s_imul f_132_42 ?_
      refine k_bipush (v := 10) f_132_43 (by decide) ?_
      refine s_idiv f_132_45 (by decide) ?_
      replace hd := obind hd
      obtain ⟨p16, e16, hd⟩ := hd
      refine L_virt (As := [.int (S (31 + (ix a2)) 2), .int (((S (31 + (ix a2)) 1) * a1) / (10 : Int32))]) f_132_46 ca_8_37 rfl rfl (obL (by decide)) (by decide) (Nat.le_of_ble_eq_true rfl) ?_
      refine t_cLand_bring e16 ?_
      refine k_iinc (w := 1) f_132_49 rfl (by decide) (by decide) ?_
      refine s_goto 2 f_132_52 (by decide) ?_
      refine aAt.sub [(0, .ref 136), (1, .int a1), (2, .int (a2 + 1))] rfl ?_
      exact ih _ _ _  _ hd hQ
def cSeason_goBy (S : SS) (T : TS) (X : XS) (a1 : Int32) : Option (Int32 × SS) :=
  cSeason_goBy_L2 T X FU S a1 (0 : Int32)
theorem t_cSeason_goBy {l : Launch} {G : aG} {d : Nat} {Q : Option Value → aHeap → Prop} {sl : Nat} {sx : Nat → Int32} {S : SS} {K : KS} {T : TS} {X : XS} {M : SS} {a1 : Int32} {p : Int32 × SS} (hd : cSeason_goBy S T X a1 = some p) (hQ : Q (some (.int p.1)) (LH (old0 sl sx) p.2 K T X M)) : aCall l G (d + 17) 0 0 132 [.ref 136, .int a1] (LH (old0 sl sx) S K T X M) Q := by
  refine aCall.of (by decide) (Nat.le_of_ble_eq_true rfl) ?_
  refine aAt.sub [(0, .ref 136), (1, .int a1)] rfl ?_
  unfold cSeason_goBy at hd
  refine k_iconst (v := 0) f_132_0 (by decide) ?_
  refine s_istore_n f_132_1 (by decide) ?_
  refine aAt.sub [(0, .ref 136), (1, .int a1), (2, .int (0 : Int32))] rfl ?_
  exact t_cSeason_goBy_L2 FU _ _ _  _ hd hQ

def cD_year (S : SS) (T : TS) (X : XS) (a1 : Int32) : Option (Int32 × SS) :=
  (cD_isHarvest a1).bind fun p1 =>
  if p1 = true then
    if (400 : Int32) ≤ (S 9 11) then
      (cD_found S (-100005 : Int32)).bind fun p4 =>
      some (p4.1, p4.2)
    else
      (cSeason_goBy S T X a1).bind fun p5 =>
      some (p5.1, p5.2)
  else
    (cD_found S (-100001 : Int32)).bind fun p6 =>
    some (p6.1, p6.2)
theorem t_cD_year {l : Launch} {G : aG} {d : Nat} {Q : Option Value → aHeap → Prop} {sl : Nat} {sx : Nat → Int32} {S : SS} {K : KS} {T : TS} {X : XS} {M : SS} {a1 : Int32} {p : Int32 × SS} (hd : cD_year S T X a1 = some p) (hQ : Q (some (.int p.1)) (LH (old0 sl sx) p.2 K T X M)) : aCall l G (d + 18) 0 0 130 [.ref 8, .int a1] (LH (old0 sl sx) S K T X M) Q := by
  refine aCall.of (by decide) (Nat.le_of_ble_eq_true rfl) ?_
  refine aAt.sub [(0, .ref 8), (1, .int a1)] rfl ?_
  unfold cD_year at hd
  refine s_iload_n f_130_0 rfl ?_
  replace hd := obind hd
  obtain ⟨p1, e1, hd⟩ := hd
  refine L_stat (As := [.int a1]) f_130_1 ca_0_316 rfl rfl (Nat.le_of_ble_eq_true rfl) ?_
  refine t_cD_isHarvest e1 ?_
  refine z_if_ne 14 f_130_4 (by decide) (fun c2 => ?_) (fun c2 => ?_)
  · replace hd := ite_p c2 hd
    refine s_aload_n f_130_14 rfl ?_
    refine L_getR f_130_15 fd_0_10 (obL (by decide)) (by decide) (by decide : rf 8 0 = 9) ?_
    refine C_getI f_130_18 fd_0_66 (ocl (by decide)) (by decide) ?_
    refine k_sipush (v := 400) f_130_21 (by decide) ?_
    refine s_icmp_ge 38 f_130_24 (by decide) (fun c3 => ?_) (fun c3 => ?_)
    · replace hd := ite_p c3 hd
      refine s_aload_n f_130_38 rfl ?_
      refine s_ldc f_130_39 ko_0_91 ?_
      replace hd := obind hd
      obtain ⟨p4, e4, hd⟩ := hd
      refine L_virt (As := [.int (-100005 : Int32)]) f_130_41 ca_0_84 rfl rfl (obL (by decide)) (by decide) (Nat.le_of_ble_eq_true rfl) ?_
      refine t_cD_found e4 ?_
      refine s_ireturn f_130_44 rfl rfl ?_
      cases hd
      exact hQ
    · replace hd := ite_n c3 hd
      refine s_aload_n f_130_27 rfl ?_
      refine L_getR f_130_28 fd_0_33 (obL (by decide)) (by decide) (by decide : rf 8 3 = 136) ?_
      refine s_iload_n f_130_31 rfl ?_
      replace hd := obind hd
      obtain ⟨p5, e5, hd⟩ := hd
      refine L_virt (As := [.int a1]) f_130_32 ca_0_319 rfl rfl (obL (by decide)) (by decide) (Nat.le_of_ble_eq_true rfl) ?_
      refine t_cSeason_goBy e5 ?_
      refine s_goto 44 f_130_35 (by decide) ?_
      refine s_ireturn f_130_44 rfl rfl ?_
      cases hd
      exact hQ
  · replace hd := ite_n c2 hd
    refine s_aload_n f_130_7 rfl ?_
    refine s_ldc f_130_8 ko_0_83 ?_
    replace hd := obind hd
    obtain ⟨p6, e6, hd⟩ := hd
    refine L_virt (As := [.int (-100001 : Int32)]) f_130_10 ca_0_84 rfl rfl (obL (by decide)) (by decide) (Nat.le_of_ble_eq_true rfl) ?_
    refine t_cD_found e6 ?_
    refine s_ireturn f_130_13 rfl rfl ?_
    cases hd
    exact hQ

def cD_isSheet (a0 : Int32) : Option (Bool) :=
  (cD_within a0 (0 : Int32) (3 : Int32)).bind fun p1 =>
  some p1
theorem t_cD_isSheet {l : Launch} {G : aG} {d : Nat} {Q : Option Value → aHeap → Prop} {sl : Nat} {sx : Nat → Int32} {S : SS} {K : KS} {T : TS} {X : XS} {M : SS} {a0 : Int32} {p : Bool} (hd : cD_isSheet a0 = some p) (hQ : Q (some (.int (b2i p))) (LH (old0 sl sx) S K T X M)) : aCall l G (d + 1) 0 0 140 [.int a0] (LH (old0 sl sx) S K T X M) Q := by
  refine aCall.of (by decide) (Nat.le_of_ble_eq_true rfl) ?_
  refine aAt.sub [(0, .int a0)] rfl ?_
  unfold cD_isSheet at hd
  refine s_iload_n f_140_0 rfl ?_
  refine k_iconst (v := 0) f_140_1 (by decide) ?_
  refine k_iconst (v := 3) f_140_2 (by decide) ?_
  replace hd := obind hd
  obtain ⟨p1, e1, hd⟩ := hd
  refine L_stat (As := [.int a0, .int (0 : Int32), .int (3 : Int32)]) f_140_3 ca_0_75 rfl rfl (Nat.le_of_ble_eq_true rfl) ?_
  refine t_cD_within e1 ?_
  refine s_iretB (b := p1) f_140_6 rfl ?_
  cases hd
  exact hQ

def cSheet_isMissing (S : SS) (a0 : Nat) : Option (Bool) :=
  if (S a0 1) = 0 then
    some true
  else
    some false
theorem t_cSheet_isMissing {l : Launch} {G : aG} {d : Nat} {Q : Option Value → aHeap → Prop} {sl : Nat} {sx : Nat → Int32} {S : SS} {K : KS} {T : TS} {X : XS} {M : SS} {a0 : Nat} (ha0 : 146 ≤ a0 ∧ a0 < 154 ∧ a0 % 2 = 0) {p : Bool} (hd : cSheet_isMissing S a0 = some p) (hQ : Q (some (.int (b2i p))) (LH (old0 sl sx) S K T X M)) : aCall l G d 0 0 141 [.ref a0] (LH (old0 sl sx) S K T X M) Q := by
  refine aCall.of (by decide) (Nat.le_of_ble_eq_true rfl) ?_
  refine aAt.sub [(0, .ref a0)] rfl ?_
  unfold cSheet_isMissing at hd
  refine s_aload_n f_141_0 rfl ?_
  refine C_getI f_141_1 fd_9_13 (ocs ha0) (scs1 ha0 (by decide)) ?_
  refine s_if_ne 11 f_141_4 (by decide) (fun c1 => ?_) (fun c1 => ?_)
  · replace hd := ite_n c1 hd
    refine k_iconst (v := 0) f_141_11 (by decide) ?_
    refine s_iretB (b := false) f_141_12 rfl ?_
    cases hd
    exact hQ
  · replace hd := ite_p c1 hd
    refine k_iconst (v := 1) f_141_7 (by decide) ?_
    refine s_goto 12 f_141_8 (by decide) ?_
    refine s_iretB (b := true) f_141_12 rfl ?_
    cases hd
    exact hQ

def cD_years_J88 (T : TS) (X : XS) (k38 : SS → Int32 → Int32 → Int32 → Option (Int32 × SS)) (S : SS) (a1 : Int32) (a2 : Int32) (a3 : Int32) : Option (Int32 × SS) :=
  (cSeason_goBy S T X a2).bind fun p12 =>
  k38 p12.2 a1 a2 (a3 + 1)
theorem t_cD_years_J88 {l : Launch} {G : aG} {d : Nat} {Q : Option Value → aHeap → Prop} {sl : Nat} {sx : Nat → Int32} {K : KS} {T : TS} {X : XS} {M : SS} {k38 : SS → Int32 → Int32 → Int32 → Option (Int32 × SS)} (hk38 : ∀ (S : SS) (a1 : Int32) (a2 : Int32) (a3 : Int32) (p : Int32 × SS), k38 S a1 a2 a3 = some p → Q (some (.int p.1)) (LH (old0 sl sx) p.2 K T X M) → aAt l G (d + 18) 0 0 139 38 [(0, .ref 8), (1, .int a1), (2, .int a2), (3, .int a3)] [] 0 0 (LH (old0 sl sx) S K T X M) Q) : ∀ (S : SS) (a1 : Int32) (a2 : Int32) (a3 : Int32) (p : Int32 × SS), cD_years_J88 T X k38 S a1 a2 a3 = some p → Q (some (.int p.1)) (LH (old0 sl sx) p.2 K T X M) → aAt l G (d + 18) 0 0 139 88 [(0, .ref 8), (1, .int a1), (2, .int a2), (3, .int a3)] [] 0 0 (LH (old0 sl sx) S K T X M) Q := by
  intro S a1 a2 a3 p hd hQ
  unfold cD_years_J88 at hd
  refine s_aload_n f_139_88 rfl ?_
  refine L_getR f_139_89 fd_0_33 (obL (by decide)) (by decide) (by decide : rf 8 3 = 136) ?_
  refine s_iload_n f_139_92 rfl ?_
  replace hd := obind hd
  obtain ⟨p12, e12, hd⟩ := hd
  refine L_virt (As := [.int a2]) f_139_93 ca_0_319 rfl rfl (obL (by decide)) (by decide) (Nat.le_of_ble_eq_true rfl) ?_
  refine t_cSeason_goBy e12 ?_
  refine s_pop f_139_96 rfl ?_
  refine k_iinc (w := 1) f_139_97 rfl (by decide) (by decide) ?_
  refine s_goto 38 f_139_100 (by decide) ?_
  refine aAt.sub [(0, .ref 8), (1, .int a1), (2, .int a2), (3, .int (a3 + 1))] rfl ?_
  exact hk38 _ _ _ _  _ hd hQ
def cD_years_L38 (T : TS) (X : XS) : Nat → SS → Int32 → Int32 → Int32 → Option (Int32 × SS)
  | 0, _, _, _, _ => none
  | n + 1, S, a1, a2, a3 =>
    if inb a1 4 then
      if (S (146 + 2 * (ix a1)) 2) ≤ a3 then
        some (a3, S)
      else
        if (400 : Int32) ≤ (S 9 11) then
          some (a3, S)
        else
          if inb a3 20 then
            (cD_isHarvest (S ((146 + 2 * (ix a1)) + 1) (ix a3))).bind fun p10 =>
            if p10 = true then
              cD_years_J88 T X (cD_years_L38 T X  n) S a1 (S ((146 + 2 * (ix a1)) + 1) (ix a3)) a3
            else
              cD_years_J88 T X (cD_years_L38 T X  n) S a1 a2 a3
          else none
    else none
theorem t_cD_years_L38 {l : Launch} {G : aG} {d : Nat} {Q : Option Value → aHeap → Prop} {sl : Nat} {sx : Nat → Int32} {K : KS} {T : TS} {X : XS} {M : SS} : ∀ (n : Nat), ∀ (S : SS) (a1 : Int32) (a2 : Int32) (a3 : Int32) (p : Int32 × SS), cD_years_L38 T X n S a1 a2 a3 = some p → Q (some (.int p.1)) (LH (old0 sl sx) p.2 K T X M) → aAt l G (d + 18) 0 0 139 38 [(0, .ref 8), (1, .int a1), (2, .int a2), (3, .int a3)] [] 0 0 (LH (old0 sl sx) S K T X M) Q := by
  intro n
  induction n with
  | zero =>
    intro S a1 a2 a3 p hd hQ
    rw [cD_years_L38] at hd
    cases hd
  | succ n ih =>
    intro S a1 a2 a3 p hd hQ
    rw [cD_years_L38] at hd
    refine s_iload_n f_139_38 rfl ?_
    refine s_aload_n f_139_39 rfl ?_
    refine L_getR f_139_40 fd_0_53 (obL (by decide)) (by decide) (by decide : rf 8 6 = 145) ?_
    refine s_iload_n f_139_43 rfl ?_
    replace hd := gd hd
    obtain ⟨g6, hd⟩ := hd
    refine L_aaload (ak := 35) (q := (ix a1)) f_139_44 (obL (by decide)) (by decide) (inb_nI g6) (inb_lt g6) (Nat.le_of_ble_eq_true rfl) rfl rfl ?_
    refine C_getI f_139_45 fd_0_328 (ocs (shP g6)) (scs1 (shP g6) (by decide)) ?_
    refine s_icmp_ge 103 f_139_48 (by decide) (fun c7 => ?_) (fun c7 => ?_)
    · replace hd := ite_p c7 hd
      refine s_iload_n f_139_103 rfl ?_
      refine s_ireturn f_139_104 rfl rfl ?_
      cases hd
      exact hQ
    · replace hd := ite_n c7 hd
      refine s_aload_n f_139_51 rfl ?_
      refine L_getR f_139_52 fd_0_10 (obL (by decide)) (by decide) (by decide : rf 8 0 = 9) ?_
      refine C_getI f_139_55 fd_0_66 (ocl (by decide)) (by decide) ?_
      refine k_sipush (v := 400) f_139_58 (by decide) ?_
      refine s_icmp_ge 103 f_139_61 (by decide) (fun c8 => ?_) (fun c8 => ?_)
      · replace hd := ite_p c8 hd
        refine s_iload_n f_139_103 rfl ?_
        refine s_ireturn f_139_104 rfl rfl ?_
        cases hd
        exact hQ
      · replace hd := ite_n c8 hd
        refine s_aload_n f_139_64 rfl ?_
        refine L_getR f_139_65 fd_0_53 (obL (by decide)) (by decide) (by decide : rf 8 6 = 145) ?_
        refine s_iload_n f_139_68 rfl ?_
        refine L_aaload (ak := 35) (q := (ix a1)) f_139_69 (obL (by decide)) (by decide) (inb_nI g6) (inb_lt g6) (Nat.le_of_ble_eq_true rfl) rfl rfl ?_
        refine L_getR f_139_70 fd_0_329 (ocs (shP g6)).1 (scs0 (shP g6)) (rfs0 (shP g6)) ?_
        refine s_iload_n f_139_73 rfl ?_
        replace hd := gd hd
        obtain ⟨g9, hd⟩ := hd
        refine C_iaload (q := (ix a3)) f_139_74 (ocsn (shP g6)) (lns (shP g6)) (by decide) rfl g9 ?_
        refine s_istore f_139_75 (by decide) ?_
        refine s_iload f_139_77 rfl ?_
        replace hd := obind hd
        obtain ⟨p10, e10, hd⟩ := hd
        refine L_stat (As := [.int (S ((146 + 2 * (ix a1)) + 1) (ix a3))]) f_139_79 ca_0_316 rfl rfl (Nat.le_of_ble_eq_true rfl) ?_
        refine t_cD_isHarvest e10 ?_
        refine z_if_eq 88 f_139_82 (by decide) (fun c11 => ?_) (fun c11 => ?_)
        · replace hd := ite_n c11 hd
          refine aAt.sub [(0, .ref 8), (1, .int a1), (2, .int a2), (3, .int a3)] rfl ?_
          exact t_cD_years_J88 ih _ _ _ _  _ hd hQ
        · replace hd := ite_p c11 hd
          refine s_iload f_139_85 rfl ?_
          refine s_istore_n f_139_87 (by decide) ?_
          refine aAt.sub [(0, .ref 8), (1, .int a1), (2, .int (S ((146 + 2 * (ix a1)) + 1) (ix a3))), (3, .int a3)] rfl ?_
          exact t_cD_years_J88 ih _ _ _ _  _ hd hQ
def cD_years (S : SS) (T : TS) (X : XS) (a1 : Int32) : Option (Int32 × SS) :=
  (cD_isSheet a1).bind fun p1 =>
  if p1 = true then
    if inb a1 4 then
      (cSheet_isMissing S (146 + 2 * (ix a1))).bind fun p4 =>
      if p4 = true then
        (cD_found S (-100002 : Int32)).bind fun p13 =>
        some (p13.1, p13.2)
      else
        cD_years_L38 T X FU S a1 (10 : Int32) (0 : Int32)
    else none
  else
    (cD_found S (-100001 : Int32)).bind fun p14 =>
    some (p14.1, p14.2)
theorem t_cD_years {l : Launch} {G : aG} {d : Nat} {Q : Option Value → aHeap → Prop} {sl : Nat} {sx : Nat → Int32} {S : SS} {K : KS} {T : TS} {X : XS} {M : SS} {a1 : Int32} {p : Int32 × SS} (hd : cD_years S T X a1 = some p) (hQ : Q (some (.int p.1)) (LH (old0 sl sx) p.2 K T X M)) : aCall l G (d + 18) 0 0 139 [.ref 8, .int a1] (LH (old0 sl sx) S K T X M) Q := by
  refine aCall.of (by decide) (Nat.le_of_ble_eq_true rfl) ?_
  refine aAt.sub [(0, .ref 8), (1, .int a1)] rfl ?_
  unfold cD_years at hd
  refine s_iload_n f_139_0 rfl ?_
  replace hd := obind hd
  obtain ⟨p1, e1, hd⟩ := hd
  refine L_stat (As := [.int a1]) f_139_1 ca_0_322 rfl rfl (Nat.le_of_ble_eq_true rfl) ?_
  refine t_cD_isSheet e1 ?_
  refine z_if_ne 14 f_139_4 (by decide) (fun c2 => ?_) (fun c2 => ?_)
  · replace hd := ite_p c2 hd
    refine s_aload_n f_139_14 rfl ?_
    refine L_getR f_139_15 fd_0_53 (obL (by decide)) (by decide) (by decide : rf 8 6 = 145) ?_
    refine s_iload_n f_139_18 rfl ?_
    replace hd := gd hd
    obtain ⟨g3, hd⟩ := hd
    refine L_aaload (ak := 35) (q := (ix a1)) f_139_19 (obL (by decide)) (by decide) (inb_nI g3) (inb_lt g3) (Nat.le_of_ble_eq_true rfl) rfl rfl ?_
    replace hd := obind hd
    obtain ⟨p4, e4, hd⟩ := hd
    refine L_virt (As := []) f_139_20 ca_0_325 rfl rfl (ocs (shP g3)).1 (by decide) (Nat.le_of_ble_eq_true rfl) ?_
    refine t_cSheet_isMissing (shP g3) e4 ?_
    refine z_if_eq 33 f_139_23 (by decide) (fun c5 => ?_) (fun c5 => ?_)
    · replace hd := ite_n c5 hd
      refine k_bipush (v := 10) f_139_33 (by decide) ?_
      refine s_istore_n f_139_35 (by decide) ?_
      refine k_iconst (v := 0) f_139_36 (by decide) ?_
      refine s_istore_n f_139_37 (by decide) ?_
      refine aAt.sub [(0, .ref 8), (1, .int a1), (2, .int (10 : Int32)), (3, .int (0 : Int32))] rfl ?_
      exact t_cD_years_L38 FU _ _ _ _  _ hd hQ
    · replace hd := ite_p c5 hd
      refine s_aload_n f_139_26 rfl ?_
      refine s_ldc f_139_27 ko_0_184 ?_
      replace hd := obind hd
      obtain ⟨p13, e13, hd⟩ := hd
      refine L_virt (As := [.int (-100002 : Int32)]) f_139_29 ca_0_84 rfl rfl (obL (by decide)) (by decide) (Nat.le_of_ble_eq_true rfl) ?_
      refine t_cD_found e13 ?_
      refine s_ireturn f_139_32 rfl rfl ?_
      cases hd
      exact hQ
  · replace hd := ite_n c2 hd
    refine s_aload_n f_139_7 rfl ?_
    refine s_ldc f_139_8 ko_0_83 ?_
    replace hd := obind hd
    obtain ⟨p14, e14, hd⟩ := hd
    refine L_virt (As := [.int (-100001 : Int32)]) f_139_10 ca_0_84 rfl rfl (obL (by decide)) (by decide) (Nat.le_of_ble_eq_true rfl) ?_
    refine t_cD_found e14 ?_
    refine s_ireturn f_139_13 rfl rfl ?_
    cases hd
    exact hQ

def cLand_unableBehind_J147 (k122 : SS → Int32 → Int32 → Option (Int32 × SS)) (S : SS) (a4 : Int32) (w0 : Int32) (w1 : Bool) : Option (Int32 × SS) :=
  (cD_bit w1).bind fun p6 =>
  k122 S (w0 ||| (p6 <<< (a4 &&& 31))) (a4 + 1)
theorem t_cLand_unableBehind_J147 {l : Launch} {G : aG} {d : Nat} {Q : Option Value → aHeap → Prop} {sl : Nat} {sx : Nat → Int32} {K : KS} {T : TS} {X : XS} {M : SS} {k122 : SS → Int32 → Int32 → Option (Int32 × SS)} (hk122 : ∀ (S : SS) (a3 : Int32) (a4 : Int32) (p : Int32 × SS), k122 S a3 a4 = some p → Q (some (.int p.1)) (LH (old0 sl sx) p.2 K T X M) → aAt l G (d + 2) 0 0 144 122 [(0, .ref 9), (3, .int a3), (4, .int a4)] [] 0 0 (LH (old0 sl sx) S K T X M) Q) : ∀ (S : SS) (a4 : Int32) (w0 : Int32) (w1 : Bool) (p : Int32 × SS), cLand_unableBehind_J147 k122 S a4 w0 w1 = some p → Q (some (.int p.1)) (LH (old0 sl sx) p.2 K T X M) → aAt l G (d + 2) 0 0 144 147 [(0, .ref 9), (4, .int a4)] [.int (b2i w1), .int w0] 0 0 (LH (old0 sl sx) S K T X M) Q := by
  intro S a4 w0 w1 p hd hQ
  unfold cLand_unableBehind_J147 at hd
  replace hd := obind hd
  obtain ⟨p6, e6, hd⟩ := hd
  refine L_statN (As := [.int (b2i w1)]) f_144_147 ca_3_127 rfl rfl (Nat.le_of_ble_eq_true rfl) ?_
  refine t_cD_bit e6 ?_
  refine s_iload f_144_150 rfl ?_
  refine s_ishl f_144_152 ?_
  refine s_ior f_144_153 ?_
  refine s_istore_n f_144_154 (by decide) ?_
  refine k_iinc (w := 1) f_144_155 rfl (by decide) (by decide) ?_
  refine s_goto 122 f_144_158 (by decide) ?_
  refine aAt.sub [(0, .ref 9), (3, .int (w0 ||| (p6 <<< (a4 &&& 31)))), (4, .int (a4 + 1))] rfl ?_
  exact hk122 _ _ _  _ hd hQ
def cLand_unableBehind_L122 : Nat → SS → Int32 → Int32 → Option (Int32 × SS)
  | 0, _, _, _ => none
  | n + 1, S, a3, a4 =>
    if (S 9 7) ≤ a4 then
      some (a3, S)
    else
      if inb a4 14 then
        if 0 ≤ (S 16 (ix a4)) then
          cLand_unableBehind_J147 (cLand_unableBehind_L122  n) S a4 a3 false
        else
          cLand_unableBehind_J147 (cLand_unableBehind_L122  n) S a4 a3 true
      else none
theorem t_cLand_unableBehind_L122 {l : Launch} {G : aG} {d : Nat} {Q : Option Value → aHeap → Prop} {sl : Nat} {sx : Nat → Int32} {K : KS} {T : TS} {X : XS} {M : SS} : ∀ (n : Nat), ∀ (S : SS) (a3 : Int32) (a4 : Int32) (p : Int32 × SS), cLand_unableBehind_L122 n S a3 a4 = some p → Q (some (.int p.1)) (LH (old0 sl sx) p.2 K T X M) → aAt l G (d + 2) 0 0 144 122 [(0, .ref 9), (3, .int a3), (4, .int a4)] [] 0 0 (LH (old0 sl sx) S K T X M) Q := by
  intro n
  induction n with
  | zero =>
    intro S a3 a4 p hd hQ
    rw [cLand_unableBehind_L122] at hd
    cases hd
  | succ n ih =>
    intro S a3 a4 p hd hQ
    rw [cLand_unableBehind_L122] at hd
    refine s_iload f_144_122 rfl ?_
    refine s_aload_n f_144_124 rfl ?_
    refine C_getI f_144_125 fd_3_48 (ocl (by decide)) (by decide) ?_
    refine s_icmp_ge 161 f_144_128 (by decide) (fun c3 => ?_) (fun c3 => ?_)
    · replace hd := ite_p c3 hd
      refine s_iload_n f_144_161 rfl ?_
      refine s_ireturn f_144_162 rfl rfl ?_
      cases hd
      exact hQ
    · replace hd := ite_n c3 hd
      refine s_iload_n f_144_131 rfl ?_
      refine s_aload_n f_144_132 rfl ?_
      refine L_getR f_144_133 fd_3_45 (obL (by decide)) (by decide) (by decide : rf 9 6 = 16) ?_
      refine s_iload f_144_136 rfl ?_
      replace hd := gd hd
      obtain ⟨g4, hd⟩ := hd
      refine C_iaload (n := 14) (q := (ix a4)) f_144_138 (ocl (by decide)) (rfl : ln X.1 16 = 14) (Nat.le_of_ble_eq_true rfl) rfl g4 ?_
      refine s_if_ge 146 f_144_139 (by decide) (fun c5 => ?_) (fun c5 => ?_)
      · replace hd := ite_p c5 hd
        refine k_iconst (v := 0) f_144_146 (by decide) ?_
        refine aAt.sub [(0, .ref 9), (4, .int a4)] rfl ?_
        exact t_cLand_unableBehind_J147 ih _ _ _ _  _ hd hQ
      · replace hd := ite_n c5 hd
        refine k_iconst (v := 1) f_144_142 (by decide) ?_
        refine s_goto 147 f_144_143 (by decide) ?_
        refine aAt.sub [(0, .ref 9), (4, .int a4)] rfl ?_
        exact t_cLand_unableBehind_J147 ih _ _ _ _  _ hd hQ
def cLand_unableBehind_J109 (k33 : SS → Int32 → Int32 → Int32 → Option (Int32 × SS)) (S : SS) (a1 : Int32) (a2 : Int32) (a3 : Int32) (w1 : Int32) (w2 : Int32) (w3 : Int32) : Option (Int32 × SS) :=
  if inb w1 14 then
    k33 (up S 16 (ix w1) (w2 + w3)) a1 a2 (a3 + 1)
  else none
theorem t_cLand_unableBehind_J109 {l : Launch} {G : aG} {d : Nat} {Q : Option Value → aHeap → Prop} {sl : Nat} {sx : Nat → Int32} {K : KS} {T : TS} {X : XS} {M : SS} {k33 : SS → Int32 → Int32 → Int32 → Option (Int32 × SS)} (hk33 : ∀ (S : SS) (a1 : Int32) (a2 : Int32) (a3 : Int32) (p : Int32 × SS), k33 S a1 a2 a3 = some p → Q (some (.int p.1)) (LH (old0 sl sx) p.2 K T X M) → aAt l G (d + 2) 0 0 144 33 [(0, .ref 9), (1, .int a1), (2, .int a2), (3, .int a3)] [] 0 0 (LH (old0 sl sx) S K T X M) Q) : ∀ (S : SS) (a1 : Int32) (a2 : Int32) (a3 : Int32) (w1 : Int32) (w2 : Int32) (w3 : Int32) (p : Int32 × SS), cLand_unableBehind_J109 k33 S a1 a2 a3 w1 w2 w3 = some p → Q (some (.int p.1)) (LH (old0 sl sx) p.2 K T X M) → aAt l G (d + 2) 0 0 144 109 [(0, .ref 9), (1, .int a1), (2, .int a2), (3, .int a3)] [.int w3, .int w2, .int w1, .ref 16] 0 0 (LH (old0 sl sx) S K T X M) Q := by
  intro S a1 a2 a3 w1 w2 w3 p hd hQ
  unfold cLand_unableBehind_J109 at hd
  refine s_iadd f_144_109 ?_
  replace hd := gd hd
  obtain ⟨g13, hd⟩ := hd
  refine C_iastore (n := 14) (q := (ix w1)) f_144_110 (ocl (by decide)) (rfl : ln X.1 16 = 14) (Nat.le_of_ble_eq_true rfl) rfl g13 ?_
  refine k_iinc (w := 1) f_144_111 rfl (by decide) (by decide) ?_
  refine s_goto 33 f_144_114 (by decide) ?_
  refine aAt.sub [(0, .ref 9), (1, .int a1), (2, .int a2), (3, .int (a3 + 1))] rfl ?_
  exact hk33 _ _ _ _  _ hd hQ
def cLand_unableBehind_J63 (k33 : SS → Int32 → Int32 → Int32 → Option (Int32 × SS)) (S : SS) (a1 : Int32) (a2 : Int32) (a3 : Int32) (a4 : Nat) (w0 : Int32) : Option (Int32 × SS) :=
  if inb (S a4 1) 14 then
    if inb ((up S 16 (ix (S a4 1)) ((S 16 (ix (S a4 1))) - w0)) a4 2) 14 then
      if ((a1 >>> (((up S 16 (ix (S a4 1)) ((S 16 (ix (S a4 1))) - w0)) a4 1) &&& 31)) &&& (1 : Int32)) = 0 then
        cLand_unableBehind_J109 k33 (up S 16 (ix (S a4 1)) ((S 16 (ix (S a4 1))) - w0)) a1 a2 a3 ((up S 16 (ix (S a4 1)) ((S 16 (ix (S a4 1))) - w0)) a4 2) ((up S 16 (ix (S a4 1)) ((S 16 (ix (S a4 1))) - w0)) 16 (ix ((up S 16 (ix (S a4 1)) ((S 16 (ix (S a4 1))) - w0)) a4 2))) w0
      else
        cLand_unableBehind_J109 k33 (up S 16 (ix (S a4 1)) ((S 16 (ix (S a4 1))) - w0)) a1 a2 a3 ((up S 16 (ix (S a4 1)) ((S 16 (ix (S a4 1))) - w0)) a4 2) ((up S 16 (ix (S a4 1)) ((S 16 (ix (S a4 1))) - w0)) 16 (ix ((up S 16 (ix (S a4 1)) ((S 16 (ix (S a4 1))) - w0)) a4 2))) (0 : Int32)
    else none
  else none
theorem t_cLand_unableBehind_J63 {l : Launch} {G : aG} {d : Nat} {Q : Option Value → aHeap → Prop} {sl : Nat} {sx : Nat → Int32} {K : KS} {T : TS} {X : XS} {M : SS} {k33 : SS → Int32 → Int32 → Int32 → Option (Int32 × SS)} (hk33 : ∀ (S : SS) (a1 : Int32) (a2 : Int32) (a3 : Int32) (p : Int32 × SS), k33 S a1 a2 a3 = some p → Q (some (.int p.1)) (LH (old0 sl sx) p.2 K T X M) → aAt l G (d + 2) 0 0 144 33 [(0, .ref 9), (1, .int a1), (2, .int a2), (3, .int a3)] [] 0 0 (LH (old0 sl sx) S K T X M) Q) : ∀ (S : SS) (a1 : Int32) (a2 : Int32) (a3 : Int32) (a4 : Nat) (w0 : Int32) (_ : oc X.2 a4 5) (p : Int32 × SS), cLand_unableBehind_J63 k33 S a1 a2 a3 a4 w0 = some p → Q (some (.int p.1)) (LH (old0 sl sx) p.2 K T X M) → aAt l G (d + 2) 0 0 144 63 [(0, .ref 9), (1, .int a1), (2, .int a2), (3, .int a3), (4, .ref a4)] [.int w0] 0 0 (LH (old0 sl sx) S K T X M) Q := by
  intro S a1 a2 a3 a4 w0 ha4 p hd hQ
  unfold cLand_unableBehind_J63 at hd
  refine s_istore f_144_63 (by decide) ?_
  refine s_aload_n f_144_65 rfl ?_
  refine L_getR f_144_66 fd_3_45 (obL (by decide)) (by decide) (by decide : rf 9 6 = 16) ?_
  refine s_aload f_144_69 rfl ?_
  refine C_getI f_144_71 fd_3_161 ha4 (sck0 (k := X.2) ha4.1 (by decide)) ?_
  refine s_dup2 f_144_74 rfl rfl ?_
  replace hd := gd hd
  obtain ⟨g10, hd⟩ := hd
  refine C_iaload (n := 14) (q := (ix (S a4 1))) f_144_75 (ocl (by decide)) (rfl : ln X.1 16 = 14) (Nat.le_of_ble_eq_true rfl) rfl g10 ?_
  refine s_iload f_144_76 rfl ?_
  refine s_isub f_144_78 ?_
  refine C_iastore (n := 14) (q := (ix (S a4 1))) f_144_79 (ocl (by decide)) (rfl : ln X.1 16 = 14) (Nat.le_of_ble_eq_true rfl) rfl g10 ?_
  refine s_aload_n f_144_80 rfl ?_
  refine L_getR f_144_81 fd_3_45 (obL (by decide)) (by decide) (by decide : rf 9 6 = 16) ?_
  refine s_aload f_144_84 rfl ?_
  refine C_getI f_144_86 fd_3_152 ha4 (sck0 (k := X.2) ha4.1 (by decide)) ?_
  refine s_dup2 f_144_89 rfl rfl ?_
  replace hd := gd hd
  obtain ⟨g11, hd⟩ := hd
  refine C_iaload (n := 14) (q := (ix ((up S 16 (ix (S a4 1)) ((S 16 (ix (S a4 1))) - w0)) a4 2))) f_144_90 (ocl (by decide)) (rfl : ln X.1 16 = 14) (Nat.le_of_ble_eq_true rfl) rfl g11 ?_
  refine s_iload_n f_144_91 rfl ?_
  refine s_aload f_144_92 rfl ?_
  refine C_getI f_144_94 fd_3_161 ha4 (sck0 (k := X.2) ha4.1 (by decide)) ?_
  refine s_ishr f_144_97 ?_
  refine k_iconst (v := 1) f_144_98 (by decide) ?_
  refine s_iand f_144_99 ?_
  refine s_if_ne 108 f_144_100 (by decide) (fun c12 => ?_) (fun c12 => ?_)
  · replace hd := ite_n c12 hd
    refine k_iconst (v := 0) f_144_108 (by decide) ?_
    refine aAt.sub [(0, .ref 9), (1, .int a1), (2, .int a2), (3, .int a3)] rfl ?_
    exact t_cLand_unableBehind_J109 hk33 _ _ _ _ _ _ _  _ hd hQ
  · replace hd := ite_p c12 hd
    refine s_iload f_144_103 rfl ?_
    refine s_goto 109 f_144_105 (by decide) ?_
    refine aAt.sub [(0, .ref 9), (1, .int a1), (2, .int a2), (3, .int a3)] rfl ?_
    exact t_cLand_unableBehind_J109 hk33 _ _ _ _ _ _ _  _ hd hQ
def cLand_unableBehind_L33 : Nat → SS → Int32 → Int32 → Int32 → Option (Int32 × SS)
  | 0, _, _, _, _ => none
  | n + 1, S, a1, a2, a3 =>
    if (S 9 9) ≤ a3 then
      cLand_unableBehind_L122 FU S (0 : Int32) (0 : Int32)
    else
      if inb a3 20 then
        if a3 = a2 then
          cLand_unableBehind_J63 (cLand_unableBehind_L33  n) S a1 a2 a3 (39 + (ix a3)) (0 : Int32)
        else
          (cPaper_openOwed S (39 + (ix a3))).bind fun p9 =>
          cLand_unableBehind_J63 (cLand_unableBehind_L33  n) S a1 a2 a3 (39 + (ix a3)) p9
      else none
theorem t_cLand_unableBehind_L33 {l : Launch} {G : aG} {d : Nat} {Q : Option Value → aHeap → Prop} {sl : Nat} {sx : Nat → Int32} {K : KS} {T : TS} {X : XS} {M : SS} : ∀ (n : Nat), ∀ (S : SS) (a1 : Int32) (a2 : Int32) (a3 : Int32) (p : Int32 × SS), cLand_unableBehind_L33 n S a1 a2 a3 = some p → Q (some (.int p.1)) (LH (old0 sl sx) p.2 K T X M) → aAt l G (d + 2) 0 0 144 33 [(0, .ref 9), (1, .int a1), (2, .int a2), (3, .int a3)] [] 0 0 (LH (old0 sl sx) S K T X M) Q := by
  intro n
  induction n with
  | zero =>
    intro S a1 a2 a3 p hd hQ
    rw [cLand_unableBehind_L33] at hd
    cases hd
  | succ n ih =>
    intro S a1 a2 a3 p hd hQ
    rw [cLand_unableBehind_L33] at hd
    refine s_iload_n f_144_33 rfl ?_
    refine s_aload_n f_144_34 rfl ?_
    refine C_getI f_144_35 fd_3_55 (ocl (by decide)) (by decide) ?_
    refine s_icmp_ge 117 f_144_38 (by decide) (fun c2 => ?_) (fun c2 => ?_)
    · replace hd := ite_p c2 hd
      refine k_iconst (v := 0) f_144_117 (by decide) ?_
      refine s_istore_n f_144_118 (by decide) ?_
      refine k_iconst (v := 0) f_144_119 (by decide) ?_
      refine s_istore f_144_120 (by decide) ?_
      refine aAt.sub [(0, .ref 9), (3, .int (0 : Int32)), (4, .int (0 : Int32))] rfl ?_
      exact t_cLand_unableBehind_L122 FU _ _ _  _ hd hQ
    · replace hd := ite_n c2 hd
      refine s_aload_n f_144_41 rfl ?_
      refine L_getR f_144_42 fd_3_25 (obL (by decide)) (by decide) (by decide : rf 9 2 = 12) ?_
      refine s_iload_n f_144_45 rfl ?_
      replace hd := gd hd
      obtain ⟨g7, hd⟩ := hd
      refine L_aaload (ak := 32) (q := (ix a3)) f_144_46 (obL (by decide)) (by decide) (inb_nI g7) (inb_lt g7) (Nat.le_of_ble_eq_true rfl) (scAr (inb_lt g7)) (rfA (inb_lt g7)) ?_
      refine s_astore f_144_47 (by decide) ?_
      refine s_iload_n f_144_49 rfl ?_
      refine s_iload_n f_144_50 rfl ?_
      refine s_icmp_ne 58 f_144_51 (by decide) (fun c8 => ?_) (fun c8 => ?_)
      · replace hd := ite_n c8 hd
        refine s_aload f_144_58 rfl ?_
        replace hd := obind hd
        obtain ⟨p9, e9, hd⟩ := hd
        refine L_virt (As := []) f_144_60 ca_3_188 rfl rfl (ocA g7).1 (by decide) (Nat.le_of_ble_eq_true rfl) ?_
        refine t_cPaper_openOwed (ocA g7) e9 ?_
        refine aAt.sub [(0, .ref 9), (1, .int a1), (2, .int a2), (3, .int a3), (4, .ref (39 + (ix a3)))] rfl ?_
        exact t_cLand_unableBehind_J63 ih _ _ _ _ _ _ (ocA g7) _ hd hQ
      · replace hd := ite_p c8 hd
        refine k_iconst (v := 0) f_144_54 (by decide) ?_
        refine s_goto 63 f_144_55 (by decide) ?_
        refine aAt.sub [(0, .ref 9), (1, .int a1), (2, .int a2), (3, .int a3), (4, .ref (39 + (ix a3)))] rfl ?_
        exact t_cLand_unableBehind_J63 ih _ _ _ _ _ _ (ocA g7) _ hd hQ
def cLand_unableBehind_L2 : Nat → SS → Int32 → Int32 → Int32 → Option (Int32 × SS)
  | 0, _, _, _, _ => none
  | n + 1, S, a1, a2, a3 =>
    if (S 9 7) ≤ a3 then
      cLand_unableBehind_L33 FU S a1 a2 (0 : Int32)
    else
      if inb a3 14 then
        cLand_unableBehind_L2  n (up S 16 (ix a3) (S (17 + (ix a3)) 3)) a1 a2 (a3 + 1)
      else none
theorem t_cLand_unableBehind_L2 {l : Launch} {G : aG} {d : Nat} {Q : Option Value → aHeap → Prop} {sl : Nat} {sx : Nat → Int32} {K : KS} {T : TS} {X : XS} {M : SS} : ∀ (n : Nat), ∀ (S : SS) (a1 : Int32) (a2 : Int32) (a3 : Int32) (p : Int32 × SS), cLand_unableBehind_L2 n S a1 a2 a3 = some p → Q (some (.int p.1)) (LH (old0 sl sx) p.2 K T X M) → aAt l G (d + 2) 0 0 144 2 [(0, .ref 9), (1, .int a1), (2, .int a2), (3, .int a3)] [] 0 0 (LH (old0 sl sx) S K T X M) Q := by
  intro n
  induction n with
  | zero =>
    intro S a1 a2 a3 p hd hQ
    rw [cLand_unableBehind_L2] at hd
    cases hd
  | succ n ih =>
    intro S a1 a2 a3 p hd hQ
    rw [cLand_unableBehind_L2] at hd
    refine s_iload_n f_144_2 rfl ?_
    refine s_aload_n f_144_3 rfl ?_
    refine C_getI f_144_4 fd_3_48 (ocl (by decide)) (by decide) ?_
    refine s_icmp_ge 31 f_144_7 (by decide) (fun c1 => ?_) (fun c1 => ?_)
    · replace hd := ite_p c1 hd
      refine k_iconst (v := 0) f_144_31 (by decide) ?_
      refine s_istore_n f_144_32 (by decide) ?_
      refine aAt.sub [(0, .ref 9), (1, .int a1), (2, .int a2), (3, .int (0 : Int32))] rfl ?_
      exact t_cLand_unableBehind_L33 FU _ _ _ _  _ hd hQ
    · replace hd := ite_n c1 hd
      refine s_aload_n f_144_10 rfl ?_
      refine L_getR f_144_11 fd_3_45 (obL (by decide)) (by decide) (by decide : rf 9 6 = 16) ?_
      refine s_iload_n f_144_14 rfl ?_
      refine s_aload_n f_144_15 rfl ?_
      refine L_getR f_144_16 fd_3_11 (obL (by decide)) (by decide) (by decide : rf 9 0 = 10) ?_
      refine s_iload_n f_144_19 rfl ?_
      replace hd := gd hd
      obtain ⟨g14, hd⟩ := hd
      refine L_aaload (ak := 30) (q := (ix a3)) f_144_20 (obL (by decide)) (by decide) (inb_nI g14) (inb_lt g14) (Nat.le_of_ble_eq_true rfl) (scPr (inb_lt g14)) (rfP (inb_lt g14)) ?_
      refine C_getI f_144_21 fd_3_131 (ocP g14) (sck0 (k := X.2) (ocP g14).1 (by decide)) ?_
      refine C_iastore (n := 14) (q := (ix a3)) f_144_24 (ocl (by decide)) (rfl : ln X.1 16 = 14) (Nat.le_of_ble_eq_true rfl) rfl g14 ?_
      refine k_iinc (w := 1) f_144_25 rfl (by decide) (by decide) ?_
      refine s_goto 2 f_144_28 (by decide) ?_
      refine aAt.sub [(0, .ref 9), (1, .int a1), (2, .int a2), (3, .int (a3 + 1))] rfl ?_
      exact ih _ _ _ _  _ hd hQ
def cLand_unableBehind (S : SS) (a1 : Int32) (a2 : Int32) : Option (Int32 × SS) :=
  cLand_unableBehind_L2 FU S a1 a2 (0 : Int32)
theorem t_cLand_unableBehind {l : Launch} {G : aG} {d : Nat} {Q : Option Value → aHeap → Prop} {sl : Nat} {sx : Nat → Int32} {S : SS} {K : KS} {T : TS} {X : XS} {M : SS} {a1 : Int32} {a2 : Int32} {p : Int32 × SS} (hd : cLand_unableBehind S a1 a2 = some p) (hQ : Q (some (.int p.1)) (LH (old0 sl sx) p.2 K T X M)) : aCall l G (d + 2) 0 0 144 [.ref 9, .int a1, .int a2] (LH (old0 sl sx) S K T X M) Q := by
  refine aCall.of (by decide) (Nat.le_of_ble_eq_true rfl) ?_
  refine aAt.sub [(0, .ref 9), (1, .int a1), (2, .int a2)] rfl ?_
  unfold cLand_unableBehind at hd
  refine k_iconst (v := 0) f_144_0 (by decide) ?_
  refine s_istore_n f_144_1 (by decide) ?_
  refine aAt.sub [(0, .ref 9), (1, .int a1), (2, .int a2), (3, .int (0 : Int32))] rfl ?_
  exact t_cLand_unableBehind_L2 FU _ _ _ _  _ hd hQ

def cLand_unableWithout_L4 : Nat → SS → Int32 → Int32 → Int32 → Option (Int32 × SS)
  | 0, _, _, _, _ => none
  | n + 1, S, a1, a2, a3 =>
    if (14 : Int32) < a3 then
      some (a2, S)
    else
      (cLand_unableBehind S a2 a1).bind fun p2 =>
      if p2.1 = a2 then
        some (a2, p2.2)
      else
        cLand_unableWithout_L4  n p2.2 a1 p2.1 (a3 + 1)
theorem t_cLand_unableWithout_L4 {l : Launch} {G : aG} {d : Nat} {Q : Option Value → aHeap → Prop} {sl : Nat} {sx : Nat → Int32} {K : KS} {T : TS} {X : XS} {M : SS} : ∀ (n : Nat), ∀ (S : SS) (a1 : Int32) (a2 : Int32) (a3 : Int32) (p : Int32 × SS), cLand_unableWithout_L4 n S a1 a2 a3 = some p → Q (some (.int p.1)) (LH (old0 sl sx) p.2 K T X M) → aAt l G (d + 3) 0 0 143 4 [(0, .ref 9), (1, .int a1), (2, .int a2), (3, .int a3)] [] 0 0 (LH (old0 sl sx) S K T X M) Q := by
  intro n
  induction n with
  | zero =>
    intro S a1 a2 a3 p hd hQ
    rw [cLand_unableWithout_L4] at hd
    cases hd
  | succ n ih =>
    intro S a1 a2 a3 p hd hQ
    rw [cLand_unableWithout_L4] at hd
    refine s_iload_n f_143_4 rfl ?_
    refine k_bipush (v := 14) f_143_5 (by decide) ?_
    refine s_icmp_gt 36 f_143_7 (by decide) (fun c1 => ?_) (fun c1 => ?_)
    · replace hd := ite_p c1 hd
      refine s_iload_n f_143_36 rfl ?_
      refine s_ireturn f_143_37 rfl rfl ?_
      cases hd
      exact hQ
    · replace hd := ite_n c1 hd
      refine s_aload_n f_143_10 rfl ?_
      refine s_iload_n f_143_11 rfl ?_
      refine s_iload_n f_143_12 rfl ?_
      replace hd := obind hd
      obtain ⟨p2, e2, hd⟩ := hd
      refine L_virt (As := [.int a2, .int a1]) f_143_13 ca_3_191 rfl rfl (obL (by decide)) (by decide) (Nat.le_of_ble_eq_true rfl) ?_
      refine t_cLand_unableBehind e2 ?_
      refine s_istore f_143_16 (by decide) ?_
      refine s_iload f_143_18 rfl ?_
      refine s_iload_n f_143_20 rfl ?_
      refine s_icmp_ne 27 f_143_21 (by decide) (fun c3 => ?_) (fun c3 => ?_)
      · replace hd := ite_n c3 hd
        refine s_iload f_143_27 rfl ?_
        refine s_istore_n f_143_29 (by decide) ?_
        refine k_iinc (w := 1) f_143_30 rfl (by decide) (by decide) ?_
        refine s_goto 4 f_143_33 (by decide) ?_
        refine aAt.sub [(0, .ref 9), (1, .int a1), (2, .int p2.1), (3, .int (a3 + 1))] rfl ?_
        exact ih _ _ _ _  _ hd hQ
      · replace hd := ite_p c3 hd
        refine s_goto 36 f_143_24 (by decide) ?_
        refine s_iload_n f_143_36 rfl ?_
        refine s_ireturn f_143_37 rfl rfl ?_
        cases hd
        exact hQ
def cLand_unableWithout (S : SS) (a1 : Int32) : Option (Int32 × SS) :=
  cLand_unableWithout_L4 FU S a1 (0 : Int32) (0 : Int32)
theorem t_cLand_unableWithout {l : Launch} {G : aG} {d : Nat} {Q : Option Value → aHeap → Prop} {sl : Nat} {sx : Nat → Int32} {S : SS} {K : KS} {T : TS} {X : XS} {M : SS} {a1 : Int32} {p : Int32 × SS} (hd : cLand_unableWithout S a1 = some p) (hQ : Q (some (.int p.1)) (LH (old0 sl sx) p.2 K T X M)) : aCall l G (d + 3) 0 0 143 [.ref 9, .int a1] (LH (old0 sl sx) S K T X M) Q := by
  refine aCall.of (by decide) (Nat.le_of_ble_eq_true rfl) ?_
  refine aAt.sub [(0, .ref 9), (1, .int a1)] rfl ?_
  unfold cLand_unableWithout at hd
  refine k_iconst (v := 0) f_143_0 (by decide) ?_
  refine s_istore_n f_143_1 (by decide) ?_
  refine k_iconst (v := 0) f_143_2 (by decide) ?_
  refine s_istore_n f_143_3 (by decide) ?_
  refine aAt.sub [(0, .ref 9), (1, .int a1), (2, .int (0 : Int32)), (3, .int (0 : Int32))] rfl ?_
  exact t_cLand_unableWithout_L4 FU _ _ _ _  _ hd hQ
