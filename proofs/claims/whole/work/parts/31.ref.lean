def rM_in (a0 : Int32) (a1 : Int32) (a2 : Int32) : Option (Bool) :=
  if a0 < a1 then
    some false
  else
    if a2 < a0 then
      some false
    else
      some true
theorem t_rM_in {l : Launch} {G : aG} {d : Nat} {Q : Option Value → aHeap → Prop} {sl : Nat} {sx : Nat → Int32} {S : SS} {K : KS} {T : TS} {X : XS} {M : SS} {a0 : Int32} {a1 : Int32} {a2 : Int32} {p : Bool} (hd : rM_in a0 a1 a2 = some p) (hQ : Q (some (.int (b2i p))) (LH (old0 sl sx) S K T X M)) : aCall l G d 0 0 178 [.int a0, .int a1, .int a2] (LH (old0 sl sx) S K T X M) Q := by
  refine aCall.of (by decide) (Nat.le_of_ble_eq_true rfl) ?_
  refine aAt.sub [(0, .int a0), (1, .int a1), (2, .int a2)] rfl ?_
  unfold rM_in at hd
  refine s_iload_n f_178_0 rfl ?_
  refine s_iload_n f_178_1 rfl ?_
  refine s_icmp_lt 14 f_178_2 (by decide) (fun c1 => ?_) (fun c1 => ?_)
  · replace hd := ite_p c1 hd
    refine k_iconst (v := 0) f_178_14 (by decide) ?_
    refine s_iretB (b := false) f_178_15 rfl ?_
    cases hd
    exact hQ
  · replace hd := ite_n c1 hd
    refine s_iload_n f_178_5 rfl ?_
    refine s_iload_n f_178_6 rfl ?_
    refine s_icmp_gt 14 f_178_7 (by decide) (fun c2 => ?_) (fun c2 => ?_)
    · replace hd := ite_p c2 hd
      refine k_iconst (v := 0) f_178_14 (by decide) ?_
      refine s_iretB (b := false) f_178_15 rfl ?_
      cases hd
      exact hQ
    · replace hd := ite_n c2 hd
      refine k_iconst (v := 1) f_178_10 (by decide) ?_
      refine s_goto 15 f_178_11 (by decide) ?_
      refine s_iretB (b := true) f_178_15 rfl ?_
      cases hd
      exact hQ

def rM_finds (M : SS) (a1 : Int32) : Option (Int32 × SS) :=
  some (a1, (up M 154 3 ((M 154 3) + (1 : Int32))))
theorem t_rM_finds {l : Launch} {G : aG} {d : Nat} {Q : Option Value → aHeap → Prop} {sl : Nat} {sx : Nat → Int32} {S : SS} {K : KS} {T : TS} {X : XS} {M : SS} {a1 : Int32} {p : Int32 × SS} (hd : rM_finds M a1 = some p) (hQ : Q (some (.int p.1)) (LH (old0 sl sx) S K T X p.2)) : aCall l G d 0 0 179 [.ref 154, .int a1] (LH (old0 sl sx) S K T X M) Q := by
  refine aCall.of (by decide) (Nat.le_of_ble_eq_true rfl) ?_
  refine aAt.sub [(0, .ref 154), (1, .int a1)] rfl ?_
  unfold rM_finds at hd
  refine s_aload_n f_179_0 rfl ?_
  refine s_dup f_179_1 rfl ?_
  refine M_getI f_179_2 fd_12_65 (by decide) ?_
  refine k_iconst (v := 1) f_179_5 (by decide) ?_
  refine s_iadd f_179_6 ?_
  refine M_putI f_179_7 fd_12_65 (by decide) (Or.inl rfl) (by decide) ?_
  refine s_iload_n f_179_10 rfl ?_
  refine s_ireturn f_179_11 rfl rfl ?_
  cases hd
  exact hQ

def rM_makes (M : SS) (a1 : Int32) (a2 : Int32) (a3 : Int32) : Option (SS) :=
  if inb (((10 : Int32) + ((10 : Int32) * a1)) + a2) 10759 then
    some (up M 155 (ix (((10 : Int32) + ((10 : Int32) * a1)) + a2)) a3)
  else none
theorem t_rM_makes {l : Launch} {G : aG} {d : Nat} {Q : Option Value → aHeap → Prop} {sl : Nat} {sx : Nat → Int32} {S : SS} {K : KS} {T : TS} {X : XS} {M : SS} {a1 : Int32} {a2 : Int32} {a3 : Int32} {p : SS} (hd : rM_makes M a1 a2 a3 = some p) (hQ : Q none (LH (old0 sl sx) S K T X p)) : aCall l G d 0 0 180 [.ref 154, .int a1, .int a2, .int a3] (LH (old0 sl sx) S K T X M) Q := by
  refine aCall.of (by decide) (Nat.le_of_ble_eq_true rfl) ?_
  refine aAt.sub [(0, .ref 154), (1, .int a1), (2, .int a2), (3, .int a3)] rfl ?_
  unfold rM_makes at hd
  refine s_aload_n f_180_0 rfl ?_
  refine L_getR f_180_1 fd_12_7 (obL (by decide)) (by decide) (by decide : rf 154 0 = 155) ?_
  refine k_bipush (v := 10) f_180_4 (by decide) ?_
  refine k_bipush (v := 10) f_180_6 (by decide) ?_
  refine s_iload_n f_180_8 rfl ?_
  refine s_imul f_180_9 ?_
  refine s_iadd f_180_10 ?_
  refine s_iload_n f_180_11 rfl ?_
  refine s_iadd f_180_12 ?_
  refine s_iload_n f_180_13 rfl ?_
  replace hd := gd hd
  obtain ⟨g1, hd⟩ := hd
  refine M_iastore (q := (ix (((10 : Int32) + ((10 : Int32) * a1)) + a2))) f_180_14 ⟨by decide, by decide, by decide, fun _ => rfl⟩ (Nat.le_of_ble_eq_true rfl : 10759 < 2 ^ 31) rfl g1 ?_
  refine s_return f_180_15 rfl ?_
  cases hd
  exact hQ

def rM_person_J75 (M : SS) : Option (Int32 × SS) :=
  (rM_finds M (-100001 : Int32)).bind fun p3 =>
  some (p3.1, p3.2)
theorem t_rM_person_J75 {l : Launch} {G : aG} {d : Nat} {Q : Option Value → aHeap → Prop} {sl : Nat} {sx : Nat → Int32} {S : SS} {K : KS} {T : TS} {X : XS} : ∀ (M : SS) (p : Int32 × SS), rM_person_J75 M = some p → Q (some (.int p.1)) (LH (old0 sl sx) S K T X p.2) → aAt l G (d + 1) 0 0 177 75 [(0, .ref 154)] [] 0 0 (LH (old0 sl sx) S K T X M) Q := by
  intro M p hd hQ
  unfold rM_person_J75 at hd
  refine s_aload_n f_177_75 rfl ?_
  refine s_ldc f_177_76 ko_12_77 ?_
  replace hd := obind hd
  obtain ⟨p3, e3, hd⟩ := hd
  refine L_virt (As := [.int (-100001 : Int32)]) f_177_78 ca_12_78 rfl rfl (obL (by decide)) (by decide) (Nat.le_of_ble_eq_true rfl) ?_
  refine t_rM_finds e3 ?_
  refine s_ireturn f_177_81 rfl rfl ?_
  cases hd
  exact hQ
def rM_person_J63 (M : SS) (a1 : Int32) (a2 : Int32) (a3 : Int32) (a4 : Int32) (a5 : Int32) : Option (Int32 × SS) :=
  (rM_in a4 (0 : Int32) (9999 : Int32)).bind fun p10 =>
  if p10 = true then
    if a5 = (14 : Int32) then
      (rM_finds M (-100005 : Int32)).bind fun p23 =>
      some (p23.1, p23.2)
    else
      (rM_makes (up M 155 0 ((M 155 0) + (1 : Int32))) a5 (0 : Int32) a1).bind fun p13 =>
      (rM_makes p13 a5 (1 : Int32) a2).bind fun p14 =>
      (rM_makes p14 a5 (2 : Int32) a3).bind fun p15 =>
      (rM_makes p15 a5 (3 : Int32) (-1 : Int32)).bind fun p16 =>
      (rM_makes p16 a5 (4 : Int32) (0 : Int32)).bind fun p17 =>
      (rM_makes p17 a5 (5 : Int32) (0 : Int32)).bind fun p18 =>
      (rM_makes p18 a5 (6 : Int32) a4).bind fun p19 =>
      (rM_makes p19 a5 (7 : Int32) (3 : Int32)).bind fun p20 =>
      (rM_makes p20 a5 (8 : Int32) (-1 : Int32)).bind fun p21 =>
      (rM_makes p21 a5 (9 : Int32) (0 : Int32)).bind fun p22 =>
      some (a5, p22)
  else
    rM_person_J75 M
theorem t_rM_person_J63 {l : Launch} {G : aG} {d : Nat} {Q : Option Value → aHeap → Prop} {sl : Nat} {sx : Nat → Int32} {S : SS} {K : KS} {T : TS} {X : XS} : ∀ (M : SS) (a1 : Int32) (a2 : Int32) (a3 : Int32) (a4 : Int32) (a5 : Int32) (p : Int32 × SS), rM_person_J63 M a1 a2 a3 a4 a5 = some p → Q (some (.int p.1)) (LH (old0 sl sx) S K T X p.2) → aAt l G (d + 1) 0 0 177 63 [(0, .ref 154), (1, .int a1), (2, .int a2), (3, .int a3), (4, .int a4), (5, .int a5)] [] 0 0 (LH (old0 sl sx) S K T X M) Q := by
  intro M a1 a2 a3 a4 a5 p hd hQ
  unfold rM_person_J63 at hd
  refine s_iload f_177_63 rfl ?_
  refine k_iconst (v := 0) f_177_65 (by decide) ?_
  refine k_sipush (v := 9999) f_177_66 (by decide) ?_
  replace hd := obind hd
  obtain ⟨p10, e10, hd⟩ := hd
  refine L_stat (As := [.int a4, .int (0 : Int32), .int (9999 : Int32)]) f_177_69 ca_12_69 rfl rfl (Nat.le_of_ble_eq_true rfl) ?_
  refine t_rM_in e10 ?_
  refine z_if_ne 82 f_177_72 (by decide) (fun c11 => ?_) (fun c11 => ?_)
  · replace hd := ite_p c11 hd
    refine s_iload f_177_82 rfl ?_
    refine k_bipush (v := 14) f_177_84 (by decide) ?_
    refine s_icmp_ne 96 f_177_86 (by decide) (fun c12 => ?_) (fun c12 => ?_)
    · replace hd := ite_n c12 hd
      refine s_aload_n f_177_96 rfl ?_
      refine L_getR f_177_97 fd_12_7 (obL (by decide)) (by decide) (by decide : rf 154 0 = 155) ?_
      refine k_iconst (v := 0) f_177_100 (by decide) ?_
      refine s_dup2 f_177_101 rfl rfl ?_
      refine M_iaload (q := 0) f_177_102 ⟨by decide, by decide, by decide, fun _ => rfl⟩ (Nat.le_of_ble_eq_true rfl : 10759 < 2 ^ 31) (by decide) (by decide) ?_
      refine k_iconst (v := 1) f_177_103 (by decide) ?_
      refine s_iadd f_177_104 ?_
      refine M_iastore (q := 0) f_177_105 ⟨by decide, by decide, by decide, fun _ => rfl⟩ (Nat.le_of_ble_eq_true rfl : 10759 < 2 ^ 31) (by decide) (by decide) ?_
      refine s_aload_n f_177_106 rfl ?_
      refine s_iload f_177_107 rfl ?_
      refine k_iconst (v := 0) f_177_109 (by decide) ?_
      refine s_iload_n f_177_110 rfl ?_
      replace hd := obind hd
      obtain ⟨p13, e13, hd⟩ := hd
      refine L_virt (As := [.int a5, .int (0 : Int32), .int a1]) f_177_111 ca_12_83 rfl rfl (obL (by decide)) (by decide) (Nat.le_of_ble_eq_true rfl) ?_
      refine t_rM_makes e13 ?_
      refine s_aload_n f_177_114 rfl ?_
      refine s_iload f_177_115 rfl ?_
      refine k_iconst (v := 1) f_177_117 (by decide) ?_
      refine s_iload_n f_177_118 rfl ?_
      replace hd := obind hd
      obtain ⟨p14, e14, hd⟩ := hd
      refine L_virt (As := [.int a5, .int (1 : Int32), .int a2]) f_177_119 ca_12_83 rfl rfl (obL (by decide)) (by decide) (Nat.le_of_ble_eq_true rfl) ?_
      refine t_rM_makes e14 ?_
      refine s_aload_n f_177_122 rfl ?_
      refine s_iload f_177_123 rfl ?_
      refine k_iconst (v := 2) f_177_125 (by decide) ?_
      refine s_iload_n f_177_126 rfl ?_
      replace hd := obind hd
      obtain ⟨p15, e15, hd⟩ := hd
      refine L_virt (As := [.int a5, .int (2 : Int32), .int a3]) f_177_127 ca_12_83 rfl rfl (obL (by decide)) (by decide) (Nat.le_of_ble_eq_true rfl) ?_
      refine t_rM_makes e15 ?_
      refine s_aload_n f_177_130 rfl ?_
      refine s_iload f_177_131 rfl ?_
      refine k_iconst (v := 3) f_177_133 (by decide) ?_
      refine k_iconst (v := (-1)) f_177_134 (by decide) ?_
      replace hd := obind hd
      obtain ⟨p16, e16, hd⟩ := hd
      refine L_virt (As := [.int a5, .int (3 : Int32), .int (-1 : Int32)]) f_177_135 ca_12_83 rfl rfl (obL (by decide)) (by decide) (Nat.le_of_ble_eq_true rfl) ?_
      refine t_rM_makes e16 ?_
      refine s_aload_n f_177_138 rfl ?_
      refine s_iload f_177_139 rfl ?_
      refine k_iconst (v := 4) f_177_141 (by decide) ?_
      refine k_iconst (v := 0) f_177_142 (by decide) ?_
      replace hd := obind hd
      obtain ⟨p17, e17, hd⟩ := hd
      refine L_virt (As := [.int a5, .int (4 : Int32), .int (0 : Int32)]) f_177_143 ca_12_83 rfl rfl (obL (by decide)) (by decide) (Nat.le_of_ble_eq_true rfl) ?_
      refine t_rM_makes e17 ?_
      refine s_aload_n f_177_146 rfl ?_
      refine s_iload f_177_147 rfl ?_
      refine k_iconst (v := 5) f_177_149 (by decide) ?_
      refine k_iconst (v := 0) f_177_150 (by decide) ?_
      replace hd := obind hd
      obtain ⟨p18, e18, hd⟩ := hd
      refine L_virt (As := [.int a5, .int (5 : Int32), .int (0 : Int32)]) f_177_151 ca_12_83 rfl rfl (obL (by decide)) (by decide) (Nat.le_of_ble_eq_true rfl) ?_
      refine t_rM_makes e18 ?_
      refine s_aload_n f_177_154 rfl ?_
      refine s_iload f_177_155 rfl ?_
      refine k_bipush (v := 6) f_177_157 (by decide) ?_
      refine s_iload f_177_159 rfl ?_
      replace hd := obind hd
      obtain ⟨p19, e19, hd⟩ := hd
      refine L_virt (As := [.int a5, .int (6 : Int32), .int a4]) f_177_161 ca_12_83 rfl rfl (obL (by decide)) (by decide) (Nat.le_of_ble_eq_true rfl) ?_
      refine t_rM_makes e19 ?_
      refine s_aload_n f_177_164 rfl ?_
      refine s_iload f_177_165 rfl ?_
      refine k_bipush (v := 7) f_177_167 (by decide) ?_
      refine k_iconst (v := 3) f_177_169 (by decide) ?_
      replace hd := obind hd
      obtain ⟨p20, e20, hd⟩ := hd
      refine L_virt (As := [.int a5, .int (7 : Int32), .int (3 : Int32)]) f_177_170 ca_12_83 rfl rfl (obL (by decide)) (by decide) (Nat.le_of_ble_eq_true rfl) ?_
      refine t_rM_makes e20 ?_
      refine s_aload_n f_177_173 rfl ?_
      refine s_iload f_177_174 rfl ?_
      refine k_bipush (v := 8) f_177_176 (by decide) ?_
      refine k_iconst (v := (-1)) f_177_178 (by decide) ?_
      replace hd := obind hd
      obtain ⟨p21, e21, hd⟩ := hd
      refine L_virt (As := [.int a5, .int (8 : Int32), .int (-1 : Int32)]) f_177_179 ca_12_83 rfl rfl (obL (by decide)) (by decide) (Nat.le_of_ble_eq_true rfl) ?_
      refine t_rM_makes e21 ?_
      refine s_aload_n f_177_182 rfl ?_
      refine s_iload f_177_183 rfl ?_
      refine k_bipush (v := 9) f_177_185 (by decide) ?_
      refine k_iconst (v := 0) f_177_187 (by decide) ?_
      replace hd := obind hd
      obtain ⟨p22, e22, hd⟩ := hd
      refine L_virt (As := [.int a5, .int (9 : Int32), .int (0 : Int32)]) f_177_188 ca_12_83 rfl rfl (obL (by decide)) (by decide) (Nat.le_of_ble_eq_true rfl) ?_
      refine t_rM_makes e22 ?_
      refine s_iload f_177_191 rfl ?_
      refine s_ireturn f_177_193 rfl rfl ?_
      cases hd
      exact hQ
    · replace hd := ite_p c12 hd
      refine s_aload_n f_177_89 rfl ?_
      refine s_ldc f_177_90 ko_12_82 ?_
      replace hd := obind hd
      obtain ⟨p23, e23, hd⟩ := hd
      refine L_virt (As := [.int (-100005 : Int32)]) f_177_92 ca_12_78 rfl rfl (obL (by decide)) (by decide) (Nat.le_of_ble_eq_true rfl) ?_
      refine t_rM_finds e23 ?_
      refine s_ireturn f_177_95 rfl rfl ?_
      cases hd
      exact hQ
  · replace hd := ite_n c11 hd
    refine aAt.sub [(0, .ref 154)] rfl ?_
    exact t_rM_person_J75 _  _ hd hQ
def rM_person (M : SS) (a1 : Int32) (a2 : Int32) (a3 : Int32) (a4 : Int32) : Option (Int32 × SS) :=
  (rM_in a1 (-99 : Int32) (300 : Int32)).bind fun p1 =>
  if p1 = true then
    if (M 155 3) < a1 then
      rM_person_J75 M
    else
      (rM_in a2 (-1 : Int32) ((M 155 0) - (1 : Int32))).bind fun p5 =>
      if p5 = true then
        (rM_in a3 (-1 : Int32) ((M 155 0) - (1 : Int32))).bind fun p7 =>
        if p7 = true then
          if a2 < 0 then
            rM_person_J63 M a1 a2 a3 a4 (M 155 0)
          else
            if a2 = a3 then
              rM_person_J75 M
            else
              rM_person_J63 M a1 a2 a3 a4 (M 155 0)
        else
          rM_person_J75 M
      else
        rM_person_J75 M
  else
    rM_person_J75 M
theorem t_rM_person {l : Launch} {G : aG} {d : Nat} {Q : Option Value → aHeap → Prop} {sl : Nat} {sx : Nat → Int32} {S : SS} {K : KS} {T : TS} {X : XS} {M : SS} {a1 : Int32} {a2 : Int32} {a3 : Int32} {a4 : Int32} {p : Int32 × SS} (hd : rM_person M a1 a2 a3 a4 = some p) (hQ : Q (some (.int p.1)) (LH (old0 sl sx) S K T X p.2)) : aCall l G (d + 1) 0 0 177 [.ref 154, .int a1, .int a2, .int a3, .int a4] (LH (old0 sl sx) S K T X M) Q := by
  refine aCall.of (by decide) (Nat.le_of_ble_eq_true rfl) ?_
  refine aAt.sub [(0, .ref 154), (1, .int a1), (2, .int a2), (3, .int a3), (4, .int a4)] rfl ?_
  unfold rM_person at hd
  refine s_aload_n f_177_0 rfl ?_
  refine L_getR f_177_1 fd_12_7 (obL (by decide)) (by decide) (by decide : rf 154 0 = 155) ?_
  refine k_iconst (v := 0) f_177_4 (by decide) ?_
  refine M_iaload (q := 0) f_177_5 ⟨by decide, by decide, by decide, fun _ => rfl⟩ (Nat.le_of_ble_eq_true rfl : 10759 < 2 ^ 31) (by decide) (by decide) ?_
  refine s_istore f_177_6 (by decide) ?_
  refine s_iload_n f_177_8 rfl ?_
  refine k_bipush (v := (-99)) f_177_9 (by decide) ?_
  refine k_sipush (v := 300) f_177_11 (by decide) ?_
  replace hd := obind hd
  obtain ⟨p1, e1, hd⟩ := hd
  refine L_stat (As := [.int a1, .int (-99 : Int32), .int (300 : Int32)]) f_177_14 ca_12_69 rfl rfl (Nat.le_of_ble_eq_true rfl) ?_
  refine t_rM_in e1 ?_
  refine z_if_eq 75 f_177_17 (by decide) (fun c2 => ?_) (fun c2 => ?_)
  · replace hd := ite_n c2 hd
    refine aAt.sub [(0, .ref 154)] rfl ?_
    exact t_rM_person_J75 _  _ hd hQ
  · replace hd := ite_p c2 hd
    refine s_iload_n f_177_20 rfl ?_
    refine s_aload_n f_177_21 rfl ?_
    refine L_getR f_177_22 fd_12_7 (obL (by decide)) (by decide) (by decide : rf 154 0 = 155) ?_
    refine k_iconst (v := 3) f_177_25 (by decide) ?_
    refine M_iaload (q := 3) f_177_26 ⟨by decide, by decide, by decide, fun _ => rfl⟩ (Nat.le_of_ble_eq_true rfl : 10759 < 2 ^ 31) (by decide) (by decide) ?_
    refine s_icmp_gt 75 f_177_27 (by decide) (fun c4 => ?_) (fun c4 => ?_)
    · replace hd := ite_p c4 hd
      refine aAt.sub [(0, .ref 154)] rfl ?_
      exact t_rM_person_J75 _  _ hd hQ
    · replace hd := ite_n c4 hd
      refine s_iload_n f_177_30 rfl ?_
      refine k_iconst (v := (-1)) f_177_31 (by decide) ?_
      refine s_iload f_177_32 rfl ?_
      refine k_iconst (v := 1) f_177_34 (by decide) ?_
      refine s_isub f_177_35 ?_
      replace hd := obind hd
      obtain ⟨p5, e5, hd⟩ := hd
      refine L_stat (As := [.int a2, .int (-1 : Int32), .int ((M 155 0) - (1 : Int32))]) f_177_36 ca_12_69 rfl rfl (Nat.le_of_ble_eq_true rfl) ?_
      refine t_rM_in e5 ?_
      refine z_if_eq 75 f_177_39 (by decide) (fun c6 => ?_) (fun c6 => ?_)
      · replace hd := ite_n c6 hd
        refine aAt.sub [(0, .ref 154)] rfl ?_
        exact t_rM_person_J75 _  _ hd hQ
      · replace hd := ite_p c6 hd
        refine s_iload_n f_177_42 rfl ?_
        refine k_iconst (v := (-1)) f_177_43 (by decide) ?_
        refine s_iload f_177_44 rfl ?_
        refine k_iconst (v := 1) f_177_46 (by decide) ?_
        refine s_isub f_177_47 ?_
        replace hd := obind hd
        obtain ⟨p7, e7, hd⟩ := hd
        refine L_stat (As := [.int a3, .int (-1 : Int32), .int ((M 155 0) - (1 : Int32))]) f_177_48 ca_12_69 rfl rfl (Nat.le_of_ble_eq_true rfl) ?_
        refine t_rM_in e7 ?_
        refine z_if_eq 75 f_177_51 (by decide) (fun c8 => ?_) (fun c8 => ?_)
        · replace hd := ite_n c8 hd
          refine aAt.sub [(0, .ref 154)] rfl ?_
          exact t_rM_person_J75 _  _ hd hQ
        · replace hd := ite_p c8 hd
          refine s_iload_n f_177_54 rfl ?_
          refine s_if_lt 63 f_177_55 (by decide) (fun c9 => ?_) (fun c9 => ?_)
          · replace hd := ite_p c9 hd
            refine aAt.sub [(0, .ref 154), (1, .int a1), (2, .int a2), (3, .int a3), (4, .int a4), (5, .int (M 155 0))] rfl ?_
            exact t_rM_person_J63 _ _ _ _ _ _  _ hd hQ
          · replace hd := ite_n c9 hd
            refine s_iload_n f_177_58 rfl ?_
            refine s_iload_n f_177_59 rfl ?_
            refine s_icmp_eq 75 f_177_60 (by decide) (fun c24 => ?_) (fun c24 => ?_)
            · replace hd := ite_p c24 hd
              refine aAt.sub [(0, .ref 154)] rfl ?_
              exact t_rM_person_J75 _  _ hd hQ
            · replace hd := ite_n c24 hd
              refine aAt.sub [(0, .ref 154), (1, .int a1), (2, .int a2), (3, .int a3), (4, .int a4), (5, .int (M 155 0))] rfl ?_
              exact t_rM_person_J63 _ _ _ _ _ _  _ hd hQ

def rM_isPerson (M : SS) (a1 : Int32) : Option (Bool) :=
  (rM_in a1 (0 : Int32) ((M 155 0) - (1 : Int32))).bind fun p1 =>
  some p1
theorem t_rM_isPerson {l : Launch} {G : aG} {d : Nat} {Q : Option Value → aHeap → Prop} {sl : Nat} {sx : Nat → Int32} {S : SS} {K : KS} {T : TS} {X : XS} {M : SS} {a1 : Int32} {p : Bool} (hd : rM_isPerson M a1 = some p) (hQ : Q (some (.int (b2i p))) (LH (old0 sl sx) S K T X M)) : aCall l G (d + 1) 0 0 182 [.ref 154, .int a1] (LH (old0 sl sx) S K T X M) Q := by
  refine aCall.of (by decide) (Nat.le_of_ble_eq_true rfl) ?_
  refine aAt.sub [(0, .ref 154), (1, .int a1)] rfl ?_
  unfold rM_isPerson at hd
  refine s_iload_n f_182_0 rfl ?_
  refine k_iconst (v := 0) f_182_1 (by decide) ?_
  refine s_aload_n f_182_2 rfl ?_
  refine L_getR f_182_3 fd_12_7 (obL (by decide)) (by decide) (by decide : rf 154 0 = 155) ?_
  refine k_iconst (v := 0) f_182_6 (by decide) ?_
  refine M_iaload (q := 0) f_182_7 ⟨by decide, by decide, by decide, fun _ => rfl⟩ (Nat.le_of_ble_eq_true rfl : 10759 < 2 ^ 31) (by decide) (by decide) ?_
  refine k_iconst (v := 1) f_182_8 (by decide) ?_
  refine s_isub f_182_9 ?_
  replace hd := obind hd
  obtain ⟨p1, e1, hd⟩ := hd
  refine L_stat (As := [.int a1, .int (0 : Int32), .int ((M 155 0) - (1 : Int32))]) f_182_10 ca_12_69 rfl rfl (Nat.le_of_ble_eq_true rfl) ?_
  refine t_rM_in e1 ?_
  refine s_iretB (b := p1) f_182_13 rfl ?_
  cases hd
  exact hQ

def rM_lives_J42 (M : SS) (w1 : Int32) (w2 : Int32) (w3 : Bool) : Option (Int32 × SS) :=
  (rM_makes M w1 w2 (b2i w3)).bind fun p6 =>
  some ((1 : Int32), p6)
theorem t_rM_lives_J42 {l : Launch} {G : aG} {d : Nat} {Q : Option Value → aHeap → Prop} {sl : Nat} {sx : Nat → Int32} {S : SS} {K : KS} {T : TS} {X : XS} : ∀ (M : SS) (w1 : Int32) (w2 : Int32) (w3 : Bool) (p : Int32 × SS), rM_lives_J42 M w1 w2 w3 = some p → Q (some (.int p.1)) (LH (old0 sl sx) S K T X p.2) → aAt l G (d + 2) 0 0 181 42 [] [.int (b2i w3), .int w2, .int w1, .ref 154] 0 0 (LH (old0 sl sx) S K T X M) Q := by
  intro M w1 w2 w3 p hd hQ
  unfold rM_lives_J42 at hd
  replace hd := obind hd
  obtain ⟨p6, e6, hd⟩ := hd
  refine L_virt (As := [.int w1, .int w2, .int (b2i w3)]) f_181_42 ca_12_83 rfl rfl (obL (by decide)) (by decide) (Nat.le_of_ble_eq_true rfl) ?_
  refine t_rM_makes e6 ?_
  refine k_iconst (v := 1) f_181_45 (by decide) ?_
  refine s_ireturn f_181_46 rfl rfl ?_
  cases hd
  exact hQ
def rM_lives_J27 (M : SS) (a1 : Int32) (a3 : Bool) (w1 : Int32) (w2 : Int32) (w3 : Bool) : Option (Int32 × SS) :=
  (rM_makes M w1 w2 (b2i w3)).bind fun p4 =>
  if a3 = true then
    rM_lives_J42 p4 a1 (5 : Int32) true
  else
    rM_lives_J42 p4 a1 (5 : Int32) false
theorem t_rM_lives_J27 {l : Launch} {G : aG} {d : Nat} {Q : Option Value → aHeap → Prop} {sl : Nat} {sx : Nat → Int32} {S : SS} {K : KS} {T : TS} {X : XS} : ∀ (M : SS) (a1 : Int32) (a3 : Bool) (w1 : Int32) (w2 : Int32) (w3 : Bool) (p : Int32 × SS), rM_lives_J27 M a1 a3 w1 w2 w3 = some p → Q (some (.int p.1)) (LH (old0 sl sx) S K T X p.2) → aAt l G (d + 2) 0 0 181 27 [(0, .ref 154), (1, .int a1), (3, .int (b2i a3))] [.int (b2i w3), .int w2, .int w1, .ref 154] 0 0 (LH (old0 sl sx) S K T X M) Q := by
  intro M a1 a3 w1 w2 w3 p hd hQ
  unfold rM_lives_J27 at hd
  replace hd := obind hd
  obtain ⟨p4, e4, hd⟩ := hd
  refine L_virt (As := [.int w1, .int w2, .int (b2i w3)]) f_181_27 ca_12_83 rfl rfl (obL (by decide)) (by decide) (Nat.le_of_ble_eq_true rfl) ?_
  refine t_rM_makes e4 ?_
  refine s_aload_n f_181_30 rfl ?_
  refine s_iload_n f_181_31 rfl ?_
  refine k_iconst (v := 5) f_181_32 (by decide) ?_
  refine s_iload_n f_181_33 rfl ?_
  refine z_if_eq 41 f_181_34 (by decide) (fun c5 => ?_) (fun c5 => ?_)
  · replace hd := ite_n c5 hd
    refine k_iconst (v := 0) f_181_41 (by decide) ?_
    refine aAt.sub [] rfl ?_
    exact t_rM_lives_J42 _ _ _ _  _ hd hQ
  · replace hd := ite_p c5 hd
    refine k_iconst (v := 1) f_181_37 (by decide) ?_
    refine s_goto 42 f_181_38 (by decide) ?_
    refine aAt.sub [] rfl ?_
    exact t_rM_lives_J42 _ _ _ _  _ hd hQ
def rM_lives (M : SS) (a1 : Int32) (a2 : Bool) (a3 : Bool) : Option (Int32 × SS) :=
  (rM_isPerson M a1).bind fun p1 =>
  if p1 = true then
    if a2 = true then
      rM_lives_J27 M a1 a3 a1 (4 : Int32) true
    else
      rM_lives_J27 M a1 a3 a1 (4 : Int32) false
  else
    (rM_finds M (-100001 : Int32)).bind fun p7 =>
    some (p7.1, p7.2)
theorem t_rM_lives {l : Launch} {G : aG} {d : Nat} {Q : Option Value → aHeap → Prop} {sl : Nat} {sx : Nat → Int32} {S : SS} {K : KS} {T : TS} {X : XS} {M : SS} {a1 : Int32} {a2 : Bool} {a3 : Bool} {p : Int32 × SS} (hd : rM_lives M a1 a2 a3 = some p) (hQ : Q (some (.int p.1)) (LH (old0 sl sx) S K T X p.2)) : aCall l G (d + 2) 0 0 181 [.ref 154, .int a1, .int (b2i a2), .int (b2i a3)] (LH (old0 sl sx) S K T X M) Q := by
  refine aCall.of (by decide) (Nat.le_of_ble_eq_true rfl) ?_
  refine aAt.sub [(0, .ref 154), (1, .int a1), (2, .int (b2i a2)), (3, .int (b2i a3))] rfl ?_
  unfold rM_lives at hd
  refine s_aload_n f_181_0 rfl ?_
  refine s_iload_n f_181_1 rfl ?_
  replace hd := obind hd
  obtain ⟨p1, e1, hd⟩ := hd
  refine L_virt (As := [.int a1]) f_181_2 ca_12_87 rfl rfl (obL (by decide)) (by decide) (Nat.le_of_ble_eq_true rfl) ?_
  refine t_rM_isPerson e1 ?_
  refine z_if_ne 15 f_181_5 (by decide) (fun c2 => ?_) (fun c2 => ?_)
  · replace hd := ite_p c2 hd
    refine s_aload_n f_181_15 rfl ?_
    refine s_iload_n f_181_16 rfl ?_
    refine k_iconst (v := 4) f_181_17 (by decide) ?_
    refine s_iload_n f_181_18 rfl ?_
    refine z_if_eq 26 f_181_19 (by decide) (fun c3 => ?_) (fun c3 => ?_)
    · replace hd := ite_n c3 hd
      refine k_iconst (v := 0) f_181_26 (by decide) ?_
      refine aAt.sub [(0, .ref 154), (1, .int a1), (3, .int (b2i a3))] rfl ?_
      exact t_rM_lives_J27 _ _ _ _ _ _  _ hd hQ
    · replace hd := ite_p c3 hd
      refine k_iconst (v := 1) f_181_22 (by decide) ?_
      refine s_goto 27 f_181_23 (by decide) ?_
      refine aAt.sub [(0, .ref 154), (1, .int a1), (3, .int (b2i a3))] rfl ?_
      exact t_rM_lives_J27 _ _ _ _ _ _  _ hd hQ
  · replace hd := ite_n c2 hd
    refine s_aload_n f_181_8 rfl ?_
    refine s_ldc f_181_9 ko_12_77 ?_
    replace hd := obind hd
    obtain ⟨p7, e7, hd⟩ := hd
    refine L_virt (As := [.int (-100001 : Int32)]) f_181_11 ca_12_78 rfl rfl (obL (by decide)) (by decide) (Nat.le_of_ble_eq_true rfl) ?_
    refine t_rM_finds e7 ?_
    refine s_ireturn f_181_14 rfl rfl ?_
    cases hd
    exact hQ

def rM_own (M : SS) (a1 : Int32) (a2 : Int32) : Option (Int32) :=
  if inb (((10 : Int32) + ((10 : Int32) * a1)) + a2) 10759 then
    some (M 155 (ix (((10 : Int32) + ((10 : Int32) * a1)) + a2)))
  else none
theorem t_rM_own {l : Launch} {G : aG} {d : Nat} {Q : Option Value → aHeap → Prop} {sl : Nat} {sx : Nat → Int32} {S : SS} {K : KS} {T : TS} {X : XS} {M : SS} {a1 : Int32} {a2 : Int32} {p : Int32} (hd : rM_own M a1 a2 = some p) (hQ : Q (some (.int p)) (LH (old0 sl sx) S K T X M)) : aCall l G d 0 0 184 [.ref 154, .int a1, .int a2] (LH (old0 sl sx) S K T X M) Q := by
  refine aCall.of (by decide) (Nat.le_of_ble_eq_true rfl) ?_
  refine aAt.sub [(0, .ref 154), (1, .int a1), (2, .int a2)] rfl ?_
  unfold rM_own at hd
  refine s_aload_n f_184_0 rfl ?_
  refine L_getR f_184_1 fd_12_7 (obL (by decide)) (by decide) (by decide : rf 154 0 = 155) ?_
  refine k_bipush (v := 10) f_184_4 (by decide) ?_
  refine k_bipush (v := 10) f_184_6 (by decide) ?_
  refine s_iload_n f_184_8 rfl ?_
  refine s_imul f_184_9 ?_
  refine s_iadd f_184_10 ?_
  refine s_iload_n f_184_11 rfl ?_
  refine s_iadd f_184_12 ?_
  replace hd := gd hd
  obtain ⟨g1, hd⟩ := hd
  refine M_iaload (q := (ix (((10 : Int32) + ((10 : Int32) * a1)) + a2))) f_184_13 ⟨by decide, by decide, by decide, fun _ => rfl⟩ (Nat.le_of_ble_eq_true rfl : 10759 < 2 ^ 31) rfl g1 ?_
  refine s_ireturn f_184_14 rfl rfl ?_
  cases hd
  exact hQ

def rM_fear_J18 (M : SS) : Option (Int32 × SS) :=
  (rM_finds M (-100001 : Int32)).bind fun p3 =>
  some (p3.1, p3.2)
theorem t_rM_fear_J18 {l : Launch} {G : aG} {d : Nat} {Q : Option Value → aHeap → Prop} {sl : Nat} {sx : Nat → Int32} {S : SS} {K : KS} {T : TS} {X : XS} : ∀ (M : SS) (p : Int32 × SS), rM_fear_J18 M = some p → Q (some (.int p.1)) (LH (old0 sl sx) S K T X p.2) → aAt l G (d + 2) 0 0 183 18 [(0, .ref 154)] [] 0 0 (LH (old0 sl sx) S K T X M) Q := by
  intro M p hd hQ
  unfold rM_fear_J18 at hd
  refine s_aload_n f_183_18 rfl ?_
  refine s_ldc f_183_19 ko_12_77 ?_
  replace hd := obind hd
  obtain ⟨p3, e3, hd⟩ := hd
  refine L_virt (As := [.int (-100001 : Int32)]) f_183_21 ca_12_78 rfl rfl (obL (by decide)) (by decide) (Nat.le_of_ble_eq_true rfl) ?_
  refine t_rM_finds e3 ?_
  refine s_ireturn f_183_24 rfl rfl ?_
  cases hd
  exact hQ
def rM_fear (M : SS) (a1 : Int32) (a2 : Int32) : Option (Int32 × SS) :=
  (rM_isPerson M a1).bind fun p1 =>
  if p1 = true then
    (rM_in a2 (0 : Int32) (50 : Int32)).bind fun p4 =>
    if p4 = true then
      (rM_own M a1 (7 : Int32)).bind fun p6 =>
      (rM_makes M a1 (7 : Int32) a2).bind fun p7 =>
      some (p6, p7)
    else
      rM_fear_J18 M
  else
    rM_fear_J18 M
theorem t_rM_fear {l : Launch} {G : aG} {d : Nat} {Q : Option Value → aHeap → Prop} {sl : Nat} {sx : Nat → Int32} {S : SS} {K : KS} {T : TS} {X : XS} {M : SS} {a1 : Int32} {a2 : Int32} {p : Int32 × SS} (hd : rM_fear M a1 a2 = some p) (hQ : Q (some (.int p.1)) (LH (old0 sl sx) S K T X p.2)) : aCall l G (d + 2) 0 0 183 [.ref 154, .int a1, .int a2] (LH (old0 sl sx) S K T X M) Q := by
  refine aCall.of (by decide) (Nat.le_of_ble_eq_true rfl) ?_
  refine aAt.sub [(0, .ref 154), (1, .int a1), (2, .int a2)] rfl ?_
  unfold rM_fear at hd
  refine s_aload_n f_183_0 rfl ?_
  refine s_iload_n f_183_1 rfl ?_
  replace hd := obind hd
  obtain ⟨p1, e1, hd⟩ := hd
  refine L_virt (As := [.int a1]) f_183_2 ca_12_87 rfl rfl (obL (by decide)) (by decide) (Nat.le_of_ble_eq_true rfl) ?_
  refine t_rM_isPerson e1 ?_
  refine z_if_eq 18 f_183_5 (by decide) (fun c2 => ?_) (fun c2 => ?_)
  · replace hd := ite_n c2 hd
    refine aAt.sub [(0, .ref 154)] rfl ?_
    exact t_rM_fear_J18 _  _ hd hQ
  · replace hd := ite_p c2 hd
    refine s_iload_n f_183_8 rfl ?_
    refine k_iconst (v := 0) f_183_9 (by decide) ?_
    refine k_bipush (v := 50) f_183_10 (by decide) ?_
    replace hd := obind hd
    obtain ⟨p4, e4, hd⟩ := hd
    refine L_stat (As := [.int a2, .int (0 : Int32), .int (50 : Int32)]) f_183_12 ca_12_69 rfl rfl (Nat.le_of_ble_eq_true rfl) ?_
    refine t_rM_in e4 ?_
    refine z_if_ne 25 f_183_15 (by decide) (fun c5 => ?_) (fun c5 => ?_)
    · replace hd := ite_p c5 hd
      refine s_aload_n f_183_25 rfl ?_
      refine s_iload_n f_183_26 rfl ?_
      refine k_bipush (v := 7) f_183_27 (by decide) ?_
      replace hd := obind hd
      obtain ⟨p6, e6, hd⟩ := hd
      refine L_virt (As := [.int a1, .int (7 : Int32)]) f_183_29 ca_12_73 rfl rfl (obL (by decide)) (by decide) (Nat.le_of_ble_eq_true rfl) ?_
      refine t_rM_own e6 ?_
      refine s_istore_n f_183_32 (by decide) ?_
      refine s_aload_n f_183_33 rfl ?_
      refine s_iload_n f_183_34 rfl ?_
      refine k_bipush (v := 7) f_183_35 (by decide) ?_
      refine s_iload_n f_183_37 rfl ?_
      replace hd := obind hd
      obtain ⟨p7, e7, hd⟩ := hd
      refine L_virt (As := [.int a1, .int (7 : Int32), .int a2]) f_183_38 ca_12_83 rfl rfl (obL (by decide)) (by decide) (Nat.le_of_ble_eq_true rfl) ?_
      refine t_rM_makes e7 ?_
      refine s_iload_n f_183_41 rfl ?_
      refine s_ireturn f_183_42 rfl rfl ?_
      cases hd
      exact hQ
    · replace hd := ite_n c5 hd
      refine aAt.sub [(0, .ref 154)] rfl ?_
      exact t_rM_fear_J18 _  _ hd hQ

def rM_lives0 (M : SS) (a1 : Int32) : Option (Bool) :=
  (rM_own M a1 (3 : Int32)).bind fun p1 =>
  if 0 ≤ p1 then
    some false
  else
    some true
theorem t_rM_lives0 {l : Launch} {G : aG} {d : Nat} {Q : Option Value → aHeap → Prop} {sl : Nat} {sx : Nat → Int32} {S : SS} {K : KS} {T : TS} {X : XS} {M : SS} {a1 : Int32} {p : Bool} (hd : rM_lives0 M a1 = some p) (hQ : Q (some (.int (b2i p))) (LH (old0 sl sx) S K T X M)) : aCall l G (d + 1) 0 0 186 [.ref 154, .int a1] (LH (old0 sl sx) S K T X M) Q := by
  refine aCall.of (by decide) (Nat.le_of_ble_eq_true rfl) ?_
  refine aAt.sub [(0, .ref 154), (1, .int a1)] rfl ?_
  unfold rM_lives0 at hd
  refine s_aload_n f_186_0 rfl ?_
  refine s_iload_n f_186_1 rfl ?_
  refine k_iconst (v := 3) f_186_2 (by decide) ?_
  replace hd := obind hd
  obtain ⟨p1, e1, hd⟩ := hd
  refine L_virt (As := [.int a1, .int (3 : Int32)]) f_186_3 ca_12_73 rfl rfl (obL (by decide)) (by decide) (Nat.le_of_ble_eq_true rfl) ?_
  refine t_rM_own e1 ?_
  refine s_if_ge 13 f_186_6 (by decide) (fun c2 => ?_) (fun c2 => ?_)
  · replace hd := ite_p c2 hd
    refine k_iconst (v := 0) f_186_13 (by decide) ?_
    refine s_iretB (b := false) f_186_14 rfl ?_
    cases hd
    exact hQ
  · replace hd := ite_n c2 hd
    refine k_iconst (v := 1) f_186_9 (by decide) ?_
    refine s_goto 14 f_186_10 (by decide) ?_
    refine s_iretB (b := true) f_186_14 rfl ?_
    cases hd
    exact hQ

def rM_die (M : SS) (a1 : Int32) : Option (Int32 × SS) :=
  (rM_isPerson M a1).bind fun p1 =>
  if p1 = true then
    (rM_lives0 M a1).bind fun p3 =>
    if p3 = true then
      (rM_own M a1 (6 : Int32)).bind fun p5 =>
      (rM_makes M a1 (6 : Int32) (0 : Int32)).bind fun p6 =>
      (rM_makes p6 a1 (3 : Int32) (p6 155 3)).bind fun p7 =>
      some (p5, (up p7 155 6 ((p7 155 6) + p5)))
    else
      (rM_finds M (-100007 : Int32)).bind fun p8 =>
      some (p8.1, p8.2)
  else
    (rM_finds M (-100001 : Int32)).bind fun p9 =>
    some (p9.1, p9.2)
theorem t_rM_die {l : Launch} {G : aG} {d : Nat} {Q : Option Value → aHeap → Prop} {sl : Nat} {sx : Nat → Int32} {S : SS} {K : KS} {T : TS} {X : XS} {M : SS} {a1 : Int32} {p : Int32 × SS} (hd : rM_die M a1 = some p) (hQ : Q (some (.int p.1)) (LH (old0 sl sx) S K T X p.2)) : aCall l G (d + 2) 0 0 185 [.ref 154, .int a1] (LH (old0 sl sx) S K T X M) Q := by
  refine aCall.of (by decide) (Nat.le_of_ble_eq_true rfl) ?_
  refine aAt.sub [(0, .ref 154), (1, .int a1)] rfl ?_
  unfold rM_die at hd
  refine s_aload_n f_185_0 rfl ?_
  refine s_iload_n f_185_1 rfl ?_
  replace hd := obind hd
  obtain ⟨p1, e1, hd⟩ := hd
  refine L_virt (As := [.int a1]) f_185_2 ca_12_87 rfl rfl (obL (by decide)) (by decide) (Nat.le_of_ble_eq_true rfl) ?_
  refine t_rM_isPerson e1 ?_
  refine z_if_ne 15 f_185_5 (by decide) (fun c2 => ?_) (fun c2 => ?_)
  · replace hd := ite_p c2 hd
    refine s_aload_n f_185_15 rfl ?_
    refine s_iload_n f_185_16 rfl ?_
    replace hd := obind hd
    obtain ⟨p3, e3, hd⟩ := hd
    refine L_virt (As := [.int a1]) f_185_17 ca_12_91 rfl rfl (obL (by decide)) (by decide) (Nat.le_of_ble_eq_true rfl) ?_
    refine t_rM_lives0 e3 ?_
    refine z_if_ne 30 f_185_20 (by decide) (fun c4 => ?_) (fun c4 => ?_)
    · replace hd := ite_p c4 hd
      refine s_aload_n f_185_30 rfl ?_
      refine s_iload_n f_185_31 rfl ?_
      refine k_bipush (v := 6) f_185_32 (by decide) ?_
      replace hd := obind hd
      obtain ⟨p5, e5, hd⟩ := hd
      refine L_virt (As := [.int a1, .int (6 : Int32)]) f_185_34 ca_12_73 rfl rfl (obL (by decide)) (by decide) (Nat.le_of_ble_eq_true rfl) ?_
      refine t_rM_own e5 ?_
      refine s_istore_n f_185_37 (by decide) ?_
      refine s_aload_n f_185_38 rfl ?_
      refine s_iload_n f_185_39 rfl ?_
      refine k_bipush (v := 6) f_185_40 (by decide) ?_
      refine k_iconst (v := 0) f_185_42 (by decide) ?_
      replace hd := obind hd
      obtain ⟨p6, e6, hd⟩ := hd
      refine L_virt (As := [.int a1, .int (6 : Int32), .int (0 : Int32)]) f_185_43 ca_12_83 rfl rfl (obL (by decide)) (by decide) (Nat.le_of_ble_eq_true rfl) ?_
      refine t_rM_makes e6 ?_
      refine s_aload_n f_185_46 rfl ?_
      refine s_iload_n f_185_47 rfl ?_
      refine k_iconst (v := 3) f_185_48 (by decide) ?_
      refine s_aload_n f_185_49 rfl ?_
      refine L_getR f_185_50 fd_12_7 (obL (by decide)) (by decide) (by decide : rf 154 0 = 155) ?_
      refine k_iconst (v := 3) f_185_53 (by decide) ?_
      refine M_iaload (q := 3) f_185_54 ⟨by decide, by decide, by decide, fun _ => rfl⟩ (Nat.le_of_ble_eq_true rfl : 10759 < 2 ^ 31) (by decide) (by decide) ?_
      replace hd := obind hd
      obtain ⟨p7, e7, hd⟩ := hd
      refine L_virt (As := [.int a1, .int (3 : Int32), .int (p6 155 3)]) f_185_55 ca_12_83 rfl rfl (obL (by decide)) (by decide) (Nat.le_of_ble_eq_true rfl) ?_
      refine t_rM_makes e7 ?_
      refine s_aload_n f_185_58 rfl ?_
      refine L_getR f_185_59 fd_12_7 (obL (by decide)) (by decide) (by decide : rf 154 0 = 155) ?_
      refine k_bipush (v := 6) f_185_62 (by decide) ?_
      refine s_dup2 f_185_64 rfl rfl ?_
      refine M_iaload (q := 6) f_185_65 ⟨by decide, by decide, by decide, fun _ => rfl⟩ (Nat.le_of_ble_eq_true rfl : 10759 < 2 ^ 31) (by decide) (by decide) ?_
      refine s_iload_n f_185_66 rfl ?_
      refine s_iadd f_185_67 ?_
      refine M_iastore (q := 6) f_185_68 ⟨by decide, by decide, by decide, fun _ => rfl⟩ (Nat.le_of_ble_eq_true rfl : 10759 < 2 ^ 31) (by decide) (by decide) ?_
      refine s_iload_n f_185_69 rfl ?_
      refine s_ireturn f_185_70 rfl rfl ?_
      cases hd
      exact hQ
    · replace hd := ite_n c4 hd
      refine s_aload_n f_185_23 rfl ?_
      refine s_ldc f_185_24 ko_12_94 ?_
      replace hd := obind hd
      obtain ⟨p8, e8, hd⟩ := hd
      refine L_virt (As := [.int (-100007 : Int32)]) f_185_26 ca_12_78 rfl rfl (obL (by decide)) (by decide) (Nat.le_of_ble_eq_true rfl) ?_
      refine t_rM_finds e8 ?_
      refine s_ireturn f_185_29 rfl rfl ?_
      cases hd
      exact hQ
  · replace hd := ite_n c2 hd
    refine s_aload_n f_185_8 rfl ?_
    refine s_ldc f_185_9 ko_12_77 ?_
    replace hd := obind hd
    obtain ⟨p9, e9, hd⟩ := hd
    refine L_virt (As := [.int (-100001 : Int32)]) f_185_11 ca_12_78 rfl rfl (obL (by decide)) (by decide) (Nat.le_of_ble_eq_true rfl) ?_
    refine t_rM_finds e9 ?_
    refine s_ireturn f_185_14 rfl rfl ?_
    cases hd
    exact hQ

def rM_of (M : SS) (a1 : Int32) (a2 : Int32) : Option (Int32) :=
  if inb (((182 : Int32) + ((10 : Int32) * a1)) + a2) 10759 then
    some (M 155 (ix (((182 : Int32) + ((10 : Int32) * a1)) + a2)))
  else none
theorem t_rM_of {l : Launch} {G : aG} {d : Nat} {Q : Option Value → aHeap → Prop} {sl : Nat} {sx : Nat → Int32} {S : SS} {K : KS} {T : TS} {X : XS} {M : SS} {a1 : Int32} {a2 : Int32} {p : Int32} (hd : rM_of M a1 a2 = some p) (hQ : Q (some (.int p)) (LH (old0 sl sx) S K T X M)) : aCall l G d 0 0 190 [.ref 154, .int a1, .int a2] (LH (old0 sl sx) S K T X M) Q := by
  refine aCall.of (by decide) (Nat.le_of_ble_eq_true rfl) ?_
  refine aAt.sub [(0, .ref 154), (1, .int a1), (2, .int a2)] rfl ?_
  unfold rM_of at hd
  refine s_aload_n f_190_0 rfl ?_
  refine L_getR f_190_1 fd_12_7 (obL (by decide)) (by decide) (by decide : rf 154 0 = 155) ?_
  refine k_sipush (v := 182) f_190_4 (by decide) ?_
  refine k_bipush (v := 10) f_190_7 (by decide) ?_
  refine s_iload_n f_190_9 rfl ?_
  refine s_imul f_190_10 ?_
  refine s_iadd f_190_11 ?_
  refine s_iload_n f_190_12 rfl ?_
  refine s_iadd f_190_13 ?_
  replace hd := gd hd
  obtain ⟨g1, hd⟩ := hd
  refine M_iaload (q := (ix (((182 : Int32) + ((10 : Int32) * a1)) + a2))) f_190_14 ⟨by decide, by decide, by decide, fun _ => rfl⟩ (Nat.le_of_ble_eq_true rfl : 10759 < 2 ^ 31) rfl g1 ?_
  refine s_ireturn f_190_15 rfl rfl ?_
  cases hd
  exact hQ

def rM_isOpen (M : SS) (a1 : Int32) : Option (Bool) :=
  (rM_of M a1 (9 : Int32)).bind fun p1 =>
  if p1 = 0 then
    some true
  else
    some false
theorem t_rM_isOpen {l : Launch} {G : aG} {d : Nat} {Q : Option Value → aHeap → Prop} {sl : Nat} {sx : Nat → Int32} {S : SS} {K : KS} {T : TS} {X : XS} {M : SS} {a1 : Int32} {p : Bool} (hd : rM_isOpen M a1 = some p) (hQ : Q (some (.int (b2i p))) (LH (old0 sl sx) S K T X M)) : aCall l G (d + 1) 0 0 189 [.ref 154, .int a1] (LH (old0 sl sx) S K T X M) Q := by
  refine aCall.of (by decide) (Nat.le_of_ble_eq_true rfl) ?_
  refine aAt.sub [(0, .ref 154), (1, .int a1)] rfl ?_
  unfold rM_isOpen at hd
  refine s_aload_n f_189_0 rfl ?_
  refine s_iload_n f_189_1 rfl ?_
  refine k_bipush (v := 9) f_189_2 (by decide) ?_
  replace hd := obind hd
  obtain ⟨p1, e1, hd⟩ := hd
  refine L_virt (As := [.int a1, .int (9 : Int32)]) f_189_4 ca_12_98 rfl rfl (obL (by decide)) (by decide) (Nat.le_of_ble_eq_true rfl) ?_
  refine t_rM_of e1 ?_
  refine s_if_ne 14 f_189_7 (by decide) (fun c2 => ?_) (fun c2 => ?_)
  · replace hd := ite_n c2 hd
    refine k_iconst (v := 0) f_189_14 (by decide) ?_
    refine s_iretB (b := false) f_189_15 rfl ?_
    cases hd
    exact hQ
  · replace hd := ite_p c2 hd
    refine k_iconst (v := 1) f_189_10 (by decide) ?_
    refine s_goto 15 f_189_11 (by decide) ?_
    refine s_iretB (b := true) f_189_15 rfl ?_
    cases hd
    exact hQ

def rM_owed (M : SS) (a1 : Int32) : Option (Int32) :=
  (rM_of M a1 (3 : Int32)).bind fun p1 =>
  (rM_of M a1 (4 : Int32)).bind fun p2 =>
  some (p1 - p2)
theorem t_rM_owed {l : Launch} {G : aG} {d : Nat} {Q : Option Value → aHeap → Prop} {sl : Nat} {sx : Nat → Int32} {S : SS} {K : KS} {T : TS} {X : XS} {M : SS} {a1 : Int32} {p : Int32} (hd : rM_owed M a1 = some p) (hQ : Q (some (.int p)) (LH (old0 sl sx) S K T X M)) : aCall l G (d + 1) 0 0 191 [.ref 154, .int a1] (LH (old0 sl sx) S K T X M) Q := by
  refine aCall.of (by decide) (Nat.le_of_ble_eq_true rfl) ?_
  refine aAt.sub [(0, .ref 154), (1, .int a1)] rfl ?_
  unfold rM_owed at hd
  refine s_aload_n f_191_0 rfl ?_
  refine s_iload_n f_191_1 rfl ?_
  refine k_iconst (v := 3) f_191_2 (by decide) ?_
  replace hd := obind hd
  obtain ⟨p1, e1, hd⟩ := hd
  refine L_virt (As := [.int a1, .int (3 : Int32)]) f_191_3 ca_12_98 rfl rfl (obL (by decide)) (by decide) (Nat.le_of_ble_eq_true rfl) ?_
  refine t_rM_of e1 ?_
  refine s_aload_n f_191_6 rfl ?_
  refine s_iload_n f_191_7 rfl ?_
  refine k_iconst (v := 4) f_191_8 (by decide) ?_
  replace hd := obind hd
  obtain ⟨p2, e2, hd⟩ := hd
  refine L_virt (As := [.int a1, .int (4 : Int32)]) f_191_9 ca_12_98 rfl rfl (obL (by decide)) (by decide) (Nat.le_of_ble_eq_true rfl) ?_
  refine t_rM_of e2 ?_
  refine s_isub f_191_12 ?_
  refine s_ireturn f_191_13 rfl rfl ?_
  cases hd
  exact hQ

def rM_owes_J53 (M : SS) (k5 : Int32 → Int32 → Int32 → Int32 → Option (Int32)) (a1 : Int32) (a2 : Int32) (a4 : Int32) (w0 : Int32) (w1 : Int32) : Option (Int32) :=
  k5 a1 a2 (w0 + w1) (a4 + 1)
theorem t_rM_owes_J53 {l : Launch} {G : aG} {d : Nat} {Q : Option Value → aHeap → Prop} {sl : Nat} {sx : Nat → Int32} {S : SS} {K : KS} {T : TS} {X : XS} {M : SS} {k5 : Int32 → Int32 → Int32 → Int32 → Option (Int32)} (hk5 : ∀ (a1 : Int32) (a2 : Int32) (a3 : Int32) (a4 : Int32) (p : Int32), k5 a1 a2 a3 a4 = some p → Q (some (.int p)) (LH (old0 sl sx) S K T X M) → aAt l G (d + 2) 0 0 188 5 [(0, .ref 154), (1, .int a1), (2, .int a2), (3, .int a3), (4, .int a4)] [] 0 0 (LH (old0 sl sx) S K T X M) Q) : ∀ (a1 : Int32) (a2 : Int32) (a4 : Int32) (w0 : Int32) (w1 : Int32) (p : Int32), rM_owes_J53 M k5 a1 a2 a4 w0 w1 = some p → Q (some (.int p)) (LH (old0 sl sx) S K T X M) → aAt l G (d + 2) 0 0 188 53 [(0, .ref 154), (1, .int a1), (2, .int a2), (4, .int a4)] [.int w1, .int w0] 0 0 (LH (old0 sl sx) S K T X M) Q := by
  intro a1 a2 a4 w0 w1 p hd hQ
  unfold rM_owes_J53 at hd
  refine s_iadd f_188_53 ?_
  refine s_istore_n f_188_54 (by decide) ?_
  refine k_iinc (w := 1) f_188_55 rfl (by decide) (by decide) ?_
  refine s_goto 5 f_188_58 (by decide) ?_
  refine aAt.sub [(0, .ref 154), (1, .int a1), (2, .int a2), (3, .int (w0 + w1)), (4, .int (a4 + 1))] rfl ?_
  exact hk5 _ _ _ _  _ hd hQ
def rM_owes_J52 (M : SS) (k5 : Int32 → Int32 → Int32 → Int32 → Option (Int32)) (a1 : Int32) (a2 : Int32) (a4 : Int32) (w0 : Int32) : Option (Int32) :=
  rM_owes_J53 M k5 a1 a2 a4 w0 (0 : Int32)
theorem t_rM_owes_J52 {l : Launch} {G : aG} {d : Nat} {Q : Option Value → aHeap → Prop} {sl : Nat} {sx : Nat → Int32} {S : SS} {K : KS} {T : TS} {X : XS} {M : SS} {k5 : Int32 → Int32 → Int32 → Int32 → Option (Int32)} (hk5 : ∀ (a1 : Int32) (a2 : Int32) (a3 : Int32) (a4 : Int32) (p : Int32), k5 a1 a2 a3 a4 = some p → Q (some (.int p)) (LH (old0 sl sx) S K T X M) → aAt l G (d + 2) 0 0 188 5 [(0, .ref 154), (1, .int a1), (2, .int a2), (3, .int a3), (4, .int a4)] [] 0 0 (LH (old0 sl sx) S K T X M) Q) : ∀ (a1 : Int32) (a2 : Int32) (a4 : Int32) (w0 : Int32) (p : Int32), rM_owes_J52 M k5 a1 a2 a4 w0 = some p → Q (some (.int p)) (LH (old0 sl sx) S K T X M) → aAt l G (d + 2) 0 0 188 52 [(0, .ref 154), (1, .int a1), (2, .int a2), (4, .int a4)] [.int w0] 0 0 (LH (old0 sl sx) S K T X M) Q := by
  intro a1 a2 a4 w0 p hd hQ
  unfold rM_owes_J52 at hd
  refine k_iconst (v := 0) f_188_52 (by decide) ?_
  refine aAt.sub [(0, .ref 154), (1, .int a1), (2, .int a2), (4, .int a4)] rfl ?_
  exact t_rM_owes_J53 hk5 _ _ _ _ _  _ hd hQ
def rM_owes_L5 (M : SS) : Nat → Int32 → Int32 → Int32 → Int32 → Option (Int32)
  | 0, _, _, _, _ => none
  | n + 1, a1, a2, a3, a4 =>
    if (M 155 2) ≤ a4 then
      some a3
    else
      if a4 = a2 then
        rM_owes_J52 M (rM_owes_L5 M  n) a1 a2 a4 a3
      else
        (rM_isOpen M a4).bind fun p3 =>
        if p3 = true then
          (rM_of M a4 (1 : Int32)).bind fun p5 =>
          if p5 = a1 then
            (rM_owed M a4).bind fun p7 =>
            rM_owes_J53 M (rM_owes_L5 M  n) a1 a2 a4 a3 p7
          else
            rM_owes_J52 M (rM_owes_L5 M  n) a1 a2 a4 a3
        else
          rM_owes_J52 M (rM_owes_L5 M  n) a1 a2 a4 a3
theorem t_rM_owes_L5 {l : Launch} {G : aG} {d : Nat} {Q : Option Value → aHeap → Prop} {sl : Nat} {sx : Nat → Int32} {S : SS} {K : KS} {T : TS} {X : XS} {M : SS} : ∀ (n : Nat), ∀ (a1 : Int32) (a2 : Int32) (a3 : Int32) (a4 : Int32) (p : Int32), rM_owes_L5 M n a1 a2 a3 a4 = some p → Q (some (.int p)) (LH (old0 sl sx) S K T X M) → aAt l G (d + 2) 0 0 188 5 [(0, .ref 154), (1, .int a1), (2, .int a2), (3, .int a3), (4, .int a4)] [] 0 0 (LH (old0 sl sx) S K T X M) Q := by
  intro n
  induction n with
  | zero =>
    intro a1 a2 a3 a4 p hd hQ
    rw [rM_owes_L5] at hd
    cases hd
  | succ n ih =>
    intro a1 a2 a3 a4 p hd hQ
    rw [rM_owes_L5] at hd
    refine s_iload f_188_5 rfl ?_
    refine s_aload_n f_188_7 rfl ?_
    refine L_getR f_188_8 fd_12_7 (obL (by decide)) (by decide) (by decide : rf 154 0 = 155) ?_
    refine k_iconst (v := 2) f_188_11 (by decide) ?_
    refine M_iaload (q := 2) f_188_12 ⟨by decide, by decide, by decide, fun _ => rfl⟩ (Nat.le_of_ble_eq_true rfl : 10759 < 2 ^ 31) (by decide) (by decide) ?_
    refine s_icmp_ge 61 f_188_13 (by decide) (fun c1 => ?_) (fun c1 => ?_)
    · replace hd := ite_p c1 hd
      refine s_iload_n f_188_61 rfl ?_
      refine s_ireturn f_188_62 rfl rfl ?_
      cases hd
      exact hQ
    · replace hd := ite_n c1 hd
      refine s_iload_n f_188_16 rfl ?_
      refine s_iload f_188_17 rfl ?_
      refine s_iload_n f_188_19 rfl ?_
      refine s_icmp_eq 52 f_188_20 (by decide) (fun c2 => ?_) (fun c2 => ?_)
      · replace hd := ite_p c2 hd
        refine aAt.sub [(0, .ref 154), (1, .int a1), (2, .int a2), (4, .int a4)] rfl ?_
        exact t_rM_owes_J52 ih _ _ _ _  _ hd hQ
      · replace hd := ite_n c2 hd
        refine s_aload_n f_188_23 rfl ?_
        refine s_iload f_188_24 rfl ?_
        replace hd := obind hd
        obtain ⟨p3, e3, hd⟩ := hd
        refine L_virt (As := [.int a4]) f_188_26 ca_12_95 rfl rfl (obL (by decide)) (by decide) (Nat.le_of_ble_eq_true rfl) ?_
        refine t_rM_isOpen e3 ?_
        refine z_if_eq 52 f_188_29 (by decide) (fun c4 => ?_) (fun c4 => ?_)
        · replace hd := ite_n c4 hd
          refine aAt.sub [(0, .ref 154), (1, .int a1), (2, .int a2), (4, .int a4)] rfl ?_
          exact t_rM_owes_J52 ih _ _ _ _  _ hd hQ
        · replace hd := ite_p c4 hd
          refine s_aload_n f_188_32 rfl ?_
          refine s_iload f_188_33 rfl ?_
          refine k_iconst (v := 1) f_188_35 (by decide) ?_
          replace hd := obind hd
          obtain ⟨p5, e5, hd⟩ := hd
          refine L_virt (As := [.int a4, .int (1 : Int32)]) f_188_36 ca_12_98 rfl rfl (obL (by decide)) (by decide) (Nat.le_of_ble_eq_true rfl) ?_
          refine t_rM_of e5 ?_
          refine s_iload_n f_188_39 rfl ?_
          refine s_icmp_ne 52 f_188_40 (by decide) (fun c6 => ?_) (fun c6 => ?_)
          · replace hd := ite_n c6 hd
            refine aAt.sub [(0, .ref 154), (1, .int a1), (2, .int a2), (4, .int a4)] rfl ?_
            exact t_rM_owes_J52 ih _ _ _ _  _ hd hQ
          · replace hd := ite_p c6 hd
            refine s_aload_n f_188_43 rfl ?_
            refine s_iload f_188_44 rfl ?_
            replace hd := obind hd
            obtain ⟨p7, e7, hd⟩ := hd
            refine L_virt (As := [.int a4]) f_188_46 ca_12_101 rfl rfl (obL (by decide)) (by decide) (Nat.le_of_ble_eq_true rfl) ?_
            refine t_rM_owed e7 ?_
            refine s_goto 53 f_188_49 (by decide) ?_
            refine aAt.sub [(0, .ref 154), (1, .int a1), (2, .int a2), (4, .int a4)] rfl ?_
            exact t_rM_owes_J53 ih _ _ _ _ _  _ hd hQ
def rM_owes (M : SS) (a1 : Int32) (a2 : Int32) : Option (Int32) :=
  rM_owes_L5 M FU a1 a2 (0 : Int32) (0 : Int32)
theorem t_rM_owes {l : Launch} {G : aG} {d : Nat} {Q : Option Value → aHeap → Prop} {sl : Nat} {sx : Nat → Int32} {S : SS} {K : KS} {T : TS} {X : XS} {M : SS} {a1 : Int32} {a2 : Int32} {p : Int32} (hd : rM_owes M a1 a2 = some p) (hQ : Q (some (.int p)) (LH (old0 sl sx) S K T X M)) : aCall l G (d + 2) 0 0 188 [.ref 154, .int a1, .int a2] (LH (old0 sl sx) S K T X M) Q := by
  refine aCall.of (by decide) (Nat.le_of_ble_eq_true rfl) ?_
  refine aAt.sub [(0, .ref 154), (1, .int a1), (2, .int a2)] rfl ?_
  unfold rM_owes at hd
  refine k_iconst (v := 0) f_188_0 (by decide) ?_
  refine s_istore_n f_188_1 (by decide) ?_
  refine k_iconst (v := 0) f_188_2 (by decide) ?_
  refine s_istore f_188_3 (by decide) ?_
  refine aAt.sub [(0, .ref 154), (1, .int a1), (2, .int a2), (3, .int (0 : Int32)), (4, .int (0 : Int32))] rfl ?_
  exact t_rM_owes_L5 FU _ _ _ _  _ hd hQ

def rM_owedTo_J69 (M : SS) (k6 : Int32 → Int32 → Int32 → Int32 → Int32 → Option (Int32)) (a1 : Int32) (a2 : Int32) (a3 : Int32) (a5 : Int32) (w0 : Int32) (w1 : Int32) : Option (Int32) :=
  k6 a1 a2 a3 (w0 + w1) (a5 + 1)
theorem t_rM_owedTo_J69 {l : Launch} {G : aG} {d : Nat} {Q : Option Value → aHeap → Prop} {sl : Nat} {sx : Nat → Int32} {S : SS} {K : KS} {T : TS} {X : XS} {M : SS} {k6 : Int32 → Int32 → Int32 → Int32 → Int32 → Option (Int32)} (hk6 : ∀ (a1 : Int32) (a2 : Int32) (a3 : Int32) (a4 : Int32) (a5 : Int32) (p : Int32), k6 a1 a2 a3 a4 a5 = some p → Q (some (.int p)) (LH (old0 sl sx) S K T X M) → aAt l G (d + 2) 0 0 192 6 [(0, .ref 154), (1, .int a1), (2, .int a2), (3, .int a3), (4, .int a4), (5, .int a5)] [] 0 0 (LH (old0 sl sx) S K T X M) Q) : ∀ (a1 : Int32) (a2 : Int32) (a3 : Int32) (a5 : Int32) (w0 : Int32) (w1 : Int32) (p : Int32), rM_owedTo_J69 M k6 a1 a2 a3 a5 w0 w1 = some p → Q (some (.int p)) (LH (old0 sl sx) S K T X M) → aAt l G (d + 2) 0 0 192 69 [(0, .ref 154), (1, .int a1), (2, .int a2), (3, .int a3), (5, .int a5)] [.int w1, .int w0] 0 0 (LH (old0 sl sx) S K T X M) Q := by
  intro a1 a2 a3 a5 w0 w1 p hd hQ
  unfold rM_owedTo_J69 at hd
  refine s_iadd f_192_69 ?_
  refine s_istore f_192_70 (by decide) ?_
  refine k_iinc (w := 1) f_192_72 rfl (by decide) (by decide) ?_
  refine s_goto 6 f_192_75 (by decide) ?_
  refine aAt.sub [(0, .ref 154), (1, .int a1), (2, .int a2), (3, .int a3), (4, .int (w0 + w1)), (5, .int (a5 + 1))] rfl ?_
  exact hk6 _ _ _ _ _  _ hd hQ
def rM_owedTo_J68 (M : SS) (k6 : Int32 → Int32 → Int32 → Int32 → Int32 → Option (Int32)) (a1 : Int32) (a2 : Int32) (a3 : Int32) (a5 : Int32) (w0 : Int32) : Option (Int32) :=
  rM_owedTo_J69 M k6 a1 a2 a3 a5 w0 (0 : Int32)
theorem t_rM_owedTo_J68 {l : Launch} {G : aG} {d : Nat} {Q : Option Value → aHeap → Prop} {sl : Nat} {sx : Nat → Int32} {S : SS} {K : KS} {T : TS} {X : XS} {M : SS} {k6 : Int32 → Int32 → Int32 → Int32 → Int32 → Option (Int32)} (hk6 : ∀ (a1 : Int32) (a2 : Int32) (a3 : Int32) (a4 : Int32) (a5 : Int32) (p : Int32), k6 a1 a2 a3 a4 a5 = some p → Q (some (.int p)) (LH (old0 sl sx) S K T X M) → aAt l G (d + 2) 0 0 192 6 [(0, .ref 154), (1, .int a1), (2, .int a2), (3, .int a3), (4, .int a4), (5, .int a5)] [] 0 0 (LH (old0 sl sx) S K T X M) Q) : ∀ (a1 : Int32) (a2 : Int32) (a3 : Int32) (a5 : Int32) (w0 : Int32) (p : Int32), rM_owedTo_J68 M k6 a1 a2 a3 a5 w0 = some p → Q (some (.int p)) (LH (old0 sl sx) S K T X M) → aAt l G (d + 2) 0 0 192 68 [(0, .ref 154), (1, .int a1), (2, .int a2), (3, .int a3), (5, .int a5)] [.int w0] 0 0 (LH (old0 sl sx) S K T X M) Q := by
  intro a1 a2 a3 a5 w0 p hd hQ
  unfold rM_owedTo_J68 at hd
  refine k_iconst (v := 0) f_192_68 (by decide) ?_
  refine aAt.sub [(0, .ref 154), (1, .int a1), (2, .int a2), (3, .int a3), (5, .int a5)] rfl ?_
  exact t_rM_owedTo_J69 hk6 _ _ _ _ _ _  _ hd hQ
def rM_owedTo_L6 (M : SS) : Nat → Int32 → Int32 → Int32 → Int32 → Int32 → Option (Int32)
  | 0, _, _, _, _, _ => none
  | n + 1, a1, a2, a3, a4, a5 =>
    if (M 155 2) ≤ a5 then
      some a4
    else
      if a5 = a2 then
        rM_owedTo_J68 M (rM_owedTo_L6 M  n) a1 a2 a3 a5 a4
      else
        (rM_isOpen M a5).bind fun p3 =>
        if p3 = true then
          (rM_of M a5 (2 : Int32)).bind fun p5 =>
          if p5 = a1 then
            (rM_of M a5 (1 : Int32)).bind fun p7 =>
            if ((a3 >>> (p7 &&& 31)) &&& (1 : Int32)) = 0 then
              (rM_owed M a5).bind fun p9 =>
              rM_owedTo_J69 M (rM_owedTo_L6 M  n) a1 a2 a3 a5 a4 p9
            else
              rM_owedTo_J68 M (rM_owedTo_L6 M  n) a1 a2 a3 a5 a4
          else
            rM_owedTo_J68 M (rM_owedTo_L6 M  n) a1 a2 a3 a5 a4
        else
          rM_owedTo_J68 M (rM_owedTo_L6 M  n) a1 a2 a3 a5 a4
theorem t_rM_owedTo_L6 {l : Launch} {G : aG} {d : Nat} {Q : Option Value → aHeap → Prop} {sl : Nat} {sx : Nat → Int32} {S : SS} {K : KS} {T : TS} {X : XS} {M : SS} : ∀ (n : Nat), ∀ (a1 : Int32) (a2 : Int32) (a3 : Int32) (a4 : Int32) (a5 : Int32) (p : Int32), rM_owedTo_L6 M n a1 a2 a3 a4 a5 = some p → Q (some (.int p)) (LH (old0 sl sx) S K T X M) → aAt l G (d + 2) 0 0 192 6 [(0, .ref 154), (1, .int a1), (2, .int a2), (3, .int a3), (4, .int a4), (5, .int a5)] [] 0 0 (LH (old0 sl sx) S K T X M) Q := by
  intro n
  induction n with
  | zero =>
    intro a1 a2 a3 a4 a5 p hd hQ
    rw [rM_owedTo_L6] at hd
    cases hd
  | succ n ih =>
    intro a1 a2 a3 a4 a5 p hd hQ
    rw [rM_owedTo_L6] at hd
    refine s_iload f_192_6 rfl ?_
    refine s_aload_n f_192_8 rfl ?_
    refine L_getR f_192_9 fd_12_7 (obL (by decide)) (by decide) (by decide : rf 154 0 = 155) ?_
    refine k_iconst (v := 2) f_192_12 (by decide) ?_
    refine M_iaload (q := 2) f_192_13 ⟨by decide, by decide, by decide, fun _ => rfl⟩ (Nat.le_of_ble_eq_true rfl : 10759 < 2 ^ 31) (by decide) (by decide) ?_
    refine s_icmp_ge 78 f_192_14 (by decide) (fun c1 => ?_) (fun c1 => ?_)
    · replace hd := ite_p c1 hd
      refine s_iload f_192_78 rfl ?_
      refine s_ireturn f_192_80 rfl rfl ?_
      cases hd
      exact hQ
    · replace hd := ite_n c1 hd
      refine s_iload f_192_17 rfl ?_
      refine s_iload f_192_19 rfl ?_
      refine s_iload_n f_192_21 rfl ?_
      refine s_icmp_eq 68 f_192_22 (by decide) (fun c2 => ?_) (fun c2 => ?_)
      · replace hd := ite_p c2 hd
        refine aAt.sub [(0, .ref 154), (1, .int a1), (2, .int a2), (3, .int a3), (5, .int a5)] rfl ?_
        exact t_rM_owedTo_J68 ih _ _ _ _ _  _ hd hQ
      · replace hd := ite_n c2 hd
        refine s_aload_n f_192_25 rfl ?_
        refine s_iload f_192_26 rfl ?_
        replace hd := obind hd
        obtain ⟨p3, e3, hd⟩ := hd
        refine L_virt (As := [.int a5]) f_192_28 ca_12_95 rfl rfl (obL (by decide)) (by decide) (Nat.le_of_ble_eq_true rfl) ?_
        refine t_rM_isOpen e3 ?_
        refine z_if_eq 68 f_192_31 (by decide) (fun c4 => ?_) (fun c4 => ?_)
        · replace hd := ite_n c4 hd
          refine aAt.sub [(0, .ref 154), (1, .int a1), (2, .int a2), (3, .int a3), (5, .int a5)] rfl ?_
          exact t_rM_owedTo_J68 ih _ _ _ _ _  _ hd hQ
        · replace hd := ite_p c4 hd
          refine s_aload_n f_192_34 rfl ?_
          refine s_iload f_192_35 rfl ?_
          refine k_iconst (v := 2) f_192_37 (by decide) ?_
          replace hd := obind hd
          obtain ⟨p5, e5, hd⟩ := hd
          refine L_virt (As := [.int a5, .int (2 : Int32)]) f_192_38 ca_12_98 rfl rfl (obL (by decide)) (by decide) (Nat.le_of_ble_eq_true rfl) ?_
          refine t_rM_of e5 ?_
          refine s_iload_n f_192_41 rfl ?_
          refine s_icmp_ne 68 f_192_42 (by decide) (fun c6 => ?_) (fun c6 => ?_)
          · replace hd := ite_n c6 hd
            refine aAt.sub [(0, .ref 154), (1, .int a1), (2, .int a2), (3, .int a3), (5, .int a5)] rfl ?_
            exact t_rM_owedTo_J68 ih _ _ _ _ _  _ hd hQ
          · replace hd := ite_p c6 hd
            refine s_iload_n f_192_45 rfl ?_
            refine s_aload_n f_192_46 rfl ?_
            refine s_iload f_192_47 rfl ?_
            refine k_iconst (v := 1) f_192_49 (by decide) ?_
            replace hd := obind hd
            obtain ⟨p7, e7, hd⟩ := hd
            refine L_virt (As := [.int a5, .int (1 : Int32)]) f_192_50 ca_12_98 rfl rfl (obL (by decide)) (by decide) (Nat.le_of_ble_eq_true rfl) ?_
            refine t_rM_of e7 ?_
            refine s_ishr f_192_53 ?_
            refine k_iconst (v := 1) f_192_54 (by decide) ?_
            refine s_iand f_192_55 ?_
            refine s_if_ne 68 f_192_56 (by decide) (fun c8 => ?_) (fun c8 => ?_)
            · replace hd := ite_n c8 hd
              refine aAt.sub [(0, .ref 154), (1, .int a1), (2, .int a2), (3, .int a3), (5, .int a5)] rfl ?_
              exact t_rM_owedTo_J68 ih _ _ _ _ _  _ hd hQ
            · replace hd := ite_p c8 hd
              refine s_aload_n f_192_59 rfl ?_
              refine s_iload f_192_60 rfl ?_
              replace hd := obind hd
              obtain ⟨p9, e9, hd⟩ := hd
              refine L_virt (As := [.int a5]) f_192_62 ca_12_101 rfl rfl (obL (by decide)) (by decide) (Nat.le_of_ble_eq_true rfl) ?_
              refine t_rM_owed e9 ?_
              refine s_goto 69 f_192_65 (by decide) ?_
              refine aAt.sub [(0, .ref 154), (1, .int a1), (2, .int a2), (3, .int a3), (5, .int a5)] rfl ?_
              exact t_rM_owedTo_J69 ih _ _ _ _ _ _  _ hd hQ
def rM_owedTo (M : SS) (a1 : Int32) (a2 : Int32) (a3 : Int32) : Option (Int32) :=
  rM_owedTo_L6 M FU a1 a2 a3 (0 : Int32) (0 : Int32)
theorem t_rM_owedTo {l : Launch} {G : aG} {d : Nat} {Q : Option Value → aHeap → Prop} {sl : Nat} {sx : Nat → Int32} {S : SS} {K : KS} {T : TS} {X : XS} {M : SS} {a1 : Int32} {a2 : Int32} {a3 : Int32} {p : Int32} (hd : rM_owedTo M a1 a2 a3 = some p) (hQ : Q (some (.int p)) (LH (old0 sl sx) S K T X M)) : aCall l G (d + 2) 0 0 192 [.ref 154, .int a1, .int a2, .int a3] (LH (old0 sl sx) S K T X M) Q := by
  refine aCall.of (by decide) (Nat.le_of_ble_eq_true rfl) ?_
  refine aAt.sub [(0, .ref 154), (1, .int a1), (2, .int a2), (3, .int a3)] rfl ?_
  unfold rM_owedTo at hd
  refine k_iconst (v := 0) f_192_0 (by decide) ?_
  refine s_istore f_192_1 (by decide) ?_
  refine k_iconst (v := 0) f_192_3 (by decide) ?_
  refine s_istore f_192_4 (by decide) ?_
  refine aAt.sub [(0, .ref 154), (1, .int a1), (2, .int a2), (3, .int a3), (4, .int (0 : Int32)), (5, .int (0 : Int32))] rfl ?_
  exact t_rM_owedTo_L6 FU _ _ _ _ _  _ hd hQ

def rM_ofField (M : SS) (a1 : Int32) (a2 : Int32) : Option (Int32) :=
  if inb (((150 : Int32) + ((4 : Int32) * a1)) + a2) 10759 then
    some (M 155 (ix (((150 : Int32) + ((4 : Int32) * a1)) + a2)))
  else none
theorem t_rM_ofField {l : Launch} {G : aG} {d : Nat} {Q : Option Value → aHeap → Prop} {sl : Nat} {sx : Nat → Int32} {S : SS} {K : KS} {T : TS} {X : XS} {M : SS} {a1 : Int32} {a2 : Int32} {p : Int32} (hd : rM_ofField M a1 a2 = some p) (hQ : Q (some (.int p)) (LH (old0 sl sx) S K T X M)) : aCall l G d 0 0 193 [.ref 154, .int a1, .int a2] (LH (old0 sl sx) S K T X M) Q := by
  refine aCall.of (by decide) (Nat.le_of_ble_eq_true rfl) ?_
  refine aAt.sub [(0, .ref 154), (1, .int a1), (2, .int a2)] rfl ?_
  unfold rM_ofField at hd
  refine s_aload_n f_193_0 rfl ?_
  refine L_getR f_193_1 fd_12_7 (obL (by decide)) (by decide) (by decide : rf 154 0 = 155) ?_
  refine k_sipush (v := 150) f_193_4 (by decide) ?_
  refine k_iconst (v := 4) f_193_7 (by decide) ?_
  refine s_iload_n f_193_8 rfl ?_
  refine s_imul f_193_9 ?_
  refine s_iadd f_193_10 ?_
  refine s_iload_n f_193_11 rfl ?_
  refine s_iadd f_193_12 ?_
  replace hd := gd hd
  obtain ⟨g1, hd⟩ := hd
  refine M_iaload (q := (ix (((150 : Int32) + ((4 : Int32) * a1)) + a2))) f_193_13 ⟨by decide, by decide, by decide, fun _ => rfl⟩ (Nat.le_of_ble_eq_true rfl : 10759 < 2 ^ 31) rfl g1 ?_
  refine s_ireturn f_193_14 rfl rfl ?_
  cases hd
  exact hQ

def rM_personIs_J153 (k122 : SS → Int32 → Int32 → Int32 → Option (Int32 × SS)) (M : SS) (a1 : Int32) (a4 : Int32) (w0 : Int32) (w1 : Int32) : Option (Int32 × SS) :=
  k122 M a1 (w0 ||| w1) (a4 + 1)
theorem t_rM_personIs_J153 {l : Launch} {G : aG} {d : Nat} {Q : Option Value → aHeap → Prop} {sl : Nat} {sx : Nat → Int32} {S : SS} {K : KS} {T : TS} {X : XS} {k122 : SS → Int32 → Int32 → Int32 → Option (Int32 × SS)} (hk122 : ∀ (M : SS) (a1 : Int32) (a3 : Int32) (a4 : Int32) (p : Int32 × SS), k122 M a1 a3 a4 = some p → Q (some (.int p.1)) (LH (old0 sl sx) S K T X p.2) → aAt l G (d + 3) 0 0 187 122 [(0, .ref 154), (1, .int a1), (3, .int a3), (4, .int a4)] [] 0 0 (LH (old0 sl sx) S K T X M) Q) : ∀ (M : SS) (a1 : Int32) (a4 : Int32) (w0 : Int32) (w1 : Int32) (p : Int32 × SS), rM_personIs_J153 k122 M a1 a4 w0 w1 = some p → Q (some (.int p.1)) (LH (old0 sl sx) S K T X p.2) → aAt l G (d + 3) 0 0 187 153 [(0, .ref 154), (1, .int a1), (4, .int a4)] [.int w1, .int w0] 0 0 (LH (old0 sl sx) S K T X M) Q := by
  intro M a1 a4 w0 w1 p hd hQ
  unfold rM_personIs_J153 at hd
  refine s_ior f_187_153 ?_
  refine s_istore_n f_187_154 (by decide) ?_
  refine k_iinc (w := 1) f_187_155 rfl (by decide) (by decide) ?_
  refine s_goto 122 f_187_158 (by decide) ?_
  refine aAt.sub [(0, .ref 154), (1, .int a1), (3, .int (w0 ||| w1)), (4, .int (a4 + 1))] rfl ?_
  exact hk122 _ _ _ _  _ hd hQ
def rM_personIs_L122 : Nat → SS → Int32 → Int32 → Int32 → Option (Int32 × SS)
  | 0, _, _, _, _ => none
  | n + 1, M, a1, a3, a4 =>
    if (M 155 1) ≤ a4 then
      some (a3, M)
    else
      (rM_ofField M a4 (2 : Int32)).bind fun p19 =>
      if p19 = a1 then
        rM_personIs_J153 (rM_personIs_L122  n) M a1 a4 a3 ((1 : Int32) <<< (a4 &&& 31))
      else
        rM_personIs_J153 (rM_personIs_L122  n) M a1 a4 a3 (0 : Int32)
theorem t_rM_personIs_L122 {l : Launch} {G : aG} {d : Nat} {Q : Option Value → aHeap → Prop} {sl : Nat} {sx : Nat → Int32} {S : SS} {K : KS} {T : TS} {X : XS} : ∀ (n : Nat), ∀ (M : SS) (a1 : Int32) (a3 : Int32) (a4 : Int32) (p : Int32 × SS), rM_personIs_L122 n M a1 a3 a4 = some p → Q (some (.int p.1)) (LH (old0 sl sx) S K T X p.2) → aAt l G (d + 3) 0 0 187 122 [(0, .ref 154), (1, .int a1), (3, .int a3), (4, .int a4)] [] 0 0 (LH (old0 sl sx) S K T X M) Q := by
  intro n
  induction n with
  | zero =>
    intro M a1 a3 a4 p hd hQ
    rw [rM_personIs_L122] at hd
    cases hd
  | succ n ih =>
    intro M a1 a3 a4 p hd hQ
    rw [rM_personIs_L122] at hd
    refine s_iload f_187_122 rfl ?_
    refine s_aload_n f_187_124 rfl ?_
    refine L_getR f_187_125 fd_12_7 (obL (by decide)) (by decide) (by decide : rf 154 0 = 155) ?_
    refine k_iconst (v := 1) f_187_128 (by decide) ?_
    refine M_iaload (q := 1) f_187_129 ⟨by decide, by decide, by decide, fun _ => rfl⟩ (Nat.le_of_ble_eq_true rfl : 10759 < 2 ^ 31) (by decide) (by decide) ?_
    refine s_icmp_ge 161 f_187_130 (by decide) (fun c18 => ?_) (fun c18 => ?_)
    · replace hd := ite_p c18 hd
      refine s_iload_n f_187_161 rfl ?_
      refine s_ireturn f_187_162 rfl rfl ?_
      cases hd
      exact hQ
    · replace hd := ite_n c18 hd
      refine s_iload_n f_187_133 rfl ?_
      refine s_aload_n f_187_134 rfl ?_
      refine s_iload f_187_135 rfl ?_
      refine k_iconst (v := 2) f_187_137 (by decide) ?_
      replace hd := obind hd
      obtain ⟨p19, e19, hd⟩ := hd
      refine L_virt (As := [.int a4, .int (2 : Int32)]) f_187_138 ca_12_111 rfl rfl (obL (by decide)) (by decide) (Nat.le_of_ble_eq_true rfl) ?_
      refine t_rM_ofField e19 ?_
      refine s_iload_n f_187_141 rfl ?_
      refine s_icmp_ne 152 f_187_142 (by decide) (fun c20 => ?_) (fun c20 => ?_)
      · replace hd := ite_n c20 hd
        refine k_iconst (v := 0) f_187_152 (by decide) ?_
        refine aAt.sub [(0, .ref 154), (1, .int a1), (4, .int a4)] rfl ?_
        exact t_rM_personIs_J153 ih _ _ _ _ _  _ hd hQ
      · replace hd := ite_p c20 hd
        refine k_iconst (v := 1) f_187_145 (by decide) ?_
        refine s_iload f_187_146 rfl ?_
        refine s_ishl f_187_148 ?_
        refine s_goto 153 f_187_149 (by decide) ?_
        refine aAt.sub [(0, .ref 154), (1, .int a1), (4, .int a4)] rfl ?_
        exact t_rM_personIs_J153 ih _ _ _ _ _  _ hd hQ
def rM_personIs (M : SS) (a1 : Int32) (a2 : Int32) : Option (Int32 × SS) :=
  (rM_isPerson M a1).bind fun p1 =>
  if p1 = true then
    if a2 = 0 then
      (rM_own M a1 (0 : Int32)).bind fun p4 =>
      some (p4, M)
    else
      if a2 = 1 then
        (rM_own M a1 (3 : Int32)).bind fun p6 =>
        some (p6, M)
      else
        if a2 = 2 then
          (rM_own M a1 (6 : Int32)).bind fun p8 =>
          some (p8, M)
        else
          if a2 = 3 then
            (rM_own M a1 (8 : Int32)).bind fun p10 =>
            some (p10, M)
          else
            if a2 = 4 then
              (rM_owes M a1 (-1 : Int32)).bind fun p12 =>
              some (p12, M)
            else
              if a2 = 5 then
                (rM_owedTo M a1 (-1 : Int32) (0 : Int32)).bind fun p14 =>
                some (p14, M)
              else
                if a2 = 6 then
                  (rM_own M a1 (9 : Int32)).bind fun p16 =>
                  some (p16, M)
                else
                  if a2 = 7 then
                    rM_personIs_L122 FU M a1 (0 : Int32) (0 : Int32)
                  else
                    (rM_finds M (-100001 : Int32)).bind fun p21 =>
                    some (p21.1, p21.2)
  else
    (rM_finds M (-100001 : Int32)).bind fun p22 =>
    some (p22.1, p22.2)
theorem t_rM_personIs {l : Launch} {G : aG} {d : Nat} {Q : Option Value → aHeap → Prop} {sl : Nat} {sx : Nat → Int32} {S : SS} {K : KS} {T : TS} {X : XS} {M : SS} {a1 : Int32} {a2 : Int32} {p : Int32 × SS} (hd : rM_personIs M a1 a2 = some p) (hQ : Q (some (.int p.1)) (LH (old0 sl sx) S K T X p.2)) : aCall l G (d + 3) 0 0 187 [.ref 154, .int a1, .int a2] (LH (old0 sl sx) S K T X M) Q := by
  refine aCall.of (by decide) (Nat.le_of_ble_eq_true rfl) ?_
  refine aAt.sub [(0, .ref 154), (1, .int a1), (2, .int a2)] rfl ?_
  unfold rM_personIs at hd
  refine s_aload_n f_187_0 rfl ?_
  refine s_iload_n f_187_1 rfl ?_
  replace hd := obind hd
  obtain ⟨p1, e1, hd⟩ := hd
  refine L_virt (As := [.int a1]) f_187_2 ca_12_87 rfl rfl (obL (by decide)) (by decide) (Nat.le_of_ble_eq_true rfl) ?_
  refine t_rM_isPerson e1 ?_
  refine z_if_ne 15 f_187_5 (by decide) (fun c2 => ?_) (fun c2 => ?_)
  · replace hd := ite_p c2 hd
    refine s_iload_n f_187_15 rfl ?_
    by_cases c3 : a2 = 0
    · replace hd := ite_p c3 hd
      refine s_tabJ (off := 48) (0 : Int32) 64 c3 f_187_16 (by decide) (by decide) (by decide) (by decide) ?_
      refine s_aload_n f_187_64 rfl ?_
      refine s_iload_n f_187_65 rfl ?_
      refine k_iconst (v := 0) f_187_66 (by decide) ?_
      replace hd := obind hd
      obtain ⟨p4, e4, hd⟩ := hd
      refine L_virt (As := [.int a1, .int (0 : Int32)]) f_187_67 ca_12_73 rfl rfl (obL (by decide)) (by decide) (Nat.le_of_ble_eq_true rfl) ?_
      refine t_rM_own e4 ?_
      refine s_ireturn f_187_70 rfl rfl ?_
      cases hd
      exact hQ
    replace hd := ite_n c3 hd
    by_cases c5 : a2 = 1
    · replace hd := ite_p c5 hd
      refine s_tabJ (off := 55) (1 : Int32) 71 c5 f_187_16 (by decide) (by decide) (by decide) (by decide) ?_
      refine s_aload_n f_187_71 rfl ?_
      refine s_iload_n f_187_72 rfl ?_
      refine k_iconst (v := 3) f_187_73 (by decide) ?_
      replace hd := obind hd
      obtain ⟨p6, e6, hd⟩ := hd
      refine L_virt (As := [.int a1, .int (3 : Int32)]) f_187_74 ca_12_73 rfl rfl (obL (by decide)) (by decide) (Nat.le_of_ble_eq_true rfl) ?_
      refine t_rM_own e6 ?_
      refine s_ireturn f_187_77 rfl rfl ?_
      cases hd
      exact hQ
    replace hd := ite_n c5 hd
    by_cases c7 : a2 = 2
    · replace hd := ite_p c7 hd
      refine s_tabJ (off := 62) (2 : Int32) 78 c7 f_187_16 (by decide) (by decide) (by decide) (by decide) ?_
      refine s_aload_n f_187_78 rfl ?_
      refine s_iload_n f_187_79 rfl ?_
      refine k_bipush (v := 6) f_187_80 (by decide) ?_
      replace hd := obind hd
      obtain ⟨p8, e8, hd⟩ := hd
      refine L_virt (As := [.int a1, .int (6 : Int32)]) f_187_82 ca_12_73 rfl rfl (obL (by decide)) (by decide) (Nat.le_of_ble_eq_true rfl) ?_
      refine t_rM_own e8 ?_
      refine s_ireturn f_187_85 rfl rfl ?_
      cases hd
      exact hQ
    replace hd := ite_n c7 hd
    by_cases c9 : a2 = 3
    · replace hd := ite_p c9 hd
      refine s_tabJ (off := 70) (3 : Int32) 86 c9 f_187_16 (by decide) (by decide) (by decide) (by decide) ?_
      refine s_aload_n f_187_86 rfl ?_
      refine s_iload_n f_187_87 rfl ?_
      refine k_bipush (v := 8) f_187_88 (by decide) ?_
      replace hd := obind hd
      obtain ⟨p10, e10, hd⟩ := hd
      refine L_virt (As := [.int a1, .int (8 : Int32)]) f_187_90 ca_12_73 rfl rfl (obL (by decide)) (by decide) (Nat.le_of_ble_eq_true rfl) ?_
      refine t_rM_own e10 ?_
      refine s_ireturn f_187_93 rfl rfl ?_
      cases hd
      exact hQ
    replace hd := ite_n c9 hd
    by_cases c11 : a2 = 4
    · replace hd := ite_p c11 hd
      refine s_tabJ (off := 78) (4 : Int32) 94 c11 f_187_16 (by decide) (by decide) (by decide) (by decide) ?_
      refine s_aload_n f_187_94 rfl ?_
      refine s_iload_n f_187_95 rfl ?_
      refine k_iconst (v := (-1)) f_187_96 (by decide) ?_
      replace hd := obind hd
      obtain ⟨p12, e12, hd⟩ := hd
      refine L_virt (As := [.int a1, .int (-1 : Int32)]) f_187_97 ca_12_104 rfl rfl (obL (by decide)) (by decide) (Nat.le_of_ble_eq_true rfl) ?_
      refine t_rM_owes e12 ?_
      refine s_ireturn f_187_100 rfl rfl ?_
      cases hd
      exact hQ
    replace hd := ite_n c11 hd
    by_cases c13 : a2 = 5
    · replace hd := ite_p c13 hd
      refine s_tabJ (off := 85) (5 : Int32) 101 c13 f_187_16 (by decide) (by decide) (by decide) (by decide) ?_
      refine s_aload_n f_187_101 rfl ?_
      refine s_iload_n f_187_102 rfl ?_
      refine k_iconst (v := (-1)) f_187_103 (by decide) ?_
      refine k_iconst (v := 0) f_187_104 (by decide) ?_
      replace hd := obind hd
      obtain ⟨p14, e14, hd⟩ := hd
      refine L_virt (As := [.int a1, .int (-1 : Int32), .int (0 : Int32)]) f_187_105 ca_12_107 rfl rfl (obL (by decide)) (by decide) (Nat.le_of_ble_eq_true rfl) ?_
      refine t_rM_owedTo e14 ?_
      refine s_ireturn f_187_108 rfl rfl ?_
      cases hd
      exact hQ
    replace hd := ite_n c13 hd
    by_cases c15 : a2 = 6
    · replace hd := ite_p c15 hd
      refine s_tabJ (off := 93) (6 : Int32) 109 c15 f_187_16 (by decide) (by decide) (by decide) (by decide) ?_
      refine s_aload_n f_187_109 rfl ?_
      refine s_iload_n f_187_110 rfl ?_
      refine k_bipush (v := 9) f_187_111 (by decide) ?_
      replace hd := obind hd
      obtain ⟨p16, e16, hd⟩ := hd
      refine L_virt (As := [.int a1, .int (9 : Int32)]) f_187_113 ca_12_73 rfl rfl (obL (by decide)) (by decide) (Nat.le_of_ble_eq_true rfl) ?_
      refine t_rM_own e16 ?_
      refine s_ireturn f_187_116 rfl rfl ?_
      cases hd
      exact hQ
    replace hd := ite_n c15 hd
    by_cases c17 : a2 = 7
    · replace hd := ite_p c17 hd
      refine s_tabJ (off := 101) (7 : Int32) 117 c17 f_187_16 (by decide) (by decide) (by decide) (by decide) ?_
      refine k_iconst (v := 0) f_187_117 (by decide) ?_
      refine s_istore_n f_187_118 (by decide) ?_
      refine k_iconst (v := 0) f_187_119 (by decide) ?_
      refine s_istore f_187_120 (by decide) ?_
      refine aAt.sub [(0, .ref 154), (1, .int a1), (3, .int (0 : Int32)), (4, .int (0 : Int32))] rfl ?_
      exact t_rM_personIs_L122 FU _ _ _ _  _ hd hQ
    replace hd := ite_n c17 hd
    refine s_tableOut 163 f_187_16 (sw_out (lo := 0) (n := 7) (by decide) (by decide) (fun j hj e => by
    have : j = 0 ∨ j = 1 ∨ j = 2 ∨ j = 3 ∨ j = 4 ∨ j = 5 ∨ j = 6 ∨ j = 7 := by omega
    rcases this with rfl | rfl | rfl | rfl | rfl | rfl | rfl | rfl
    · exact c3 (e.trans (by decide))
    · exact c5 (e.trans (by decide))
    · exact c7 (e.trans (by decide))
    · exact c9 (e.trans (by decide))
    · exact c11 (e.trans (by decide))
    · exact c13 (e.trans (by decide))
    · exact c15 (e.trans (by decide))
    · exact c17 (e.trans (by decide)))) (by decide) ?_
    refine s_aload_n f_187_163 rfl ?_
    refine s_ldc f_187_164 ko_12_77 ?_
    replace hd := obind hd
    obtain ⟨p21, e21, hd⟩ := hd
    refine L_virt (As := [.int (-100001 : Int32)]) f_187_166 ca_12_78 rfl rfl (obL (by decide)) (by decide) (Nat.le_of_ble_eq_true rfl) ?_
    refine t_rM_finds e21 ?_
    refine s_ireturn f_187_169 rfl rfl ?_
    cases hd
    exact hQ
  · replace hd := ite_n c2 hd
    refine s_aload_n f_187_8 rfl ?_
    refine s_ldc f_187_9 ko_12_77 ?_
    replace hd := obind hd
    obtain ⟨p22, e22, hd⟩ := hd
    refine L_virt (As := [.int (-100001 : Int32)]) f_187_11 ca_12_78 rfl rfl (obL (by decide)) (by decide) (Nat.le_of_ble_eq_true rfl) ?_
    refine t_rM_finds e22 ?_
    refine s_ireturn f_187_14 rfl rfl ?_
    cases hd
    exact hQ

def rM_field_J18 (M : SS) : Option (Int32 × SS) :=
  (rM_finds M (-100001 : Int32)).bind fun p3 =>
  some (p3.1, p3.2)
theorem t_rM_field_J18 {l : Launch} {G : aG} {d : Nat} {Q : Option Value → aHeap → Prop} {sl : Nat} {sx : Nat → Int32} {S : SS} {K : KS} {T : TS} {X : XS} : ∀ (M : SS) (p : Int32 × SS), rM_field_J18 M = some p → Q (some (.int p.1)) (LH (old0 sl sx) S K T X p.2) → aAt l G (d + 2) 0 0 194 18 [(0, .ref 154)] [] 0 0 (LH (old0 sl sx) S K T X M) Q := by
  intro M p hd hQ
  unfold rM_field_J18 at hd
  refine s_aload_n f_194_18 rfl ?_
  refine s_ldc f_194_19 ko_12_77 ?_
  replace hd := obind hd
  obtain ⟨p3, e3, hd⟩ := hd
  refine L_virt (As := [.int (-100001 : Int32)]) f_194_21 ca_12_78 rfl rfl (obL (by decide)) (by decide) (Nat.le_of_ble_eq_true rfl) ?_
  refine t_rM_finds e3 ?_
  refine s_ireturn f_194_24 rfl rfl ?_
  cases hd
  exact hQ
def rM_field_J126 (M : SS) (a4 : Int32) (w1 : Int32) (w2 : Bool) : Option (Int32 × SS) :=
  if inb w1 10759 then
    some (a4, (up M 155 (ix w1) (b2i w2)))
  else none
theorem t_rM_field_J126 {l : Launch} {G : aG} {d : Nat} {Q : Option Value → aHeap → Prop} {sl : Nat} {sx : Nat → Int32} {S : SS} {K : KS} {T : TS} {X : XS} : ∀ (M : SS) (a4 : Int32) (w1 : Int32) (w2 : Bool) (p : Int32 × SS), rM_field_J126 M a4 w1 w2 = some p → Q (some (.int p.1)) (LH (old0 sl sx) S K T X p.2) → aAt l G (d + 2) 0 0 194 126 [(4, .int a4)] [.int (b2i w2), .int w1, .ref 155] 0 0 (LH (old0 sl sx) S K T X M) Q := by
  intro M a4 w1 w2 p hd hQ
  unfold rM_field_J126 at hd
  replace hd := gd hd
  obtain ⟨g11, hd⟩ := hd
  refine M_iastore (q := (ix w1)) f_194_126 ⟨by decide, by decide, by decide, fun _ => rfl⟩ (Nat.le_of_ble_eq_true rfl : 10759 < 2 ^ 31) rfl g11 ?_
  refine s_iload f_194_127 rfl ?_
  refine s_ireturn f_194_129 rfl rfl ?_
  cases hd
  exact hQ
def rM_field (M : SS) (a1 : Int32) (a2 : Int32) (a3 : Bool) : Option (Int32 × SS) :=
  (rM_isPerson M a1).bind fun p1 =>
  if p1 = true then
    (rM_in a2 (1 : Int32) (99 : Int32)).bind fun p4 =>
    if p4 = true then
      if (M 155 1) = (8 : Int32) then
        (rM_finds M (-100005 : Int32)).bind fun p12 =>
        some (p12.1, p12.2)
      else
        if inb ((150 : Int32) + ((4 : Int32) * (M 155 1))) 10759 then
          if inb (((150 : Int32) + ((4 : Int32) * (M 155 1))) + (1 : Int32)) 10759 then
            if inb (((150 : Int32) + ((4 : Int32) * (M 155 1))) + (2 : Int32)) 10759 then
              if a3 = true then
                rM_field_J126 (up (up (up (up M 155 1 ((M 155 1) + (1 : Int32))) 155 (ix ((150 : Int32) + ((4 : Int32) * (M 155 1)))) a2) 155 (ix (((150 : Int32) + ((4 : Int32) * (M 155 1))) + (1 : Int32))) a1) 155 (ix (((150 : Int32) + ((4 : Int32) * (M 155 1))) + (2 : Int32))) a1) (M 155 1) (((150 : Int32) + ((4 : Int32) * (M 155 1))) + (3 : Int32)) true
              else
                rM_field_J126 (up (up (up (up M 155 1 ((M 155 1) + (1 : Int32))) 155 (ix ((150 : Int32) + ((4 : Int32) * (M 155 1)))) a2) 155 (ix (((150 : Int32) + ((4 : Int32) * (M 155 1))) + (1 : Int32))) a1) 155 (ix (((150 : Int32) + ((4 : Int32) * (M 155 1))) + (2 : Int32))) a1) (M 155 1) (((150 : Int32) + ((4 : Int32) * (M 155 1))) + (3 : Int32)) false
            else none
          else none
        else none
    else
      rM_field_J18 M
  else
    rM_field_J18 M
theorem t_rM_field {l : Launch} {G : aG} {d : Nat} {Q : Option Value → aHeap → Prop} {sl : Nat} {sx : Nat → Int32} {S : SS} {K : KS} {T : TS} {X : XS} {M : SS} {a1 : Int32} {a2 : Int32} {a3 : Bool} {p : Int32 × SS} (hd : rM_field M a1 a2 a3 = some p) (hQ : Q (some (.int p.1)) (LH (old0 sl sx) S K T X p.2)) : aCall l G (d + 2) 0 0 194 [.ref 154, .int a1, .int a2, .int (b2i a3)] (LH (old0 sl sx) S K T X M) Q := by
  refine aCall.of (by decide) (Nat.le_of_ble_eq_true rfl) ?_
  refine aAt.sub [(0, .ref 154), (1, .int a1), (2, .int a2), (3, .int (b2i a3))] rfl ?_
  unfold rM_field at hd
  refine s_aload_n f_194_0 rfl ?_
  refine s_iload_n f_194_1 rfl ?_
  replace hd := obind hd
  obtain ⟨p1, e1, hd⟩ := hd
  refine L_virt (As := [.int a1]) f_194_2 ca_12_87 rfl rfl (obL (by decide)) (by decide) (Nat.le_of_ble_eq_true rfl) ?_
  refine t_rM_isPerson e1 ?_
  refine z_if_eq 18 f_194_5 (by decide) (fun c2 => ?_) (fun c2 => ?_)
  · replace hd := ite_n c2 hd
    refine aAt.sub [(0, .ref 154)] rfl ?_
    exact t_rM_field_J18 _  _ hd hQ
  · replace hd := ite_p c2 hd
    refine s_iload_n f_194_8 rfl ?_
    refine k_iconst (v := 1) f_194_9 (by decide) ?_
    refine k_bipush (v := 99) f_194_10 (by decide) ?_
    replace hd := obind hd
    obtain ⟨p4, e4, hd⟩ := hd
    refine L_stat (As := [.int a2, .int (1 : Int32), .int (99 : Int32)]) f_194_12 ca_12_69 rfl rfl (Nat.le_of_ble_eq_true rfl) ?_
    refine t_rM_in e4 ?_
    refine z_if_ne 25 f_194_15 (by decide) (fun c5 => ?_) (fun c5 => ?_)
    · replace hd := ite_p c5 hd
      refine s_aload_n f_194_25 rfl ?_
      refine L_getR f_194_26 fd_12_7 (obL (by decide)) (by decide) (by decide : rf 154 0 = 155) ?_
      refine k_iconst (v := 1) f_194_29 (by decide) ?_
      refine M_iaload (q := 1) f_194_30 ⟨by decide, by decide, by decide, fun _ => rfl⟩ (Nat.le_of_ble_eq_true rfl : 10759 < 2 ^ 31) (by decide) (by decide) ?_
      refine s_istore f_194_31 (by decide) ?_
      refine s_iload f_194_33 rfl ?_
      refine k_bipush (v := 8) f_194_35 (by decide) ?_
      refine s_icmp_ne 47 f_194_37 (by decide) (fun c6 => ?_) (fun c6 => ?_)
      · replace hd := ite_n c6 hd
        refine s_aload_n f_194_47 rfl ?_
        refine L_getR f_194_48 fd_12_7 (obL (by decide)) (by decide) (by decide : rf 154 0 = 155) ?_
        refine k_iconst (v := 1) f_194_51 (by decide) ?_
        refine s_dup2 f_194_52 rfl rfl ?_
        refine M_iaload (q := 1) f_194_53 ⟨by decide, by decide, by decide, fun _ => rfl⟩ (Nat.le_of_ble_eq_true rfl : 10759 < 2 ^ 31) (by decide) (by decide) ?_
        refine k_iconst (v := 1) f_194_54 (by decide) ?_
        refine s_iadd f_194_55 ?_
        refine M_iastore (q := 1) f_194_56 ⟨by decide, by decide, by decide, fun _ => rfl⟩ (Nat.le_of_ble_eq_true rfl : 10759 < 2 ^ 31) (by decide) (by decide) ?_
        refine s_aload_n f_194_57 rfl ?_
        refine L_getR f_194_58 fd_12_7 (obL (by decide)) (by decide) (by decide : rf 154 0 = 155) ?_
        refine k_sipush (v := 150) f_194_61 (by decide) ?_
        refine k_iconst (v := 4) f_194_64 (by decide) ?_
        refine s_iload f_194_65 rfl ?_
        refine s_imul f_194_67 ?_
        refine s_iadd f_194_68 ?_
        refine s_iload_n f_194_69 rfl ?_
        replace hd := gd hd
        obtain ⟨g7, hd⟩ := hd
        refine M_iastore (q := (ix ((150 : Int32) + ((4 : Int32) * (M 155 1))))) f_194_70 ⟨by decide, by decide, by decide, fun _ => rfl⟩ (Nat.le_of_ble_eq_true rfl : 10759 < 2 ^ 31) rfl g7 ?_
        refine s_aload_n f_194_71 rfl ?_
        refine L_getR f_194_72 fd_12_7 (obL (by decide)) (by decide) (by decide : rf 154 0 = 155) ?_
        refine k_sipush (v := 150) f_194_75 (by decide) ?_
        refine k_iconst (v := 4) f_194_78 (by decide) ?_
        refine s_iload f_194_79 rfl ?_
        refine s_imul f_194_81 ?_
        refine s_iadd f_194_82 ?_
        refine k_iconst (v := 1) f_194_83 (by decide) ?_
        refine s_iadd f_194_84 ?_
        refine s_iload_n f_194_85 rfl ?_
        replace hd := gd hd
        obtain ⟨g8, hd⟩ := hd
        refine M_iastore (q := (ix (((150 : Int32) + ((4 : Int32) * (M 155 1))) + (1 : Int32)))) f_194_86 ⟨by decide, by decide, by decide, fun _ => rfl⟩ (Nat.le_of_ble_eq_true rfl : 10759 < 2 ^ 31) rfl g8 ?_
        refine s_aload_n f_194_87 rfl ?_
        refine L_getR f_194_88 fd_12_7 (obL (by decide)) (by decide) (by decide : rf 154 0 = 155) ?_
        refine k_sipush (v := 150) f_194_91 (by decide) ?_
        refine k_iconst (v := 4) f_194_94 (by decide) ?_
        refine s_iload f_194_95 rfl ?_
        refine s_imul f_194_97 ?_
        refine s_iadd f_194_98 ?_
        refine k_iconst (v := 2) f_194_99 (by decide) ?_
        refine s_iadd f_194_100 ?_
        refine s_iload_n f_194_101 rfl ?_
        replace hd := gd hd
        obtain ⟨g9, hd⟩ := hd
        refine M_iastore (q := (ix (((150 : Int32) + ((4 : Int32) * (M 155 1))) + (2 : Int32)))) f_194_102 ⟨by decide, by decide, by decide, fun _ => rfl⟩ (Nat.le_of_ble_eq_true rfl : 10759 < 2 ^ 31) rfl g9 ?_
        refine s_aload_n f_194_103 rfl ?_
        refine L_getR f_194_104 fd_12_7 (obL (by decide)) (by decide) (by decide : rf 154 0 = 155) ?_
        refine k_sipush (v := 150) f_194_107 (by decide) ?_
        refine k_iconst (v := 4) f_194_110 (by decide) ?_
        refine s_iload f_194_111 rfl ?_
        refine s_imul f_194_113 ?_
        refine s_iadd f_194_114 ?_
        refine k_iconst (v := 3) f_194_115 (by decide) ?_
        refine s_iadd f_194_116 ?_
        refine s_iload_n f_194_117 rfl ?_
        refine z_if_eq 125 f_194_118 (by decide) (fun c10 => ?_) (fun c10 => ?_)
        · replace hd := ite_n c10 hd
          refine k_iconst (v := 0) f_194_125 (by decide) ?_
          refine aAt.sub [(4, .int (M 155 1))] rfl ?_
          exact t_rM_field_J126 _ _ _ _  _ hd hQ
        · replace hd := ite_p c10 hd
          refine k_iconst (v := 1) f_194_121 (by decide) ?_
          refine s_goto 126 f_194_122 (by decide) ?_
          refine aAt.sub [(4, .int (M 155 1))] rfl ?_
          exact t_rM_field_J126 _ _ _ _  _ hd hQ
      · replace hd := ite_p c6 hd
        refine s_aload_n f_194_40 rfl ?_
        refine s_ldc f_194_41 ko_12_82 ?_
        replace hd := obind hd
        obtain ⟨p12, e12, hd⟩ := hd
        refine L_virt (As := [.int (-100005 : Int32)]) f_194_43 ca_12_78 rfl rfl (obL (by decide)) (by decide) (Nat.le_of_ble_eq_true rfl) ?_
        refine t_rM_finds e12 ?_
        refine s_ireturn f_194_46 rfl rfl ?_
        cases hd
        exact hQ
    · replace hd := ite_n c5 hd
      refine aAt.sub [(0, .ref 154)] rfl ?_
      exact t_rM_field_J18 _  _ hd hQ

def rM_isField (M : SS) (a1 : Int32) : Option (Bool) :=
  (rM_in a1 (0 : Int32) ((M 155 1) - (1 : Int32))).bind fun p1 =>
  some p1
theorem t_rM_isField {l : Launch} {G : aG} {d : Nat} {Q : Option Value → aHeap → Prop} {sl : Nat} {sx : Nat → Int32} {S : SS} {K : KS} {T : TS} {X : XS} {M : SS} {a1 : Int32} {p : Bool} (hd : rM_isField M a1 = some p) (hQ : Q (some (.int (b2i p))) (LH (old0 sl sx) S K T X M)) : aCall l G (d + 1) 0 0 196 [.ref 154, .int a1] (LH (old0 sl sx) S K T X M) Q := by
  refine aCall.of (by decide) (Nat.le_of_ble_eq_true rfl) ?_
  refine aAt.sub [(0, .ref 154), (1, .int a1)] rfl ?_
  unfold rM_isField at hd
  refine s_iload_n f_196_0 rfl ?_
  refine k_iconst (v := 0) f_196_1 (by decide) ?_
  refine s_aload_n f_196_2 rfl ?_
  refine L_getR f_196_3 fd_12_7 (obL (by decide)) (by decide) (by decide : rf 154 0 = 155) ?_
  refine k_iconst (v := 1) f_196_6 (by decide) ?_
  refine M_iaload (q := 1) f_196_7 ⟨by decide, by decide, by decide, fun _ => rfl⟩ (Nat.le_of_ble_eq_true rfl : 10759 < 2 ^ 31) (by decide) (by decide) ?_
  refine k_iconst (v := 1) f_196_8 (by decide) ?_
  refine s_isub f_196_9 ?_
  replace hd := obind hd
  obtain ⟨p1, e1, hd⟩ := hd
  refine L_stat (As := [.int a1, .int (0 : Int32), .int ((M 155 1) - (1 : Int32))]) f_196_10 ca_12_69 rfl rfl (Nat.le_of_ble_eq_true rfl) ?_
  refine t_rM_in e1 ?_
  refine s_iretB (b := p1) f_196_13 rfl ?_
  cases hd
  exact hQ

def rM_fieldIs_J26 (M : SS) : Option (Int32 × SS) :=
  (rM_finds M (-100001 : Int32)).bind fun p3 =>
  some (p3.1, p3.2)
theorem t_rM_fieldIs_J26 {l : Launch} {G : aG} {d : Nat} {Q : Option Value → aHeap → Prop} {sl : Nat} {sx : Nat → Int32} {S : SS} {K : KS} {T : TS} {X : XS} : ∀ (M : SS) (p : Int32 × SS), rM_fieldIs_J26 M = some p → Q (some (.int p.1)) (LH (old0 sl sx) S K T X p.2) → aAt l G (d + 2) 0 0 195 26 [(0, .ref 154)] [] 0 0 (LH (old0 sl sx) S K T X M) Q := by
  intro M p hd hQ
  unfold rM_fieldIs_J26 at hd
  refine s_aload_n f_195_26 rfl ?_
  refine s_ldc f_195_27 ko_12_77 ?_
  replace hd := obind hd
  obtain ⟨p3, e3, hd⟩ := hd
  refine L_virt (As := [.int (-100001 : Int32)]) f_195_29 ca_12_78 rfl rfl (obL (by decide)) (by decide) (Nat.le_of_ble_eq_true rfl) ?_
  refine t_rM_finds e3 ?_
  refine s_ireturn f_195_32 rfl rfl ?_
  cases hd
  exact hQ
def rM_fieldIs (M : SS) (a1 : Int32) (a2 : Int32) : Option (Int32 × SS) :=
  (rM_isField M a1).bind fun p1 =>
  if p1 = true then
    (rM_in a2 (0 : Int32) (3 : Int32)).bind fun p4 =>
    if p4 = true then
      (rM_ofField M a1 a2).bind fun p6 =>
      some (p6, M)
    else
      rM_fieldIs_J26 M
  else
    rM_fieldIs_J26 M
theorem t_rM_fieldIs {l : Launch} {G : aG} {d : Nat} {Q : Option Value → aHeap → Prop} {sl : Nat} {sx : Nat → Int32} {S : SS} {K : KS} {T : TS} {X : XS} {M : SS} {a1 : Int32} {a2 : Int32} {p : Int32 × SS} (hd : rM_fieldIs M a1 a2 = some p) (hQ : Q (some (.int p.1)) (LH (old0 sl sx) S K T X p.2)) : aCall l G (d + 2) 0 0 195 [.ref 154, .int a1, .int a2] (LH (old0 sl sx) S K T X M) Q := by
  refine aCall.of (by decide) (Nat.le_of_ble_eq_true rfl) ?_
  refine aAt.sub [(0, .ref 154), (1, .int a1), (2, .int a2)] rfl ?_
  unfold rM_fieldIs at hd
  refine s_aload_n f_195_0 rfl ?_
  refine s_iload_n f_195_1 rfl ?_
  replace hd := obind hd
  obtain ⟨p1, e1, hd⟩ := hd
  refine L_virt (As := [.int a1]) f_195_2 ca_12_114 rfl rfl (obL (by decide)) (by decide) (Nat.le_of_ble_eq_true rfl) ?_
  refine t_rM_isField e1 ?_
  refine z_if_eq 26 f_195_5 (by decide) (fun c2 => ?_) (fun c2 => ?_)
  · replace hd := ite_n c2 hd
    refine aAt.sub [(0, .ref 154)] rfl ?_
    exact t_rM_fieldIs_J26 _  _ hd hQ
  · replace hd := ite_p c2 hd
    refine s_iload_n f_195_8 rfl ?_
    refine k_iconst (v := 0) f_195_9 (by decide) ?_
    refine k_iconst (v := 3) f_195_10 (by decide) ?_
    replace hd := obind hd
    obtain ⟨p4, e4, hd⟩ := hd
    refine L_stat (As := [.int a2, .int (0 : Int32), .int (3 : Int32)]) f_195_11 ca_12_69 rfl rfl (Nat.le_of_ble_eq_true rfl) ?_
    refine t_rM_in e4 ?_
    refine z_if_eq 26 f_195_14 (by decide) (fun c5 => ?_) (fun c5 => ?_)
    · replace hd := ite_n c5 hd
      refine aAt.sub [(0, .ref 154)] rfl ?_
      exact t_rM_fieldIs_J26 _  _ hd hQ
    · replace hd := ite_p c5 hd
      refine s_aload_n f_195_17 rfl ?_
      refine s_iload_n f_195_18 rfl ?_
      refine s_iload_n f_195_19 rfl ?_
      replace hd := obind hd
      obtain ⟨p6, e6, hd⟩ := hd
      refine L_virt (As := [.int a1, .int a2]) f_195_20 ca_12_111 rfl rfl (obL (by decide)) (by decide) (Nat.le_of_ble_eq_true rfl) ?_
      refine t_rM_ofField e6 ?_
      refine s_goto 32 f_195_23 (by decide) ?_
      refine s_ireturn f_195_32 rfl rfl ?_
      cases hd
      exact hQ

def rM_isChild_J20 (M : SS) : Option (Bool) :=
  some true
theorem t_rM_isChild_J20 {l : Launch} {G : aG} {d : Nat} {Q : Option Value → aHeap → Prop} {sl : Nat} {sx : Nat → Int32} {S : SS} {K : KS} {T : TS} {X : XS} {M : SS} : ∀ (p : Bool), rM_isChild_J20 M = some p → Q (some (.int (b2i p))) (LH (old0 sl sx) S K T X M) → aAt l G (d + 1) 0 0 200 20 [] [] 0 0 (LH (old0 sl sx) S K T X M) Q := by
  intro p hd hQ
  unfold rM_isChild_J20 at hd
  refine k_iconst (v := 1) f_200_20 (by decide) ?_
  refine s_goto 25 f_200_21 (by decide) ?_
  refine s_iretB (b := true) f_200_25 rfl ?_
  cases hd
  exact hQ
def rM_isChild (M : SS) (a1 : Int32) (a2 : Int32) : Option (Bool) :=
  (rM_own M a1 (1 : Int32)).bind fun p1 =>
  if p1 = a2 then
    rM_isChild_J20 M 
  else
    (rM_own M a1 (2 : Int32)).bind fun p3 =>
    if p3 = a2 then
      rM_isChild_J20 M 
    else
      some false
theorem t_rM_isChild {l : Launch} {G : aG} {d : Nat} {Q : Option Value → aHeap → Prop} {sl : Nat} {sx : Nat → Int32} {S : SS} {K : KS} {T : TS} {X : XS} {M : SS} {a1 : Int32} {a2 : Int32} {p : Bool} (hd : rM_isChild M a1 a2 = some p) (hQ : Q (some (.int (b2i p))) (LH (old0 sl sx) S K T X M)) : aCall l G (d + 1) 0 0 200 [.ref 154, .int a1, .int a2] (LH (old0 sl sx) S K T X M) Q := by
  refine aCall.of (by decide) (Nat.le_of_ble_eq_true rfl) ?_
  refine aAt.sub [(0, .ref 154), (1, .int a1), (2, .int a2)] rfl ?_
  unfold rM_isChild at hd
  refine s_aload_n f_200_0 rfl ?_
  refine s_iload_n f_200_1 rfl ?_
  refine k_iconst (v := 1) f_200_2 (by decide) ?_
  replace hd := obind hd
  obtain ⟨p1, e1, hd⟩ := hd
  refine L_virt (As := [.int a1, .int (1 : Int32)]) f_200_3 ca_12_73 rfl rfl (obL (by decide)) (by decide) (Nat.le_of_ble_eq_true rfl) ?_
  refine t_rM_own e1 ?_
  refine s_iload_n f_200_6 rfl ?_
  refine s_icmp_eq 20 f_200_7 (by decide) (fun c2 => ?_) (fun c2 => ?_)
  · replace hd := ite_p c2 hd
    refine aAt.sub [] rfl ?_
    exact t_rM_isChild_J20   _ hd hQ
  · replace hd := ite_n c2 hd
    refine s_aload_n f_200_10 rfl ?_
    refine s_iload_n f_200_11 rfl ?_
    refine k_iconst (v := 2) f_200_12 (by decide) ?_
    replace hd := obind hd
    obtain ⟨p3, e3, hd⟩ := hd
    refine L_virt (As := [.int a1, .int (2 : Int32)]) f_200_13 ca_12_73 rfl rfl (obL (by decide)) (by decide) (Nat.le_of_ble_eq_true rfl) ?_
    refine t_rM_own e3 ?_
    refine s_iload_n f_200_16 rfl ?_
    refine s_icmp_ne 24 f_200_17 (by decide) (fun c4 => ?_) (fun c4 => ?_)
    · replace hd := ite_n c4 hd
      refine k_iconst (v := 0) f_200_24 (by decide) ?_
      refine s_iretB (b := false) f_200_25 rfl ?_
      cases hd
      exact hQ
    · replace hd := ite_p c4 hd
      refine aAt.sub [] rfl ?_
      exact t_rM_isChild_J20   _ hd hQ

def rM_findHeirs_J304 (k161 : SS → Int32 → Option (SS)) (k168 : SS → Int32 → Int32 → Option (SS)) (M : SS) (a2 : Int32) (a3 : Int32) : Option (SS) :=
  k168 M a2 (a3 + 1)
theorem t_rM_findHeirs_J304 {l : Launch} {G : aG} {d : Nat} {Q : Option Value → aHeap → Prop} {sl : Nat} {sx : Nat → Int32} {S : SS} {K : KS} {T : TS} {X : XS} {k161 : SS → Int32 → Option (SS)} {k168 : SS → Int32 → Int32 → Option (SS)} (hk161 : ∀ (M : SS) (a2 : Int32) (p : SS), k161 M a2 = some p → Q none (LH (old0 sl sx) S K T X p) → aAt l G (d + 2) 0 0 199 161 [(0, .ref 154), (2, .int a2)] [] 0 0 (LH (old0 sl sx) S K T X M) Q) (hk168 : ∀ (M : SS) (a2 : Int32) (a3 : Int32) (p : SS), k168 M a2 a3 = some p → Q none (LH (old0 sl sx) S K T X p) → aAt l G (d + 2) 0 0 199 168 [(0, .ref 154), (2, .int a2), (3, .int a3)] [] 0 0 (LH (old0 sl sx) S K T X M) Q) : ∀ (M : SS) (a2 : Int32) (a3 : Int32) (p : SS), rM_findHeirs_J304 k161 k168 M a2 a3 = some p → Q none (LH (old0 sl sx) S K T X p) → aAt l G (d + 2) 0 0 199 304 [(0, .ref 154), (2, .int a2), (3, .int a3)] [] 0 0 (LH (old0 sl sx) S K T X M) Q := by
  intro M a2 a3 p hd hQ
  unfold rM_findHeirs_J304 at hd
  refine k_iinc (w := 1) f_199_304 rfl (by decide) (by decide) ?_
  refine s_goto 168 f_199_307 (by decide) ?_
  refine aAt.sub [(0, .ref 154), (2, .int a2), (3, .int (a3 + 1))] rfl ?_
  exact hk168 _ _ _  _ hd hQ
def rM_findHeirs_J298 (k161 : SS → Int32 → Option (SS)) (k168 : SS → Int32 → Int32 → Option (SS)) (k224 : SS → Int32 → Int32 → Int32 → Int32 → Option (SS)) (M : SS) (a2 : Int32) (a3 : Int32) (a4 : Int32) (a5 : Int32) : Option (SS) :=
  k224 M a2 a3 a4 (a5 + 1)
theorem t_rM_findHeirs_J298 {l : Launch} {G : aG} {d : Nat} {Q : Option Value → aHeap → Prop} {sl : Nat} {sx : Nat → Int32} {S : SS} {K : KS} {T : TS} {X : XS} {k161 : SS → Int32 → Option (SS)} {k168 : SS → Int32 → Int32 → Option (SS)} {k224 : SS → Int32 → Int32 → Int32 → Int32 → Option (SS)} (hk161 : ∀ (M : SS) (a2 : Int32) (p : SS), k161 M a2 = some p → Q none (LH (old0 sl sx) S K T X p) → aAt l G (d + 2) 0 0 199 161 [(0, .ref 154), (2, .int a2)] [] 0 0 (LH (old0 sl sx) S K T X M) Q) (hk168 : ∀ (M : SS) (a2 : Int32) (a3 : Int32) (p : SS), k168 M a2 a3 = some p → Q none (LH (old0 sl sx) S K T X p) → aAt l G (d + 2) 0 0 199 168 [(0, .ref 154), (2, .int a2), (3, .int a3)] [] 0 0 (LH (old0 sl sx) S K T X M) Q) (hk224 : ∀ (M : SS) (a2 : Int32) (a3 : Int32) (a4 : Int32) (a5 : Int32) (p : SS), k224 M a2 a3 a4 a5 = some p → Q none (LH (old0 sl sx) S K T X p) → aAt l G (d + 2) 0 0 199 224 [(0, .ref 154), (2, .int a2), (3, .int a3), (4, .int a4), (5, .int a5)] [] 0 0 (LH (old0 sl sx) S K T X M) Q) : ∀ (M : SS) (a2 : Int32) (a3 : Int32) (a4 : Int32) (a5 : Int32) (p : SS), rM_findHeirs_J298 k161 k168 k224 M a2 a3 a4 a5 = some p → Q none (LH (old0 sl sx) S K T X p) → aAt l G (d + 2) 0 0 199 298 [(0, .ref 154), (2, .int a2), (3, .int a3), (4, .int a4), (5, .int a5)] [] 0 0 (LH (old0 sl sx) S K T X M) Q := by
  intro M a2 a3 a4 a5 p hd hQ
  unfold rM_findHeirs_J298 at hd
  refine k_iinc (w := 1) f_199_298 rfl (by decide) (by decide) ?_
  refine s_goto 224 f_199_301 (by decide) ?_
  refine aAt.sub [(0, .ref 154), (2, .int a2), (3, .int a3), (4, .int a4), (5, .int (a5 + 1))] rfl ?_
  exact hk224 _ _ _ _ _  _ hd hQ
def rM_findHeirs_J289 (k161 : SS → Int32 → Option (SS)) (k168 : SS → Int32 → Int32 → Option (SS)) (k224 : SS → Int32 → Int32 → Int32 → Int32 → Option (SS)) (M : SS) (a2 : Int32) (a3 : Int32) (a4 : Int32) (a5 : Int32) (a6 : Int32) : Option (SS) :=
  if inb a6 84 then
    rM_findHeirs_J298 k161 k168 k224 (up M 159 (ix a6) a4) a2 a3 a4 a5
  else none
theorem t_rM_findHeirs_J289 {l : Launch} {G : aG} {d : Nat} {Q : Option Value → aHeap → Prop} {sl : Nat} {sx : Nat → Int32} {S : SS} {K : KS} {T : TS} {X : XS} {k161 : SS → Int32 → Option (SS)} {k168 : SS → Int32 → Int32 → Option (SS)} {k224 : SS → Int32 → Int32 → Int32 → Int32 → Option (SS)} (hk161 : ∀ (M : SS) (a2 : Int32) (p : SS), k161 M a2 = some p → Q none (LH (old0 sl sx) S K T X p) → aAt l G (d + 2) 0 0 199 161 [(0, .ref 154), (2, .int a2)] [] 0 0 (LH (old0 sl sx) S K T X M) Q) (hk168 : ∀ (M : SS) (a2 : Int32) (a3 : Int32) (p : SS), k168 M a2 a3 = some p → Q none (LH (old0 sl sx) S K T X p) → aAt l G (d + 2) 0 0 199 168 [(0, .ref 154), (2, .int a2), (3, .int a3)] [] 0 0 (LH (old0 sl sx) S K T X M) Q) (hk224 : ∀ (M : SS) (a2 : Int32) (a3 : Int32) (a4 : Int32) (a5 : Int32) (p : SS), k224 M a2 a3 a4 a5 = some p → Q none (LH (old0 sl sx) S K T X p) → aAt l G (d + 2) 0 0 199 224 [(0, .ref 154), (2, .int a2), (3, .int a3), (4, .int a4), (5, .int a5)] [] 0 0 (LH (old0 sl sx) S K T X M) Q) : ∀ (M : SS) (a2 : Int32) (a3 : Int32) (a4 : Int32) (a5 : Int32) (a6 : Int32) (p : SS), rM_findHeirs_J289 k161 k168 k224 M a2 a3 a4 a5 a6 = some p → Q none (LH (old0 sl sx) S K T X p) → aAt l G (d + 2) 0 0 199 289 [(0, .ref 154), (2, .int a2), (3, .int a3), (4, .int a4), (5, .int a5), (6, .int a6)] [] 0 0 (LH (old0 sl sx) S K T X M) Q := by
  intro M a2 a3 a4 a5 a6 p hd hQ
  unfold rM_findHeirs_J289 at hd
  refine s_aload_n f_199_289 rfl ?_
  refine L_getR f_199_290 fd_12_23 (obL (by decide)) (by decide) (by decide : rf 154 6 = 159) ?_
  refine s_iload f_199_293 rfl ?_
  refine s_iload f_199_295 rfl ?_
  replace hd := gd hd
  obtain ⟨g15, hd⟩ := hd
  refine M_iastore (q := (ix a6)) f_199_297 ⟨by decide, by decide, by decide, fun _ => rfl⟩ (Nat.le_of_ble_eq_true rfl : 84 < 2 ^ 31) rfl g15 ?_
  refine aAt.sub [(0, .ref 154), (2, .int a2), (3, .int a3), (4, .int a4), (5, .int a5)] rfl ?_
  exact t_rM_findHeirs_J298 hk161 hk168 hk224 _ _ _ _ _  _ hd hQ
def rM_findHeirs_L224 (k161 : SS → Int32 → Option (SS)) (k168 : SS → Int32 → Int32 → Option (SS)) : Nat → SS → Int32 → Int32 → Int32 → Int32 → Option (SS)
  | 0, _, _, _, _, _ => none
  | n + 1, M, a2, a3, a4, a5 =>
    if (M 155 0) ≤ a5 then
      rM_findHeirs_J304 k161 k168 M a2 a3
    else
      (rM_isChild M a5 a3).bind fun p10 =>
      if p10 = true then
        if inb ((((14 : Int32) * a2) + (14 : Int32)) + a5) 84 then
          if (M 157 (ix ((((14 : Int32) * a2) + (14 : Int32)) + a5))) = 0 then
            rM_findHeirs_J298 k161 k168 (rM_findHeirs_L224 k161 k168  n) M a2 a3 a4 a5
          else
            if (M 159 (ix ((((14 : Int32) * a2) + (14 : Int32)) + a5))) = 0 then
              rM_findHeirs_J289 k161 k168 (rM_findHeirs_L224 k161 k168  n) M a2 a3 a4 a5 ((((14 : Int32) * a2) + (14 : Int32)) + a5)
            else
              if (M 159 (ix ((((14 : Int32) * a2) + (14 : Int32)) + a5))) ≤ a4 then
                rM_findHeirs_J298 k161 k168 (rM_findHeirs_L224 k161 k168  n) M a2 a3 a4 a5
              else
                rM_findHeirs_J289 k161 k168 (rM_findHeirs_L224 k161 k168  n) M a2 a3 a4 a5 ((((14 : Int32) * a2) + (14 : Int32)) + a5)
        else none
      else
        rM_findHeirs_J298 k161 k168 (rM_findHeirs_L224 k161 k168  n) M a2 a3 a4 a5
theorem t_rM_findHeirs_L224 {l : Launch} {G : aG} {d : Nat} {Q : Option Value → aHeap → Prop} {sl : Nat} {sx : Nat → Int32} {S : SS} {K : KS} {T : TS} {X : XS} {k161 : SS → Int32 → Option (SS)} {k168 : SS → Int32 → Int32 → Option (SS)} (hk161 : ∀ (M : SS) (a2 : Int32) (p : SS), k161 M a2 = some p → Q none (LH (old0 sl sx) S K T X p) → aAt l G (d + 2) 0 0 199 161 [(0, .ref 154), (2, .int a2)] [] 0 0 (LH (old0 sl sx) S K T X M) Q) (hk168 : ∀ (M : SS) (a2 : Int32) (a3 : Int32) (p : SS), k168 M a2 a3 = some p → Q none (LH (old0 sl sx) S K T X p) → aAt l G (d + 2) 0 0 199 168 [(0, .ref 154), (2, .int a2), (3, .int a3)] [] 0 0 (LH (old0 sl sx) S K T X M) Q) : ∀ (n : Nat), ∀ (M : SS) (a2 : Int32) (a3 : Int32) (a4 : Int32) (a5 : Int32) (p : SS), rM_findHeirs_L224 k161 k168 n M a2 a3 a4 a5 = some p → Q none (LH (old0 sl sx) S K T X p) → aAt l G (d + 2) 0 0 199 224 [(0, .ref 154), (2, .int a2), (3, .int a3), (4, .int a4), (5, .int a5)] [] 0 0 (LH (old0 sl sx) S K T X M) Q := by
  intro n
  induction n with
  | zero =>
    intro M a2 a3 a4 a5 p hd hQ
    rw [rM_findHeirs_L224] at hd
    cases hd
  | succ n ih =>
    intro M a2 a3 a4 a5 p hd hQ
    rw [rM_findHeirs_L224] at hd
    refine s_iload f_199_224 rfl ?_
    refine s_aload_n f_199_226 rfl ?_
    refine L_getR f_199_227 fd_12_7 (obL (by decide)) (by decide) (by decide : rf 154 0 = 155) ?_
    refine k_iconst (v := 0) f_199_230 (by decide) ?_
    refine M_iaload (q := 0) f_199_231 ⟨by decide, by decide, by decide, fun _ => rfl⟩ (Nat.le_of_ble_eq_true rfl : 10759 < 2 ^ 31) (by decide) (by decide) ?_
    refine s_icmp_ge 304 f_199_232 (by decide) (fun c9 => ?_) (fun c9 => ?_)
    · replace hd := ite_p c9 hd
      refine aAt.sub [(0, .ref 154), (2, .int a2), (3, .int a3)] rfl ?_
      exact t_rM_findHeirs_J304 hk161 hk168 _ _ _  _ hd hQ
    · replace hd := ite_n c9 hd
      refine k_bipush (v := 14) f_199_235 (by decide) ?_
      refine s_iload_n f_199_237 rfl ?_
      refine s_imul f_199_238 ?_
      refine k_bipush (v := 14) f_199_239 (by decide) ?_
      refine s_iadd f_199_241 ?_
      refine s_iload f_199_242 rfl ?_
      refine s_iadd f_199_244 ?_
      refine s_istore f_199_245 (by decide) ?_
      refine s_aload_n f_199_247 rfl ?_
      refine s_iload f_199_248 rfl ?_
      refine s_iload_n f_199_250 rfl ?_
      replace hd := obind hd
      obtain ⟨p10, e10, hd⟩ := hd
      refine L_virt (As := [.int a5, .int a3]) f_199_251 ca_12_117 rfl rfl (obL (by decide)) (by decide) (Nat.le_of_ble_eq_true rfl) ?_
      refine t_rM_isChild e10 ?_
      refine z_if_eq 298 f_199_254 (by decide) (fun c11 => ?_) (fun c11 => ?_)
      · replace hd := ite_n c11 hd
        refine aAt.sub [(0, .ref 154), (2, .int a2), (3, .int a3), (4, .int a4), (5, .int a5)] rfl ?_
        exact t_rM_findHeirs_J298 hk161 hk168 ih _ _ _ _ _  _ hd hQ
      · replace hd := ite_p c11 hd
        refine s_aload_n f_199_257 rfl ?_
        refine L_getR f_199_258 fd_12_16 (obL (by decide)) (by decide) (by decide : rf 154 4 = 157) ?_
        refine s_iload f_199_261 rfl ?_
        replace hd := gd hd
        obtain ⟨g12, hd⟩ := hd
        refine M_zaload (q := (ix ((((14 : Int32) * a2) + (14 : Int32)) + a5))) f_199_263 rfl g12 ?_
        refine s_if_eq 298 f_199_264 (by decide) (fun c13 => ?_) (fun c13 => ?_)
        · replace hd := ite_p c13 hd
          refine aAt.sub [(0, .ref 154), (2, .int a2), (3, .int a3), (4, .int a4), (5, .int a5)] rfl ?_
          exact t_rM_findHeirs_J298 hk161 hk168 ih _ _ _ _ _  _ hd hQ
        · replace hd := ite_n c13 hd
          refine s_aload_n f_199_267 rfl ?_
          refine L_getR f_199_268 fd_12_23 (obL (by decide)) (by decide) (by decide : rf 154 6 = 159) ?_
          refine s_iload f_199_271 rfl ?_
          refine M_iaload (q := (ix ((((14 : Int32) * a2) + (14 : Int32)) + a5))) f_199_273 ⟨by decide, by decide, by decide, fun _ => rfl⟩ (Nat.le_of_ble_eq_true rfl : 84 < 2 ^ 31) rfl g12 ?_
          refine s_if_eq 289 f_199_274 (by decide) (fun c14 => ?_) (fun c14 => ?_)
          · replace hd := ite_p c14 hd
            refine aAt.sub [(0, .ref 154), (2, .int a2), (3, .int a3), (4, .int a4), (5, .int a5), (6, .int ((((14 : Int32) * a2) + (14 : Int32)) + a5))] rfl ?_
            exact t_rM_findHeirs_J289 hk161 hk168 ih _ _ _ _ _ _  _ hd hQ
          · replace hd := ite_n c14 hd
            refine s_iload f_199_277 rfl ?_
            refine s_aload_n f_199_279 rfl ?_
            refine L_getR f_199_280 fd_12_23 (obL (by decide)) (by decide) (by decide : rf 154 6 = 159) ?_
            refine s_iload f_199_283 rfl ?_
            refine M_iaload (q := (ix ((((14 : Int32) * a2) + (14 : Int32)) + a5))) f_199_285 ⟨by decide, by decide, by decide, fun _ => rfl⟩ (Nat.le_of_ble_eq_true rfl : 84 < 2 ^ 31) rfl g12 ?_
            refine s_icmp_ge 298 f_199_286 (by decide) (fun c16 => ?_) (fun c16 => ?_)
            · replace hd := ite_p c16 hd
              refine aAt.sub [(0, .ref 154), (2, .int a2), (3, .int a3), (4, .int a4), (5, .int a5)] rfl ?_
              exact t_rM_findHeirs_J298 hk161 hk168 ih _ _ _ _ _  _ hd hQ
            · replace hd := ite_n c16 hd
              refine aAt.sub [(0, .ref 154), (2, .int a2), (3, .int a3), (4, .int a4), (5, .int a5), (6, .int ((((14 : Int32) * a2) + (14 : Int32)) + a5))] rfl ?_
              exact t_rM_findHeirs_J289 hk161 hk168 ih _ _ _ _ _ _  _ hd hQ
def rM_findHeirs_L168 (k161 : SS → Int32 → Option (SS)) : Nat → SS → Int32 → Int32 → Option (SS)
  | 0, _, _, _ => none
  | n + 1, M, a2, a3 =>
    if (M 155 0) ≤ a3 then
      k161 M (a2 + 1)
    else
      if inb (((14 : Int32) * a2) + a3) 84 then
        if ((M 159 (ix (((14 : Int32) * a2) + a3))) * (M 158 (ix (((14 : Int32) * a2) + a3)))) = 0 then
          rM_findHeirs_J304 k161 (rM_findHeirs_L168 k161  n) M a2 a3
        else
          (rM_lives0 M a3).bind fun p7 =>
          if p7 = true then
            rM_findHeirs_J304 k161 (rM_findHeirs_L168 k161  n) M a2 a3
          else
            rM_findHeirs_L224 k161 (rM_findHeirs_L168 k161  n) FU M a2 a3 ((M 159 (ix (((14 : Int32) * a2) + a3))) * (M 158 (ix (((14 : Int32) * a2) + a3)))) (a3 + (1 : Int32))
      else none
theorem t_rM_findHeirs_L168 {l : Launch} {G : aG} {d : Nat} {Q : Option Value → aHeap → Prop} {sl : Nat} {sx : Nat → Int32} {S : SS} {K : KS} {T : TS} {X : XS} {k161 : SS → Int32 → Option (SS)} (hk161 : ∀ (M : SS) (a2 : Int32) (p : SS), k161 M a2 = some p → Q none (LH (old0 sl sx) S K T X p) → aAt l G (d + 2) 0 0 199 161 [(0, .ref 154), (2, .int a2)] [] 0 0 (LH (old0 sl sx) S K T X M) Q) : ∀ (n : Nat), ∀ (M : SS) (a2 : Int32) (a3 : Int32) (p : SS), rM_findHeirs_L168 k161 n M a2 a3 = some p → Q none (LH (old0 sl sx) S K T X p) → aAt l G (d + 2) 0 0 199 168 [(0, .ref 154), (2, .int a2), (3, .int a3)] [] 0 0 (LH (old0 sl sx) S K T X M) Q := by
  intro n
  induction n with
  | zero =>
    intro M a2 a3 p hd hQ
    rw [rM_findHeirs_L168] at hd
    cases hd
  | succ n ih =>
    intro M a2 a3 p hd hQ
    rw [rM_findHeirs_L168] at hd
    refine s_iload_n f_199_168 rfl ?_
    refine s_aload_n f_199_169 rfl ?_
    refine L_getR f_199_170 fd_12_7 (obL (by decide)) (by decide) (by decide : rf 154 0 = 155) ?_
    refine k_iconst (v := 0) f_199_173 (by decide) ?_
    refine M_iaload (q := 0) f_199_174 ⟨by decide, by decide, by decide, fun _ => rfl⟩ (Nat.le_of_ble_eq_true rfl : 10759 < 2 ^ 31) (by decide) (by decide) ?_
    refine s_icmp_ge 310 f_199_175 (by decide) (fun c4 => ?_) (fun c4 => ?_)
    · replace hd := ite_p c4 hd
      refine k_iinc (w := 1) f_199_310 rfl (by decide) (by decide) ?_
      refine s_goto 161 f_199_313 (by decide) ?_
      refine aAt.sub [(0, .ref 154), (2, .int (a2 + 1))] rfl ?_
      exact hk161 _ _  _ hd hQ
    · replace hd := ite_n c4 hd
      refine s_aload_n f_199_178 rfl ?_
      refine L_getR f_199_179 fd_12_23 (obL (by decide)) (by decide) (by decide : rf 154 6 = 159) ?_
      refine k_bipush (v := 14) f_199_182 (by decide) ?_
      refine s_iload_n f_199_184 rfl ?_
      refine s_imul f_199_185 ?_
      refine s_iload_n f_199_186 rfl ?_
      refine s_iadd f_199_187 ?_
      replace hd := gd hd
      obtain ⟨g5, hd⟩ := hd
      refine M_iaload (q := (ix (((14 : Int32) * a2) + a3))) f_199_188 ⟨by decide, by decide, by decide, fun _ => rfl⟩ (Nat.le_of_ble_eq_true rfl : 84 < 2 ^ 31) rfl g5 ?_
      refine s_aload_n f_199_189 rfl ?_
      refine L_getR f_199_190 fd_12_20 (obL (by decide)) (by decide) (by decide : rf 154 5 = 158) ?_
      refine k_bipush (v := 14) f_199_193 (by decide) ?_
      refine s_iload_n f_199_195 rfl ?_
      refine s_imul f_199_196 ?_
      refine s_iload_n f_199_197 rfl ?_
      refine s_iadd f_199_198 ?_
      refine M_iaload (q := (ix (((14 : Int32) * a2) + a3))) f_199_199 ⟨by decide, by decide, by decide, fun _ => rfl⟩ (Nat.le_of_ble_eq_true rfl : 84 < 2 ^ 31) rfl g5 ?_
      refine s_imul f_199_200 ?_
      refine s_istore f_199_201 (by decide) ?_
      refine s_iload f_199_203 rfl ?_
      refine s_if_eq 304 f_199_205 (by decide) (fun c6 => ?_) (fun c6 => ?_)
      · replace hd := ite_p c6 hd
        refine aAt.sub [(0, .ref 154), (2, .int a2), (3, .int a3)] rfl ?_
        exact t_rM_findHeirs_J304 hk161 ih _ _ _  _ hd hQ
      · replace hd := ite_n c6 hd
        refine s_aload_n f_199_208 rfl ?_
        refine s_iload_n f_199_209 rfl ?_
        replace hd := obind hd
        obtain ⟨p7, e7, hd⟩ := hd
        refine L_virt (As := [.int a3]) f_199_210 ca_12_91 rfl rfl (obL (by decide)) (by decide) (Nat.le_of_ble_eq_true rfl) ?_
        refine t_rM_lives0 e7 ?_
        refine z_if_eq 219 f_199_213 (by decide) (fun c8 => ?_) (fun c8 => ?_)
        · replace hd := ite_n c8 hd
          refine s_iload_n f_199_219 rfl ?_
          refine k_iconst (v := 1) f_199_220 (by decide) ?_
          refine s_iadd f_199_221 ?_
          refine s_istore f_199_222 (by decide) ?_
          refine aAt.sub [(0, .ref 154), (2, .int a2), (3, .int a3), (4, .int ((M 159 (ix (((14 : Int32) * a2) + a3))) * (M 158 (ix (((14 : Int32) * a2) + a3))))), (5, .int (a3 + (1 : Int32)))] rfl ?_
          exact t_rM_findHeirs_L224 hk161 ih FU _ _ _ _ _  _ hd hQ
        · replace hd := ite_p c8 hd
          refine s_goto 304 f_199_216 (by decide) ?_
          refine aAt.sub [(0, .ref 154), (2, .int a2), (3, .int a3)] rfl ?_
          exact t_rM_findHeirs_J304 hk161 ih _ _ _  _ hd hQ
def rM_findHeirs_L161 : Nat → SS → Int32 → Option (SS)
  | 0, _, _ => none
  | n + 1, M, a2 =>
    if (5 : Int32) ≤ a2 then
      some M
    else
      rM_findHeirs_L168 (rM_findHeirs_L161  n) FU M a2 (0 : Int32)
theorem t_rM_findHeirs_L161 {l : Launch} {G : aG} {d : Nat} {Q : Option Value → aHeap → Prop} {sl : Nat} {sx : Nat → Int32} {S : SS} {K : KS} {T : TS} {X : XS} : ∀ (n : Nat), ∀ (M : SS) (a2 : Int32) (p : SS), rM_findHeirs_L161 n M a2 = some p → Q none (LH (old0 sl sx) S K T X p) → aAt l G (d + 2) 0 0 199 161 [(0, .ref 154), (2, .int a2)] [] 0 0 (LH (old0 sl sx) S K T X M) Q := by
  intro n
  induction n with
  | zero =>
    intro M a2 p hd hQ
    rw [rM_findHeirs_L161] at hd
    cases hd
  | succ n ih =>
    intro M a2 p hd hQ
    rw [rM_findHeirs_L161] at hd
    refine s_iload_n f_199_161 rfl ?_
    refine k_iconst (v := 5) f_199_162 (by decide) ?_
    refine s_icmp_ge 316 f_199_163 (by decide) (fun c3 => ?_) (fun c3 => ?_)
    · replace hd := ite_p c3 hd
      refine s_return f_199_316 rfl ?_
      cases hd
      exact hQ
    · replace hd := ite_n c3 hd
      refine k_iconst (v := 0) f_199_166 (by decide) ?_
      refine s_istore_n f_199_167 (by decide) ?_
      refine aAt.sub [(0, .ref 154), (2, .int a2), (3, .int (0 : Int32))] rfl ?_
      exact t_rM_findHeirs_L168 ih FU _ _ _  _ hd hQ
def rM_findHeirs_J127 (k2 : SS → Int32 → Int32 → Option (SS)) (k8 : SS → Int32 → Int32 → Int32 → Option (SS)) (M : SS) (a1 : Int32) (a2 : Int32) (a3 : Int32) (w1 : Int32) (w2 : Bool) : Option (SS) :=
  if inb w1 84 then
    if inb (((14 : Int32) * a2) + a3) 84 then
      k8 (up (up M 157 (ix w1) (vp_nar .boolean (b2i w2))) 159 (ix (((14 : Int32) * a2) + a3)) (0 : Int32)) a1 a2 (a3 + 1)
    else none
  else none
theorem t_rM_findHeirs_J127 {l : Launch} {G : aG} {d : Nat} {Q : Option Value → aHeap → Prop} {sl : Nat} {sx : Nat → Int32} {S : SS} {K : KS} {T : TS} {X : XS} {k2 : SS → Int32 → Int32 → Option (SS)} {k8 : SS → Int32 → Int32 → Int32 → Option (SS)} (hk2 : ∀ (M : SS) (a1 : Int32) (a2 : Int32) (p : SS), k2 M a1 a2 = some p → Q none (LH (old0 sl sx) S K T X p) → aAt l G (d + 2) 0 0 199 2 [(0, .ref 154), (1, .int a1), (2, .int a2)] [] 0 0 (LH (old0 sl sx) S K T X M) Q) (hk8 : ∀ (M : SS) (a1 : Int32) (a2 : Int32) (a3 : Int32) (p : SS), k8 M a1 a2 a3 = some p → Q none (LH (old0 sl sx) S K T X p) → aAt l G (d + 2) 0 0 199 8 [(0, .ref 154), (1, .int a1), (2, .int a2), (3, .int a3)] [] 0 0 (LH (old0 sl sx) S K T X M) Q) : ∀ (M : SS) (a1 : Int32) (a2 : Int32) (a3 : Int32) (w1 : Int32) (w2 : Bool) (p : SS), rM_findHeirs_J127 k2 k8 M a1 a2 a3 w1 w2 = some p → Q none (LH (old0 sl sx) S K T X p) → aAt l G (d + 2) 0 0 199 127 [(0, .ref 154), (1, .int a1), (2, .int a2), (3, .int a3)] [.int (b2i w2), .int w1, .ref 157] 0 0 (LH (old0 sl sx) S K T X M) Q := by
  intro M a1 a2 a3 w1 w2 p hd hQ
  unfold rM_findHeirs_J127 at hd
  replace hd := gd hd
  obtain ⟨g22, hd⟩ := hd
  refine M_zastore (q := (ix w1)) f_199_127 rfl g22 ?_
  refine s_aload_n f_199_128 rfl ?_
  refine L_getR f_199_129 fd_12_23 (obL (by decide)) (by decide) (by decide : rf 154 6 = 159) ?_
  refine k_bipush (v := 14) f_199_132 (by decide) ?_
  refine s_iload_n f_199_134 rfl ?_
  refine s_imul f_199_135 ?_
  refine s_iload_n f_199_136 rfl ?_
  refine s_iadd f_199_137 ?_
  refine k_iconst (v := 0) f_199_138 (by decide) ?_
  replace hd := gd hd
  obtain ⟨g23, hd⟩ := hd
  refine M_iastore (q := (ix (((14 : Int32) * a2) + a3))) f_199_139 ⟨by decide, by decide, by decide, fun _ => rfl⟩ (Nat.le_of_ble_eq_true rfl : 84 < 2 ^ 31) rfl g23 ?_
  refine k_iinc (w := 1) f_199_140 rfl (by decide) (by decide) ?_
  refine s_goto 8 f_199_143 (by decide) ?_
  refine aAt.sub [(0, .ref 154), (1, .int a1), (2, .int a2), (3, .int (a3 + 1))] rfl ?_
  exact hk8 _ _ _ _  _ hd hQ
def rM_findHeirs_J122 (k2 : SS → Int32 → Int32 → Option (SS)) (k8 : SS → Int32 → Int32 → Int32 → Option (SS)) (M : SS) (a1 : Int32) (a2 : Int32) (a3 : Int32) (w1 : Int32) : Option (SS) :=
  rM_findHeirs_J127 k2 k8 M a1 a2 a3 w1 true
theorem t_rM_findHeirs_J122 {l : Launch} {G : aG} {d : Nat} {Q : Option Value → aHeap → Prop} {sl : Nat} {sx : Nat → Int32} {S : SS} {K : KS} {T : TS} {X : XS} {k2 : SS → Int32 → Int32 → Option (SS)} {k8 : SS → Int32 → Int32 → Int32 → Option (SS)} (hk2 : ∀ (M : SS) (a1 : Int32) (a2 : Int32) (p : SS), k2 M a1 a2 = some p → Q none (LH (old0 sl sx) S K T X p) → aAt l G (d + 2) 0 0 199 2 [(0, .ref 154), (1, .int a1), (2, .int a2)] [] 0 0 (LH (old0 sl sx) S K T X M) Q) (hk8 : ∀ (M : SS) (a1 : Int32) (a2 : Int32) (a3 : Int32) (p : SS), k8 M a1 a2 a3 = some p → Q none (LH (old0 sl sx) S K T X p) → aAt l G (d + 2) 0 0 199 8 [(0, .ref 154), (1, .int a1), (2, .int a2), (3, .int a3)] [] 0 0 (LH (old0 sl sx) S K T X M) Q) : ∀ (M : SS) (a1 : Int32) (a2 : Int32) (a3 : Int32) (w1 : Int32) (p : SS), rM_findHeirs_J122 k2 k8 M a1 a2 a3 w1 = some p → Q none (LH (old0 sl sx) S K T X p) → aAt l G (d + 2) 0 0 199 122 [(0, .ref 154), (1, .int a1), (2, .int a2), (3, .int a3)] [.int w1, .ref 157] 0 0 (LH (old0 sl sx) S K T X M) Q := by
  intro M a1 a2 a3 w1 p hd hQ
  unfold rM_findHeirs_J122 at hd
  refine k_iconst (v := 1) f_199_122 (by decide) ?_
  refine s_goto 127 f_199_123 (by decide) ?_
  refine aAt.sub [(0, .ref 154), (1, .int a1), (2, .int a2), (3, .int a3)] rfl ?_
  exact t_rM_findHeirs_J127 hk2 hk8 _ _ _ _ _ _  _ hd hQ
def rM_findHeirs_J86 (k2 : SS → Int32 → Int32 → Option (SS)) (k8 : SS → Int32 → Int32 → Int32 → Option (SS)) (M : SS) (a1 : Int32) (a2 : Int32) (a3 : Int32) (a4 : Int32) : Option (SS) :=
  if inb (((14 : Int32) * a2) + a3) 84 then
    (rM_lives0 (up M 158 (ix (((14 : Int32) * a2) + a3)) a4) a3).bind fun p20 =>
    if p20 = true then
      rM_findHeirs_J122 k2 k8 (up M 158 (ix (((14 : Int32) * a2) + a3)) a4) a1 a2 a3 (((14 : Int32) * a2) + a3)
    else
      if a4 ≤ 0 then
        rM_findHeirs_J127 k2 k8 (up M 158 (ix (((14 : Int32) * a2) + a3)) a4) a1 a2 a3 (((14 : Int32) * a2) + a3) false
      else
        rM_findHeirs_J122 k2 k8 (up M 158 (ix (((14 : Int32) * a2) + a3)) a4) a1 a2 a3 (((14 : Int32) * a2) + a3)
  else none
theorem t_rM_findHeirs_J86 {l : Launch} {G : aG} {d : Nat} {Q : Option Value → aHeap → Prop} {sl : Nat} {sx : Nat → Int32} {S : SS} {K : KS} {T : TS} {X : XS} {k2 : SS → Int32 → Int32 → Option (SS)} {k8 : SS → Int32 → Int32 → Int32 → Option (SS)} (hk2 : ∀ (M : SS) (a1 : Int32) (a2 : Int32) (p : SS), k2 M a1 a2 = some p → Q none (LH (old0 sl sx) S K T X p) → aAt l G (d + 2) 0 0 199 2 [(0, .ref 154), (1, .int a1), (2, .int a2)] [] 0 0 (LH (old0 sl sx) S K T X M) Q) (hk8 : ∀ (M : SS) (a1 : Int32) (a2 : Int32) (a3 : Int32) (p : SS), k8 M a1 a2 a3 = some p → Q none (LH (old0 sl sx) S K T X p) → aAt l G (d + 2) 0 0 199 8 [(0, .ref 154), (1, .int a1), (2, .int a2), (3, .int a3)] [] 0 0 (LH (old0 sl sx) S K T X M) Q) : ∀ (M : SS) (a1 : Int32) (a2 : Int32) (a3 : Int32) (a4 : Int32) (p : SS), rM_findHeirs_J86 k2 k8 M a1 a2 a3 a4 = some p → Q none (LH (old0 sl sx) S K T X p) → aAt l G (d + 2) 0 0 199 86 [(0, .ref 154), (1, .int a1), (2, .int a2), (3, .int a3), (4, .int a4)] [] 0 0 (LH (old0 sl sx) S K T X M) Q := by
  intro M a1 a2 a3 a4 p hd hQ
  unfold rM_findHeirs_J86 at hd
  refine s_aload_n f_199_86 rfl ?_
  refine L_getR f_199_87 fd_12_20 (obL (by decide)) (by decide) (by decide : rf 154 5 = 158) ?_
  refine k_bipush (v := 14) f_199_90 (by decide) ?_
  refine s_iload_n f_199_92 rfl ?_
  refine s_imul f_199_93 ?_
  refine s_iload_n f_199_94 rfl ?_
  refine s_iadd f_199_95 ?_
  refine s_iload f_199_96 rfl ?_
  replace hd := gd hd
  obtain ⟨g19, hd⟩ := hd
  refine M_iastore (q := (ix (((14 : Int32) * a2) + a3))) f_199_98 ⟨by decide, by decide, by decide, fun _ => rfl⟩ (Nat.le_of_ble_eq_true rfl : 84 < 2 ^ 31) rfl g19 ?_
  refine s_aload_n f_199_99 rfl ?_
  refine L_getR f_199_100 fd_12_16 (obL (by decide)) (by decide) (by decide : rf 154 4 = 157) ?_
  refine k_bipush (v := 14) f_199_103 (by decide) ?_
  refine s_iload_n f_199_105 rfl ?_
  refine s_imul f_199_106 ?_
  refine s_iload_n f_199_107 rfl ?_
  refine s_iadd f_199_108 ?_
  refine s_aload_n f_199_109 rfl ?_
  refine s_iload_n f_199_110 rfl ?_
  replace hd := obind hd
  obtain ⟨p20, e20, hd⟩ := hd
  refine L_virt (As := [.int a3]) f_199_111 ca_12_91 rfl rfl (obL (by decide)) (by decide) (Nat.le_of_ble_eq_true rfl) ?_
  refine t_rM_lives0 e20 ?_
  refine z_if_ne 122 f_199_114 (by decide) (fun c21 => ?_) (fun c21 => ?_)
  · replace hd := ite_p c21 hd
    refine aAt.sub [(0, .ref 154), (1, .int a1), (2, .int a2), (3, .int a3)] rfl ?_
    exact t_rM_findHeirs_J122 hk2 hk8 _ _ _ _ _  _ hd hQ
  · replace hd := ite_n c21 hd
    refine s_iload f_199_117 rfl ?_
    refine s_if_le 126 f_199_119 (by decide) (fun c24 => ?_) (fun c24 => ?_)
    · replace hd := ite_p c24 hd
      refine k_iconst (v := 0) f_199_126 (by decide) ?_
      refine aAt.sub [(0, .ref 154), (1, .int a1), (2, .int a2), (3, .int a3)] rfl ?_
      exact t_rM_findHeirs_J127 hk2 hk8 _ _ _ _ _ _  _ hd hQ
    · replace hd := ite_n c24 hd
      refine aAt.sub [(0, .ref 154), (1, .int a1), (2, .int a2), (3, .int a3)] rfl ?_
      exact t_rM_findHeirs_J122 hk2 hk8 _ _ _ _ _  _ hd hQ
def rM_findHeirs_J77 (k2 : SS → Int32 → Int32 → Option (SS)) (k8 : SS → Int32 → Int32 → Int32 → Option (SS)) (k26 : SS → Int32 → Int32 → Int32 → Int32 → Int32 → Option (SS)) (M : SS) (a1 : Int32) (a2 : Int32) (a3 : Int32) (a5 : Int32) (w0 : Int32) (w1 : Bool) : Option (SS) :=
  k26 M a1 a2 a3 (w0 + (b2i w1)) (a5 + 1)
theorem t_rM_findHeirs_J77 {l : Launch} {G : aG} {d : Nat} {Q : Option Value → aHeap → Prop} {sl : Nat} {sx : Nat → Int32} {S : SS} {K : KS} {T : TS} {X : XS} {k2 : SS → Int32 → Int32 → Option (SS)} {k8 : SS → Int32 → Int32 → Int32 → Option (SS)} {k26 : SS → Int32 → Int32 → Int32 → Int32 → Int32 → Option (SS)} (hk2 : ∀ (M : SS) (a1 : Int32) (a2 : Int32) (p : SS), k2 M a1 a2 = some p → Q none (LH (old0 sl sx) S K T X p) → aAt l G (d + 2) 0 0 199 2 [(0, .ref 154), (1, .int a1), (2, .int a2)] [] 0 0 (LH (old0 sl sx) S K T X M) Q) (hk8 : ∀ (M : SS) (a1 : Int32) (a2 : Int32) (a3 : Int32) (p : SS), k8 M a1 a2 a3 = some p → Q none (LH (old0 sl sx) S K T X p) → aAt l G (d + 2) 0 0 199 8 [(0, .ref 154), (1, .int a1), (2, .int a2), (3, .int a3)] [] 0 0 (LH (old0 sl sx) S K T X M) Q) (hk26 : ∀ (M : SS) (a1 : Int32) (a2 : Int32) (a3 : Int32) (a4 : Int32) (a5 : Int32) (p : SS), k26 M a1 a2 a3 a4 a5 = some p → Q none (LH (old0 sl sx) S K T X p) → aAt l G (d + 2) 0 0 199 26 [(0, .ref 154), (1, .int a1), (2, .int a2), (3, .int a3), (4, .int a4), (5, .int a5)] [] 0 0 (LH (old0 sl sx) S K T X M) Q) : ∀ (M : SS) (a1 : Int32) (a2 : Int32) (a3 : Int32) (a5 : Int32) (w0 : Int32) (w1 : Bool) (p : SS), rM_findHeirs_J77 k2 k8 k26 M a1 a2 a3 a5 w0 w1 = some p → Q none (LH (old0 sl sx) S K T X p) → aAt l G (d + 2) 0 0 199 77 [(0, .ref 154), (1, .int a1), (2, .int a2), (3, .int a3), (5, .int a5)] [.int (b2i w1), .int w0] 0 0 (LH (old0 sl sx) S K T X M) Q := by
  intro M a1 a2 a3 a5 w0 w1 p hd hQ
  unfold rM_findHeirs_J77 at hd
  refine s_iadd f_199_77 ?_
  refine s_istore f_199_78 (by decide) ?_
  refine k_iinc (w := 1) f_199_80 rfl (by decide) (by decide) ?_
  refine s_goto 26 f_199_83 (by decide) ?_
  refine aAt.sub [(0, .ref 154), (1, .int a1), (2, .int a2), (3, .int a3), (4, .int (w0 + (b2i w1))), (5, .int (a5 + 1))] rfl ?_
  exact hk26 _ _ _ _ _ _  _ hd hQ
def rM_findHeirs_J76 (k2 : SS → Int32 → Int32 → Option (SS)) (k8 : SS → Int32 → Int32 → Int32 → Option (SS)) (k26 : SS → Int32 → Int32 → Int32 → Int32 → Int32 → Option (SS)) (M : SS) (a1 : Int32) (a2 : Int32) (a3 : Int32) (a5 : Int32) (w0 : Int32) : Option (SS) :=
  rM_findHeirs_J77 k2 k8 k26 M a1 a2 a3 a5 w0 false
theorem t_rM_findHeirs_J76 {l : Launch} {G : aG} {d : Nat} {Q : Option Value → aHeap → Prop} {sl : Nat} {sx : Nat → Int32} {S : SS} {K : KS} {T : TS} {X : XS} {k2 : SS → Int32 → Int32 → Option (SS)} {k8 : SS → Int32 → Int32 → Int32 → Option (SS)} {k26 : SS → Int32 → Int32 → Int32 → Int32 → Int32 → Option (SS)} (hk2 : ∀ (M : SS) (a1 : Int32) (a2 : Int32) (p : SS), k2 M a1 a2 = some p → Q none (LH (old0 sl sx) S K T X p) → aAt l G (d + 2) 0 0 199 2 [(0, .ref 154), (1, .int a1), (2, .int a2)] [] 0 0 (LH (old0 sl sx) S K T X M) Q) (hk8 : ∀ (M : SS) (a1 : Int32) (a2 : Int32) (a3 : Int32) (p : SS), k8 M a1 a2 a3 = some p → Q none (LH (old0 sl sx) S K T X p) → aAt l G (d + 2) 0 0 199 8 [(0, .ref 154), (1, .int a1), (2, .int a2), (3, .int a3)] [] 0 0 (LH (old0 sl sx) S K T X M) Q) (hk26 : ∀ (M : SS) (a1 : Int32) (a2 : Int32) (a3 : Int32) (a4 : Int32) (a5 : Int32) (p : SS), k26 M a1 a2 a3 a4 a5 = some p → Q none (LH (old0 sl sx) S K T X p) → aAt l G (d + 2) 0 0 199 26 [(0, .ref 154), (1, .int a1), (2, .int a2), (3, .int a3), (4, .int a4), (5, .int a5)] [] 0 0 (LH (old0 sl sx) S K T X M) Q) : ∀ (M : SS) (a1 : Int32) (a2 : Int32) (a3 : Int32) (a5 : Int32) (w0 : Int32) (p : SS), rM_findHeirs_J76 k2 k8 k26 M a1 a2 a3 a5 w0 = some p → Q none (LH (old0 sl sx) S K T X p) → aAt l G (d + 2) 0 0 199 76 [(0, .ref 154), (1, .int a1), (2, .int a2), (3, .int a3), (5, .int a5)] [.int w0] 0 0 (LH (old0 sl sx) S K T X M) Q := by
  intro M a1 a2 a3 a5 w0 p hd hQ
  unfold rM_findHeirs_J76 at hd
  refine k_iconst (v := 0) f_199_76 (by decide) ?_
  refine aAt.sub [(0, .ref 154), (1, .int a1), (2, .int a2), (3, .int a3), (5, .int a5)] rfl ?_
  exact t_rM_findHeirs_J77 hk2 hk8 hk26 _ _ _ _ _ _ _  _ hd hQ
def rM_findHeirs_L26 (k2 : SS → Int32 → Int32 → Option (SS)) (k8 : SS → Int32 → Int32 → Int32 → Option (SS)) : Nat → SS → Int32 → Int32 → Int32 → Int32 → Int32 → Option (SS)
  | 0, _, _, _, _, _, _ => none
  | n + 1, M, a1, a2, a3, a4, a5 =>
    if (M 155 0) ≤ a5 then
      rM_findHeirs_J86 k2 k8 M a1 a2 a3 a4
    else
      if (5 : Int32) ≤ a2 then
        rM_findHeirs_J86 k2 k8 M a1 a2 a3 a4
      else
        (rM_isChild M a5 a3).bind fun p26 =>
        if p26 = true then
          if inb ((((14 : Int32) * a2) + (14 : Int32)) + a5) 84 then
            if (M 157 (ix ((((14 : Int32) * a2) + (14 : Int32)) + a5))) = 0 then
              rM_findHeirs_J76 k2 k8 (rM_findHeirs_L26 k2 k8  n) M a1 a2 a3 a5 a4
            else
              rM_findHeirs_J77 k2 k8 (rM_findHeirs_L26 k2 k8  n) M a1 a2 a3 a5 a4 true
          else none
        else
          rM_findHeirs_J76 k2 k8 (rM_findHeirs_L26 k2 k8  n) M a1 a2 a3 a5 a4
theorem t_rM_findHeirs_L26 {l : Launch} {G : aG} {d : Nat} {Q : Option Value → aHeap → Prop} {sl : Nat} {sx : Nat → Int32} {S : SS} {K : KS} {T : TS} {X : XS} {k2 : SS → Int32 → Int32 → Option (SS)} {k8 : SS → Int32 → Int32 → Int32 → Option (SS)} (hk2 : ∀ (M : SS) (a1 : Int32) (a2 : Int32) (p : SS), k2 M a1 a2 = some p → Q none (LH (old0 sl sx) S K T X p) → aAt l G (d + 2) 0 0 199 2 [(0, .ref 154), (1, .int a1), (2, .int a2)] [] 0 0 (LH (old0 sl sx) S K T X M) Q) (hk8 : ∀ (M : SS) (a1 : Int32) (a2 : Int32) (a3 : Int32) (p : SS), k8 M a1 a2 a3 = some p → Q none (LH (old0 sl sx) S K T X p) → aAt l G (d + 2) 0 0 199 8 [(0, .ref 154), (1, .int a1), (2, .int a2), (3, .int a3)] [] 0 0 (LH (old0 sl sx) S K T X M) Q) : ∀ (n : Nat), ∀ (M : SS) (a1 : Int32) (a2 : Int32) (a3 : Int32) (a4 : Int32) (a5 : Int32) (p : SS), rM_findHeirs_L26 k2 k8 n M a1 a2 a3 a4 a5 = some p → Q none (LH (old0 sl sx) S K T X p) → aAt l G (d + 2) 0 0 199 26 [(0, .ref 154), (1, .int a1), (2, .int a2), (3, .int a3), (4, .int a4), (5, .int a5)] [] 0 0 (LH (old0 sl sx) S K T X M) Q := by
  intro n
  induction n with
  | zero =>
    intro M a1 a2 a3 a4 a5 p hd hQ
    rw [rM_findHeirs_L26] at hd
    cases hd
  | succ n ih =>
    intro M a1 a2 a3 a4 a5 p hd hQ
    rw [rM_findHeirs_L26] at hd
    refine s_iload f_199_26 rfl ?_
    refine s_aload_n f_199_28 rfl ?_
    refine L_getR f_199_29 fd_12_7 (obL (by decide)) (by decide) (by decide : rf 154 0 = 155) ?_
    refine k_iconst (v := 0) f_199_32 (by decide) ?_
    refine M_iaload (q := 0) f_199_33 ⟨by decide, by decide, by decide, fun _ => rfl⟩ (Nat.le_of_ble_eq_true rfl : 10759 < 2 ^ 31) (by decide) (by decide) ?_
    refine s_icmp_ge 86 f_199_34 (by decide) (fun c18 => ?_) (fun c18 => ?_)
    · replace hd := ite_p c18 hd
      refine aAt.sub [(0, .ref 154), (1, .int a1), (2, .int a2), (3, .int a3), (4, .int a4)] rfl ?_
      exact t_rM_findHeirs_J86 hk2 hk8 _ _ _ _ _  _ hd hQ
    · replace hd := ite_n c18 hd
      refine s_iload_n f_199_37 rfl ?_
      refine k_iconst (v := 5) f_199_38 (by decide) ?_
      refine s_icmp_ge 86 f_199_39 (by decide) (fun c25 => ?_) (fun c25 => ?_)
      · replace hd := ite_p c25 hd
        refine aAt.sub [(0, .ref 154), (1, .int a1), (2, .int a2), (3, .int a3), (4, .int a4)] rfl ?_
        exact t_rM_findHeirs_J86 hk2 hk8 _ _ _ _ _  _ hd hQ
      · replace hd := ite_n c25 hd
        refine s_iload f_199_42 rfl ?_
        refine s_aload_n f_199_44 rfl ?_
        refine s_iload f_199_45 rfl ?_
        refine s_iload_n f_199_47 rfl ?_
        replace hd := obind hd
        obtain ⟨p26, e26, hd⟩ := hd
        refine L_virt (As := [.int a5, .int a3]) f_199_48 ca_12_117 rfl rfl (obL (by decide)) (by decide) (Nat.le_of_ble_eq_true rfl) ?_
        refine t_rM_isChild e26 ?_
        refine z_if_eq 76 f_199_51 (by decide) (fun c27 => ?_) (fun c27 => ?_)
        · replace hd := ite_n c27 hd
          refine aAt.sub [(0, .ref 154), (1, .int a1), (2, .int a2), (3, .int a3), (5, .int a5)] rfl ?_
          exact t_rM_findHeirs_J76 hk2 hk8 ih _ _ _ _ _ _  _ hd hQ
        · replace hd := ite_p c27 hd
          refine s_aload_n f_199_54 rfl ?_
          refine L_getR f_199_55 fd_12_16 (obL (by decide)) (by decide) (by decide : rf 154 4 = 157) ?_
          refine k_bipush (v := 14) f_199_58 (by decide) ?_
          refine s_iload_n f_199_60 rfl ?_
          refine s_imul f_199_61 ?_
          refine k_bipush (v := 14) f_199_62 (by decide) ?_
          refine s_iadd f_199_64 ?_
          refine s_iload f_199_65 rfl ?_
          refine s_iadd f_199_67 ?_
          replace hd := gd hd
          obtain ⟨g28, hd⟩ := hd
          refine M_zaload (q := (ix ((((14 : Int32) * a2) + (14 : Int32)) + a5))) f_199_68 rfl g28 ?_
          refine s_if_eq 76 f_199_69 (by decide) (fun c29 => ?_) (fun c29 => ?_)
          · replace hd := ite_p c29 hd
            refine aAt.sub [(0, .ref 154), (1, .int a1), (2, .int a2), (3, .int a3), (5, .int a5)] rfl ?_
            exact t_rM_findHeirs_J76 hk2 hk8 ih _ _ _ _ _ _  _ hd hQ
          · replace hd := ite_n c29 hd
            refine k_iconst (v := 1) f_199_72 (by decide) ?_
            refine s_goto 77 f_199_73 (by decide) ?_
            refine aAt.sub [(0, .ref 154), (1, .int a1), (2, .int a2), (3, .int a3), (5, .int a5)] rfl ?_
            exact t_rM_findHeirs_J77 hk2 hk8 ih _ _ _ _ _ _ _  _ hd hQ
def rM_findHeirs_L8 (k2 : SS → Int32 → Int32 → Option (SS)) : Nat → SS → Int32 → Int32 → Int32 → Option (SS)
  | 0, _, _, _, _ => none
  | n + 1, M, a1, a2, a3 =>
    if (M 155 0) ≤ a3 then
      k2 M a1 (a2 + (-1))
    else
      rM_findHeirs_L26 k2 (rM_findHeirs_L8 k2  n) FU M a1 a2 a3 (0 : Int32) (a3 + (1 : Int32))
theorem t_rM_findHeirs_L8 {l : Launch} {G : aG} {d : Nat} {Q : Option Value → aHeap → Prop} {sl : Nat} {sx : Nat → Int32} {S : SS} {K : KS} {T : TS} {X : XS} {k2 : SS → Int32 → Int32 → Option (SS)} (hk2 : ∀ (M : SS) (a1 : Int32) (a2 : Int32) (p : SS), k2 M a1 a2 = some p → Q none (LH (old0 sl sx) S K T X p) → aAt l G (d + 2) 0 0 199 2 [(0, .ref 154), (1, .int a1), (2, .int a2)] [] 0 0 (LH (old0 sl sx) S K T X M) Q) : ∀ (n : Nat), ∀ (M : SS) (a1 : Int32) (a2 : Int32) (a3 : Int32) (p : SS), rM_findHeirs_L8 k2 n M a1 a2 a3 = some p → Q none (LH (old0 sl sx) S K T X p) → aAt l G (d + 2) 0 0 199 8 [(0, .ref 154), (1, .int a1), (2, .int a2), (3, .int a3)] [] 0 0 (LH (old0 sl sx) S K T X M) Q := by
  intro n
  induction n with
  | zero =>
    intro M a1 a2 a3 p hd hQ
    rw [rM_findHeirs_L8] at hd
    cases hd
  | succ n ih =>
    intro M a1 a2 a3 p hd hQ
    rw [rM_findHeirs_L8] at hd
    refine s_iload_n f_199_8 rfl ?_
    refine s_aload_n f_199_9 rfl ?_
    refine L_getR f_199_10 fd_12_7 (obL (by decide)) (by decide) (by decide : rf 154 0 = 155) ?_
    refine k_iconst (v := 0) f_199_13 (by decide) ?_
    refine M_iaload (q := 0) f_199_14 ⟨by decide, by decide, by decide, fun _ => rfl⟩ (Nat.le_of_ble_eq_true rfl : 10759 < 2 ^ 31) (by decide) (by decide) ?_
    refine s_icmp_ge 146 f_199_15 (by decide) (fun c17 => ?_) (fun c17 => ?_)
    · replace hd := ite_p c17 hd
      refine k_iinc (w := (-1)) f_199_146 rfl (by decide) (by decide) ?_
      refine s_goto 2 f_199_149 (by decide) ?_
      refine aAt.sub [(0, .ref 154), (1, .int a1), (2, .int (a2 + (-1)))] rfl ?_
      exact hk2 _ _ _  _ hd hQ
    · replace hd := ite_n c17 hd
      refine k_iconst (v := 0) f_199_18 (by decide) ?_
      refine s_istore f_199_19 (by decide) ?_
      refine s_iload_n f_199_21 rfl ?_
      refine k_iconst (v := 1) f_199_22 (by decide) ?_
      refine s_iadd f_199_23 ?_
      refine s_istore f_199_24 (by decide) ?_
      refine aAt.sub [(0, .ref 154), (1, .int a1), (2, .int a2), (3, .int a3), (4, .int (0 : Int32)), (5, .int (a3 + (1 : Int32)))] rfl ?_
      exact t_rM_findHeirs_L26 hk2 ih FU _ _ _ _ _ _  _ hd hQ
def rM_findHeirs_L2 : Nat → SS → Int32 → Int32 → Option (SS)
  | 0, _, _, _ => none
  | n + 1, M, a1, a2 =>
    if a2 < 0 then
      if inb a1 84 then
        rM_findHeirs_L161 FU (up M 159 (ix a1) (1 : Int32)) (0 : Int32)
      else none
    else
      rM_findHeirs_L8 (rM_findHeirs_L2  n) FU M a1 a2 (0 : Int32)
theorem t_rM_findHeirs_L2 {l : Launch} {G : aG} {d : Nat} {Q : Option Value → aHeap → Prop} {sl : Nat} {sx : Nat → Int32} {S : SS} {K : KS} {T : TS} {X : XS} : ∀ (n : Nat), ∀ (M : SS) (a1 : Int32) (a2 : Int32) (p : SS), rM_findHeirs_L2 n M a1 a2 = some p → Q none (LH (old0 sl sx) S K T X p) → aAt l G (d + 2) 0 0 199 2 [(0, .ref 154), (1, .int a1), (2, .int a2)] [] 0 0 (LH (old0 sl sx) S K T X M) Q := by
  intro n
  induction n with
  | zero =>
    intro M a1 a2 p hd hQ
    rw [rM_findHeirs_L2] at hd
    cases hd
  | succ n ih =>
    intro M a1 a2 p hd hQ
    rw [rM_findHeirs_L2] at hd
    refine s_iload_n f_199_2 rfl ?_
    refine s_if_lt 152 f_199_3 (by decide) (fun c1 => ?_) (fun c1 => ?_)
    · replace hd := ite_p c1 hd
      refine s_aload_n f_199_152 rfl ?_
      refine L_getR f_199_153 fd_12_23 (obL (by decide)) (by decide) (by decide : rf 154 6 = 159) ?_
      refine s_iload_n f_199_156 rfl ?_
      refine k_iconst (v := 1) f_199_157 (by decide) ?_
      replace hd := gd hd
      obtain ⟨g2, hd⟩ := hd
      refine M_iastore (q := (ix a1)) f_199_158 ⟨by decide, by decide, by decide, fun _ => rfl⟩ (Nat.le_of_ble_eq_true rfl : 84 < 2 ^ 31) rfl g2 ?_
      refine k_iconst (v := 0) f_199_159 (by decide) ?_
      refine s_istore_n f_199_160 (by decide) ?_
      refine aAt.sub [(0, .ref 154), (2, .int (0 : Int32))] rfl ?_
      exact t_rM_findHeirs_L161 FU _ _  _ hd hQ
    · replace hd := ite_n c1 hd
      refine k_iconst (v := 0) f_199_6 (by decide) ?_
      refine s_istore_n f_199_7 (by decide) ?_
      refine aAt.sub [(0, .ref 154), (1, .int a1), (2, .int a2), (3, .int (0 : Int32))] rfl ?_
      exact t_rM_findHeirs_L8 ih FU _ _ _ _  _ hd hQ
def rM_findHeirs (M : SS) (a1 : Int32) : Option (SS) :=
  rM_findHeirs_L2 FU M a1 (5 : Int32)
theorem t_rM_findHeirs {l : Launch} {G : aG} {d : Nat} {Q : Option Value → aHeap → Prop} {sl : Nat} {sx : Nat → Int32} {S : SS} {K : KS} {T : TS} {X : XS} {M : SS} {a1 : Int32} {p : SS} (hd : rM_findHeirs M a1 = some p) (hQ : Q none (LH (old0 sl sx) S K T X p)) : aCall l G (d + 2) 0 0 199 [.ref 154, .int a1] (LH (old0 sl sx) S K T X M) Q := by
  refine aCall.of (by decide) (Nat.le_of_ble_eq_true rfl) ?_
  refine aAt.sub [(0, .ref 154), (1, .int a1)] rfl ?_
  unfold rM_findHeirs at hd
  refine k_iconst (v := 5) f_199_0 (by decide) ?_
  refine s_istore_n f_199_1 (by decide) ?_
  refine aAt.sub [(0, .ref 154), (1, .int a1), (2, .int (5 : Int32))] rfl ?_
  exact t_rM_findHeirs_L2 FU _ _ _  _ hd hQ

def rM_partOf_J56 (M : SS) (k4 : Int32 → Int32 → Int32 → Option (Int32)) (a1 : Int32) (a3 : Int32) (w0 : Int32) : Option (Int32) :=
  k4 a1 w0 (a3 + 1)
theorem t_rM_partOf_J56 {l : Launch} {G : aG} {d : Nat} {Q : Option Value → aHeap → Prop} {sl : Nat} {sx : Nat → Int32} {S : SS} {K : KS} {T : TS} {X : XS} {M : SS} {k4 : Int32 → Int32 → Int32 → Option (Int32)} (hk4 : ∀ (a1 : Int32) (a2 : Int32) (a3 : Int32) (p : Int32), k4 a1 a2 a3 = some p → Q (some (.int p)) (LH (old0 sl sx) S K T X M) → aAt l G (d + 2) 0 0 201 4 [(0, .ref 154), (1, .int a1), (2, .int a2), (3, .int a3)] [] 0 0 (LH (old0 sl sx) S K T X M) Q) : ∀ (a1 : Int32) (a3 : Int32) (w0 : Int32) (p : Int32), rM_partOf_J56 M k4 a1 a3 w0 = some p → Q (some (.int p)) (LH (old0 sl sx) S K T X M) → aAt l G (d + 2) 0 0 201 56 [(0, .ref 154), (1, .int a1), (3, .int a3)] [.int w0] 0 0 (LH (old0 sl sx) S K T X M) Q := by
  intro a1 a3 w0 p hd hQ
  unfold rM_partOf_J56 at hd
  refine s_istore_n f_201_56 (by decide) ?_
  refine k_iinc (w := 1) f_201_57 rfl (by decide) (by decide) ?_
  refine s_goto 4 f_201_60 (by decide) ?_
  refine aAt.sub [(0, .ref 154), (1, .int a1), (2, .int w0), (3, .int (a3 + 1))] rfl ?_
  exact hk4 _ _ _  _ hd hQ
def rM_partOf_J55 (M : SS) (k4 : Int32 → Int32 → Int32 → Option (Int32)) (a1 : Int32) (a2 : Int32) (a3 : Int32) : Option (Int32) :=
  rM_partOf_J56 M k4 a1 a3 a2
theorem t_rM_partOf_J55 {l : Launch} {G : aG} {d : Nat} {Q : Option Value → aHeap → Prop} {sl : Nat} {sx : Nat → Int32} {S : SS} {K : KS} {T : TS} {X : XS} {M : SS} {k4 : Int32 → Int32 → Int32 → Option (Int32)} (hk4 : ∀ (a1 : Int32) (a2 : Int32) (a3 : Int32) (p : Int32), k4 a1 a2 a3 = some p → Q (some (.int p)) (LH (old0 sl sx) S K T X M) → aAt l G (d + 2) 0 0 201 4 [(0, .ref 154), (1, .int a1), (2, .int a2), (3, .int a3)] [] 0 0 (LH (old0 sl sx) S K T X M) Q) : ∀ (a1 : Int32) (a2 : Int32) (a3 : Int32) (p : Int32), rM_partOf_J55 M k4 a1 a2 a3 = some p → Q (some (.int p)) (LH (old0 sl sx) S K T X M) → aAt l G (d + 2) 0 0 201 55 [(0, .ref 154), (1, .int a1), (2, .int a2), (3, .int a3)] [] 0 0 (LH (old0 sl sx) S K T X M) Q := by
  intro a1 a2 a3 p hd hQ
  unfold rM_partOf_J55 at hd
  refine s_iload_n f_201_55 rfl ?_
  refine aAt.sub [(0, .ref 154), (1, .int a1), (3, .int a3)] rfl ?_
  exact t_rM_partOf_J56 hk4 _ _ _  _ hd hQ
def rM_partOf_J50 (M : SS) (k4 : Int32 → Int32 → Int32 → Option (Int32)) (a1 : Int32) (a3 : Int32) (a4 : Int32) : Option (Int32) :=
  rM_partOf_J56 M k4 a1 a3 a4
theorem t_rM_partOf_J50 {l : Launch} {G : aG} {d : Nat} {Q : Option Value → aHeap → Prop} {sl : Nat} {sx : Nat → Int32} {S : SS} {K : KS} {T : TS} {X : XS} {M : SS} {k4 : Int32 → Int32 → Int32 → Option (Int32)} (hk4 : ∀ (a1 : Int32) (a2 : Int32) (a3 : Int32) (p : Int32), k4 a1 a2 a3 = some p → Q (some (.int p)) (LH (old0 sl sx) S K T X M) → aAt l G (d + 2) 0 0 201 4 [(0, .ref 154), (1, .int a1), (2, .int a2), (3, .int a3)] [] 0 0 (LH (old0 sl sx) S K T X M) Q) : ∀ (a1 : Int32) (a3 : Int32) (a4 : Int32) (p : Int32), rM_partOf_J50 M k4 a1 a3 a4 = some p → Q (some (.int p)) (LH (old0 sl sx) S K T X M) → aAt l G (d + 2) 0 0 201 50 [(0, .ref 154), (1, .int a1), (3, .int a3), (4, .int a4)] [] 0 0 (LH (old0 sl sx) S K T X M) Q := by
  intro a1 a3 a4 p hd hQ
  unfold rM_partOf_J50 at hd
  refine s_iload f_201_50 rfl ?_
  refine s_goto 56 f_201_52 (by decide) ?_
  refine aAt.sub [(0, .ref 154), (1, .int a1), (3, .int a3)] rfl ?_
  exact t_rM_partOf_J56 hk4 _ _ _  _ hd hQ
def rM_partOf_J33 (M : SS) (k4 : Int32 → Int32 → Int32 → Option (Int32)) (a1 : Int32) (a2 : Int32) (a3 : Int32) (w0 : Int32) : Option (Int32) :=
  if w0 ≤ 0 then
    rM_partOf_J55 M k4 a1 a2 a3
  else
    if a2 = 0 then
      rM_partOf_J50 M k4 a1 a3 w0
    else
      if a2 ≤ w0 then
        rM_partOf_J55 M k4 a1 a2 a3
      else
        rM_partOf_J50 M k4 a1 a3 w0
theorem t_rM_partOf_J33 {l : Launch} {G : aG} {d : Nat} {Q : Option Value → aHeap → Prop} {sl : Nat} {sx : Nat → Int32} {S : SS} {K : KS} {T : TS} {X : XS} {M : SS} {k4 : Int32 → Int32 → Int32 → Option (Int32)} (hk4 : ∀ (a1 : Int32) (a2 : Int32) (a3 : Int32) (p : Int32), k4 a1 a2 a3 = some p → Q (some (.int p)) (LH (old0 sl sx) S K T X M) → aAt l G (d + 2) 0 0 201 4 [(0, .ref 154), (1, .int a1), (2, .int a2), (3, .int a3)] [] 0 0 (LH (old0 sl sx) S K T X M) Q) : ∀ (a1 : Int32) (a2 : Int32) (a3 : Int32) (w0 : Int32) (p : Int32), rM_partOf_J33 M k4 a1 a2 a3 w0 = some p → Q (some (.int p)) (LH (old0 sl sx) S K T X M) → aAt l G (d + 2) 0 0 201 33 [(0, .ref 154), (1, .int a1), (2, .int a2), (3, .int a3)] [.int w0] 0 0 (LH (old0 sl sx) S K T X M) Q := by
  intro a1 a2 a3 w0 p hd hQ
  unfold rM_partOf_J33 at hd
  refine s_istore f_201_33 (by decide) ?_
  refine s_iload f_201_35 rfl ?_
  refine s_if_le 55 f_201_37 (by decide) (fun c4 => ?_) (fun c4 => ?_)
  · replace hd := ite_p c4 hd
    refine aAt.sub [(0, .ref 154), (1, .int a1), (2, .int a2), (3, .int a3)] rfl ?_
    exact t_rM_partOf_J55 hk4 _ _ _  _ hd hQ
  · replace hd := ite_n c4 hd
    refine s_iload_n f_201_40 rfl ?_
    refine s_if_eq 50 f_201_41 (by decide) (fun c5 => ?_) (fun c5 => ?_)
    · replace hd := ite_p c5 hd
      refine aAt.sub [(0, .ref 154), (1, .int a1), (3, .int a3), (4, .int w0)] rfl ?_
      exact t_rM_partOf_J50 hk4 _ _ _  _ hd hQ
    · replace hd := ite_n c5 hd
      refine s_iload f_201_44 rfl ?_
      refine s_iload_n f_201_46 rfl ?_
      refine s_icmp_ge 55 f_201_47 (by decide) (fun c6 => ?_) (fun c6 => ?_)
      · replace hd := ite_p c6 hd
        refine aAt.sub [(0, .ref 154), (1, .int a1), (2, .int a2), (3, .int a3)] rfl ?_
        exact t_rM_partOf_J55 hk4 _ _ _  _ hd hQ
      · replace hd := ite_n c6 hd
        refine aAt.sub [(0, .ref 154), (1, .int a1), (3, .int a3), (4, .int w0)] rfl ?_
        exact t_rM_partOf_J50 hk4 _ _ _  _ hd hQ
def rM_partOf_L4 (M : SS) : Nat → Int32 → Int32 → Int32 → Option (Int32)
  | 0, _, _, _ => none
  | n + 1, a1, a2, a3 =>
    if (6 : Int32) ≤ a3 then
      some a2
    else
      (rM_lives0 M a1).bind fun p2 =>
      if p2 = true then
        if inb (((14 : Int32) * a3) + a1) 84 then
          rM_partOf_J33 M (rM_partOf_L4 M  n) a1 a2 a3 (M 159 (ix (((14 : Int32) * a3) + a1)))
        else none
      else
        rM_partOf_J33 M (rM_partOf_L4 M  n) a1 a2 a3 (0 : Int32)
theorem t_rM_partOf_L4 {l : Launch} {G : aG} {d : Nat} {Q : Option Value → aHeap → Prop} {sl : Nat} {sx : Nat → Int32} {S : SS} {K : KS} {T : TS} {X : XS} {M : SS} : ∀ (n : Nat), ∀ (a1 : Int32) (a2 : Int32) (a3 : Int32) (p : Int32), rM_partOf_L4 M n a1 a2 a3 = some p → Q (some (.int p)) (LH (old0 sl sx) S K T X M) → aAt l G (d + 2) 0 0 201 4 [(0, .ref 154), (1, .int a1), (2, .int a2), (3, .int a3)] [] 0 0 (LH (old0 sl sx) S K T X M) Q := by
  intro n
  induction n with
  | zero =>
    intro a1 a2 a3 p hd hQ
    rw [rM_partOf_L4] at hd
    cases hd
  | succ n ih =>
    intro a1 a2 a3 p hd hQ
    rw [rM_partOf_L4] at hd
    refine s_iload_n f_201_4 rfl ?_
    refine k_bipush (v := 6) f_201_5 (by decide) ?_
    refine s_icmp_ge 63 f_201_7 (by decide) (fun c1 => ?_) (fun c1 => ?_)
    · replace hd := ite_p c1 hd
      refine s_iload_n f_201_63 rfl ?_
      refine s_ireturn f_201_64 rfl rfl ?_
      cases hd
      exact hQ
    · replace hd := ite_n c1 hd
      refine s_aload_n f_201_10 rfl ?_
      refine s_iload_n f_201_11 rfl ?_
      replace hd := obind hd
      obtain ⟨p2, e2, hd⟩ := hd
      refine L_virt (As := [.int a1]) f_201_12 ca_12_91 rfl rfl (obL (by decide)) (by decide) (Nat.le_of_ble_eq_true rfl) ?_
      refine t_rM_lives0 e2 ?_
      refine z_if_eq 32 f_201_15 (by decide) (fun c3 => ?_) (fun c3 => ?_)
      · replace hd := ite_n c3 hd
        refine k_iconst (v := 0) f_201_32 (by decide) ?_
        refine aAt.sub [(0, .ref 154), (1, .int a1), (2, .int a2), (3, .int a3)] rfl ?_
        exact t_rM_partOf_J33 ih _ _ _ _  _ hd hQ
      · replace hd := ite_p c3 hd
        refine s_aload_n f_201_18 rfl ?_
        refine L_getR f_201_19 fd_12_23 (obL (by decide)) (by decide) (by decide : rf 154 6 = 159) ?_
        refine k_bipush (v := 14) f_201_22 (by decide) ?_
        refine s_iload_n f_201_24 rfl ?_
        refine s_imul f_201_25 ?_
        refine s_iload_n f_201_26 rfl ?_
        refine s_iadd f_201_27 ?_
        replace hd := gd hd
        obtain ⟨g7, hd⟩ := hd
        refine M_iaload (q := (ix (((14 : Int32) * a3) + a1))) f_201_28 ⟨by decide, by decide, by decide, fun _ => rfl⟩ (Nat.le_of_ble_eq_true rfl : 84 < 2 ^ 31) rfl g7 ?_
        refine s_goto 33 f_201_29 (by decide) ?_
        refine aAt.sub [(0, .ref 154), (1, .int a1), (2, .int a2), (3, .int a3)] rfl ?_
        exact t_rM_partOf_J33 ih _ _ _ _  _ hd hQ
def rM_partOf (M : SS) (a1 : Int32) : Option (Int32) :=
  rM_partOf_L4 M FU a1 (0 : Int32) (0 : Int32)
theorem t_rM_partOf {l : Launch} {G : aG} {d : Nat} {Q : Option Value → aHeap → Prop} {sl : Nat} {sx : Nat → Int32} {S : SS} {K : KS} {T : TS} {X : XS} {M : SS} {a1 : Int32} {p : Int32} (hd : rM_partOf M a1 = some p) (hQ : Q (some (.int p)) (LH (old0 sl sx) S K T X M)) : aCall l G (d + 2) 0 0 201 [.ref 154, .int a1] (LH (old0 sl sx) S K T X M) Q := by
  refine aCall.of (by decide) (Nat.le_of_ble_eq_true rfl) ?_
  refine aAt.sub [(0, .ref 154), (1, .int a1)] rfl ?_
  unfold rM_partOf at hd
  refine k_iconst (v := 0) f_201_0 (by decide) ?_
  refine s_istore_n f_201_1 (by decide) ?_
  refine k_iconst (v := 0) f_201_2 (by decide) ?_
  refine s_istore_n f_201_3 (by decide) ?_
  refine aAt.sub [(0, .ref 154), (1, .int a1), (2, .int (0 : Int32)), (3, .int (0 : Int32))] rfl ?_
  exact t_rM_partOf_L4 FU _ _ _  _ hd hQ

def rM_heirsOf_J35 (k9 : SS → Int32 → Int32 → Option (Int32 × SS)) (M : SS) (a3 : Int32) (w0 : Int32) (w1 : Int32) : Option (Int32 × SS) :=
  k9 M (w0 ||| w1) (a3 + 1)
theorem t_rM_heirsOf_J35 {l : Launch} {G : aG} {d : Nat} {Q : Option Value → aHeap → Prop} {sl : Nat} {sx : Nat → Int32} {S : SS} {K : KS} {T : TS} {X : XS} {k9 : SS → Int32 → Int32 → Option (Int32 × SS)} (hk9 : ∀ (M : SS) (a2 : Int32) (a3 : Int32) (p : Int32 × SS), k9 M a2 a3 = some p → Q (some (.int p.1)) (LH (old0 sl sx) S K T X p.2) → aAt l G (d + 3) 0 0 198 9 [(0, .ref 154), (2, .int a2), (3, .int a3)] [] 0 0 (LH (old0 sl sx) S K T X M) Q) : ∀ (M : SS) (a3 : Int32) (w0 : Int32) (w1 : Int32) (p : Int32 × SS), rM_heirsOf_J35 k9 M a3 w0 w1 = some p → Q (some (.int p.1)) (LH (old0 sl sx) S K T X p.2) → aAt l G (d + 3) 0 0 198 35 [(0, .ref 154), (3, .int a3)] [.int w1, .int w0] 0 0 (LH (old0 sl sx) S K T X M) Q := by
  intro M a3 w0 w1 p hd hQ
  unfold rM_heirsOf_J35 at hd
  refine s_ior f_198_35 ?_
  refine s_istore_n f_198_36 (by decide) ?_
  refine k_iinc (w := 1) f_198_37 rfl (by decide) (by decide) ?_
  refine s_goto 9 f_198_40 (by decide) ?_
  refine aAt.sub [(0, .ref 154), (2, .int (w0 ||| w1)), (3, .int (a3 + 1))] rfl ?_
  exact hk9 _ _ _  _ hd hQ
def rM_heirsOf_L9 : Nat → SS → Int32 → Int32 → Option (Int32 × SS)
  | 0, _, _, _ => none
  | n + 1, M, a2, a3 =>
    if (M 155 0) ≤ a3 then
      some (a2, M)
    else
      (rM_partOf M a3).bind fun p3 =>
      if p3 ≤ 0 then
        rM_heirsOf_J35 (rM_heirsOf_L9  n) M a3 a2 (0 : Int32)
      else
        rM_heirsOf_J35 (rM_heirsOf_L9  n) M a3 a2 ((1 : Int32) <<< (a3 &&& 31))
theorem t_rM_heirsOf_L9 {l : Launch} {G : aG} {d : Nat} {Q : Option Value → aHeap → Prop} {sl : Nat} {sx : Nat → Int32} {S : SS} {K : KS} {T : TS} {X : XS} : ∀ (n : Nat), ∀ (M : SS) (a2 : Int32) (a3 : Int32) (p : Int32 × SS), rM_heirsOf_L9 n M a2 a3 = some p → Q (some (.int p.1)) (LH (old0 sl sx) S K T X p.2) → aAt l G (d + 3) 0 0 198 9 [(0, .ref 154), (2, .int a2), (3, .int a3)] [] 0 0 (LH (old0 sl sx) S K T X M) Q := by
  intro n
  induction n with
  | zero =>
    intro M a2 a3 p hd hQ
    rw [rM_heirsOf_L9] at hd
    cases hd
  | succ n ih =>
    intro M a2 a3 p hd hQ
    rw [rM_heirsOf_L9] at hd
    refine s_iload_n f_198_9 rfl ?_
    refine s_aload_n f_198_10 rfl ?_
    refine L_getR f_198_11 fd_12_7 (obL (by decide)) (by decide) (by decide : rf 154 0 = 155) ?_
    refine k_iconst (v := 0) f_198_14 (by decide) ?_
    refine M_iaload (q := 0) f_198_15 ⟨by decide, by decide, by decide, fun _ => rfl⟩ (Nat.le_of_ble_eq_true rfl : 10759 < 2 ^ 31) (by decide) (by decide) ?_
    refine s_icmp_ge 43 f_198_16 (by decide) (fun c2 => ?_) (fun c2 => ?_)
    · replace hd := ite_p c2 hd
      refine s_iload_n f_198_43 rfl ?_
      refine s_ireturn f_198_44 rfl rfl ?_
      cases hd
      exact hQ
    · replace hd := ite_n c2 hd
      refine s_iload_n f_198_19 rfl ?_
      refine s_aload_n f_198_20 rfl ?_
      refine s_iload_n f_198_21 rfl ?_
      replace hd := obind hd
      obtain ⟨p3, e3, hd⟩ := hd
      refine L_virt (As := [.int a3]) f_198_22 ca_12_125 rfl rfl (obL (by decide)) (by decide) (Nat.le_of_ble_eq_true rfl) ?_
      refine t_rM_partOf e3 ?_
      refine s_if_le 34 f_198_25 (by decide) (fun c4 => ?_) (fun c4 => ?_)
      · replace hd := ite_p c4 hd
        refine k_iconst (v := 0) f_198_34 (by decide) ?_
        refine aAt.sub [(0, .ref 154), (3, .int a3)] rfl ?_
        exact t_rM_heirsOf_J35 ih _ _ _ _  _ hd hQ
      · replace hd := ite_n c4 hd
        refine k_iconst (v := 1) f_198_28 (by decide) ?_
        refine s_iload_n f_198_29 rfl ?_
        refine s_ishl f_198_30 ?_
        refine s_goto 35 f_198_31 (by decide) ?_
        refine aAt.sub [(0, .ref 154), (3, .int a3)] rfl ?_
        exact t_rM_heirsOf_J35 ih _ _ _ _  _ hd hQ
def rM_heirsOf (M : SS) (a1 : Int32) : Option (Int32 × SS) :=
  (rM_findHeirs M a1).bind fun p1 =>
  rM_heirsOf_L9 FU p1 (0 : Int32) (0 : Int32)
theorem t_rM_heirsOf {l : Launch} {G : aG} {d : Nat} {Q : Option Value → aHeap → Prop} {sl : Nat} {sx : Nat → Int32} {S : SS} {K : KS} {T : TS} {X : XS} {M : SS} {a1 : Int32} {p : Int32 × SS} (hd : rM_heirsOf M a1 = some p) (hQ : Q (some (.int p.1)) (LH (old0 sl sx) S K T X p.2)) : aCall l G (d + 3) 0 0 198 [.ref 154, .int a1] (LH (old0 sl sx) S K T X M) Q := by
  refine aCall.of (by decide) (Nat.le_of_ble_eq_true rfl) ?_
  refine aAt.sub [(0, .ref 154), (1, .int a1)] rfl ?_
  unfold rM_heirsOf at hd
  refine s_aload_n f_198_0 rfl ?_
  refine s_iload_n f_198_1 rfl ?_
  replace hd := obind hd
  obtain ⟨p1, e1, hd⟩ := hd
  refine L_virt (As := [.int a1]) f_198_2 ca_12_121 rfl rfl (obL (by decide)) (by decide) (Nat.le_of_ble_eq_true rfl) ?_
  refine t_rM_findHeirs e1 ?_
  refine k_iconst (v := 0) f_198_5 (by decide) ?_
  refine s_istore_n f_198_6 (by decide) ?_
  refine k_iconst (v := 0) f_198_7 (by decide) ?_
  refine s_istore_n f_198_8 (by decide) ?_
  refine aAt.sub [(0, .ref 154), (2, .int (0 : Int32)), (3, .int (0 : Int32))] rfl ?_
  exact t_rM_heirsOf_L9 FU _ _ _  _ hd hQ

def rM_heirs (M : SS) (a1 : Int32) : Option (Int32 × SS) :=
  (rM_isPerson M a1).bind fun p1 =>
  if p1 = true then
    (rM_heirsOf M a1).bind fun p4 =>
    some (p4.1, p4.2)
  else
    (rM_finds M (-100001 : Int32)).bind fun p3 =>
    some (p3.1, p3.2)
theorem t_rM_heirs {l : Launch} {G : aG} {d : Nat} {Q : Option Value → aHeap → Prop} {sl : Nat} {sx : Nat → Int32} {S : SS} {K : KS} {T : TS} {X : XS} {M : SS} {a1 : Int32} {p : Int32 × SS} (hd : rM_heirs M a1 = some p) (hQ : Q (some (.int p.1)) (LH (old0 sl sx) S K T X p.2)) : aCall l G (d + 4) 0 0 197 [.ref 154, .int a1] (LH (old0 sl sx) S K T X M) Q := by
  refine aCall.of (by decide) (Nat.le_of_ble_eq_true rfl) ?_
  refine aAt.sub [(0, .ref 154), (1, .int a1)] rfl ?_
  unfold rM_heirs at hd
  refine s_aload_n f_197_0 rfl ?_
  refine s_iload_n f_197_1 rfl ?_
  replace hd := obind hd
  obtain ⟨p1, e1, hd⟩ := hd
  refine L_virt (As := [.int a1]) f_197_2 ca_12_87 rfl rfl (obL (by decide)) (by decide) (Nat.le_of_ble_eq_true rfl) ?_
  refine t_rM_isPerson e1 ?_
  refine z_if_eq 16 f_197_5 (by decide) (fun c2 => ?_) (fun c2 => ?_)
  · replace hd := ite_n c2 hd
    refine s_aload_n f_197_16 rfl ?_
    refine s_ldc f_197_17 ko_12_77 ?_
    replace hd := obind hd
    obtain ⟨p3, e3, hd⟩ := hd
    refine L_virt (As := [.int (-100001 : Int32)]) f_197_19 ca_12_78 rfl rfl (obL (by decide)) (by decide) (Nat.le_of_ble_eq_true rfl) ?_
    refine t_rM_finds e3 ?_
    refine s_ireturn f_197_22 rfl rfl ?_
    cases hd
    exact hQ
  · replace hd := ite_p c2 hd
    refine s_aload_n f_197_8 rfl ?_
    refine s_iload_n f_197_9 rfl ?_
    replace hd := obind hd
    obtain ⟨p4, e4, hd⟩ := hd
    refine L_virt (As := [.int a1]) f_197_10 ca_12_128 rfl rfl (obL (by decide)) (by decide) (Nat.le_of_ble_eq_true rfl) ?_
    refine t_rM_heirsOf e4 ?_
    refine s_goto 22 f_197_13 (by decide) ?_
    refine s_ireturn f_197_22 rfl rfl ?_
    cases hd
    exact hQ

def rM_share_J16 (M : SS) : Option (Int32 × SS) :=
  (rM_finds M (-100001 : Int32)).bind fun p3 =>
  some (p3.1, p3.2)
theorem t_rM_share_J16 {l : Launch} {G : aG} {d : Nat} {Q : Option Value → aHeap → Prop} {sl : Nat} {sx : Nat → Int32} {S : SS} {K : KS} {T : TS} {X : XS} : ∀ (M : SS) (p : Int32 × SS), rM_share_J16 M = some p → Q (some (.int p.1)) (LH (old0 sl sx) S K T X p.2) → aAt l G (d + 3) 0 0 202 16 [(0, .ref 154)] [] 0 0 (LH (old0 sl sx) S K T X M) Q := by
  intro M p hd hQ
  unfold rM_share_J16 at hd
  refine s_aload_n f_202_16 rfl ?_
  refine s_ldc f_202_17 ko_12_77 ?_
  replace hd := obind hd
  obtain ⟨p3, e3, hd⟩ := hd
  refine L_virt (As := [.int (-100001 : Int32)]) f_202_19 ca_12_78 rfl rfl (obL (by decide)) (by decide) (Nat.le_of_ble_eq_true rfl) ?_
  refine t_rM_finds e3 ?_
  refine s_ireturn f_202_22 rfl rfl ?_
  cases hd
  exact hQ
def rM_share (M : SS) (a1 : Int32) (a2 : Int32) : Option (Int32 × SS) :=
  (rM_isPerson M a1).bind fun p1 =>
  if p1 = true then
    (rM_isPerson M a2).bind fun p4 =>
    if p4 = true then
      (rM_findHeirs M a1).bind fun p6 =>
      (rM_partOf p6 a2).bind fun p7 =>
      if p7 = 0 then
        (rM_finds p6 (-100006 : Int32)).bind fun p9 =>
        some (p9.1, p9.2)
      else
        some (p7, p6)
    else
      rM_share_J16 M
  else
    rM_share_J16 M
theorem t_rM_share {l : Launch} {G : aG} {d : Nat} {Q : Option Value → aHeap → Prop} {sl : Nat} {sx : Nat → Int32} {S : SS} {K : KS} {T : TS} {X : XS} {M : SS} {a1 : Int32} {a2 : Int32} {p : Int32 × SS} (hd : rM_share M a1 a2 = some p) (hQ : Q (some (.int p.1)) (LH (old0 sl sx) S K T X p.2)) : aCall l G (d + 3) 0 0 202 [.ref 154, .int a1, .int a2] (LH (old0 sl sx) S K T X M) Q := by
  refine aCall.of (by decide) (Nat.le_of_ble_eq_true rfl) ?_
  refine aAt.sub [(0, .ref 154), (1, .int a1), (2, .int a2)] rfl ?_
  unfold rM_share at hd
  refine s_aload_n f_202_0 rfl ?_
  refine s_iload_n f_202_1 rfl ?_
  replace hd := obind hd
  obtain ⟨p1, e1, hd⟩ := hd
  refine L_virt (As := [.int a1]) f_202_2 ca_12_87 rfl rfl (obL (by decide)) (by decide) (Nat.le_of_ble_eq_true rfl) ?_
  refine t_rM_isPerson e1 ?_
  refine z_if_eq 16 f_202_5 (by decide) (fun c2 => ?_) (fun c2 => ?_)
  · replace hd := ite_n c2 hd
    refine aAt.sub [(0, .ref 154)] rfl ?_
    exact t_rM_share_J16 _  _ hd hQ
  · replace hd := ite_p c2 hd
    refine s_aload_n f_202_8 rfl ?_
    refine s_iload_n f_202_9 rfl ?_
    replace hd := obind hd
    obtain ⟨p4, e4, hd⟩ := hd
    refine L_virt (As := [.int a2]) f_202_10 ca_12_87 rfl rfl (obL (by decide)) (by decide) (Nat.le_of_ble_eq_true rfl) ?_
    refine t_rM_isPerson e4 ?_
    refine z_if_ne 23 f_202_13 (by decide) (fun c5 => ?_) (fun c5 => ?_)
    · replace hd := ite_p c5 hd
      refine s_aload_n f_202_23 rfl ?_
      refine s_iload_n f_202_24 rfl ?_
      replace hd := obind hd
      obtain ⟨p6, e6, hd⟩ := hd
      refine L_virt (As := [.int a1]) f_202_25 ca_12_121 rfl rfl (obL (by decide)) (by decide) (Nat.le_of_ble_eq_true rfl) ?_
      refine t_rM_findHeirs e6 ?_
      refine s_aload_n f_202_28 rfl ?_
      refine s_iload_n f_202_29 rfl ?_
      replace hd := obind hd
      obtain ⟨p7, e7, hd⟩ := hd
      refine L_virt (As := [.int a2]) f_202_30 ca_12_125 rfl rfl (obL (by decide)) (by decide) (Nat.le_of_ble_eq_true rfl) ?_
      refine t_rM_partOf e7 ?_
      refine s_istore_n f_202_33 (by decide) ?_
      refine s_iload_n f_202_34 rfl ?_
      refine s_if_ne 47 f_202_35 (by decide) (fun c8 => ?_) (fun c8 => ?_)
      · replace hd := ite_n c8 hd
        refine s_iload_n f_202_47 rfl ?_
        refine s_ireturn f_202_48 rfl rfl ?_
        cases hd
        exact hQ
      · replace hd := ite_p c8 hd
        refine s_aload_n f_202_38 rfl ?_
        refine s_ldc f_202_39 ko_12_131 ?_
        replace hd := obind hd
        obtain ⟨p9, e9, hd⟩ := hd
        refine L_virt (As := [.int (-100006 : Int32)]) f_202_41 ca_12_78 rfl rfl (obL (by decide)) (by decide) (Nat.le_of_ble_eq_true rfl) ?_
        refine t_rM_finds e9 ?_
        refine s_goto 48 f_202_44 (by decide) ?_
        refine s_ireturn f_202_48 rfl rfl ?_
        cases hd
        exact hQ
    · replace hd := ite_n c5 hd
      refine aAt.sub [(0, .ref 154)] rfl ?_
      exact t_rM_share_J16 _  _ hd hQ

def rM_hasField_J15 : Option (Bool) :=
  some true
theorem t_rM_hasField_J15 {l : Launch} {G : aG} {d : Nat} {Q : Option Value → aHeap → Prop} {sl : Nat} {sx : Nat → Int32} {S : SS} {K : KS} {T : TS} {X : XS} {M : SS} : ∀ (p : Bool), rM_hasField_J15 = some p → Q (some (.int (b2i p))) (LH (old0 sl sx) S K T X M) → aAt l G d 0 0 204 15 [] [] 0 0 (LH (old0 sl sx) S K T X M) Q := by
  intro p hd hQ
  unfold rM_hasField_J15 at hd
  refine k_iconst (v := 1) f_204_15 (by decide) ?_
  refine s_goto 20 f_204_16 (by decide) ?_
  refine s_iretB (b := true) f_204_20 rfl ?_
  cases hd
  exact hQ
def rM_hasField (a0 : Int32) : Option (Bool) :=
  if a0 = (2 : Int32) then
    rM_hasField_J15 
  else
    if a0 = (3 : Int32) then
      rM_hasField_J15 
    else
      if a0 = (4 : Int32) then
        rM_hasField_J15 
      else
        some false
theorem t_rM_hasField {l : Launch} {G : aG} {d : Nat} {Q : Option Value → aHeap → Prop} {sl : Nat} {sx : Nat → Int32} {S : SS} {K : KS} {T : TS} {X : XS} {M : SS} {a0 : Int32} {p : Bool} (hd : rM_hasField a0 = some p) (hQ : Q (some (.int (b2i p))) (LH (old0 sl sx) S K T X M)) : aCall l G d 0 0 204 [.int a0] (LH (old0 sl sx) S K T X M) Q := by
  refine aCall.of (by decide) (Nat.le_of_ble_eq_true rfl) ?_
  refine aAt.sub [(0, .int a0)] rfl ?_
  unfold rM_hasField at hd
  refine s_iload_n f_204_0 rfl ?_
  refine k_iconst (v := 2) f_204_1 (by decide) ?_
  refine s_icmp_eq 15 f_204_2 (by decide) (fun c1 => ?_) (fun c1 => ?_)
  · replace hd := ite_p c1 hd
    refine aAt.sub [] rfl ?_
    exact t_rM_hasField_J15   _ hd hQ
  · replace hd := ite_n c1 hd
    refine s_iload_n f_204_5 rfl ?_
    refine k_iconst (v := 3) f_204_6 (by decide) ?_
    refine s_icmp_eq 15 f_204_7 (by decide) (fun c2 => ?_) (fun c2 => ?_)
    · replace hd := ite_p c2 hd
      refine aAt.sub [] rfl ?_
      exact t_rM_hasField_J15   _ hd hQ
    · replace hd := ite_n c2 hd
      refine s_iload_n f_204_10 rfl ?_
      refine k_iconst (v := 4) f_204_11 (by decide) ?_
      refine s_icmp_ne 19 f_204_12 (by decide) (fun c3 => ?_) (fun c3 => ?_)
      · replace hd := ite_n c3 hd
        refine k_iconst (v := 0) f_204_19 (by decide) ?_
        refine s_iretB (b := false) f_204_20 rfl ?_
        cases hd
        exact hQ
      · replace hd := ite_p c3 hd
        refine aAt.sub [] rfl ?_
        exact t_rM_hasField_J15   _ hd hQ

def rM_writes (M : SS) (a1 : Int32) (a2 : Int32) (a3 : Int32) : Option (SS) :=
  if inb (((182 : Int32) + ((10 : Int32) * a1)) + a2) 10759 then
    some (up M 155 (ix (((182 : Int32) + ((10 : Int32) * a1)) + a2)) a3)
  else none
theorem t_rM_writes {l : Launch} {G : aG} {d : Nat} {Q : Option Value → aHeap → Prop} {sl : Nat} {sx : Nat → Int32} {S : SS} {K : KS} {T : TS} {X : XS} {M : SS} {a1 : Int32} {a2 : Int32} {a3 : Int32} {p : SS} (hd : rM_writes M a1 a2 a3 = some p) (hQ : Q none (LH (old0 sl sx) S K T X p)) : aCall l G d 0 0 206 [.ref 154, .int a1, .int a2, .int a3] (LH (old0 sl sx) S K T X M) Q := by
  refine aCall.of (by decide) (Nat.le_of_ble_eq_true rfl) ?_
  refine aAt.sub [(0, .ref 154), (1, .int a1), (2, .int a2), (3, .int a3)] rfl ?_
  unfold rM_writes at hd
  refine s_aload_n f_206_0 rfl ?_
  refine L_getR f_206_1 fd_12_7 (obL (by decide)) (by decide) (by decide : rf 154 0 = 155) ?_
  refine k_sipush (v := 182) f_206_4 (by decide) ?_
  refine k_bipush (v := 10) f_206_7 (by decide) ?_
  refine s_iload_n f_206_9 rfl ?_
  refine s_imul f_206_10 ?_
  refine s_iadd f_206_11 ?_
  refine s_iload_n f_206_12 rfl ?_
  refine s_iadd f_206_13 ?_
  refine s_iload_n f_206_14 rfl ?_
  replace hd := gd hd
  obtain ⟨g1, hd⟩ := hd
  refine M_iastore (q := (ix (((182 : Int32) + ((10 : Int32) * a1)) + a2))) f_206_15 ⟨by decide, by decide, by decide, fun _ => rfl⟩ (Nat.le_of_ble_eq_true rfl : 10759 < 2 ^ 31) rfl g1 ?_
  refine s_return f_206_16 rfl ?_
  cases hd
  exact hQ

def rM_comes (M : SS) (a1 : Int32) (a2 : Int32) (a3 : Int32) (a4 : Int32) (a5 : Int32) (a6 : Int32) (a7 : Int32) : Option (Int32 × SS) :=
  (rM_writes (up M 155 2 ((M 155 2) + (1 : Int32))) (M 155 2) (0 : Int32) a1).bind fun p1 =>
  (rM_writes p1 (M 155 2) (1 : Int32) a2).bind fun p2 =>
  (rM_writes p2 (M 155 2) (2 : Int32) a3).bind fun p3 =>
  (rM_writes p3 (M 155 2) (3 : Int32) a4).bind fun p4 =>
  (rM_writes p4 (M 155 2) (4 : Int32) (0 : Int32)).bind fun p5 =>
  (rM_writes p5 (M 155 2) (5 : Int32) (p5 155 3)).bind fun p6 =>
  (rM_writes p6 (M 155 2) (6 : Int32) a5).bind fun p7 =>
  (rM_writes p7 (M 155 2) (7 : Int32) a6).bind fun p8 =>
  (rM_writes p8 (M 155 2) (8 : Int32) a7).bind fun p9 =>
  (rM_writes p9 (M 155 2) (9 : Int32) (0 : Int32)).bind fun p10 =>
  some ((M 155 2), p10)
theorem t_rM_comes {l : Launch} {G : aG} {d : Nat} {Q : Option Value → aHeap → Prop} {sl : Nat} {sx : Nat → Int32} {S : SS} {K : KS} {T : TS} {X : XS} {M : SS} {a1 : Int32} {a2 : Int32} {a3 : Int32} {a4 : Int32} {a5 : Int32} {a6 : Int32} {a7 : Int32} {p : Int32 × SS} (hd : rM_comes M a1 a2 a3 a4 a5 a6 a7 = some p) (hQ : Q (some (.int p.1)) (LH (old0 sl sx) S K T X p.2)) : aCall l G (d + 1) 0 0 205 [.ref 154, .int a1, .int a2, .int a3, .int a4, .int a5, .int a6, .int a7] (LH (old0 sl sx) S K T X M) Q := by
  refine aCall.of (by decide) (Nat.le_of_ble_eq_true rfl) ?_
  refine aAt.sub [(0, .ref 154), (1, .int a1), (2, .int a2), (3, .int a3), (4, .int a4), (5, .int a5), (6, .int a6), (7, .int a7)] rfl ?_
  unfold rM_comes at hd
  refine s_aload_n f_205_0 rfl ?_
  refine L_getR f_205_1 fd_12_7 (obL (by decide)) (by decide) (by decide : rf 154 0 = 155) ?_
  refine k_iconst (v := 2) f_205_4 (by decide) ?_
  refine M_iaload (q := 2) f_205_5 ⟨by decide, by decide, by decide, fun _ => rfl⟩ (Nat.le_of_ble_eq_true rfl : 10759 < 2 ^ 31) (by decide) (by decide) ?_
  refine s_istore f_205_6 (by decide) ?_
  refine s_aload_n f_205_8 rfl ?_
  refine L_getR f_205_9 fd_12_7 (obL (by decide)) (by decide) (by decide : rf 154 0 = 155) ?_
  refine k_iconst (v := 2) f_205_12 (by decide) ?_
  refine s_dup2 f_205_13 rfl rfl ?_
  refine M_iaload (q := 2) f_205_14 ⟨by decide, by decide, by decide, fun _ => rfl⟩ (Nat.le_of_ble_eq_true rfl : 10759 < 2 ^ 31) (by decide) (by decide) ?_
  refine k_iconst (v := 1) f_205_15 (by decide) ?_
  refine s_iadd f_205_16 ?_
  refine M_iastore (q := 2) f_205_17 ⟨by decide, by decide, by decide, fun _ => rfl⟩ (Nat.le_of_ble_eq_true rfl : 10759 < 2 ^ 31) (by decide) (by decide) ?_
  refine s_aload_n f_205_18 rfl ?_
  refine s_iload f_205_19 rfl ?_
  refine k_iconst (v := 0) f_205_21 (by decide) ?_
  refine s_iload_n f_205_22 rfl ?_
  replace hd := obind hd
  obtain ⟨p1, e1, hd⟩ := hd
  refine L_virt (As := [.int (M 155 2), .int (0 : Int32), .int a1]) f_205_23 ca_12_132 rfl rfl (obL (by decide)) (by decide) (Nat.le_of_ble_eq_true rfl) ?_
  refine t_rM_writes e1 ?_
  refine s_aload_n f_205_26 rfl ?_
  refine s_iload f_205_27 rfl ?_
  refine k_iconst (v := 1) f_205_29 (by decide) ?_
  refine s_iload_n f_205_30 rfl ?_
  replace hd := obind hd
  obtain ⟨p2, e2, hd⟩ := hd
  refine L_virt (As := [.int (M 155 2), .int (1 : Int32), .int a2]) f_205_31 ca_12_132 rfl rfl (obL (by decide)) (by decide) (Nat.le_of_ble_eq_true rfl) ?_
  refine t_rM_writes e2 ?_
  refine s_aload_n f_205_34 rfl ?_
  refine s_iload f_205_35 rfl ?_
  refine k_iconst (v := 2) f_205_37 (by decide) ?_
  refine s_iload_n f_205_38 rfl ?_
  replace hd := obind hd
  obtain ⟨p3, e3, hd⟩ := hd
  refine L_virt (As := [.int (M 155 2), .int (2 : Int32), .int a3]) f_205_39 ca_12_132 rfl rfl (obL (by decide)) (by decide) (Nat.le_of_ble_eq_true rfl) ?_
  refine t_rM_writes e3 ?_
  refine s_aload_n f_205_42 rfl ?_
  refine s_iload f_205_43 rfl ?_
  refine k_iconst (v := 3) f_205_45 (by decide) ?_
  refine s_iload f_205_46 rfl ?_
  replace hd := obind hd
  obtain ⟨p4, e4, hd⟩ := hd
  refine L_virt (As := [.int (M 155 2), .int (3 : Int32), .int a4]) f_205_48 ca_12_132 rfl rfl (obL (by decide)) (by decide) (Nat.le_of_ble_eq_true rfl) ?_
  refine t_rM_writes e4 ?_
  refine s_aload_n f_205_51 rfl ?_
  refine s_iload f_205_52 rfl ?_
  refine k_iconst (v := 4) f_205_54 (by decide) ?_
  refine k_iconst (v := 0) f_205_55 (by decide) ?_
  replace hd := obind hd
  obtain ⟨p5, e5, hd⟩ := hd
  refine L_virt (As := [.int (M 155 2), .int (4 : Int32), .int (0 : Int32)]) f_205_56 ca_12_132 rfl rfl (obL (by decide)) (by decide) (Nat.le_of_ble_eq_true rfl) ?_
  refine t_rM_writes e5 ?_
  refine s_aload_n f_205_59 rfl ?_
  refine s_iload f_205_60 rfl ?_
  refine k_iconst (v := 5) f_205_62 (by decide) ?_
  refine s_aload_n f_205_63 rfl ?_
  refine L_getR f_205_64 fd_12_7 (obL (by decide)) (by decide) (by decide : rf 154 0 = 155) ?_
  refine k_iconst (v := 3) f_205_67 (by decide) ?_
  refine M_iaload (q := 3) f_205_68 ⟨by decide, by decide, by decide, fun _ => rfl⟩ (Nat.le_of_ble_eq_true rfl : 10759 < 2 ^ 31) (by decide) (by decide) ?_
  replace hd := obind hd
  obtain ⟨p6, e6, hd⟩ := hd
  refine L_virt (As := [.int (M 155 2), .int (5 : Int32), .int (p5 155 3)]) f_205_69 ca_12_132 rfl rfl (obL (by decide)) (by decide) (Nat.le_of_ble_eq_true rfl) ?_
  refine t_rM_writes e6 ?_
  refine s_aload_n f_205_72 rfl ?_
  refine s_iload f_205_73 rfl ?_
  refine k_bipush (v := 6) f_205_75 (by decide) ?_
  refine s_iload f_205_77 rfl ?_
  replace hd := obind hd
  obtain ⟨p7, e7, hd⟩ := hd
  refine L_virt (As := [.int (M 155 2), .int (6 : Int32), .int a5]) f_205_79 ca_12_132 rfl rfl (obL (by decide)) (by decide) (Nat.le_of_ble_eq_true rfl) ?_
  refine t_rM_writes e7 ?_
  refine s_aload_n f_205_82 rfl ?_
  refine s_iload f_205_83 rfl ?_
  refine k_bipush (v := 7) f_205_85 (by decide) ?_
  refine s_iload f_205_87 rfl ?_
  replace hd := obind hd
  obtain ⟨p8, e8, hd⟩ := hd
  refine L_virt (As := [.int (M 155 2), .int (7 : Int32), .int a6]) f_205_89 ca_12_132 rfl rfl (obL (by decide)) (by decide) (Nat.le_of_ble_eq_true rfl) ?_
  refine t_rM_writes e8 ?_
  refine s_aload_n f_205_92 rfl ?_
  refine s_iload f_205_93 rfl ?_
  refine k_bipush (v := 8) f_205_95 (by decide) ?_
  refine s_iload f_205_97 rfl ?_
  replace hd := obind hd
  obtain ⟨p9, e9, hd⟩ := hd
  refine L_virt (As := [.int (M 155 2), .int (8 : Int32), .int a7]) f_205_99 ca_12_132 rfl rfl (obL (by decide)) (by decide) (Nat.le_of_ble_eq_true rfl) ?_
  refine t_rM_writes e9 ?_
  refine s_aload_n f_205_102 rfl ?_
  refine s_iload f_205_103 rfl ?_
  refine k_bipush (v := 9) f_205_105 (by decide) ?_
  refine k_iconst (v := 0) f_205_107 (by decide) ?_
  replace hd := obind hd
  obtain ⟨p10, e10, hd⟩ := hd
  refine L_virt (As := [.int (M 155 2), .int (9 : Int32), .int (0 : Int32)]) f_205_108 ca_12_132 rfl rfl (obL (by decide)) (by decide) (Nat.le_of_ble_eq_true rfl) ?_
  refine t_rM_writes e10 ?_
  refine s_iload f_205_111 rfl ?_
  refine s_ireturn f_205_113 rfl rfl ?_
  cases hd
  exact hQ

def rM_paper_J64 (M : SS) : Option (Int32 × SS) :=
  (rM_finds M (-100001 : Int32)).bind fun p3 =>
  some (p3.1, p3.2)
theorem t_rM_paper_J64 {l : Launch} {G : aG} {d : Nat} {Q : Option Value → aHeap → Prop} {sl : Nat} {sx : Nat → Int32} {S : SS} {K : KS} {T : TS} {X : XS} : ∀ (M : SS) (p : Int32 × SS), rM_paper_J64 M = some p → Q (some (.int p.1)) (LH (old0 sl sx) S K T X p.2) → aAt l G (d + 2) 0 0 203 64 [(0, .ref 154)] [] 0 0 (LH (old0 sl sx) S K T X M) Q := by
  intro M p hd hQ
  unfold rM_paper_J64 at hd
  refine s_aload_n f_203_64 rfl ?_
  refine s_ldc f_203_65 ko_12_77 ?_
  replace hd := obind hd
  obtain ⟨p3, e3, hd⟩ := hd
  refine L_virt (As := [.int (-100001 : Int32)]) f_203_67 ca_12_78 rfl rfl (obL (by decide)) (by decide) (Nat.le_of_ble_eq_true rfl) ?_
  refine t_rM_finds e3 ?_
  refine s_ireturn f_203_70 rfl rfl ?_
  cases hd
  exact hQ
def rM_paper_J115 (M : SS) : Option (Int32 × SS) :=
  (rM_finds M (-100006 : Int32)).bind fun p16 =>
  some (p16.1, p16.2)
theorem t_rM_paper_J115 {l : Launch} {G : aG} {d : Nat} {Q : Option Value → aHeap → Prop} {sl : Nat} {sx : Nat → Int32} {S : SS} {K : KS} {T : TS} {X : XS} : ∀ (M : SS) (p : Int32 × SS), rM_paper_J115 M = some p → Q (some (.int p.1)) (LH (old0 sl sx) S K T X p.2) → aAt l G (d + 2) 0 0 203 115 [(0, .ref 154)] [] 0 0 (LH (old0 sl sx) S K T X M) Q := by
  intro M p hd hQ
  unfold rM_paper_J115 at hd
  refine s_aload_n f_203_115 rfl ?_
  refine s_ldc f_203_116 ko_12_131 ?_
  replace hd := obind hd
  obtain ⟨p16, e16, hd⟩ := hd
  refine L_virt (As := [.int (-100006 : Int32)]) f_203_118 ca_12_78 rfl rfl (obL (by decide)) (by decide) (Nat.le_of_ble_eq_true rfl) ?_
  refine t_rM_finds e16 ?_
  refine s_ireturn f_203_121 rfl rfl ?_
  cases hd
  exact hQ
def rM_paper_J254 (M : SS) (a1 : Int32) (a6 : Int32) (a7 : Int32) (a8 : Int32) : Option (Int32 × SS) :=
  if a1 = (6 : Int32) then
    (rM_makes M a6 (8 : Int32) a7).bind fun p29 =>
    some (a8, p29)
  else
    some (a8, M)
theorem t_rM_paper_J254 {l : Launch} {G : aG} {d : Nat} {Q : Option Value → aHeap → Prop} {sl : Nat} {sx : Nat → Int32} {S : SS} {K : KS} {T : TS} {X : XS} : ∀ (M : SS) (a1 : Int32) (a6 : Int32) (a7 : Int32) (a8 : Int32) (p : Int32 × SS), rM_paper_J254 M a1 a6 a7 a8 = some p → Q (some (.int p.1)) (LH (old0 sl sx) S K T X p.2) → aAt l G (d + 2) 0 0 203 254 [(0, .ref 154), (1, .int a1), (6, .int a6), (7, .int a7), (8, .int a8)] [] 0 0 (LH (old0 sl sx) S K T X M) Q := by
  intro M a1 a6 a7 a8 p hd hQ
  unfold rM_paper_J254 at hd
  refine s_iload_n f_203_254 rfl ?_
  refine k_bipush (v := 6) f_203_255 (by decide) ?_
  refine s_icmp_ne 270 f_203_257 (by decide) (fun c28 => ?_) (fun c28 => ?_)
  · replace hd := ite_n c28 hd
    refine s_iload f_203_270 rfl ?_
    refine s_ireturn f_203_272 rfl rfl ?_
    cases hd
    exact hQ
  · replace hd := ite_p c28 hd
    refine s_aload_n f_203_260 rfl ?_
    refine s_iload f_203_261 rfl ?_
    refine k_bipush (v := 8) f_203_263 (by decide) ?_
    refine s_iload f_203_265 rfl ?_
    replace hd := obind hd
    obtain ⟨p29, e29, hd⟩ := hd
    refine L_virt (As := [.int a6, .int (8 : Int32), .int a7]) f_203_267 ca_12_83 rfl rfl (obL (by decide)) (by decide) (Nat.le_of_ble_eq_true rfl) ?_
    refine t_rM_makes e29 ?_
    refine s_iload f_203_270 rfl ?_
    refine s_ireturn f_203_272 rfl rfl ?_
    cases hd
    exact hQ
def rM_paper_J237 (M : SS) (a1 : Int32) (a5 : Int32) (a6 : Int32) (a7 : Int32) (a8 : Int32) : Option (Int32 × SS) :=
  if inb (((150 : Int32) + ((4 : Int32) * a5)) + (2 : Int32)) 10759 then
    rM_paper_J254 (up M 155 (ix (((150 : Int32) + ((4 : Int32) * a5)) + (2 : Int32))) a7) a1 a6 a7 a8
  else none
theorem t_rM_paper_J237 {l : Launch} {G : aG} {d : Nat} {Q : Option Value → aHeap → Prop} {sl : Nat} {sx : Nat → Int32} {S : SS} {K : KS} {T : TS} {X : XS} : ∀ (M : SS) (a1 : Int32) (a5 : Int32) (a6 : Int32) (a7 : Int32) (a8 : Int32) (p : Int32 × SS), rM_paper_J237 M a1 a5 a6 a7 a8 = some p → Q (some (.int p.1)) (LH (old0 sl sx) S K T X p.2) → aAt l G (d + 2) 0 0 203 237 [(0, .ref 154), (1, .int a1), (5, .int a5), (6, .int a6), (7, .int a7), (8, .int a8)] [] 0 0 (LH (old0 sl sx) S K T X M) Q := by
  intro M a1 a5 a6 a7 a8 p hd hQ
  unfold rM_paper_J237 at hd
  refine s_aload_n f_203_237 rfl ?_
  refine L_getR f_203_238 fd_12_7 (obL (by decide)) (by decide) (by decide : rf 154 0 = 155) ?_
  refine k_sipush (v := 150) f_203_241 (by decide) ?_
  refine k_iconst (v := 4) f_203_244 (by decide) ?_
  refine s_iload f_203_245 rfl ?_
  refine s_imul f_203_247 ?_
  refine s_iadd f_203_248 ?_
  refine k_iconst (v := 2) f_203_249 (by decide) ?_
  refine s_iadd f_203_250 ?_
  refine s_iload f_203_251 rfl ?_
  replace hd := gd hd
  obtain ⟨g27, hd⟩ := hd
  refine M_iastore (q := (ix (((150 : Int32) + ((4 : Int32) * a5)) + (2 : Int32)))) f_203_253 ⟨by decide, by decide, by decide, fun _ => rfl⟩ (Nat.le_of_ble_eq_true rfl : 10759 < 2 ^ 31) rfl g27 ?_
  refine aAt.sub [(0, .ref 154), (1, .int a1), (6, .int a6), (7, .int a7), (8, .int a8)] rfl ?_
  exact t_rM_paper_J254 _ _ _ _ _  _ hd hQ
def rM_paper_J221 (M : SS) (a1 : Int32) (a5 : Int32) (a6 : Int32) (a7 : Int32) (w1 : Int32) (w2 : Int32) (w3 : Int32) (w4 : Int32) (w5 : Int32) (w6 : Int32) : Option (Int32 × SS) :=
  (rM_comes M w1 w2 w3 w4 w5 w6 (2 : Int32)).bind fun p25 =>
  if a1 = (3 : Int32) then
    rM_paper_J237 p25.2 a1 a5 a6 a7 p25.1
  else
    if a1 = (4 : Int32) then
      rM_paper_J237 p25.2 a1 a5 a6 a7 p25.1
    else
      rM_paper_J254 p25.2 a1 a6 a7 p25.1
theorem t_rM_paper_J221 {l : Launch} {G : aG} {d : Nat} {Q : Option Value → aHeap → Prop} {sl : Nat} {sx : Nat → Int32} {S : SS} {K : KS} {T : TS} {X : XS} : ∀ (M : SS) (a1 : Int32) (a5 : Int32) (a6 : Int32) (a7 : Int32) (w1 : Int32) (w2 : Int32) (w3 : Int32) (w4 : Int32) (w5 : Int32) (w6 : Int32) (p : Int32 × SS), rM_paper_J221 M a1 a5 a6 a7 w1 w2 w3 w4 w5 w6 = some p → Q (some (.int p.1)) (LH (old0 sl sx) S K T X p.2) → aAt l G (d + 2) 0 0 203 221 [(0, .ref 154), (1, .int a1), (5, .int a5), (6, .int a6), (7, .int a7)] [.int w6, .int w5, .int w4, .int w3, .int w2, .int w1, .ref 154] 0 0 (LH (old0 sl sx) S K T X M) Q := by
  intro M a1 a5 a6 a7 w1 w2 w3 w4 w5 w6 p hd hQ
  unfold rM_paper_J221 at hd
  refine k_iconst (v := 2) f_203_221 (by decide) ?_
  replace hd := obind hd
  obtain ⟨p25, e25, hd⟩ := hd
  refine L_virt (As := [.int w1, .int w2, .int w3, .int w4, .int w5, .int w6, .int (2 : Int32)]) f_203_222 ca_12_140 rfl rfl (obL (by decide)) (by decide) (Nat.le_of_ble_eq_true rfl) ?_
  refine t_rM_comes e25 ?_
  refine s_istore f_203_225 (by decide) ?_
  refine s_iload_n f_203_227 rfl ?_
  refine k_iconst (v := 3) f_203_228 (by decide) ?_
  refine s_icmp_eq 237 f_203_229 (by decide) (fun c26 => ?_) (fun c26 => ?_)
  · replace hd := ite_p c26 hd
    refine aAt.sub [(0, .ref 154), (1, .int a1), (5, .int a5), (6, .int a6), (7, .int a7), (8, .int p25.1)] rfl ?_
    exact t_rM_paper_J237 _ _ _ _ _ _  _ hd hQ
  · replace hd := ite_n c26 hd
    refine s_iload_n f_203_232 rfl ?_
    refine k_iconst (v := 4) f_203_233 (by decide) ?_
    refine s_icmp_ne 254 f_203_234 (by decide) (fun c30 => ?_) (fun c30 => ?_)
    · replace hd := ite_n c30 hd
      refine aAt.sub [(0, .ref 154), (1, .int a1), (6, .int a6), (7, .int a7), (8, .int p25.1)] rfl ?_
      exact t_rM_paper_J254 _ _ _ _ _  _ hd hQ
    · replace hd := ite_p c30 hd
      refine aAt.sub [(0, .ref 154), (1, .int a1), (5, .int a5), (6, .int a6), (7, .int a7), (8, .int p25.1)] rfl ?_
      exact t_rM_paper_J237 _ _ _ _ _ _  _ hd hQ
def rM_paper_J181 (M : SS) (a1 : Int32) (a3 : Int32) (a4 : Int32) (a5 : Int32) (a6 : Int32) (a7 : Int32) : Option (Int32 × SS) :=
  if (M 155 2) = (20 : Int32) then
    (rM_finds M (-100005 : Int32)).bind fun p31 =>
    some (p31.1, p31.2)
  else
    (rM_hasField a1).bind fun p23 =>
    if p23 = true then
      rM_paper_J221 M a1 a5 a6 a7 a1 a6 a7 a3 a4 a5
    else
      rM_paper_J221 M a1 a5 a6 a7 a1 a6 a7 a3 a4 (-1 : Int32)
theorem t_rM_paper_J181 {l : Launch} {G : aG} {d : Nat} {Q : Option Value → aHeap → Prop} {sl : Nat} {sx : Nat → Int32} {S : SS} {K : KS} {T : TS} {X : XS} : ∀ (M : SS) (a1 : Int32) (a3 : Int32) (a4 : Int32) (a5 : Int32) (a6 : Int32) (a7 : Int32) (p : Int32 × SS), rM_paper_J181 M a1 a3 a4 a5 a6 a7 = some p → Q (some (.int p.1)) (LH (old0 sl sx) S K T X p.2) → aAt l G (d + 2) 0 0 203 181 [(0, .ref 154), (1, .int a1), (3, .int a3), (4, .int a4), (5, .int a5), (6, .int a6), (7, .int a7)] [] 0 0 (LH (old0 sl sx) S K T X M) Q := by
  intro M a1 a3 a4 a5 a6 a7 p hd hQ
  unfold rM_paper_J181 at hd
  refine s_aload_n f_203_181 rfl ?_
  refine L_getR f_203_182 fd_12_7 (obL (by decide)) (by decide) (by decide : rf 154 0 = 155) ?_
  refine k_iconst (v := 2) f_203_185 (by decide) ?_
  refine M_iaload (q := 2) f_203_186 ⟨by decide, by decide, by decide, fun _ => rfl⟩ (Nat.le_of_ble_eq_true rfl : 10759 < 2 ^ 31) (by decide) (by decide) ?_
  refine k_bipush (v := 20) f_203_187 (by decide) ?_
  refine s_icmp_ne 199 f_203_189 (by decide) (fun c22 => ?_) (fun c22 => ?_)
  · replace hd := ite_n c22 hd
    refine s_aload_n f_203_199 rfl ?_
    refine s_iload_n f_203_200 rfl ?_
    refine s_iload f_203_201 rfl ?_
    refine s_iload f_203_203 rfl ?_
    refine s_iload_n f_203_205 rfl ?_
    refine s_iload f_203_206 rfl ?_
    refine s_iload_n f_203_208 rfl ?_
    replace hd := obind hd
    obtain ⟨p23, e23, hd⟩ := hd
    refine L_stat (As := [.int a1]) f_203_209 ca_12_136 rfl rfl (Nat.le_of_ble_eq_true rfl) ?_
    refine t_rM_hasField e23 ?_
    refine z_if_eq 220 f_203_212 (by decide) (fun c24 => ?_) (fun c24 => ?_)
    · replace hd := ite_n c24 hd
      refine k_iconst (v := (-1)) f_203_220 (by decide) ?_
      refine aAt.sub [(0, .ref 154), (1, .int a1), (5, .int a5), (6, .int a6), (7, .int a7)] rfl ?_
      exact t_rM_paper_J221 _ _ _ _ _ _ _ _ _ _ _  _ hd hQ
    · replace hd := ite_p c24 hd
      refine s_iload f_203_215 rfl ?_
      refine s_goto 221 f_203_217 (by decide) ?_
      refine aAt.sub [(0, .ref 154), (1, .int a1), (5, .int a5), (6, .int a6), (7, .int a7)] rfl ?_
      exact t_rM_paper_J221 _ _ _ _ _ _ _ _ _ _ _  _ hd hQ
  · replace hd := ite_p c22 hd
    refine s_aload_n f_203_192 rfl ?_
    refine s_ldc f_203_193 ko_12_82 ?_
    replace hd := obind hd
    obtain ⟨p31, e31, hd⟩ := hd
    refine L_virt (As := [.int (-100005 : Int32)]) f_203_195 ca_12_78 rfl rfl (obL (by decide)) (by decide) (Nat.le_of_ble_eq_true rfl) ?_
    refine t_rM_finds e31 ?_
    refine s_ireturn f_203_198 rfl rfl ?_
    cases hd
    exact hQ
def rM_paper_J157 (M : SS) (a1 : Int32) (a3 : Int32) (a4 : Int32) (a5 : Int32) (a6 : Int32) (a7 : Int32) : Option (Int32 × SS) :=
  if a1 = (6 : Int32) then
    (rM_own M a6 (8 : Int32)).bind fun p32 =>
    if p32 < 0 then
      rM_paper_J181 M a1 a3 a4 a5 a6 a7
    else
      (rM_finds M (-100007 : Int32)).bind fun p34 =>
      some (p34.1, p34.2)
  else
    rM_paper_J181 M a1 a3 a4 a5 a6 a7
theorem t_rM_paper_J157 {l : Launch} {G : aG} {d : Nat} {Q : Option Value → aHeap → Prop} {sl : Nat} {sx : Nat → Int32} {S : SS} {K : KS} {T : TS} {X : XS} : ∀ (M : SS) (a1 : Int32) (a3 : Int32) (a4 : Int32) (a5 : Int32) (a6 : Int32) (a7 : Int32) (p : Int32 × SS), rM_paper_J157 M a1 a3 a4 a5 a6 a7 = some p → Q (some (.int p.1)) (LH (old0 sl sx) S K T X p.2) → aAt l G (d + 2) 0 0 203 157 [(0, .ref 154), (1, .int a1), (3, .int a3), (4, .int a4), (5, .int a5), (6, .int a6), (7, .int a7)] [] 0 0 (LH (old0 sl sx) S K T X M) Q := by
  intro M a1 a3 a4 a5 a6 a7 p hd hQ
  unfold rM_paper_J157 at hd
  refine s_iload_n f_203_157 rfl ?_
  refine k_bipush (v := 6) f_203_158 (by decide) ?_
  refine s_icmp_ne 181 f_203_160 (by decide) (fun c21 => ?_) (fun c21 => ?_)
  · replace hd := ite_n c21 hd
    refine aAt.sub [(0, .ref 154), (1, .int a1), (3, .int a3), (4, .int a4), (5, .int a5), (6, .int a6), (7, .int a7)] rfl ?_
    exact t_rM_paper_J181 _ _ _ _ _ _ _  _ hd hQ
  · replace hd := ite_p c21 hd
    refine s_aload_n f_203_163 rfl ?_
    refine s_iload f_203_164 rfl ?_
    refine k_bipush (v := 8) f_203_166 (by decide) ?_
    replace hd := obind hd
    obtain ⟨p32, e32, hd⟩ := hd
    refine L_virt (As := [.int a6, .int (8 : Int32)]) f_203_168 ca_12_73 rfl rfl (obL (by decide)) (by decide) (Nat.le_of_ble_eq_true rfl) ?_
    refine t_rM_own e32 ?_
    refine s_if_lt 181 f_203_171 (by decide) (fun c33 => ?_) (fun c33 => ?_)
    · replace hd := ite_p c33 hd
      refine aAt.sub [(0, .ref 154), (1, .int a1), (3, .int a3), (4, .int a4), (5, .int a5), (6, .int a6), (7, .int a7)] rfl ?_
      exact t_rM_paper_J181 _ _ _ _ _ _ _  _ hd hQ
    · replace hd := ite_n c33 hd
      refine s_aload_n f_203_174 rfl ?_
      refine s_ldc f_203_175 ko_12_94 ?_
      replace hd := obind hd
      obtain ⟨p34, e34, hd⟩ := hd
      refine L_virt (As := [.int (-100007 : Int32)]) f_203_177 ca_12_78 rfl rfl (obL (by decide)) (by decide) (Nat.le_of_ble_eq_true rfl) ?_
      refine t_rM_finds e34 ?_
      refine s_ireturn f_203_180 rfl rfl ?_
      cases hd
      exact hQ
def rM_paper_J150 (M : SS) : Option (Int32 × SS) :=
  (rM_finds M (-100002 : Int32)).bind fun p37 =>
  some (p37.1, p37.2)
theorem t_rM_paper_J150 {l : Launch} {G : aG} {d : Nat} {Q : Option Value → aHeap → Prop} {sl : Nat} {sx : Nat → Int32} {S : SS} {K : KS} {T : TS} {X : XS} : ∀ (M : SS) (p : Int32 × SS), rM_paper_J150 M = some p → Q (some (.int p.1)) (LH (old0 sl sx) S K T X p.2) → aAt l G (d + 2) 0 0 203 150 [(0, .ref 154)] [] 0 0 (LH (old0 sl sx) S K T X M) Q := by
  intro M p hd hQ
  unfold rM_paper_J150 at hd
  refine s_aload_n f_203_150 rfl ?_
  refine s_ldc f_203_151 ko_12_139 ?_
  replace hd := obind hd
  obtain ⟨p37, e37, hd⟩ := hd
  refine L_virt (As := [.int (-100002 : Int32)]) f_203_153 ca_12_78 rfl rfl (obL (by decide)) (by decide) (Nat.le_of_ble_eq_true rfl) ?_
  refine t_rM_finds e37 ?_
  refine s_ireturn f_203_156 rfl rfl ?_
  cases hd
  exact hQ
def rM_paper (M : SS) (a1 : Int32) (a2 : Int32) (a3 : Int32) (a4 : Int32) (a5 : Int32) : Option (Int32 × SS) :=
  (rM_in a1 (0 : Int32) (6 : Int32)).bind fun p1 =>
  if p1 = true then
    if a2 < 0 then
      rM_paper_J64 M
    else
      (rM_isPerson M (a2 / (100 : Int32))).bind fun p5 =>
      if p5 = true then
        (rM_isPerson M (a2 - a2 / (100 : Int32) * (100 : Int32))).bind fun p7 =>
        if p7 = true then
          (rM_in a3 (1 : Int32) (9999 : Int32)).bind fun p9 =>
          if p9 = true then
            (rM_in a4 (M 155 3) (400 : Int32)).bind fun p11 =>
            if p11 = true then
              if (a2 / (100 : Int32)) = (a2 - a2 / (100 : Int32) * (100 : Int32)) then
                (rM_finds M (-100003 : Int32)).bind fun p40 =>
                some (p40.1, p40.2)
              else
                (rM_lives0 M (a2 / (100 : Int32))).bind fun p14 =>
                if p14 = true then
                  (rM_lives0 M (a2 - a2 / (100 : Int32) * (100 : Int32))).bind fun p17 =>
                  if p17 = true then
                    (rM_hasField a1).bind fun p19 =>
                    if p19 = true then
                      (rM_isField M a5).bind fun p35 =>
                      if p35 = true then
                        (rM_ofField M a5 (2 : Int32)).bind fun p38 =>
                        if p38 = (a2 / (100 : Int32)) then
                          rM_paper_J157 M a1 a3 a4 a5 (a2 / (100 : Int32)) (a2 - a2 / (100 : Int32) * (100 : Int32))
                        else
                          rM_paper_J150 M
                      else
                        rM_paper_J150 M
                    else
                      rM_paper_J157 M a1 a3 a4 a5 (a2 / (100 : Int32)) (a2 - a2 / (100 : Int32) * (100 : Int32))
                  else
                    rM_paper_J115 M
                else
                  rM_paper_J115 M
            else
              rM_paper_J64 M
          else
            rM_paper_J64 M
        else
          rM_paper_J64 M
      else
        rM_paper_J64 M
  else
    rM_paper_J64 M
theorem t_rM_paper {l : Launch} {G : aG} {d : Nat} {Q : Option Value → aHeap → Prop} {sl : Nat} {sx : Nat → Int32} {S : SS} {K : KS} {T : TS} {X : XS} {M : SS} {a1 : Int32} {a2 : Int32} {a3 : Int32} {a4 : Int32} {a5 : Int32} {p : Int32 × SS} (hd : rM_paper M a1 a2 a3 a4 a5 = some p) (hQ : Q (some (.int p.1)) (LH (old0 sl sx) S K T X p.2)) : aCall l G (d + 2) 0 0 203 [.ref 154, .int a1, .int a2, .int a3, .int a4, .int a5] (LH (old0 sl sx) S K T X M) Q := by
  refine aCall.of (by decide) (Nat.le_of_ble_eq_true rfl) ?_
  refine aAt.sub [(0, .ref 154), (1, .int a1), (2, .int a2), (3, .int a3), (4, .int a4), (5, .int a5)] rfl ?_
  unfold rM_paper at hd
  refine s_iload_n f_203_0 rfl ?_
  refine k_iconst (v := 0) f_203_1 (by decide) ?_
  refine k_bipush (v := 6) f_203_2 (by decide) ?_
  replace hd := obind hd
  obtain ⟨p1, e1, hd⟩ := hd
  refine L_stat (As := [.int a1, .int (0 : Int32), .int (6 : Int32)]) f_203_4 ca_12_69 rfl rfl (Nat.le_of_ble_eq_true rfl) ?_
  refine t_rM_in e1 ?_
  refine z_if_eq 64 f_203_7 (by decide) (fun c2 => ?_) (fun c2 => ?_)
  · replace hd := ite_n c2 hd
    refine aAt.sub [(0, .ref 154)] rfl ?_
    exact t_rM_paper_J64 _  _ hd hQ
  · replace hd := ite_p c2 hd
    refine s_iload_n f_203_10 rfl ?_
    refine s_if_lt 64 f_203_11 (by decide) (fun c4 => ?_) (fun c4 => ?_)
    · replace hd := ite_p c4 hd
      refine aAt.sub [(0, .ref 154)] rfl ?_
      exact t_rM_paper_J64 _  _ hd hQ
    · replace hd := ite_n c4 hd
      refine s_aload_n f_203_14 rfl ?_
      refine s_iload_n f_203_15 rfl ?_
      refine k_bipush (v := 100) f_203_16 (by decide) ?_
      refine s_idiv f_203_18 (by decide) ?_
      replace hd := obind hd
      obtain ⟨p5, e5, hd⟩ := hd
      refine L_virt (As := [.int (a2 / (100 : Int32))]) f_203_19 ca_12_87 rfl rfl (obL (by decide)) (by decide) (Nat.le_of_ble_eq_true rfl) ?_
      refine t_rM_isPerson e5 ?_
      refine z_if_eq 64 f_203_22 (by decide) (fun c6 => ?_) (fun c6 => ?_)
      · replace hd := ite_n c6 hd
        refine aAt.sub [(0, .ref 154)] rfl ?_
        exact t_rM_paper_J64 _  _ hd hQ
      · replace hd := ite_p c6 hd
        refine s_aload_n f_203_25 rfl ?_
        refine s_iload_n f_203_26 rfl ?_
        refine k_bipush (v := 100) f_203_27 (by decide) ?_
        refine s_irem f_203_29 (by decide) ?_
        replace hd := obind hd
        obtain ⟨p7, e7, hd⟩ := hd
        refine L_virt (As := [.int (a2 - a2 / (100 : Int32) * (100 : Int32))]) f_203_30 ca_12_87 rfl rfl (obL (by decide)) (by decide) (Nat.le_of_ble_eq_true rfl) ?_
        refine t_rM_isPerson e7 ?_
        refine z_if_eq 64 f_203_33 (by decide) (fun c8 => ?_) (fun c8 => ?_)
        · replace hd := ite_n c8 hd
          refine aAt.sub [(0, .ref 154)] rfl ?_
          exact t_rM_paper_J64 _  _ hd hQ
        · replace hd := ite_p c8 hd
          refine s_iload_n f_203_36 rfl ?_
          refine k_iconst (v := 1) f_203_37 (by decide) ?_
          refine k_sipush (v := 9999) f_203_38 (by decide) ?_
          replace hd := obind hd
          obtain ⟨p9, e9, hd⟩ := hd
          refine L_stat (As := [.int a3, .int (1 : Int32), .int (9999 : Int32)]) f_203_41 ca_12_69 rfl rfl (Nat.le_of_ble_eq_true rfl) ?_
          refine t_rM_in e9 ?_
          refine z_if_eq 64 f_203_44 (by decide) (fun c10 => ?_) (fun c10 => ?_)
          · replace hd := ite_n c10 hd
            refine aAt.sub [(0, .ref 154)] rfl ?_
            exact t_rM_paper_J64 _  _ hd hQ
          · replace hd := ite_p c10 hd
            refine s_iload f_203_47 rfl ?_
            refine s_aload_n f_203_49 rfl ?_
            refine L_getR f_203_50 fd_12_7 (obL (by decide)) (by decide) (by decide : rf 154 0 = 155) ?_
            refine k_iconst (v := 3) f_203_53 (by decide) ?_
            refine M_iaload (q := 3) f_203_54 ⟨by decide, by decide, by decide, fun _ => rfl⟩ (Nat.le_of_ble_eq_true rfl : 10759 < 2 ^ 31) (by decide) (by decide) ?_
            refine k_sipush (v := 400) f_203_55 (by decide) ?_
            replace hd := obind hd
            obtain ⟨p11, e11, hd⟩ := hd
            refine L_stat (As := [.int a4, .int (M 155 3), .int (400 : Int32)]) f_203_58 ca_12_69 rfl rfl (Nat.le_of_ble_eq_true rfl) ?_
            refine t_rM_in e11 ?_
            refine z_if_ne 71 f_203_61 (by decide) (fun c12 => ?_) (fun c12 => ?_)
            · replace hd := ite_p c12 hd
              refine s_iload_n f_203_71 rfl ?_
              refine k_bipush (v := 100) f_203_72 (by decide) ?_
              refine s_idiv f_203_74 (by decide) ?_
              refine s_istore f_203_75 (by decide) ?_
              refine s_iload_n f_203_77 rfl ?_
              refine k_bipush (v := 100) f_203_78 (by decide) ?_
              refine s_irem f_203_80 (by decide) ?_
              refine s_istore f_203_81 (by decide) ?_
              refine s_iload f_203_83 rfl ?_
              refine s_iload f_203_85 rfl ?_
              refine s_icmp_ne 97 f_203_87 (by decide) (fun c13 => ?_) (fun c13 => ?_)
              · replace hd := ite_n c13 hd
                refine s_aload_n f_203_97 rfl ?_
                refine s_iload f_203_98 rfl ?_
                replace hd := obind hd
                obtain ⟨p14, e14, hd⟩ := hd
                refine L_virt (As := [.int (a2 / (100 : Int32))]) f_203_100 ca_12_91 rfl rfl (obL (by decide)) (by decide) (Nat.le_of_ble_eq_true rfl) ?_
                refine t_rM_lives0 e14 ?_
                refine z_if_eq 115 f_203_103 (by decide) (fun c15 => ?_) (fun c15 => ?_)
                · replace hd := ite_n c15 hd
                  refine aAt.sub [(0, .ref 154)] rfl ?_
                  exact t_rM_paper_J115 _  _ hd hQ
                · replace hd := ite_p c15 hd
                  refine s_aload_n f_203_106 rfl ?_
                  refine s_iload f_203_107 rfl ?_
                  replace hd := obind hd
                  obtain ⟨p17, e17, hd⟩ := hd
                  refine L_virt (As := [.int (a2 - a2 / (100 : Int32) * (100 : Int32))]) f_203_109 ca_12_91 rfl rfl (obL (by decide)) (by decide) (Nat.le_of_ble_eq_true rfl) ?_
                  refine t_rM_lives0 e17 ?_
                  refine z_if_ne 122 f_203_112 (by decide) (fun c18 => ?_) (fun c18 => ?_)
                  · replace hd := ite_p c18 hd
                    refine s_iload_n f_203_122 rfl ?_
                    replace hd := obind hd
                    obtain ⟨p19, e19, hd⟩ := hd
                    refine L_stat (As := [.int a1]) f_203_123 ca_12_136 rfl rfl (Nat.le_of_ble_eq_true rfl) ?_
                    refine t_rM_hasField e19 ?_
                    refine z_if_eq 157 f_203_126 (by decide) (fun c20 => ?_) (fun c20 => ?_)
                    · replace hd := ite_n c20 hd
                      refine aAt.sub [(0, .ref 154), (1, .int a1), (3, .int a3), (4, .int a4), (5, .int a5), (6, .int (a2 / (100 : Int32))), (7, .int (a2 - a2 / (100 : Int32) * (100 : Int32)))] rfl ?_
                      exact t_rM_paper_J157 _ _ _ _ _ _ _  _ hd hQ
                    · replace hd := ite_p c20 hd
                      refine s_aload_n f_203_129 rfl ?_
                      refine s_iload f_203_130 rfl ?_
                      replace hd := obind hd
                      obtain ⟨p35, e35, hd⟩ := hd
                      refine L_virt (As := [.int a5]) f_203_132 ca_12_114 rfl rfl (obL (by decide)) (by decide) (Nat.le_of_ble_eq_true rfl) ?_
                      refine t_rM_isField e35 ?_
                      refine z_if_eq 150 f_203_135 (by decide) (fun c36 => ?_) (fun c36 => ?_)
                      · replace hd := ite_n c36 hd
                        refine aAt.sub [(0, .ref 154)] rfl ?_
                        exact t_rM_paper_J150 _  _ hd hQ
                      · replace hd := ite_p c36 hd
                        refine s_aload_n f_203_138 rfl ?_
                        refine s_iload f_203_139 rfl ?_
                        refine k_iconst (v := 2) f_203_141 (by decide) ?_
                        replace hd := obind hd
                        obtain ⟨p38, e38, hd⟩ := hd
                        refine L_virt (As := [.int a5, .int (2 : Int32)]) f_203_142 ca_12_111 rfl rfl (obL (by decide)) (by decide) (Nat.le_of_ble_eq_true rfl) ?_
                        refine t_rM_ofField e38 ?_
                        refine s_iload f_203_145 rfl ?_
                        refine s_icmp_eq 157 f_203_147 (by decide) (fun c39 => ?_) (fun c39 => ?_)
                        · replace hd := ite_p c39 hd
                          refine aAt.sub [(0, .ref 154), (1, .int a1), (3, .int a3), (4, .int a4), (5, .int a5), (6, .int (a2 / (100 : Int32))), (7, .int (a2 - a2 / (100 : Int32) * (100 : Int32)))] rfl ?_
                          exact t_rM_paper_J157 _ _ _ _ _ _ _  _ hd hQ
                        · replace hd := ite_n c39 hd
                          refine aAt.sub [(0, .ref 154)] rfl ?_
                          exact t_rM_paper_J150 _  _ hd hQ
                  · replace hd := ite_n c18 hd
                    refine aAt.sub [(0, .ref 154)] rfl ?_
                    exact t_rM_paper_J115 _  _ hd hQ
              · replace hd := ite_p c13 hd
                refine s_aload_n f_203_90 rfl ?_
                refine s_ldc f_203_91 ko_12_135 ?_
                replace hd := obind hd
                obtain ⟨p40, e40, hd⟩ := hd
                refine L_virt (As := [.int (-100003 : Int32)]) f_203_93 ca_12_78 rfl rfl (obL (by decide)) (by decide) (Nat.le_of_ble_eq_true rfl) ?_
                refine t_rM_finds e40 ?_
                refine s_ireturn f_203_96 rfl rfl ?_
                cases hd
                exact hQ
            · replace hd := ite_n c12 hd
              refine aAt.sub [(0, .ref 154)] rfl ?_
              exact t_rM_paper_J64 _  _ hd hQ
