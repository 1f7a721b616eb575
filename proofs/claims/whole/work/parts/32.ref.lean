def rM_isPaper (M : SS) (a1 : Int32) : Option (Bool) :=
  (rM_in a1 (0 : Int32) ((M 155 2) - (1 : Int32))).bind fun p1 =>
  some p1
theorem t_rM_isPaper {l : Launch} {G : aG} {d : Nat} {Q : Option Value → aHeap → Prop} {sl : Nat} {sx : Nat → Int32} {S : SS} {K : KS} {T : TS} {X : XS} {M : SS} {a1 : Int32} {p : Bool} (hd : rM_isPaper M a1 = some p) (hQ : Q (some (.int (b2i p))) (LH (old0 sl sx) S K T X M)) : aCall l G (d + 1) 0 0 208 [.ref 154, .int a1] (LH (old0 sl sx) S K T X M) Q := by
  refine aCall.of (by decide) (Nat.le_of_ble_eq_true rfl) ?_
  refine aAt.sub [(0, .ref 154), (1, .int a1)] rfl ?_
  unfold rM_isPaper at hd
  refine s_iload_n f_208_0 rfl ?_
  refine k_iconst (v := 0) f_208_1 (by decide) ?_
  refine s_aload_n f_208_2 rfl ?_
  refine L_getR f_208_3 fd_12_7 (obL (by decide)) (by decide) (by decide : rf 154 0 = 155) ?_
  refine k_iconst (v := 2) f_208_6 (by decide) ?_
  refine M_iaload (q := 2) f_208_7 ⟨by decide, by decide, by decide, fun _ => rfl⟩ (Nat.le_of_ble_eq_true rfl : 10759 < 2 ^ 31) (by decide) (by decide) ?_
  refine k_iconst (v := 1) f_208_8 (by decide) ?_
  refine s_isub f_208_9 ?_
  replace hd := obind hd
  obtain ⟨p1, e1, hd⟩ := hd
  refine L_stat (As := [.int a1, .int (0 : Int32), .int ((M 155 2) - (1 : Int32))]) f_208_10 ca_12_69 rfl rfl (Nat.le_of_ble_eq_true rfl) ?_
  refine t_rM_in e1 ?_
  refine s_iretB (b := p1) f_208_13 rfl ?_
  cases hd
  exact hQ

def rM_isUnder_J46 : Option (Bool) :=
  some true
theorem t_rM_isUnder_J46 {l : Launch} {G : aG} {d : Nat} {Q : Option Value → aHeap → Prop} {sl : Nat} {sx : Nat → Int32} {S : SS} {K : KS} {T : TS} {X : XS} {M : SS} : ∀ (p : Bool), rM_isUnder_J46 = some p → Q (some (.int (b2i p))) (LH (old0 sl sx) S K T X M) → aAt l G d 0 0 209 46 [] [] 0 0 (LH (old0 sl sx) S K T X M) Q := by
  intro p hd hQ
  unfold rM_isUnder_J46 at hd
  refine k_iconst (v := 1) f_209_46 (by decide) ?_
  refine s_goto 51 f_209_47 (by decide) ?_
  refine s_iretB (b := true) f_209_51 rfl ?_
  cases hd
  exact hQ
def rM_isUnder_J36 (a0 : Int32) (a1 : Int32) : Option (Bool) :=
  if a1 = (3 : Int32) then
    if a0 = (4 : Int32) then
      rM_isUnder_J46 
    else
      some false
  else
    some false
theorem t_rM_isUnder_J36 {l : Launch} {G : aG} {d : Nat} {Q : Option Value → aHeap → Prop} {sl : Nat} {sx : Nat → Int32} {S : SS} {K : KS} {T : TS} {X : XS} {M : SS} : ∀ (a0 : Int32) (a1 : Int32) (p : Bool), rM_isUnder_J36 a0 a1 = some p → Q (some (.int (b2i p))) (LH (old0 sl sx) S K T X M) → aAt l G d 0 0 209 36 [(0, .int a0), (1, .int a1)] [] 0 0 (LH (old0 sl sx) S K T X M) Q := by
  intro a0 a1 p hd hQ
  unfold rM_isUnder_J36 at hd
  refine s_iload_n f_209_36 rfl ?_
  refine k_iconst (v := 3) f_209_37 (by decide) ?_
  refine s_icmp_ne 50 f_209_38 (by decide) (fun c5 => ?_) (fun c5 => ?_)
  · replace hd := ite_n c5 hd
    refine k_iconst (v := 0) f_209_50 (by decide) ?_
    refine s_iretB (b := false) f_209_51 rfl ?_
    cases hd
    exact hQ
  · replace hd := ite_p c5 hd
    refine s_iload_n f_209_41 rfl ?_
    refine k_iconst (v := 4) f_209_42 (by decide) ?_
    refine s_icmp_ne 50 f_209_43 (by decide) (fun c6 => ?_) (fun c6 => ?_)
    · replace hd := ite_n c6 hd
      refine k_iconst (v := 0) f_209_50 (by decide) ?_
      refine s_iretB (b := false) f_209_51 rfl ?_
      cases hd
      exact hQ
    · replace hd := ite_p c6 hd
      refine aAt.sub [] rfl ?_
      exact t_rM_isUnder_J46   _ hd hQ
def rM_isUnder_J25 (a0 : Int32) (a1 : Int32) : Option (Bool) :=
  if a1 = (2 : Int32) then
    if a0 = (6 : Int32) then
      rM_isUnder_J46 
    else
      rM_isUnder_J36 a0 a1
  else
    rM_isUnder_J36 a0 a1
theorem t_rM_isUnder_J25 {l : Launch} {G : aG} {d : Nat} {Q : Option Value → aHeap → Prop} {sl : Nat} {sx : Nat → Int32} {S : SS} {K : KS} {T : TS} {X : XS} {M : SS} : ∀ (a0 : Int32) (a1 : Int32) (p : Bool), rM_isUnder_J25 a0 a1 = some p → Q (some (.int (b2i p))) (LH (old0 sl sx) S K T X M) → aAt l G d 0 0 209 25 [(0, .int a0), (1, .int a1)] [] 0 0 (LH (old0 sl sx) S K T X M) Q := by
  intro a0 a1 p hd hQ
  unfold rM_isUnder_J25 at hd
  refine s_iload_n f_209_25 rfl ?_
  refine k_iconst (v := 2) f_209_26 (by decide) ?_
  refine s_icmp_ne 36 f_209_27 (by decide) (fun c4 => ?_) (fun c4 => ?_)
  · replace hd := ite_n c4 hd
    refine aAt.sub [(0, .int a0), (1, .int a1)] rfl ?_
    exact t_rM_isUnder_J36 _ _  _ hd hQ
  · replace hd := ite_p c4 hd
    refine s_iload_n f_209_30 rfl ?_
    refine k_bipush (v := 6) f_209_31 (by decide) ?_
    refine s_icmp_eq 46 f_209_33 (by decide) (fun c7 => ?_) (fun c7 => ?_)
    · replace hd := ite_p c7 hd
      refine aAt.sub [] rfl ?_
      exact t_rM_isUnder_J46   _ hd hQ
    · replace hd := ite_n c7 hd
      refine aAt.sub [(0, .int a0), (1, .int a1)] rfl ?_
      exact t_rM_isUnder_J36 _ _  _ hd hQ
def rM_isUnder (a0 : Int32) (a1 : Int32) : Option (Bool) :=
  if a1 = 0 then
    rM_isUnder_J46 
  else
    if a0 = a1 then
      rM_isUnder_J46 
    else
      if a1 = (1 : Int32) then
        if a0 = (2 : Int32) then
          rM_isUnder_J46 
        else
          if a0 = (6 : Int32) then
            rM_isUnder_J46 
          else
            rM_isUnder_J25 a0 a1
      else
        rM_isUnder_J25 a0 a1
theorem t_rM_isUnder {l : Launch} {G : aG} {d : Nat} {Q : Option Value → aHeap → Prop} {sl : Nat} {sx : Nat → Int32} {S : SS} {K : KS} {T : TS} {X : XS} {M : SS} {a0 : Int32} {a1 : Int32} {p : Bool} (hd : rM_isUnder a0 a1 = some p) (hQ : Q (some (.int (b2i p))) (LH (old0 sl sx) S K T X M)) : aCall l G d 0 0 209 [.int a0, .int a1] (LH (old0 sl sx) S K T X M) Q := by
  refine aCall.of (by decide) (Nat.le_of_ble_eq_true rfl) ?_
  refine aAt.sub [(0, .int a0), (1, .int a1)] rfl ?_
  unfold rM_isUnder at hd
  refine s_iload_n f_209_0 rfl ?_
  refine s_if_eq 46 f_209_1 (by decide) (fun c1 => ?_) (fun c1 => ?_)
  · replace hd := ite_p c1 hd
    refine aAt.sub [] rfl ?_
    exact t_rM_isUnder_J46   _ hd hQ
  · replace hd := ite_n c1 hd
    refine s_iload_n f_209_4 rfl ?_
    refine s_iload_n f_209_5 rfl ?_
    refine s_icmp_eq 46 f_209_6 (by decide) (fun c2 => ?_) (fun c2 => ?_)
    · replace hd := ite_p c2 hd
      refine aAt.sub [] rfl ?_
      exact t_rM_isUnder_J46   _ hd hQ
    · replace hd := ite_n c2 hd
      refine s_iload_n f_209_9 rfl ?_
      refine k_iconst (v := 1) f_209_10 (by decide) ?_
      refine s_icmp_ne 25 f_209_11 (by decide) (fun c3 => ?_) (fun c3 => ?_)
      · replace hd := ite_n c3 hd
        refine aAt.sub [(0, .int a0), (1, .int a1)] rfl ?_
        exact t_rM_isUnder_J25 _ _  _ hd hQ
      · replace hd := ite_p c3 hd
        refine s_iload_n f_209_14 rfl ?_
        refine k_iconst (v := 2) f_209_15 (by decide) ?_
        refine s_icmp_eq 46 f_209_16 (by decide) (fun c8 => ?_) (fun c8 => ?_)
        · replace hd := ite_p c8 hd
          refine aAt.sub [] rfl ?_
          exact t_rM_isUnder_J46   _ hd hQ
        · replace hd := ite_n c8 hd
          refine s_iload_n f_209_19 rfl ?_
          refine k_bipush (v := 6) f_209_20 (by decide) ?_
          refine s_icmp_eq 46 f_209_22 (by decide) (fun c9 => ?_) (fun c9 => ?_)
          · replace hd := ite_p c9 hd
            refine aAt.sub [] rfl ?_
            exact t_rM_isUnder_J46   _ hd hQ
          · replace hd := ite_n c9 hd
            refine aAt.sub [(0, .int a0), (1, .int a1)] rfl ?_
            exact t_rM_isUnder_J25 _ _  _ hd hQ

def rM_as_J18 (M : SS) : Option (Int32 × SS) :=
  (rM_finds M (-100001 : Int32)).bind fun p3 =>
  some (p3.1, p3.2)
theorem t_rM_as_J18 {l : Launch} {G : aG} {d : Nat} {Q : Option Value → aHeap → Prop} {sl : Nat} {sx : Nat → Int32} {S : SS} {K : KS} {T : TS} {X : XS} : ∀ (M : SS) (p : Int32 × SS), rM_as_J18 M = some p → Q (some (.int p.1)) (LH (old0 sl sx) S K T X p.2) → aAt l G (d + 2) 0 0 207 18 [(0, .ref 154)] [] 0 0 (LH (old0 sl sx) S K T X M) Q := by
  intro M p hd hQ
  unfold rM_as_J18 at hd
  refine s_aload_n f_207_18 rfl ?_
  refine s_ldc f_207_19 ko_12_77 ?_
  replace hd := obind hd
  obtain ⟨p3, e3, hd⟩ := hd
  refine L_virt (As := [.int (-100001 : Int32)]) f_207_21 ca_12_78 rfl rfl (obL (by decide)) (by decide) (Nat.le_of_ble_eq_true rfl) ?_
  refine t_rM_finds e3 ?_
  refine s_ireturn f_207_24 rfl rfl ?_
  cases hd
  exact hQ
def rM_as (M : SS) (a1 : Int32) (a2 : Int32) : Option (Int32 × SS) :=
  (rM_isPaper M a1).bind fun p1 =>
  if p1 = true then
    (rM_in a2 (0 : Int32) (6 : Int32)).bind fun p4 =>
    if p4 = true then
      (rM_of M a1 (0 : Int32)).bind fun p6 =>
      (rM_isUnder p6 a2).bind fun p7 =>
      if p7 = true then
        some (a1, M)
      else
        (rM_finds M (-100004 : Int32)).bind fun p9 =>
        some (p9.1, p9.2)
    else
      rM_as_J18 M
  else
    rM_as_J18 M
theorem t_rM_as {l : Launch} {G : aG} {d : Nat} {Q : Option Value → aHeap → Prop} {sl : Nat} {sx : Nat → Int32} {S : SS} {K : KS} {T : TS} {X : XS} {M : SS} {a1 : Int32} {a2 : Int32} {p : Int32 × SS} (hd : rM_as M a1 a2 = some p) (hQ : Q (some (.int p.1)) (LH (old0 sl sx) S K T X p.2)) : aCall l G (d + 2) 0 0 207 [.ref 154, .int a1, .int a2] (LH (old0 sl sx) S K T X M) Q := by
  refine aCall.of (by decide) (Nat.le_of_ble_eq_true rfl) ?_
  refine aAt.sub [(0, .ref 154), (1, .int a1), (2, .int a2)] rfl ?_
  unfold rM_as at hd
  refine s_aload_n f_207_0 rfl ?_
  refine s_iload_n f_207_1 rfl ?_
  replace hd := obind hd
  obtain ⟨p1, e1, hd⟩ := hd
  refine L_virt (As := [.int a1]) f_207_2 ca_12_144 rfl rfl (obL (by decide)) (by decide) (Nat.le_of_ble_eq_true rfl) ?_
  refine t_rM_isPaper e1 ?_
  refine z_if_eq 18 f_207_5 (by decide) (fun c2 => ?_) (fun c2 => ?_)
  · replace hd := ite_n c2 hd
    refine aAt.sub [(0, .ref 154)] rfl ?_
    exact t_rM_as_J18 _  _ hd hQ
  · replace hd := ite_p c2 hd
    refine s_iload_n f_207_8 rfl ?_
    refine k_iconst (v := 0) f_207_9 (by decide) ?_
    refine k_bipush (v := 6) f_207_10 (by decide) ?_
    replace hd := obind hd
    obtain ⟨p4, e4, hd⟩ := hd
    refine L_stat (As := [.int a2, .int (0 : Int32), .int (6 : Int32)]) f_207_12 ca_12_69 rfl rfl (Nat.le_of_ble_eq_true rfl) ?_
    refine t_rM_in e4 ?_
    refine z_if_ne 25 f_207_15 (by decide) (fun c5 => ?_) (fun c5 => ?_)
    · replace hd := ite_p c5 hd
      refine s_aload_n f_207_25 rfl ?_
      refine s_iload_n f_207_26 rfl ?_
      refine k_iconst (v := 0) f_207_27 (by decide) ?_
      replace hd := obind hd
      obtain ⟨p6, e6, hd⟩ := hd
      refine L_virt (As := [.int a1, .int (0 : Int32)]) f_207_28 ca_12_98 rfl rfl (obL (by decide)) (by decide) (Nat.le_of_ble_eq_true rfl) ?_
      refine t_rM_of e6 ?_
      refine s_iload_n f_207_31 rfl ?_
      replace hd := obind hd
      obtain ⟨p7, e7, hd⟩ := hd
      refine L_stat (As := [.int p6, .int a2]) f_207_32 ca_12_147 rfl rfl (Nat.le_of_ble_eq_true rfl) ?_
      refine t_rM_isUnder e7 ?_
      refine z_if_eq 42 f_207_35 (by decide) (fun c8 => ?_) (fun c8 => ?_)
      · replace hd := ite_n c8 hd
        refine s_aload_n f_207_42 rfl ?_
        refine s_ldc f_207_43 ko_12_150 ?_
        replace hd := obind hd
        obtain ⟨p9, e9, hd⟩ := hd
        refine L_virt (As := [.int (-100004 : Int32)]) f_207_45 ca_12_78 rfl rfl (obL (by decide)) (by decide) (Nat.le_of_ble_eq_true rfl) ?_
        refine t_rM_finds e9 ?_
        refine s_ireturn f_207_48 rfl rfl ?_
        cases hd
        exact hQ
      · replace hd := ite_p c8 hd
        refine s_iload_n f_207_38 rfl ?_
        refine s_goto 48 f_207_39 (by decide) ?_
        refine s_ireturn f_207_48 rfl rfl ?_
        cases hd
        exact hQ
    · replace hd := ite_n c5 hd
      refine aAt.sub [(0, .ref 154)] rfl ?_
      exact t_rM_as_J18 _  _ hd hQ

def rM_word_J17 (M : SS) : Option (Int32 × SS) :=
  (rM_finds M (-100001 : Int32)).bind fun p3 =>
  some (p3.1, p3.2)
theorem t_rM_word_J17 {l : Launch} {G : aG} {d : Nat} {Q : Option Value → aHeap → Prop} {sl : Nat} {sx : Nat → Int32} {S : SS} {K : KS} {T : TS} {X : XS} : ∀ (M : SS) (p : Int32 × SS), rM_word_J17 M = some p → Q (some (.int p.1)) (LH (old0 sl sx) S K T X p.2) → aAt l G (d + 2) 0 0 210 17 [(0, .ref 154)] [] 0 0 (LH (old0 sl sx) S K T X M) Q := by
  intro M p hd hQ
  unfold rM_word_J17 at hd
  refine s_aload_n f_210_17 rfl ?_
  refine s_ldc f_210_18 ko_12_77 ?_
  replace hd := obind hd
  obtain ⟨p3, e3, hd⟩ := hd
  refine L_virt (As := [.int (-100001 : Int32)]) f_210_20 ca_12_78 rfl rfl (obL (by decide)) (by decide) (Nat.le_of_ble_eq_true rfl) ?_
  refine t_rM_finds e3 ?_
  refine s_ireturn f_210_23 rfl rfl ?_
  cases hd
  exact hQ
def rM_word (M : SS) (a1 : Int32) (a2 : Int32) : Option (Int32 × SS) :=
  (rM_isPaper M a1).bind fun p1 =>
  if p1 = true then
    (rM_in a2 (0 : Int32) (2 : Int32)).bind fun p4 =>
    if p4 = true then
      (rM_of M a1 (8 : Int32)).bind fun p6 =>
      (rM_writes M a1 (8 : Int32) a2).bind fun p7 =>
      some (p6, p7)
    else
      rM_word_J17 M
  else
    rM_word_J17 M
theorem t_rM_word {l : Launch} {G : aG} {d : Nat} {Q : Option Value → aHeap → Prop} {sl : Nat} {sx : Nat → Int32} {S : SS} {K : KS} {T : TS} {X : XS} {M : SS} {a1 : Int32} {a2 : Int32} {p : Int32 × SS} (hd : rM_word M a1 a2 = some p) (hQ : Q (some (.int p.1)) (LH (old0 sl sx) S K T X p.2)) : aCall l G (d + 2) 0 0 210 [.ref 154, .int a1, .int a2] (LH (old0 sl sx) S K T X M) Q := by
  refine aCall.of (by decide) (Nat.le_of_ble_eq_true rfl) ?_
  refine aAt.sub [(0, .ref 154), (1, .int a1), (2, .int a2)] rfl ?_
  unfold rM_word at hd
  refine s_aload_n f_210_0 rfl ?_
  refine s_iload_n f_210_1 rfl ?_
  replace hd := obind hd
  obtain ⟨p1, e1, hd⟩ := hd
  refine L_virt (As := [.int a1]) f_210_2 ca_12_144 rfl rfl (obL (by decide)) (by decide) (Nat.le_of_ble_eq_true rfl) ?_
  refine t_rM_isPaper e1 ?_
  refine z_if_eq 17 f_210_5 (by decide) (fun c2 => ?_) (fun c2 => ?_)
  · replace hd := ite_n c2 hd
    refine aAt.sub [(0, .ref 154)] rfl ?_
    exact t_rM_word_J17 _  _ hd hQ
  · replace hd := ite_p c2 hd
    refine s_iload_n f_210_8 rfl ?_
    refine k_iconst (v := 0) f_210_9 (by decide) ?_
    refine k_iconst (v := 2) f_210_10 (by decide) ?_
    replace hd := obind hd
    obtain ⟨p4, e4, hd⟩ := hd
    refine L_stat (As := [.int a2, .int (0 : Int32), .int (2 : Int32)]) f_210_11 ca_12_69 rfl rfl (Nat.le_of_ble_eq_true rfl) ?_
    refine t_rM_in e4 ?_
    refine z_if_ne 24 f_210_14 (by decide) (fun c5 => ?_) (fun c5 => ?_)
    · replace hd := ite_p c5 hd
      refine s_aload_n f_210_24 rfl ?_
      refine s_iload_n f_210_25 rfl ?_
      refine k_bipush (v := 8) f_210_26 (by decide) ?_
      replace hd := obind hd
      obtain ⟨p6, e6, hd⟩ := hd
      refine L_virt (As := [.int a1, .int (8 : Int32)]) f_210_28 ca_12_98 rfl rfl (obL (by decide)) (by decide) (Nat.le_of_ble_eq_true rfl) ?_
      refine t_rM_of e6 ?_
      refine s_istore_n f_210_31 (by decide) ?_
      refine s_aload_n f_210_32 rfl ?_
      refine s_iload_n f_210_33 rfl ?_
      refine k_bipush (v := 8) f_210_34 (by decide) ?_
      refine s_iload_n f_210_36 rfl ?_
      replace hd := obind hd
      obtain ⟨p7, e7, hd⟩ := hd
      refine L_virt (As := [.int a1, .int (8 : Int32), .int a2]) f_210_37 ca_12_132 rfl rfl (obL (by decide)) (by decide) (Nat.le_of_ble_eq_true rfl) ?_
      refine t_rM_writes e7 ?_
      refine s_iload_n f_210_40 rfl ?_
      refine s_ireturn f_210_41 rfl rfl ?_
      cases hd
      exact hQ
    · replace hd := ite_n c5 hd
      refine aAt.sub [(0, .ref 154)] rfl ?_
      exact t_rM_word_J17 _  _ hd hQ

def rM_stores_J34 (M : SS) (a1 : Int32) (a2 : Int32) (w0 : Int32) : Option (SS) :=
  (rM_own M a1 (6 : Int32)).bind fun p4 =>
  (rM_makes M a1 (6 : Int32) (p4 + w0)).bind fun p5 =>
  some (up p5 155 6 ((p5 155 6) + (a2 - w0)))
theorem t_rM_stores_J34 {l : Launch} {G : aG} {d : Nat} {Q : Option Value → aHeap → Prop} {sl : Nat} {sx : Nat → Int32} {S : SS} {K : KS} {T : TS} {X : XS} : ∀ (M : SS) (a1 : Int32) (a2 : Int32) (w0 : Int32) (p : SS), rM_stores_J34 M a1 a2 w0 = some p → Q none (LH (old0 sl sx) S K T X p) → aAt l G (d + 2) 0 0 213 34 [(0, .ref 154), (1, .int a1), (2, .int a2)] [.int w0] 0 0 (LH (old0 sl sx) S K T X M) Q := by
  intro M a1 a2 w0 p hd hQ
  unfold rM_stores_J34 at hd
  refine s_istore f_213_34 (by decide) ?_
  refine s_aload_n f_213_36 rfl ?_
  refine s_iload_n f_213_37 rfl ?_
  refine k_bipush (v := 6) f_213_38 (by decide) ?_
  refine s_aload_n f_213_40 rfl ?_
  refine s_iload_n f_213_41 rfl ?_
  refine k_bipush (v := 6) f_213_42 (by decide) ?_
  replace hd := obind hd
  obtain ⟨p4, e4, hd⟩ := hd
  refine L_virt (As := [.int a1, .int (6 : Int32)]) f_213_44 ca_12_73 rfl rfl (obL (by decide)) (by decide) (Nat.le_of_ble_eq_true rfl) ?_
  refine t_rM_own e4 ?_
  refine s_iload f_213_47 rfl ?_
  refine s_iadd f_213_49 ?_
  replace hd := obind hd
  obtain ⟨p5, e5, hd⟩ := hd
  refine L_virt (As := [.int a1, .int (6 : Int32), .int (p4 + w0)]) f_213_50 ca_12_83 rfl rfl (obL (by decide)) (by decide) (Nat.le_of_ble_eq_true rfl) ?_
  refine t_rM_makes e5 ?_
  refine s_aload_n f_213_53 rfl ?_
  refine L_getR f_213_54 fd_12_7 (obL (by decide)) (by decide) (by decide : rf 154 0 = 155) ?_
  refine k_bipush (v := 6) f_213_57 (by decide) ?_
  refine s_dup2 f_213_59 rfl rfl ?_
  refine M_iaload (q := 6) f_213_60 ⟨by decide, by decide, by decide, fun _ => rfl⟩ (Nat.le_of_ble_eq_true rfl : 10759 < 2 ^ 31) (by decide) (by decide) ?_
  refine s_iload_n f_213_61 rfl ?_
  refine s_iload f_213_62 rfl ?_
  refine s_isub f_213_64 ?_
  refine s_iadd f_213_65 ?_
  refine M_iastore (q := 6) f_213_66 ⟨by decide, by decide, by decide, fun _ => rfl⟩ (Nat.le_of_ble_eq_true rfl : 10759 < 2 ^ 31) (by decide) (by decide) ?_
  refine s_return f_213_67 rfl ?_
  cases hd
  exact hQ
def rM_stores_J23 (M : SS) (a1 : Int32) (a2 : Int32) (w0 : Int32) : Option (SS) :=
  if w0 ≤ a2 then
    rM_stores_J34 M a1 a2 w0
  else
    rM_stores_J34 M a1 a2 a2
theorem t_rM_stores_J23 {l : Launch} {G : aG} {d : Nat} {Q : Option Value → aHeap → Prop} {sl : Nat} {sx : Nat → Int32} {S : SS} {K : KS} {T : TS} {X : XS} : ∀ (M : SS) (a1 : Int32) (a2 : Int32) (w0 : Int32) (p : SS), rM_stores_J23 M a1 a2 w0 = some p → Q none (LH (old0 sl sx) S K T X p) → aAt l G (d + 2) 0 0 213 23 [(0, .ref 154), (1, .int a1), (2, .int a2)] [.int w0] 0 0 (LH (old0 sl sx) S K T X M) Q := by
  intro M a1 a2 w0 p hd hQ
  unfold rM_stores_J23 at hd
  refine s_istore_n f_213_23 (by decide) ?_
  refine s_iload_n f_213_24 rfl ?_
  refine s_iload_n f_213_25 rfl ?_
  refine s_icmp_ge 33 f_213_26 (by decide) (fun c3 => ?_) (fun c3 => ?_)
  · replace hd := ite_p c3 hd
    refine s_iload_n f_213_33 rfl ?_
    refine aAt.sub [(0, .ref 154), (1, .int a1), (2, .int a2)] rfl ?_
    exact t_rM_stores_J34 _ _ _ _  _ hd hQ
  · replace hd := ite_n c3 hd
    refine s_iload_n f_213_29 rfl ?_
    refine s_goto 34 f_213_30 (by decide) ?_
    refine aAt.sub [(0, .ref 154), (1, .int a1), (2, .int a2)] rfl ?_
    exact t_rM_stores_J34 _ _ _ _  _ hd hQ
def rM_stores (M : SS) (a1 : Int32) (a2 : Int32) : Option (SS) :=
  (rM_lives0 M a1).bind fun p1 =>
  if p1 = true then
    (rM_own M a1 (6 : Int32)).bind fun p6 =>
    rM_stores_J23 M a1 a2 ((9999 : Int32) - p6)
  else
    rM_stores_J23 M a1 a2 (0 : Int32)
theorem t_rM_stores {l : Launch} {G : aG} {d : Nat} {Q : Option Value → aHeap → Prop} {sl : Nat} {sx : Nat → Int32} {S : SS} {K : KS} {T : TS} {X : XS} {M : SS} {a1 : Int32} {a2 : Int32} {p : SS} (hd : rM_stores M a1 a2 = some p) (hQ : Q none (LH (old0 sl sx) S K T X p)) : aCall l G (d + 2) 0 0 213 [.ref 154, .int a1, .int a2] (LH (old0 sl sx) S K T X M) Q := by
  refine aCall.of (by decide) (Nat.le_of_ble_eq_true rfl) ?_
  refine aAt.sub [(0, .ref 154), (1, .int a1), (2, .int a2)] rfl ?_
  unfold rM_stores at hd
  refine s_aload_n f_213_0 rfl ?_
  refine s_iload_n f_213_1 rfl ?_
  replace hd := obind hd
  obtain ⟨p1, e1, hd⟩ := hd
  refine L_virt (As := [.int a1]) f_213_2 ca_12_91 rfl rfl (obL (by decide)) (by decide) (Nat.le_of_ble_eq_true rfl) ?_
  refine t_rM_lives0 e1 ?_
  refine z_if_eq 22 f_213_5 (by decide) (fun c2 => ?_) (fun c2 => ?_)
  · replace hd := ite_n c2 hd
    refine k_iconst (v := 0) f_213_22 (by decide) ?_
    refine aAt.sub [(0, .ref 154), (1, .int a1), (2, .int a2)] rfl ?_
    exact t_rM_stores_J23 _ _ _ _  _ hd hQ
  · replace hd := ite_p c2 hd
    refine k_sipush (v := 9999) f_213_8 (by decide) ?_
    refine s_aload_n f_213_11 rfl ?_
    refine s_iload_n f_213_12 rfl ?_
    refine k_bipush (v := 6) f_213_13 (by decide) ?_
    replace hd := obind hd
    obtain ⟨p6, e6, hd⟩ := hd
    refine L_virt (As := [.int a1, .int (6 : Int32)]) f_213_15 ca_12_73 rfl rfl (obL (by decide)) (by decide) (Nat.le_of_ble_eq_true rfl) ?_
    refine t_rM_own e6 ?_
    refine s_isub f_213_18 ?_
    refine s_goto 23 f_213_19 (by decide) ?_
    refine aAt.sub [(0, .ref 154), (1, .int a1), (2, .int a2)] rfl ?_
    exact t_rM_stores_J23 _ _ _ _  _ hd hQ

def rM_closes_J65 (M : SS) (a1 : Int32) (a3 : Int32) : Option (SS) :=
  (rM_ofField M a3 (2 : Int32)).bind fun p8 =>
  (rM_of M a1 (2 : Int32)).bind fun p9 =>
  if p8 = p9 then
    (rM_of M a1 (1 : Int32)).bind fun p11 =>
    if inb (((150 : Int32) + ((4 : Int32) * a3)) + (2 : Int32)) 10759 then
      some (up M 155 (ix (((150 : Int32) + ((4 : Int32) * a3)) + (2 : Int32))) p11)
    else none
  else
    some M
theorem t_rM_closes_J65 {l : Launch} {G : aG} {d : Nat} {Q : Option Value → aHeap → Prop} {sl : Nat} {sx : Nat → Int32} {S : SS} {K : KS} {T : TS} {X : XS} : ∀ (M : SS) (a1 : Int32) (a3 : Int32) (p : SS), rM_closes_J65 M a1 a3 = some p → Q none (LH (old0 sl sx) S K T X p) → aAt l G (d + 1) 0 0 214 65 [(0, .ref 154), (1, .int a1), (3, .int a3)] [] 0 0 (LH (old0 sl sx) S K T X M) Q := by
  intro M a1 a3 p hd hQ
  unfold rM_closes_J65 at hd
  refine s_aload_n f_214_65 rfl ?_
  refine s_iload_n f_214_66 rfl ?_
  refine k_iconst (v := 2) f_214_67 (by decide) ?_
  replace hd := obind hd
  obtain ⟨p8, e8, hd⟩ := hd
  refine L_virt (As := [.int a3, .int (2 : Int32)]) f_214_68 ca_12_111 rfl rfl (obL (by decide)) (by decide) (Nat.le_of_ble_eq_true rfl) ?_
  refine t_rM_ofField e8 ?_
  refine s_aload_n f_214_71 rfl ?_
  refine s_iload_n f_214_72 rfl ?_
  refine k_iconst (v := 2) f_214_73 (by decide) ?_
  replace hd := obind hd
  obtain ⟨p9, e9, hd⟩ := hd
  refine L_virt (As := [.int a1, .int (2 : Int32)]) f_214_74 ca_12_98 rfl rfl (obL (by decide)) (by decide) (Nat.le_of_ble_eq_true rfl) ?_
  refine t_rM_of e9 ?_
  refine s_icmp_ne 100 f_214_77 (by decide) (fun c10 => ?_) (fun c10 => ?_)
  · replace hd := ite_n c10 hd
    refine s_return f_214_100 rfl ?_
    cases hd
    exact hQ
  · replace hd := ite_p c10 hd
    refine s_aload_n f_214_80 rfl ?_
    refine L_getR f_214_81 fd_12_7 (obL (by decide)) (by decide) (by decide : rf 154 0 = 155) ?_
    refine k_sipush (v := 150) f_214_84 (by decide) ?_
    refine k_iconst (v := 4) f_214_87 (by decide) ?_
    refine s_iload_n f_214_88 rfl ?_
    refine s_imul f_214_89 ?_
    refine s_iadd f_214_90 ?_
    refine k_iconst (v := 2) f_214_91 (by decide) ?_
    refine s_iadd f_214_92 ?_
    refine s_aload_n f_214_93 rfl ?_
    refine s_iload_n f_214_94 rfl ?_
    refine k_iconst (v := 1) f_214_95 (by decide) ?_
    replace hd := obind hd
    obtain ⟨p11, e11, hd⟩ := hd
    refine L_virt (As := [.int a1, .int (1 : Int32)]) f_214_96 ca_12_98 rfl rfl (obL (by decide)) (by decide) (Nat.le_of_ble_eq_true rfl) ?_
    refine t_rM_of e11 ?_
    replace hd := gd hd
    obtain ⟨g12, hd⟩ := hd
    refine M_iastore (q := (ix (((150 : Int32) + ((4 : Int32) * a3)) + (2 : Int32)))) f_214_99 ⟨by decide, by decide, by decide, fun _ => rfl⟩ (Nat.le_of_ble_eq_true rfl : 10759 < 2 ^ 31) rfl g12 ?_
    refine s_return f_214_100 rfl ?_
    cases hd
    exact hQ
def rM_closes_J40 (M : SS) (a1 : Int32) (a2 : Int32) (a3 : Int32) : Option (SS) :=
  if a2 = (1 : Int32) then
    (rM_of M a1 (0 : Int32)).bind fun p6 =>
    if p6 = (3 : Int32) then
      rM_closes_J65 M a1 a3
    else
      (rM_of M a1 (0 : Int32)).bind fun p13 =>
      if p13 = (4 : Int32) then
        rM_closes_J65 M a1 a3
      else
        some M
  else
    some M
theorem t_rM_closes_J40 {l : Launch} {G : aG} {d : Nat} {Q : Option Value → aHeap → Prop} {sl : Nat} {sx : Nat → Int32} {S : SS} {K : KS} {T : TS} {X : XS} : ∀ (M : SS) (a1 : Int32) (a2 : Int32) (a3 : Int32) (p : SS), rM_closes_J40 M a1 a2 a3 = some p → Q none (LH (old0 sl sx) S K T X p) → aAt l G (d + 1) 0 0 214 40 [(0, .ref 154), (1, .int a1), (2, .int a2), (3, .int a3)] [] 0 0 (LH (old0 sl sx) S K T X M) Q := by
  intro M a1 a2 a3 p hd hQ
  unfold rM_closes_J40 at hd
  refine s_iload_n f_214_40 rfl ?_
  refine k_iconst (v := 1) f_214_41 (by decide) ?_
  refine s_icmp_ne 100 f_214_42 (by decide) (fun c5 => ?_) (fun c5 => ?_)
  · replace hd := ite_n c5 hd
    refine s_return f_214_100 rfl ?_
    cases hd
    exact hQ
  · replace hd := ite_p c5 hd
    refine s_aload_n f_214_45 rfl ?_
    refine s_iload_n f_214_46 rfl ?_
    refine k_iconst (v := 0) f_214_47 (by decide) ?_
    replace hd := obind hd
    obtain ⟨p6, e6, hd⟩ := hd
    refine L_virt (As := [.int a1, .int (0 : Int32)]) f_214_48 ca_12_98 rfl rfl (obL (by decide)) (by decide) (Nat.le_of_ble_eq_true rfl) ?_
    refine t_rM_of e6 ?_
    refine k_iconst (v := 3) f_214_51 (by decide) ?_
    refine s_icmp_eq 65 f_214_52 (by decide) (fun c7 => ?_) (fun c7 => ?_)
    · replace hd := ite_p c7 hd
      refine aAt.sub [(0, .ref 154), (1, .int a1), (3, .int a3)] rfl ?_
      exact t_rM_closes_J65 _ _ _  _ hd hQ
    · replace hd := ite_n c7 hd
      refine s_aload_n f_214_55 rfl ?_
      refine s_iload_n f_214_56 rfl ?_
      refine k_iconst (v := 0) f_214_57 (by decide) ?_
      replace hd := obind hd
      obtain ⟨p13, e13, hd⟩ := hd
      refine L_virt (As := [.int a1, .int (0 : Int32)]) f_214_58 ca_12_98 rfl rfl (obL (by decide)) (by decide) (Nat.le_of_ble_eq_true rfl) ?_
      refine t_rM_of e13 ?_
      refine k_iconst (v := 4) f_214_61 (by decide) ?_
      refine s_icmp_ne 100 f_214_62 (by decide) (fun c14 => ?_) (fun c14 => ?_)
      · replace hd := ite_n c14 hd
        refine s_return f_214_100 rfl ?_
        cases hd
        exact hQ
      · replace hd := ite_p c14 hd
        refine aAt.sub [(0, .ref 154), (1, .int a1), (3, .int a3)] rfl ?_
        exact t_rM_closes_J65 _ _ _  _ hd hQ
def rM_closes (M : SS) (a1 : Int32) (a2 : Int32) : Option (SS) :=
  (rM_of M a1 (7 : Int32)).bind fun p1 =>
  (rM_writes M a1 (9 : Int32) a2).bind fun p2 =>
  (rM_of p2 a1 (0 : Int32)).bind fun p3 =>
  if p3 = (6 : Int32) then
    (rM_of p2 a1 (1 : Int32)).bind fun p15 =>
    (rM_makes p2 p15 (8 : Int32) (-1 : Int32)).bind fun p16 =>
    rM_closes_J40 p16 a1 a2 p1
  else
    rM_closes_J40 p2 a1 a2 p1
theorem t_rM_closes {l : Launch} {G : aG} {d : Nat} {Q : Option Value → aHeap → Prop} {sl : Nat} {sx : Nat → Int32} {S : SS} {K : KS} {T : TS} {X : XS} {M : SS} {a1 : Int32} {a2 : Int32} {p : SS} (hd : rM_closes M a1 a2 = some p) (hQ : Q none (LH (old0 sl sx) S K T X p)) : aCall l G (d + 1) 0 0 214 [.ref 154, .int a1, .int a2] (LH (old0 sl sx) S K T X M) Q := by
  refine aCall.of (by decide) (Nat.le_of_ble_eq_true rfl) ?_
  refine aAt.sub [(0, .ref 154), (1, .int a1), (2, .int a2)] rfl ?_
  unfold rM_closes at hd
  refine s_aload_n f_214_0 rfl ?_
  refine s_iload_n f_214_1 rfl ?_
  refine k_bipush (v := 7) f_214_2 (by decide) ?_
  replace hd := obind hd
  obtain ⟨p1, e1, hd⟩ := hd
  refine L_virt (As := [.int a1, .int (7 : Int32)]) f_214_4 ca_12_98 rfl rfl (obL (by decide)) (by decide) (Nat.le_of_ble_eq_true rfl) ?_
  refine t_rM_of e1 ?_
  refine s_istore_n f_214_7 (by decide) ?_
  refine s_aload_n f_214_8 rfl ?_
  refine s_iload_n f_214_9 rfl ?_
  refine k_bipush (v := 9) f_214_10 (by decide) ?_
  refine s_iload_n f_214_12 rfl ?_
  replace hd := obind hd
  obtain ⟨p2, e2, hd⟩ := hd
  refine L_virt (As := [.int a1, .int (9 : Int32), .int a2]) f_214_13 ca_12_132 rfl rfl (obL (by decide)) (by decide) (Nat.le_of_ble_eq_true rfl) ?_
  refine t_rM_writes e2 ?_
  refine s_aload_n f_214_16 rfl ?_
  refine s_iload_n f_214_17 rfl ?_
  refine k_iconst (v := 0) f_214_18 (by decide) ?_
  replace hd := obind hd
  obtain ⟨p3, e3, hd⟩ := hd
  refine L_virt (As := [.int a1, .int (0 : Int32)]) f_214_19 ca_12_98 rfl rfl (obL (by decide)) (by decide) (Nat.le_of_ble_eq_true rfl) ?_
  refine t_rM_of e3 ?_
  refine k_bipush (v := 6) f_214_22 (by decide) ?_
  refine s_icmp_ne 40 f_214_24 (by decide) (fun c4 => ?_) (fun c4 => ?_)
  · replace hd := ite_n c4 hd
    refine aAt.sub [(0, .ref 154), (1, .int a1), (2, .int a2), (3, .int p1)] rfl ?_
    exact t_rM_closes_J40 _ _ _ _  _ hd hQ
  · replace hd := ite_p c4 hd
    refine s_aload_n f_214_27 rfl ?_
    refine s_aload_n f_214_28 rfl ?_
    refine s_iload_n f_214_29 rfl ?_
    refine k_iconst (v := 1) f_214_30 (by decide) ?_
    replace hd := obind hd
    obtain ⟨p15, e15, hd⟩ := hd
    refine L_virt (As := [.int a1, .int (1 : Int32)]) f_214_31 ca_12_98 rfl rfl (obL (by decide)) (by decide) (Nat.le_of_ble_eq_true rfl) ?_
    refine t_rM_of e15 ?_
    refine k_bipush (v := 8) f_214_34 (by decide) ?_
    refine k_iconst (v := (-1)) f_214_36 (by decide) ?_
    replace hd := obind hd
    obtain ⟨p16, e16, hd⟩ := hd
    refine L_virt (As := [.int p15, .int (8 : Int32), .int (-1 : Int32)]) f_214_37 ca_12_83 rfl rfl (obL (by decide)) (by decide) (Nat.le_of_ble_eq_true rfl) ?_
    refine t_rM_makes e16 ?_
    refine aAt.sub [(0, .ref 154), (1, .int a1), (2, .int a2), (3, .int p1)] rfl ?_
    exact t_rM_closes_J40 _ _ _ _  _ hd hQ

def rM_pays0 (M : SS) (a1 : Int32) (a2 : Int32) : Option (SS) :=
  (rM_of M a1 (1 : Int32)).bind fun p1 =>
  (rM_of M a1 (1 : Int32)).bind fun p2 =>
  (rM_own M p2 (6 : Int32)).bind fun p3 =>
  (rM_makes M p1 (6 : Int32) (p3 - a2)).bind fun p4 =>
  (rM_of p4 a1 (2 : Int32)).bind fun p5 =>
  (rM_stores p4 p5 a2).bind fun p6 =>
  (rM_of p6 a1 (4 : Int32)).bind fun p7 =>
  (rM_writes p6 a1 (4 : Int32) (p7 + a2)).bind fun p8 =>
  (rM_owed p8 a1).bind fun p9 =>
  if p9 = 0 then
    (rM_closes p8 a1 (1 : Int32)).bind fun p11 =>
    some p11
  else
    some p8
theorem t_rM_pays0 {l : Launch} {G : aG} {d : Nat} {Q : Option Value → aHeap → Prop} {sl : Nat} {sx : Nat → Int32} {S : SS} {K : KS} {T : TS} {X : XS} {M : SS} {a1 : Int32} {a2 : Int32} {p : SS} (hd : rM_pays0 M a1 a2 = some p) (hQ : Q none (LH (old0 sl sx) S K T X p)) : aCall l G (d + 3) 0 0 212 [.ref 154, .int a1, .int a2] (LH (old0 sl sx) S K T X M) Q := by
  refine aCall.of (by decide) (Nat.le_of_ble_eq_true rfl) ?_
  refine aAt.sub [(0, .ref 154), (1, .int a1), (2, .int a2)] rfl ?_
  unfold rM_pays0 at hd
  refine s_aload_n f_212_0 rfl ?_
  refine s_aload_n f_212_1 rfl ?_
  refine s_iload_n f_212_2 rfl ?_
  refine k_iconst (v := 1) f_212_3 (by decide) ?_
  replace hd := obind hd
  obtain ⟨p1, e1, hd⟩ := hd
  refine L_virt (As := [.int a1, .int (1 : Int32)]) f_212_4 ca_12_98 rfl rfl (obL (by decide)) (by decide) (Nat.le_of_ble_eq_true rfl) ?_
  refine t_rM_of e1 ?_
  refine k_bipush (v := 6) f_212_7 (by decide) ?_
  refine s_aload_n f_212_9 rfl ?_
  refine s_aload_n f_212_10 rfl ?_
  refine s_iload_n f_212_11 rfl ?_
  refine k_iconst (v := 1) f_212_12 (by decide) ?_
  replace hd := obind hd
  obtain ⟨p2, e2, hd⟩ := hd
  refine L_virt (As := [.int a1, .int (1 : Int32)]) f_212_13 ca_12_98 rfl rfl (obL (by decide)) (by decide) (Nat.le_of_ble_eq_true rfl) ?_
  refine t_rM_of e2 ?_
  refine k_bipush (v := 6) f_212_16 (by decide) ?_
  replace hd := obind hd
  obtain ⟨p3, e3, hd⟩ := hd
  refine L_virt (As := [.int p2, .int (6 : Int32)]) f_212_18 ca_12_73 rfl rfl (obL (by decide)) (by decide) (Nat.le_of_ble_eq_true rfl) ?_
  refine t_rM_own e3 ?_
  refine s_iload_n f_212_21 rfl ?_
  refine s_isub f_212_22 ?_
  replace hd := obind hd
  obtain ⟨p4, e4, hd⟩ := hd
  refine L_virt (As := [.int p1, .int (6 : Int32), .int (p3 - a2)]) f_212_23 ca_12_83 rfl rfl (obL (by decide)) (by decide) (Nat.le_of_ble_eq_true rfl) ?_
  refine t_rM_makes e4 ?_
  refine s_aload_n f_212_26 rfl ?_
  refine s_aload_n f_212_27 rfl ?_
  refine s_iload_n f_212_28 rfl ?_
  refine k_iconst (v := 2) f_212_29 (by decide) ?_
  replace hd := obind hd
  obtain ⟨p5, e5, hd⟩ := hd
  refine L_virt (As := [.int a1, .int (2 : Int32)]) f_212_30 ca_12_98 rfl rfl (obL (by decide)) (by decide) (Nat.le_of_ble_eq_true rfl) ?_
  refine t_rM_of e5 ?_
  refine s_iload_n f_212_33 rfl ?_
  replace hd := obind hd
  obtain ⟨p6, e6, hd⟩ := hd
  refine L_virt (As := [.int p5, .int a2]) f_212_34 ca_12_151 rfl rfl (obL (by decide)) (by decide) (Nat.le_of_ble_eq_true rfl) ?_
  refine t_rM_stores e6 ?_
  refine s_aload_n f_212_37 rfl ?_
  refine s_iload_n f_212_38 rfl ?_
  refine k_iconst (v := 4) f_212_39 (by decide) ?_
  refine s_aload_n f_212_40 rfl ?_
  refine s_iload_n f_212_41 rfl ?_
  refine k_iconst (v := 4) f_212_42 (by decide) ?_
  replace hd := obind hd
  obtain ⟨p7, e7, hd⟩ := hd
  refine L_virt (As := [.int a1, .int (4 : Int32)]) f_212_43 ca_12_98 rfl rfl (obL (by decide)) (by decide) (Nat.le_of_ble_eq_true rfl) ?_
  refine t_rM_of e7 ?_
  refine s_iload_n f_212_46 rfl ?_
  refine s_iadd f_212_47 ?_
  replace hd := obind hd
  obtain ⟨p8, e8, hd⟩ := hd
  refine L_virt (As := [.int a1, .int (4 : Int32), .int (p7 + a2)]) f_212_48 ca_12_132 rfl rfl (obL (by decide)) (by decide) (Nat.le_of_ble_eq_true rfl) ?_
  refine t_rM_writes e8 ?_
  refine s_aload_n f_212_51 rfl ?_
  refine s_iload_n f_212_52 rfl ?_
  replace hd := obind hd
  obtain ⟨p9, e9, hd⟩ := hd
  refine L_virt (As := [.int a1]) f_212_53 ca_12_101 rfl rfl (obL (by decide)) (by decide) (Nat.le_of_ble_eq_true rfl) ?_
  refine t_rM_owed e9 ?_
  refine s_if_ne 65 f_212_56 (by decide) (fun c10 => ?_) (fun c10 => ?_)
  · replace hd := ite_n c10 hd
    refine s_return f_212_65 rfl ?_
    cases hd
    exact hQ
  · replace hd := ite_p c10 hd
    refine s_aload_n f_212_59 rfl ?_
    refine s_iload_n f_212_60 rfl ?_
    refine k_iconst (v := 1) f_212_61 (by decide) ?_
    replace hd := obind hd
    obtain ⟨p11, e11, hd⟩ := hd
    refine L_virt (As := [.int a1, .int (1 : Int32)]) f_212_62 ca_12_155 rfl rfl (obL (by decide)) (by decide) (Nat.le_of_ble_eq_true rfl) ?_
    refine t_rM_closes e11 ?_
    refine s_return f_212_65 rfl ?_
    cases hd
    exact hQ

def rM_pay_J19 (M : SS) : Option (Int32 × SS) :=
  (rM_finds M (-100001 : Int32)).bind fun p3 =>
  some (p3.1, p3.2)
theorem t_rM_pay_J19 {l : Launch} {G : aG} {d : Nat} {Q : Option Value → aHeap → Prop} {sl : Nat} {sx : Nat → Int32} {S : SS} {K : KS} {T : TS} {X : XS} : ∀ (M : SS) (p : Int32 × SS), rM_pay_J19 M = some p → Q (some (.int p.1)) (LH (old0 sl sx) S K T X p.2) → aAt l G (d + 4) 0 0 211 19 [(0, .ref 154)] [] 0 0 (LH (old0 sl sx) S K T X M) Q := by
  intro M p hd hQ
  unfold rM_pay_J19 at hd
  refine s_aload_n f_211_19 rfl ?_
  refine s_ldc f_211_20 ko_12_77 ?_
  replace hd := obind hd
  obtain ⟨p3, e3, hd⟩ := hd
  refine L_virt (As := [.int (-100001 : Int32)]) f_211_22 ca_12_78 rfl rfl (obL (by decide)) (by decide) (Nat.le_of_ble_eq_true rfl) ?_
  refine t_rM_finds e3 ?_
  refine s_ireturn f_211_25 rfl rfl ?_
  cases hd
  exact hQ
def rM_pay (M : SS) (a1 : Int32) (a2 : Int32) : Option (Int32 × SS) :=
  (rM_isPaper M a1).bind fun p1 =>
  if p1 = true then
    (rM_in a2 (1 : Int32) (9999 : Int32)).bind fun p4 =>
    if p4 = true then
      (rM_isOpen M a1).bind fun p6 =>
      if p6 = true then
        (rM_owed M a1).bind fun p8 =>
        if a2 ≤ p8 then
          (rM_of M a1 (1 : Int32)).bind fun p10 =>
          (rM_own M p10 (6 : Int32)).bind fun p11 =>
          if a2 ≤ p11 then
            (rM_pays0 M a1 a2).bind fun p13 =>
            (rM_owed p13 a1).bind fun p14 =>
            some (p14, p13)
          else
            (rM_finds M (-100002 : Int32)).bind fun p15 =>
            some (p15.1, p15.2)
        else
          (rM_finds M (-100003 : Int32)).bind fun p16 =>
          some (p16.1, p16.2)
      else
        (rM_finds M (-100006 : Int32)).bind fun p17 =>
        some (p17.1, p17.2)
    else
      rM_pay_J19 M
  else
    rM_pay_J19 M
theorem t_rM_pay {l : Launch} {G : aG} {d : Nat} {Q : Option Value → aHeap → Prop} {sl : Nat} {sx : Nat → Int32} {S : SS} {K : KS} {T : TS} {X : XS} {M : SS} {a1 : Int32} {a2 : Int32} {p : Int32 × SS} (hd : rM_pay M a1 a2 = some p) (hQ : Q (some (.int p.1)) (LH (old0 sl sx) S K T X p.2)) : aCall l G (d + 4) 0 0 211 [.ref 154, .int a1, .int a2] (LH (old0 sl sx) S K T X M) Q := by
  refine aCall.of (by decide) (Nat.le_of_ble_eq_true rfl) ?_
  refine aAt.sub [(0, .ref 154), (1, .int a1), (2, .int a2)] rfl ?_
  unfold rM_pay at hd
  refine s_aload_n f_211_0 rfl ?_
  refine s_iload_n f_211_1 rfl ?_
  replace hd := obind hd
  obtain ⟨p1, e1, hd⟩ := hd
  refine L_virt (As := [.int a1]) f_211_2 ca_12_144 rfl rfl (obL (by decide)) (by decide) (Nat.le_of_ble_eq_true rfl) ?_
  refine t_rM_isPaper e1 ?_
  refine z_if_eq 19 f_211_5 (by decide) (fun c2 => ?_) (fun c2 => ?_)
  · replace hd := ite_n c2 hd
    refine aAt.sub [(0, .ref 154)] rfl ?_
    exact t_rM_pay_J19 _  _ hd hQ
  · replace hd := ite_p c2 hd
    refine s_iload_n f_211_8 rfl ?_
    refine k_iconst (v := 1) f_211_9 (by decide) ?_
    refine k_sipush (v := 9999) f_211_10 (by decide) ?_
    replace hd := obind hd
    obtain ⟨p4, e4, hd⟩ := hd
    refine L_stat (As := [.int a2, .int (1 : Int32), .int (9999 : Int32)]) f_211_13 ca_12_69 rfl rfl (Nat.le_of_ble_eq_true rfl) ?_
    refine t_rM_in e4 ?_
    refine z_if_ne 26 f_211_16 (by decide) (fun c5 => ?_) (fun c5 => ?_)
    · replace hd := ite_p c5 hd
      refine s_aload_n f_211_26 rfl ?_
      refine s_iload_n f_211_27 rfl ?_
      replace hd := obind hd
      obtain ⟨p6, e6, hd⟩ := hd
      refine L_virt (As := [.int a1]) f_211_28 ca_12_95 rfl rfl (obL (by decide)) (by decide) (Nat.le_of_ble_eq_true rfl) ?_
      refine t_rM_isOpen e6 ?_
      refine z_if_ne 41 f_211_31 (by decide) (fun c7 => ?_) (fun c7 => ?_)
      · replace hd := ite_p c7 hd
        refine s_iload_n f_211_41 rfl ?_
        refine s_aload_n f_211_42 rfl ?_
        refine s_iload_n f_211_43 rfl ?_
        replace hd := obind hd
        obtain ⟨p8, e8, hd⟩ := hd
        refine L_virt (As := [.int a1]) f_211_44 ca_12_101 rfl rfl (obL (by decide)) (by decide) (Nat.le_of_ble_eq_true rfl) ?_
        refine t_rM_owed e8 ?_
        refine s_icmp_le 57 f_211_47 (by decide) (fun c9 => ?_) (fun c9 => ?_)
        · replace hd := ite_p c9 hd
          refine s_aload_n f_211_57 rfl ?_
          refine s_aload_n f_211_58 rfl ?_
          refine s_iload_n f_211_59 rfl ?_
          refine k_iconst (v := 1) f_211_60 (by decide) ?_
          replace hd := obind hd
          obtain ⟨p10, e10, hd⟩ := hd
          refine L_virt (As := [.int a1, .int (1 : Int32)]) f_211_61 ca_12_98 rfl rfl (obL (by decide)) (by decide) (Nat.le_of_ble_eq_true rfl) ?_
          refine t_rM_of e10 ?_
          refine k_bipush (v := 6) f_211_64 (by decide) ?_
          replace hd := obind hd
          obtain ⟨p11, e11, hd⟩ := hd
          refine L_virt (As := [.int p10, .int (6 : Int32)]) f_211_66 ca_12_73 rfl rfl (obL (by decide)) (by decide) (Nat.le_of_ble_eq_true rfl) ?_
          refine t_rM_own e11 ?_
          refine s_iload_n f_211_69 rfl ?_
          refine s_icmp_ge 80 f_211_70 (by decide) (fun c12 => ?_) (fun c12 => ?_)
          · replace hd := ite_p c12 hd
            refine s_aload_n f_211_80 rfl ?_
            refine s_iload_n f_211_81 rfl ?_
            refine s_iload_n f_211_82 rfl ?_
            replace hd := obind hd
            obtain ⟨p13, e13, hd⟩ := hd
            refine L_virt (As := [.int a1, .int a2]) f_211_83 ca_12_158 rfl rfl (obL (by decide)) (by decide) (Nat.le_of_ble_eq_true rfl) ?_
            refine t_rM_pays0 e13 ?_
            refine s_aload_n f_211_86 rfl ?_
            refine s_iload_n f_211_87 rfl ?_
            replace hd := obind hd
            obtain ⟨p14, e14, hd⟩ := hd
            refine L_virt (As := [.int a1]) f_211_88 ca_12_101 rfl rfl (obL (by decide)) (by decide) (Nat.le_of_ble_eq_true rfl) ?_
            refine t_rM_owed e14 ?_
            refine s_ireturn f_211_91 rfl rfl ?_
            cases hd
            exact hQ
          · replace hd := ite_n c12 hd
            refine s_aload_n f_211_73 rfl ?_
            refine s_ldc f_211_74 ko_12_139 ?_
            replace hd := obind hd
            obtain ⟨p15, e15, hd⟩ := hd
            refine L_virt (As := [.int (-100002 : Int32)]) f_211_76 ca_12_78 rfl rfl (obL (by decide)) (by decide) (Nat.le_of_ble_eq_true rfl) ?_
            refine t_rM_finds e15 ?_
            refine s_ireturn f_211_79 rfl rfl ?_
            cases hd
            exact hQ
        · replace hd := ite_n c9 hd
          refine s_aload_n f_211_50 rfl ?_
          refine s_ldc f_211_51 ko_12_135 ?_
          replace hd := obind hd
          obtain ⟨p16, e16, hd⟩ := hd
          refine L_virt (As := [.int (-100003 : Int32)]) f_211_53 ca_12_78 rfl rfl (obL (by decide)) (by decide) (Nat.le_of_ble_eq_true rfl) ?_
          refine t_rM_finds e16 ?_
          refine s_ireturn f_211_56 rfl rfl ?_
          cases hd
          exact hQ
      · replace hd := ite_n c7 hd
        refine s_aload_n f_211_34 rfl ?_
        refine s_ldc f_211_35 ko_12_131 ?_
        replace hd := obind hd
        obtain ⟨p17, e17, hd⟩ := hd
        refine L_virt (As := [.int (-100006 : Int32)]) f_211_37 ca_12_78 rfl rfl (obL (by decide)) (by decide) (Nat.le_of_ble_eq_true rfl) ?_
        refine t_rM_finds e17 ?_
        refine s_ireturn f_211_40 rfl rfl ?_
        cases hd
        exact hQ
    · replace hd := ite_n c5 hd
      refine aAt.sub [(0, .ref 154)] rfl ?_
      exact t_rM_pay_J19 _  _ hd hQ

def rM_annul (M : SS) (a1 : Int32) : Option (Int32 × SS) :=
  (rM_isPaper M a1).bind fun p1 =>
  if p1 = true then
    (rM_isOpen M a1).bind fun p3 =>
    if p3 = true then
      (rM_closes M a1 (3 : Int32)).bind fun p5 =>
      (rM_owed p5 a1).bind fun p6 =>
      some (p6, p5)
    else
      (rM_finds M (-100006 : Int32)).bind fun p7 =>
      some (p7.1, p7.2)
  else
    (rM_finds M (-100001 : Int32)).bind fun p8 =>
    some (p8.1, p8.2)
theorem t_rM_annul {l : Launch} {G : aG} {d : Nat} {Q : Option Value → aHeap → Prop} {sl : Nat} {sx : Nat → Int32} {S : SS} {K : KS} {T : TS} {X : XS} {M : SS} {a1 : Int32} {p : Int32 × SS} (hd : rM_annul M a1 = some p) (hQ : Q (some (.int p.1)) (LH (old0 sl sx) S K T X p.2)) : aCall l G (d + 2) 0 0 215 [.ref 154, .int a1] (LH (old0 sl sx) S K T X M) Q := by
  refine aCall.of (by decide) (Nat.le_of_ble_eq_true rfl) ?_
  refine aAt.sub [(0, .ref 154), (1, .int a1)] rfl ?_
  unfold rM_annul at hd
  refine s_aload_n f_215_0 rfl ?_
  refine s_iload_n f_215_1 rfl ?_
  replace hd := obind hd
  obtain ⟨p1, e1, hd⟩ := hd
  refine L_virt (As := [.int a1]) f_215_2 ca_12_144 rfl rfl (obL (by decide)) (by decide) (Nat.le_of_ble_eq_true rfl) ?_
  refine t_rM_isPaper e1 ?_
  refine z_if_ne 15 f_215_5 (by decide) (fun c2 => ?_) (fun c2 => ?_)
  · replace hd := ite_p c2 hd
    refine s_aload_n f_215_15 rfl ?_
    refine s_iload_n f_215_16 rfl ?_
    replace hd := obind hd
    obtain ⟨p3, e3, hd⟩ := hd
    refine L_virt (As := [.int a1]) f_215_17 ca_12_95 rfl rfl (obL (by decide)) (by decide) (Nat.le_of_ble_eq_true rfl) ?_
    refine t_rM_isOpen e3 ?_
    refine z_if_ne 30 f_215_20 (by decide) (fun c4 => ?_) (fun c4 => ?_)
    · replace hd := ite_p c4 hd
      refine s_aload_n f_215_30 rfl ?_
      refine s_iload_n f_215_31 rfl ?_
      refine k_iconst (v := 3) f_215_32 (by decide) ?_
      replace hd := obind hd
      obtain ⟨p5, e5, hd⟩ := hd
      refine L_virt (As := [.int a1, .int (3 : Int32)]) f_215_33 ca_12_155 rfl rfl (obL (by decide)) (by decide) (Nat.le_of_ble_eq_true rfl) ?_
      refine t_rM_closes e5 ?_
      refine s_aload_n f_215_36 rfl ?_
      refine s_iload_n f_215_37 rfl ?_
      replace hd := obind hd
      obtain ⟨p6, e6, hd⟩ := hd
      refine L_virt (As := [.int a1]) f_215_38 ca_12_101 rfl rfl (obL (by decide)) (by decide) (Nat.le_of_ble_eq_true rfl) ?_
      refine t_rM_owed e6 ?_
      refine s_ireturn f_215_41 rfl rfl ?_
      cases hd
      exact hQ
    · replace hd := ite_n c4 hd
      refine s_aload_n f_215_23 rfl ?_
      refine s_ldc f_215_24 ko_12_131 ?_
      replace hd := obind hd
      obtain ⟨p7, e7, hd⟩ := hd
      refine L_virt (As := [.int (-100006 : Int32)]) f_215_26 ca_12_78 rfl rfl (obL (by decide)) (by decide) (Nat.le_of_ble_eq_true rfl) ?_
      refine t_rM_finds e7 ?_
      refine s_ireturn f_215_29 rfl rfl ?_
      cases hd
      exact hQ
  · replace hd := ite_n c2 hd
    refine s_aload_n f_215_8 rfl ?_
    refine s_ldc f_215_9 ko_12_77 ?_
    replace hd := obind hd
    obtain ⟨p8, e8, hd⟩ := hd
    refine L_virt (As := [.int (-100001 : Int32)]) f_215_11 ca_12_78 rfl rfl (obL (by decide)) (by decide) (Nat.le_of_ble_eq_true rfl) ?_
    refine t_rM_finds e8 ?_
    refine s_ireturn f_215_14 rfl rfl ?_
    cases hd
    exact hQ

def rM_paperIs_J27 (M : SS) : Option (Int32 × SS) :=
  (rM_finds M (-100001 : Int32)).bind fun p3 =>
  some (p3.1, p3.2)
theorem t_rM_paperIs_J27 {l : Launch} {G : aG} {d : Nat} {Q : Option Value → aHeap → Prop} {sl : Nat} {sx : Nat → Int32} {S : SS} {K : KS} {T : TS} {X : XS} : ∀ (M : SS) (p : Int32 × SS), rM_paperIs_J27 M = some p → Q (some (.int p.1)) (LH (old0 sl sx) S K T X p.2) → aAt l G (d + 2) 0 0 216 27 [(0, .ref 154)] [] 0 0 (LH (old0 sl sx) S K T X M) Q := by
  intro M p hd hQ
  unfold rM_paperIs_J27 at hd
  refine s_aload_n f_216_27 rfl ?_
  refine s_ldc f_216_28 ko_12_77 ?_
  replace hd := obind hd
  obtain ⟨p3, e3, hd⟩ := hd
  refine L_virt (As := [.int (-100001 : Int32)]) f_216_30 ca_12_78 rfl rfl (obL (by decide)) (by decide) (Nat.le_of_ble_eq_true rfl) ?_
  refine t_rM_finds e3 ?_
  refine s_ireturn f_216_33 rfl rfl ?_
  cases hd
  exact hQ
def rM_paperIs (M : SS) (a1 : Int32) (a2 : Int32) : Option (Int32 × SS) :=
  (rM_isPaper M a1).bind fun p1 =>
  if p1 = true then
    (rM_in a2 (0 : Int32) (9 : Int32)).bind fun p4 =>
    if p4 = true then
      (rM_of M a1 a2).bind fun p6 =>
      some (p6, M)
    else
      rM_paperIs_J27 M
  else
    rM_paperIs_J27 M
theorem t_rM_paperIs {l : Launch} {G : aG} {d : Nat} {Q : Option Value → aHeap → Prop} {sl : Nat} {sx : Nat → Int32} {S : SS} {K : KS} {T : TS} {X : XS} {M : SS} {a1 : Int32} {a2 : Int32} {p : Int32 × SS} (hd : rM_paperIs M a1 a2 = some p) (hQ : Q (some (.int p.1)) (LH (old0 sl sx) S K T X p.2)) : aCall l G (d + 2) 0 0 216 [.ref 154, .int a1, .int a2] (LH (old0 sl sx) S K T X M) Q := by
  refine aCall.of (by decide) (Nat.le_of_ble_eq_true rfl) ?_
  refine aAt.sub [(0, .ref 154), (1, .int a1), (2, .int a2)] rfl ?_
  unfold rM_paperIs at hd
  refine s_aload_n f_216_0 rfl ?_
  refine s_iload_n f_216_1 rfl ?_
  replace hd := obind hd
  obtain ⟨p1, e1, hd⟩ := hd
  refine L_virt (As := [.int a1]) f_216_2 ca_12_144 rfl rfl (obL (by decide)) (by decide) (Nat.le_of_ble_eq_true rfl) ?_
  refine t_rM_isPaper e1 ?_
  refine z_if_eq 27 f_216_5 (by decide) (fun c2 => ?_) (fun c2 => ?_)
  · replace hd := ite_n c2 hd
    refine aAt.sub [(0, .ref 154)] rfl ?_
    exact t_rM_paperIs_J27 _  _ hd hQ
  · replace hd := ite_p c2 hd
    refine s_iload_n f_216_8 rfl ?_
    refine k_iconst (v := 0) f_216_9 (by decide) ?_
    refine k_bipush (v := 9) f_216_10 (by decide) ?_
    replace hd := obind hd
    obtain ⟨p4, e4, hd⟩ := hd
    refine L_stat (As := [.int a2, .int (0 : Int32), .int (9 : Int32)]) f_216_12 ca_12_69 rfl rfl (Nat.le_of_ble_eq_true rfl) ?_
    refine t_rM_in e4 ?_
    refine z_if_eq 27 f_216_15 (by decide) (fun c5 => ?_) (fun c5 => ?_)
    · replace hd := ite_n c5 hd
      refine aAt.sub [(0, .ref 154)] rfl ?_
      exact t_rM_paperIs_J27 _  _ hd hQ
    · replace hd := ite_p c5 hd
      refine s_aload_n f_216_18 rfl ?_
      refine s_iload_n f_216_19 rfl ?_
      refine s_iload_n f_216_20 rfl ?_
      replace hd := obind hd
      obtain ⟨p6, e6, hd⟩ := hd
      refine L_virt (As := [.int a1, .int a2]) f_216_21 ca_12_98 rfl rfl (obL (by decide)) (by decide) (Nat.le_of_ble_eq_true rfl) ?_
      refine t_rM_of e6 ?_
      refine s_goto 33 f_216_24 (by decide) ?_
      refine s_ireturn f_216_33 rfl rfl ?_
      cases hd
      exact hQ

def rM_isBench (a0 : Int32) : Option (Bool) :=
  (rM_in a0 (0 : Int32) (1 : Int32)).bind fun p1 =>
  some p1
theorem t_rM_isBench {l : Launch} {G : aG} {d : Nat} {Q : Option Value → aHeap → Prop} {sl : Nat} {sx : Nat → Int32} {S : SS} {K : KS} {T : TS} {X : XS} {M : SS} {a0 : Int32} {p : Bool} (hd : rM_isBench a0 = some p) (hQ : Q (some (.int (b2i p))) (LH (old0 sl sx) S K T X M)) : aCall l G (d + 1) 0 0 218 [.int a0] (LH (old0 sl sx) S K T X M) Q := by
  refine aCall.of (by decide) (Nat.le_of_ble_eq_true rfl) ?_
  refine aAt.sub [(0, .int a0)] rfl ?_
  unfold rM_isBench at hd
  refine s_iload_n f_218_0 rfl ?_
  refine k_iconst (v := 0) f_218_1 (by decide) ?_
  refine k_iconst (v := 1) f_218_2 (by decide) ?_
  replace hd := obind hd
  obtain ⟨p1, e1, hd⟩ := hd
  refine L_stat (As := [.int a0, .int (0 : Int32), .int (1 : Int32)]) f_218_3 ca_12_69 rfl rfl (Nat.le_of_ble_eq_true rfl) ?_
  refine t_rM_in e1 ?_
  refine s_iretB (b := p1) f_218_6 rfl ?_
  cases hd
  exact hQ

def rM_shift_J17 (M : SS) : Option (Int32 × SS) :=
  (rM_finds M (-100001 : Int32)).bind fun p3 =>
  some (p3.1, p3.2)
theorem t_rM_shift_J17 {l : Launch} {G : aG} {d : Nat} {Q : Option Value → aHeap → Prop} {sl : Nat} {sx : Nat → Int32} {S : SS} {K : KS} {T : TS} {X : XS} : ∀ (M : SS) (p : Int32 × SS), rM_shift_J17 M = some p → Q (some (.int p.1)) (LH (old0 sl sx) S K T X p.2) → aAt l G (d + 2) 0 0 217 17 [(0, .ref 154)] [] 0 0 (LH (old0 sl sx) S K T X M) Q := by
  intro M p hd hQ
  unfold rM_shift_J17 at hd
  refine s_aload_n f_217_17 rfl ?_
  refine s_ldc f_217_18 ko_12_77 ?_
  replace hd := obind hd
  obtain ⟨p3, e3, hd⟩ := hd
  refine L_virt (As := [.int (-100001 : Int32)]) f_217_20 ca_12_78 rfl rfl (obL (by decide)) (by decide) (Nat.le_of_ble_eq_true rfl) ?_
  refine t_rM_finds e3 ?_
  refine s_ireturn f_217_23 rfl rfl ?_
  cases hd
  exact hQ
def rM_shift (M : SS) (a1 : Int32) (a2 : Int32) : Option (Int32 × SS) :=
  (rM_isBench a1).bind fun p1 =>
  if p1 = true then
    (rM_in a2 (0 : Int32) (49 : Int32)).bind fun p4 =>
    if p4 = true then
      if inb ((7 : Int32) + a1) 10759 then
        some ((M 155 (ix ((7 : Int32) + a1))), (up M 155 (ix ((7 : Int32) + a1)) a2))
      else none
    else
      rM_shift_J17 M
  else
    rM_shift_J17 M
theorem t_rM_shift {l : Launch} {G : aG} {d : Nat} {Q : Option Value → aHeap → Prop} {sl : Nat} {sx : Nat → Int32} {S : SS} {K : KS} {T : TS} {X : XS} {M : SS} {a1 : Int32} {a2 : Int32} {p : Int32 × SS} (hd : rM_shift M a1 a2 = some p) (hQ : Q (some (.int p.1)) (LH (old0 sl sx) S K T X p.2)) : aCall l G (d + 2) 0 0 217 [.ref 154, .int a1, .int a2] (LH (old0 sl sx) S K T X M) Q := by
  refine aCall.of (by decide) (Nat.le_of_ble_eq_true rfl) ?_
  refine aAt.sub [(0, .ref 154), (1, .int a1), (2, .int a2)] rfl ?_
  unfold rM_shift at hd
  refine s_iload_n f_217_0 rfl ?_
  replace hd := obind hd
  obtain ⟨p1, e1, hd⟩ := hd
  refine L_stat (As := [.int a1]) f_217_1 ca_12_161 rfl rfl (Nat.le_of_ble_eq_true rfl) ?_
  refine t_rM_isBench e1 ?_
  refine z_if_eq 17 f_217_4 (by decide) (fun c2 => ?_) (fun c2 => ?_)
  · replace hd := ite_n c2 hd
    refine aAt.sub [(0, .ref 154)] rfl ?_
    exact t_rM_shift_J17 _  _ hd hQ
  · replace hd := ite_p c2 hd
    refine s_iload_n f_217_7 rfl ?_
    refine k_iconst (v := 0) f_217_8 (by decide) ?_
    refine k_bipush (v := 49) f_217_9 (by decide) ?_
    replace hd := obind hd
    obtain ⟨p4, e4, hd⟩ := hd
    refine L_stat (As := [.int a2, .int (0 : Int32), .int (49 : Int32)]) f_217_11 ca_12_69 rfl rfl (Nat.le_of_ble_eq_true rfl) ?_
    refine t_rM_in e4 ?_
    refine z_if_ne 24 f_217_14 (by decide) (fun c5 => ?_) (fun c5 => ?_)
    · replace hd := ite_p c5 hd
      refine s_aload_n f_217_24 rfl ?_
      refine L_getR f_217_25 fd_12_7 (obL (by decide)) (by decide) (by decide : rf 154 0 = 155) ?_
      refine k_bipush (v := 7) f_217_28 (by decide) ?_
      refine s_iload_n f_217_30 rfl ?_
      refine s_iadd f_217_31 ?_
      replace hd := gd hd
      obtain ⟨g6, hd⟩ := hd
      refine M_iaload (q := (ix ((7 : Int32) + a1))) f_217_32 ⟨by decide, by decide, by decide, fun _ => rfl⟩ (Nat.le_of_ble_eq_true rfl : 10759 < 2 ^ 31) rfl g6 ?_
      refine s_istore_n f_217_33 (by decide) ?_
      refine s_aload_n f_217_34 rfl ?_
      refine L_getR f_217_35 fd_12_7 (obL (by decide)) (by decide) (by decide : rf 154 0 = 155) ?_
      refine k_bipush (v := 7) f_217_38 (by decide) ?_
      refine s_iload_n f_217_40 rfl ?_
      refine s_iadd f_217_41 ?_
      refine s_iload_n f_217_42 rfl ?_
      refine M_iastore (q := (ix ((7 : Int32) + a1))) f_217_43 ⟨by decide, by decide, by decide, fun _ => rfl⟩ (Nat.le_of_ble_eq_true rfl : 10759 < 2 ^ 31) rfl g6 ?_
      refine s_iload_n f_217_44 rfl ?_
      refine s_ireturn f_217_45 rfl rfl ?_
      cases hd
      exact hQ
    · replace hd := ite_n c5 hd
      refine aAt.sub [(0, .ref 154)] rfl ?_
      exact t_rM_shift_J17 _  _ hd hQ

def rM_isYear (a0 : Int32) : Option (Bool) :=
  (rM_in a0 (0 : Int32) (400 : Int32)).bind fun p1 =>
  some p1
theorem t_rM_isYear {l : Launch} {G : aG} {d : Nat} {Q : Option Value → aHeap → Prop} {sl : Nat} {sx : Nat → Int32} {S : SS} {K : KS} {T : TS} {X : XS} {M : SS} {a0 : Int32} {p : Bool} (hd : rM_isYear a0 = some p) (hQ : Q (some (.int (b2i p))) (LH (old0 sl sx) S K T X M)) : aCall l G (d + 1) 0 0 220 [.int a0] (LH (old0 sl sx) S K T X M) Q := by
  refine aCall.of (by decide) (Nat.le_of_ble_eq_true rfl) ?_
  refine aAt.sub [(0, .int a0)] rfl ?_
  unfold rM_isYear at hd
  refine s_iload_n f_220_0 rfl ?_
  refine k_iconst (v := 0) f_220_1 (by decide) ?_
  refine k_sipush (v := 400) f_220_2 (by decide) ?_
  replace hd := obind hd
  obtain ⟨p1, e1, hd⟩ := hd
  refine L_stat (As := [.int a0, .int (0 : Int32), .int (400 : Int32)]) f_220_5 ca_12_69 rfl rfl (Nat.le_of_ble_eq_true rfl) ?_
  refine t_rM_in e1 ?_
  refine s_iretB (b := p1) f_220_8 rfl ?_
  cases hd
  exact hQ

def rM_leftOf (M : SS) (a1 : Int32) (a2 : Int32) : Option (Int32) :=
  if inb ((7 : Int32) + a1) 10759 then
    some ((50 : Int32) - ((a2 + (M 155 (ix ((7 : Int32) + a1)))) - (a2 + (M 155 (ix ((7 : Int32) + a1)))) / (50 : Int32) * (50 : Int32)))
  else none
theorem t_rM_leftOf {l : Launch} {G : aG} {d : Nat} {Q : Option Value → aHeap → Prop} {sl : Nat} {sx : Nat → Int32} {S : SS} {K : KS} {T : TS} {X : XS} {M : SS} {a1 : Int32} {a2 : Int32} {p : Int32} (hd : rM_leftOf M a1 a2 = some p) (hQ : Q (some (.int p)) (LH (old0 sl sx) S K T X M)) : aCall l G d 0 0 221 [.ref 154, .int a1, .int a2] (LH (old0 sl sx) S K T X M) Q := by
  refine aCall.of (by decide) (Nat.le_of_ble_eq_true rfl) ?_
  refine aAt.sub [(0, .ref 154), (1, .int a1), (2, .int a2)] rfl ?_
  unfold rM_leftOf at hd
  refine k_bipush (v := 50) f_221_0 (by decide) ?_
  refine s_iload_n f_221_2 rfl ?_
  refine s_aload_n f_221_3 rfl ?_
  refine L_getR f_221_4 fd_12_7 (obL (by decide)) (by decide) (by decide : rf 154 0 = 155) ?_
  refine k_bipush (v := 7) f_221_7 (by decide) ?_
  refine s_iload_n f_221_9 rfl ?_
  refine s_iadd f_221_10 ?_
  replace hd := gd hd
  obtain ⟨g1, hd⟩ := hd
  refine M_iaload (q := (ix ((7 : Int32) + a1))) f_221_11 ⟨by decide, by decide, by decide, fun _ => rfl⟩ (Nat.le_of_ble_eq_true rfl : 10759 < 2 ^ 31) rfl g1 ?_
  refine s_iadd f_221_12 ?_
  refine k_bipush (v := 50) f_221_13 (by decide) ?_
  refine s_irem f_221_15 (by decide) ?_
  refine s_isub f_221_16 ?_
  refine s_ireturn f_221_17 rfl rfl ?_
  cases hd
  exact hQ

def rM_left_J23 (M : SS) : Option (Int32 × SS) :=
  (rM_finds M (-100001 : Int32)).bind fun p3 =>
  some (p3.1, p3.2)
theorem t_rM_left_J23 {l : Launch} {G : aG} {d : Nat} {Q : Option Value → aHeap → Prop} {sl : Nat} {sx : Nat → Int32} {S : SS} {K : KS} {T : TS} {X : XS} : ∀ (M : SS) (p : Int32 × SS), rM_left_J23 M = some p → Q (some (.int p.1)) (LH (old0 sl sx) S K T X p.2) → aAt l G (d + 2) 0 0 219 23 [(0, .ref 154)] [] 0 0 (LH (old0 sl sx) S K T X M) Q := by
  intro M p hd hQ
  unfold rM_left_J23 at hd
  refine s_aload_n f_219_23 rfl ?_
  refine s_ldc f_219_24 ko_12_77 ?_
  replace hd := obind hd
  obtain ⟨p3, e3, hd⟩ := hd
  refine L_virt (As := [.int (-100001 : Int32)]) f_219_26 ca_12_78 rfl rfl (obL (by decide)) (by decide) (Nat.le_of_ble_eq_true rfl) ?_
  refine t_rM_finds e3 ?_
  refine s_ireturn f_219_29 rfl rfl ?_
  cases hd
  exact hQ
def rM_left (M : SS) (a1 : Int32) (a2 : Int32) : Option (Int32 × SS) :=
  (rM_isBench a1).bind fun p1 =>
  if p1 = true then
    (rM_isYear a2).bind fun p4 =>
    if p4 = true then
      (rM_leftOf M a1 a2).bind fun p6 =>
      some (p6, M)
    else
      rM_left_J23 M
  else
    rM_left_J23 M
theorem t_rM_left {l : Launch} {G : aG} {d : Nat} {Q : Option Value → aHeap → Prop} {sl : Nat} {sx : Nat → Int32} {S : SS} {K : KS} {T : TS} {X : XS} {M : SS} {a1 : Int32} {a2 : Int32} {p : Int32 × SS} (hd : rM_left M a1 a2 = some p) (hQ : Q (some (.int p.1)) (LH (old0 sl sx) S K T X p.2)) : aCall l G (d + 2) 0 0 219 [.ref 154, .int a1, .int a2] (LH (old0 sl sx) S K T X M) Q := by
  refine aCall.of (by decide) (Nat.le_of_ble_eq_true rfl) ?_
  refine aAt.sub [(0, .ref 154), (1, .int a1), (2, .int a2)] rfl ?_
  unfold rM_left at hd
  refine s_iload_n f_219_0 rfl ?_
  replace hd := obind hd
  obtain ⟨p1, e1, hd⟩ := hd
  refine L_stat (As := [.int a1]) f_219_1 ca_12_161 rfl rfl (Nat.le_of_ble_eq_true rfl) ?_
  refine t_rM_isBench e1 ?_
  refine z_if_eq 23 f_219_4 (by decide) (fun c2 => ?_) (fun c2 => ?_)
  · replace hd := ite_n c2 hd
    refine aAt.sub [(0, .ref 154)] rfl ?_
    exact t_rM_left_J23 _  _ hd hQ
  · replace hd := ite_p c2 hd
    refine s_iload_n f_219_7 rfl ?_
    replace hd := obind hd
    obtain ⟨p4, e4, hd⟩ := hd
    refine L_stat (As := [.int a2]) f_219_8 ca_12_164 rfl rfl (Nat.le_of_ble_eq_true rfl) ?_
    refine t_rM_isYear e4 ?_
    refine z_if_eq 23 f_219_11 (by decide) (fun c5 => ?_) (fun c5 => ?_)
    · replace hd := ite_n c5 hd
      refine aAt.sub [(0, .ref 154)] rfl ?_
      exact t_rM_left_J23 _  _ hd hQ
    · replace hd := ite_p c5 hd
      refine s_aload_n f_219_14 rfl ?_
      refine s_iload_n f_219_15 rfl ?_
      refine s_iload_n f_219_16 rfl ?_
      replace hd := obind hd
      obtain ⟨p6, e6, hd⟩ := hd
      refine L_virt (As := [.int a1, .int a2]) f_219_17 ca_12_167 rfl rfl (obL (by decide)) (by decide) (Nat.le_of_ble_eq_true rfl) ?_
      refine t_rM_leftOf e6 ?_
      refine s_goto 29 f_219_20 (by decide) ?_
      refine s_ireturn f_219_29 rfl rfl ?_
      cases hd
      exact hQ

def rM_feed_L39 : Nat → SS → Int32 → Int64 → Int32 → Option (Int32 × SS)
  | 0, _, _, _, _ => none
  | n + 1, M, a1, a2, a4 =>
    if a1 ≤ a4 then
      some ((M 154 8), M)
    else
      if inb (M 154 8) 200 then
        rM_feed_L39  n (up (up M 160 (ix (M 154 8)) (vp_nar .byte (((a2 >>> (((8 : Int32) * a4).toInt64 &&& 63)).toInt32).toInt8.toInt32))) 154 8 (((up M 160 (ix (M 154 8)) (vp_nar .byte (((a2 >>> (((8 : Int32) * a4).toInt64 &&& 63)).toInt32).toInt8.toInt32))) 154 8) + (1 : Int32))) a1 a2 (a4 + 1)
      else none
theorem t_rM_feed_L39 {l : Launch} {G : aG} {d : Nat} {Q : Option Value → aHeap → Prop} {sl : Nat} {sx : Nat → Int32} {S : SS} {K : KS} {T : TS} {X : XS} : ∀ (n : Nat), ∀ (M : SS) (a1 : Int32) (a2 : Int64) (a4 : Int32) (p : Int32 × SS), rM_feed_L39 n M a1 a2 a4 = some p → Q (some (.int p.1)) (LH (old0 sl sx) S K T X p.2) → aAt l G (d + 1) 0 0 222 39 [(0, .ref 154), (1, .int a1), (2, .long a2), (4, .int a4)] [] 0 0 (LH (old0 sl sx) S K T X M) Q := by
  intro n
  induction n with
  | zero =>
    intro M a1 a2 a4 p hd hQ
    rw [rM_feed_L39] at hd
    cases hd
  | succ n ih =>
    intro M a1 a2 a4 p hd hQ
    rw [rM_feed_L39] at hd
    refine s_iload f_222_39 rfl ?_
    refine s_iload_n f_222_41 rfl ?_
    refine s_icmp_ge 79 f_222_42 (by decide) (fun c4 => ?_) (fun c4 => ?_)
    · replace hd := ite_p c4 hd
      refine s_aload_n f_222_79 rfl ?_
      refine M_getI f_222_80 fd_12_170 (by decide) ?_
      refine s_ireturn f_222_83 rfl rfl ?_
      cases hd
      exact hQ
    · replace hd := ite_n c4 hd
      refine s_aload_n f_222_45 rfl ?_
      refine L_getR f_222_46 fd_12_26 (obL (by decide)) (by decide) (by decide : rf 154 7 = 160) ?_
      refine s_aload_n f_222_49 rfl ?_
      refine M_getI f_222_50 fd_12_170 (by decide) ?_
      refine s_lload_n f_222_53 rfl ?_
      refine k_bipush (v := 8) f_222_54 (by decide) ?_
      refine s_iload f_222_56 rfl ?_
      refine s_imul f_222_58 ?_
      refine s_lshr f_222_59 ?_
      refine s_l2i f_222_60 ?_
      refine s_i2b f_222_61 ?_
      replace hd := gd hd
      obtain ⟨g5, hd⟩ := hd
      refine M_bastore (q := (ix (M 154 8))) f_222_62 rfl g5 ?_
      refine s_aload_n f_222_63 rfl ?_
      refine s_dup f_222_64 rfl ?_
      refine M_getI f_222_65 fd_12_170 (by decide) ?_
      refine k_iconst (v := 1) f_222_68 (by decide) ?_
      refine s_iadd f_222_69 ?_
      refine M_putI f_222_70 fd_12_170 (by decide) (Or.inl rfl) (by decide) ?_
      refine k_iinc (w := 1) f_222_73 rfl (by decide) (by decide) ?_
      refine s_goto 39 f_222_76 (by decide) ?_
      refine aAt.sub [(0, .ref 154), (1, .int a1), (2, .long a2), (4, .int (a4 + 1))] rfl ?_
      exact ih _ _ _ _  _ hd hQ
def rM_feed (M : SS) (a1 : Int32) (a2 : Int64) : Option (Int32 × SS) :=
  (rM_in a1 (1 : Int32) (8 : Int32)).bind fun p1 =>
  if p1 = true then
    if ((M 154 8) + a1) ≤ (200 : Int32) then
      rM_feed_L39 FU M a1 a2 (0 : Int32)
    else
      (rM_finds M (-100005 : Int32)).bind fun p6 =>
      some (p6.1, p6.2)
  else
    (rM_finds M (-100001 : Int32)).bind fun p7 =>
    some (p7.1, p7.2)
theorem t_rM_feed {l : Launch} {G : aG} {d : Nat} {Q : Option Value → aHeap → Prop} {sl : Nat} {sx : Nat → Int32} {S : SS} {K : KS} {T : TS} {X : XS} {M : SS} {a1 : Int32} {a2 : Int64} {p : Int32 × SS} (hd : rM_feed M a1 a2 = some p) (hQ : Q (some (.int p.1)) (LH (old0 sl sx) S K T X p.2)) : aCall l G (d + 1) 0 0 222 [.ref 154, .int a1, .long a2] (LH (old0 sl sx) S K T X M) Q := by
  refine aCall.of (by decide) (Nat.le_of_ble_eq_true rfl) ?_
  refine aAt.sub [(0, .ref 154), (1, .int a1), (2, .long a2)] rfl ?_
  unfold rM_feed at hd
  refine s_iload_n f_222_0 rfl ?_
  refine k_iconst (v := 1) f_222_1 (by decide) ?_
  refine k_bipush (v := 8) f_222_2 (by decide) ?_
  replace hd := obind hd
  obtain ⟨p1, e1, hd⟩ := hd
  refine L_stat (As := [.int a1, .int (1 : Int32), .int (8 : Int32)]) f_222_4 ca_12_69 rfl rfl (Nat.le_of_ble_eq_true rfl) ?_
  refine t_rM_in e1 ?_
  refine z_if_ne 17 f_222_7 (by decide) (fun c2 => ?_) (fun c2 => ?_)
  · replace hd := ite_p c2 hd
    refine s_aload_n f_222_17 rfl ?_
    refine M_getI f_222_18 fd_12_170 (by decide) ?_
    refine s_iload_n f_222_21 rfl ?_
    refine s_iadd f_222_22 ?_
    refine k_sipush (v := 200) f_222_23 (by decide) ?_
    refine s_icmp_le 36 f_222_26 (by decide) (fun c3 => ?_) (fun c3 => ?_)
    · replace hd := ite_p c3 hd
      refine k_iconst (v := 0) f_222_36 (by decide) ?_
      refine s_istore f_222_37 (by decide) ?_
      refine aAt.sub [(0, .ref 154), (1, .int a1), (2, .long a2), (4, .int (0 : Int32))] rfl ?_
      exact t_rM_feed_L39 FU _ _ _ _  _ hd hQ
    · replace hd := ite_n c3 hd
      refine s_aload_n f_222_29 rfl ?_
      refine s_ldc f_222_30 ko_12_82 ?_
      replace hd := obind hd
      obtain ⟨p6, e6, hd⟩ := hd
      refine L_virt (As := [.int (-100005 : Int32)]) f_222_32 ca_12_78 rfl rfl (obL (by decide)) (by decide) (Nat.le_of_ble_eq_true rfl) ?_
      refine t_rM_finds e6 ?_
      refine s_ireturn f_222_35 rfl rfl ?_
      cases hd
      exact hQ
  · replace hd := ite_n c2 hd
    refine s_aload_n f_222_10 rfl ?_
    refine s_ldc f_222_11 ko_12_77 ?_
    replace hd := obind hd
    obtain ⟨p7, e7, hd⟩ := hd
    refine L_virt (As := [.int (-100001 : Int32)]) f_222_13 ca_12_78 rfl rfl (obL (by decide)) (by decide) (Nat.le_of_ble_eq_true rfl) ?_
    refine t_rM_finds e7 ?_
    refine s_ireturn f_222_16 rfl rfl ?_
    cases hd
    exact hQ

def rM_byteAt (M : SS) (a1 : Int32) : Option (Int32) :=
  if (M 154 8) ≤ a1 then
    some (-1 : Int32)
  else
    if inb a1 200 then
      some ((M 160 (ix a1)) &&& (255 : Int32))
    else none
theorem t_rM_byteAt {l : Launch} {G : aG} {d : Nat} {Q : Option Value → aHeap → Prop} {sl : Nat} {sx : Nat → Int32} {S : SS} {K : KS} {T : TS} {X : XS} {M : SS} {a1 : Int32} {p : Int32} (hd : rM_byteAt M a1 = some p) (hQ : Q (some (.int p)) (LH (old0 sl sx) S K T X M)) : aCall l G d 0 0 226 [.ref 154, .int a1] (LH (old0 sl sx) S K T X M) Q := by
  refine aCall.of (by decide) (Nat.le_of_ble_eq_true rfl) ?_
  refine aAt.sub [(0, .ref 154), (1, .int a1)] rfl ?_
  unfold rM_byteAt at hd
  refine s_iload_n f_226_0 rfl ?_
  refine s_aload_n f_226_1 rfl ?_
  refine M_getI f_226_2 fd_12_170 (by decide) ?_
  refine s_icmp_ge 21 f_226_5 (by decide) (fun c1 => ?_) (fun c1 => ?_)
  · replace hd := ite_p c1 hd
    refine k_iconst (v := (-1)) f_226_21 (by decide) ?_
    refine s_ireturn f_226_22 rfl rfl ?_
    cases hd
    exact hQ
  · replace hd := ite_n c1 hd
    refine s_aload_n f_226_8 rfl ?_
    refine L_getR f_226_9 fd_12_26 (obL (by decide)) (by decide) (by decide : rf 154 7 = 160) ?_
    refine s_iload_n f_226_12 rfl ?_
    replace hd := gd hd
    obtain ⟨g2, hd⟩ := hd
    refine M_baload (q := (ix a1)) f_226_13 rfl g2 ?_
    refine k_sipush (v := 255) f_226_14 (by decide) ?_
    refine s_iand f_226_17 ?_
    refine s_goto 22 f_226_18 (by decide) ?_
    refine s_ireturn f_226_22 rfl rfl ?_
    cases hd
    exact hQ

def rM_isLetter (a0 : Int32) : Option (Bool) :=
  if a0 < (97 : Int32) then
    some false
  else
    if (122 : Int32) < a0 then
      some false
    else
      some true
theorem t_rM_isLetter {l : Launch} {G : aG} {d : Nat} {Q : Option Value → aHeap → Prop} {sl : Nat} {sx : Nat → Int32} {S : SS} {K : KS} {T : TS} {X : XS} {M : SS} {a0 : Int32} {p : Bool} (hd : rM_isLetter a0 = some p) (hQ : Q (some (.int (b2i p))) (LH (old0 sl sx) S K T X M)) : aCall l G d 0 0 227 [.int a0] (LH (old0 sl sx) S K T X M) Q := by
  refine aCall.of (by decide) (Nat.le_of_ble_eq_true rfl) ?_
  refine aAt.sub [(0, .int a0)] rfl ?_
  unfold rM_isLetter at hd
  refine s_iload_n f_227_0 rfl ?_
  refine k_bipush (v := 97) f_227_1 (by decide) ?_
  refine s_icmp_lt 16 f_227_3 (by decide) (fun c1 => ?_) (fun c1 => ?_)
  · replace hd := ite_p c1 hd
    refine k_iconst (v := 0) f_227_16 (by decide) ?_
    refine s_iretB (b := false) f_227_17 rfl ?_
    cases hd
    exact hQ
  · replace hd := ite_n c1 hd
    refine s_iload_n f_227_6 rfl ?_
    refine k_bipush (v := 122) f_227_7 (by decide) ?_
    refine s_icmp_gt 16 f_227_9 (by decide) (fun c2 => ?_) (fun c2 => ?_)
    · replace hd := ite_p c2 hd
      refine k_iconst (v := 0) f_227_16 (by decide) ?_
      refine s_iretB (b := false) f_227_17 rfl ?_
      cases hd
      exact hQ
    · replace hd := ite_n c2 hd
      refine k_iconst (v := 1) f_227_12 (by decide) ?_
      refine s_goto 17 f_227_13 (by decide) ?_
      refine s_iretB (b := true) f_227_17 rfl ?_
      cases hd
      exact hQ

def rM_isDigit (a0 : Int32) : Option (Bool) :=
  if a0 < (48 : Int32) then
    some false
  else
    if (57 : Int32) < a0 then
      some false
    else
      some true
theorem t_rM_isDigit {l : Launch} {G : aG} {d : Nat} {Q : Option Value → aHeap → Prop} {sl : Nat} {sx : Nat → Int32} {S : SS} {K : KS} {T : TS} {X : XS} {M : SS} {a0 : Int32} {p : Bool} (hd : rM_isDigit a0 = some p) (hQ : Q (some (.int (b2i p))) (LH (old0 sl sx) S K T X M)) : aCall l G d 0 0 229 [.int a0] (LH (old0 sl sx) S K T X M) Q := by
  refine aCall.of (by decide) (Nat.le_of_ble_eq_true rfl) ?_
  refine aAt.sub [(0, .int a0)] rfl ?_
  unfold rM_isDigit at hd
  refine s_iload_n f_229_0 rfl ?_
  refine k_bipush (v := 48) f_229_1 (by decide) ?_
  refine s_icmp_lt 16 f_229_3 (by decide) (fun c1 => ?_) (fun c1 => ?_)
  · replace hd := ite_p c1 hd
    refine k_iconst (v := 0) f_229_16 (by decide) ?_
    refine s_iretB (b := false) f_229_17 rfl ?_
    cases hd
    exact hQ
  · replace hd := ite_n c1 hd
    refine s_iload_n f_229_6 rfl ?_
    refine k_bipush (v := 57) f_229_7 (by decide) ?_
    refine s_icmp_gt 16 f_229_9 (by decide) (fun c2 => ?_) (fun c2 => ?_)
    · replace hd := ite_p c2 hd
      refine k_iconst (v := 0) f_229_16 (by decide) ?_
      refine s_iretB (b := false) f_229_17 rfl ?_
      cases hd
      exact hQ
    · replace hd := ite_n c2 hd
      refine k_iconst (v := 1) f_229_12 (by decide) ?_
      refine s_goto 17 f_229_13 (by decide) ?_
      refine s_iretB (b := true) f_229_17 rfl ?_
      cases hd
      exact hQ

def rM_isSign_J42 : Option (Bool) :=
  some true
theorem t_rM_isSign_J42 {l : Launch} {G : aG} {d : Nat} {Q : Option Value → aHeap → Prop} {sl : Nat} {sx : Nat → Int32} {S : SS} {K : KS} {T : TS} {X : XS} {M : SS} : ∀ (p : Bool), rM_isSign_J42 = some p → Q (some (.int (b2i p))) (LH (old0 sl sx) S K T X M) → aAt l G d 0 0 230 42 [] [] 0 0 (LH (old0 sl sx) S K T X M) Q := by
  intro p hd hQ
  unfold rM_isSign_J42 at hd
  refine k_iconst (v := 1) f_230_42 (by decide) ?_
  refine s_goto 47 f_230_43 (by decide) ?_
  refine s_iretB (b := true) f_230_47 rfl ?_
  cases hd
  exact hQ
def rM_isSign (a0 : Int32) : Option (Bool) :=
  if a0 = (40 : Int32) then
    rM_isSign_J42 
  else
    if a0 = (41 : Int32) then
      rM_isSign_J42 
    else
      if a0 = (59 : Int32) then
        rM_isSign_J42 
      else
        if a0 = (43 : Int32) then
          rM_isSign_J42 
        else
          if a0 = (45 : Int32) then
            rM_isSign_J42 
          else
            if a0 = (60 : Int32) then
              rM_isSign_J42 
            else
              if a0 = (61 : Int32) then
                rM_isSign_J42 
              else
                some false
theorem t_rM_isSign {l : Launch} {G : aG} {d : Nat} {Q : Option Value → aHeap → Prop} {sl : Nat} {sx : Nat → Int32} {S : SS} {K : KS} {T : TS} {X : XS} {M : SS} {a0 : Int32} {p : Bool} (hd : rM_isSign a0 = some p) (hQ : Q (some (.int (b2i p))) (LH (old0 sl sx) S K T X M)) : aCall l G d 0 0 230 [.int a0] (LH (old0 sl sx) S K T X M) Q := by
  refine aCall.of (by decide) (Nat.le_of_ble_eq_true rfl) ?_
  refine aAt.sub [(0, .int a0)] rfl ?_
  unfold rM_isSign at hd
  refine s_iload_n f_230_0 rfl ?_
  refine k_bipush (v := 40) f_230_1 (by decide) ?_
  refine s_icmp_eq 42 f_230_3 (by decide) (fun c1 => ?_) (fun c1 => ?_)
  · replace hd := ite_p c1 hd
    refine aAt.sub [] rfl ?_
    exact t_rM_isSign_J42   _ hd hQ
  · replace hd := ite_n c1 hd
    refine s_iload_n f_230_6 rfl ?_
    refine k_bipush (v := 41) f_230_7 (by decide) ?_
    refine s_icmp_eq 42 f_230_9 (by decide) (fun c2 => ?_) (fun c2 => ?_)
    · replace hd := ite_p c2 hd
      refine aAt.sub [] rfl ?_
      exact t_rM_isSign_J42   _ hd hQ
    · replace hd := ite_n c2 hd
      refine s_iload_n f_230_12 rfl ?_
      refine k_bipush (v := 59) f_230_13 (by decide) ?_
      refine s_icmp_eq 42 f_230_15 (by decide) (fun c3 => ?_) (fun c3 => ?_)
      · replace hd := ite_p c3 hd
        refine aAt.sub [] rfl ?_
        exact t_rM_isSign_J42   _ hd hQ
      · replace hd := ite_n c3 hd
        refine s_iload_n f_230_18 rfl ?_
        refine k_bipush (v := 43) f_230_19 (by decide) ?_
        refine s_icmp_eq 42 f_230_21 (by decide) (fun c4 => ?_) (fun c4 => ?_)
        · replace hd := ite_p c4 hd
          refine aAt.sub [] rfl ?_
          exact t_rM_isSign_J42   _ hd hQ
        · replace hd := ite_n c4 hd
          refine s_iload_n f_230_24 rfl ?_
          refine k_bipush (v := 45) f_230_25 (by decide) ?_
          refine s_icmp_eq 42 f_230_27 (by decide) (fun c5 => ?_) (fun c5 => ?_)
          · replace hd := ite_p c5 hd
            refine aAt.sub [] rfl ?_
            exact t_rM_isSign_J42   _ hd hQ
          · replace hd := ite_n c5 hd
            refine s_iload_n f_230_30 rfl ?_
            refine k_bipush (v := 60) f_230_31 (by decide) ?_
            refine s_icmp_eq 42 f_230_33 (by decide) (fun c6 => ?_) (fun c6 => ?_)
            · replace hd := ite_p c6 hd
              refine aAt.sub [] rfl ?_
              exact t_rM_isSign_J42   _ hd hQ
            · replace hd := ite_n c6 hd
              refine s_iload_n f_230_36 rfl ?_
              refine k_bipush (v := 61) f_230_37 (by decide) ?_
              refine s_icmp_ne 46 f_230_39 (by decide) (fun c7 => ?_) (fun c7 => ?_)
              · replace hd := ite_n c7 hd
                refine k_iconst (v := 0) f_230_46 (by decide) ?_
                refine s_iretB (b := false) f_230_47 rfl ?_
                cases hd
                exact hQ
              · replace hd := ite_p c7 hd
                refine aAt.sub [] rfl ?_
                exact t_rM_isSign_J42   _ hd hQ

def rM_wordOf_J96 (M : SS) (k2 : Int32 → Option (Int32)) (a1 : Int32) (a2 : Bool) : Option (Int32) :=
  if a2 = true then
    some (a1 + (1 : Int32))
  else
    k2 (a1 + 1)
theorem t_rM_wordOf_J96 {l : Launch} {G : aG} {d : Nat} {Q : Option Value → aHeap → Prop} {sl : Nat} {sx : Nat → Int32} {S : SS} {K : KS} {T : TS} {X : XS} {M : SS} {k2 : Int32 → Option (Int32)} (hk2 : ∀ (a1 : Int32) (p : Int32), k2 a1 = some p → Q (some (.int p)) (LH (old0 sl sx) S K T X M) → aAt l G (d + 1) 0 0 228 2 [(0, .ref 154), (1, .int a1)] [] 0 0 (LH (old0 sl sx) S K T X M) Q) : ∀ (a1 : Int32) (a2 : Bool) (p : Int32), rM_wordOf_J96 M k2 a1 a2 = some p → Q (some (.int p)) (LH (old0 sl sx) S K T X M) → aAt l G (d + 1) 0 0 228 96 [(0, .ref 154), (1, .int a1), (2, .int (b2i a2))] [] 0 0 (LH (old0 sl sx) S K T X M) Q := by
  intro a1 a2 p hd hQ
  unfold rM_wordOf_J96 at hd
  refine s_iload_n f_228_96 rfl ?_
  refine z_if_eq 104 f_228_97 (by decide) (fun c6 => ?_) (fun c6 => ?_)
  · replace hd := ite_n c6 hd
    refine k_iinc (w := 1) f_228_104 rfl (by decide) (by decide) ?_
    refine s_goto 2 f_228_107 (by decide) ?_
    refine aAt.sub [(0, .ref 154), (1, .int (a1 + 1))] rfl ?_
    exact hk2 _  _ hd hQ
  · replace hd := ite_p c6 hd
    refine s_iload_n f_228_100 rfl ?_
    refine k_iconst (v := 1) f_228_101 (by decide) ?_
    refine s_iadd f_228_102 ?_
    refine s_ireturn f_228_103 rfl rfl ?_
    cases hd
    exact hQ
def rM_wordOf_J89 (M : SS) (k2 : Int32 → Option (Int32)) (k46 : Int32 → Bool → Int32 → Option (Int32)) (a1 : Int32) (a3 : Int32) (w0 : Bool) : Option (Int32) :=
  k46 a1 w0 (a3 + 1)
theorem t_rM_wordOf_J89 {l : Launch} {G : aG} {d : Nat} {Q : Option Value → aHeap → Prop} {sl : Nat} {sx : Nat → Int32} {S : SS} {K : KS} {T : TS} {X : XS} {M : SS} {k2 : Int32 → Option (Int32)} {k46 : Int32 → Bool → Int32 → Option (Int32)} (hk2 : ∀ (a1 : Int32) (p : Int32), k2 a1 = some p → Q (some (.int p)) (LH (old0 sl sx) S K T X M) → aAt l G (d + 1) 0 0 228 2 [(0, .ref 154), (1, .int a1)] [] 0 0 (LH (old0 sl sx) S K T X M) Q) (hk46 : ∀ (a1 : Int32) (a2 : Bool) (a3 : Int32) (p : Int32), k46 a1 a2 a3 = some p → Q (some (.int p)) (LH (old0 sl sx) S K T X M) → aAt l G (d + 1) 0 0 228 46 [(0, .ref 154), (1, .int a1), (2, .int (b2i a2)), (3, .int a3)] [] 0 0 (LH (old0 sl sx) S K T X M) Q) : ∀ (a1 : Int32) (a3 : Int32) (w0 : Bool) (p : Int32), rM_wordOf_J89 M k2 k46 a1 a3 w0 = some p → Q (some (.int p)) (LH (old0 sl sx) S K T X M) → aAt l G (d + 1) 0 0 228 89 [(0, .ref 154), (1, .int a1), (3, .int a3)] [.int (b2i w0)] 0 0 (LH (old0 sl sx) S K T X M) Q := by
  intro a1 a3 w0 p hd hQ
  unfold rM_wordOf_J89 at hd
  refine s_istore_n f_228_89 (by decide) ?_
  refine k_iinc (w := 1) f_228_90 rfl (by decide) (by decide) ?_
  refine s_goto 46 f_228_93 (by decide) ?_
  refine aAt.sub [(0, .ref 154), (1, .int a1), (2, .int (b2i w0)), (3, .int (a3 + 1))] rfl ?_
  exact hk46 _ _ _  _ hd hQ
def rM_wordOf_L46 (M : SS) (k2 : Int32 → Option (Int32)) : Nat → Int32 → Bool → Int32 → Option (Int32)
  | 0, _, _, _ => none
  | n + 1, a1, a2, a3 =>
    if (M 154 16) ≤ a3 then
      rM_wordOf_J96 M k2 a1 a2
    else
      if a2 = true then
        (rM_byteAt M a3).bind fun p8 =>
        if inb a1 18 then
          if inb (((M 162 (ix a1)) + a3) - (M 154 15)) 69 then
            if p8 = (M 161 (ix (((M 162 (ix a1)) + a3) - (M 154 15)))) then
              rM_wordOf_J89 M k2 (rM_wordOf_L46 M k2  n) a1 a3 true
            else
              rM_wordOf_J89 M k2 (rM_wordOf_L46 M k2  n) a1 a3 false
          else none
        else none
      else
        rM_wordOf_J96 M k2 a1 a2
theorem t_rM_wordOf_L46 {l : Launch} {G : aG} {d : Nat} {Q : Option Value → aHeap → Prop} {sl : Nat} {sx : Nat → Int32} {S : SS} {K : KS} {T : TS} {X : XS} {M : SS} {k2 : Int32 → Option (Int32)} (hk2 : ∀ (a1 : Int32) (p : Int32), k2 a1 = some p → Q (some (.int p)) (LH (old0 sl sx) S K T X M) → aAt l G (d + 1) 0 0 228 2 [(0, .ref 154), (1, .int a1)] [] 0 0 (LH (old0 sl sx) S K T X M) Q) : ∀ (n : Nat), ∀ (a1 : Int32) (a2 : Bool) (a3 : Int32) (p : Int32), rM_wordOf_L46 M k2 n a1 a2 a3 = some p → Q (some (.int p)) (LH (old0 sl sx) S K T X M) → aAt l G (d + 1) 0 0 228 46 [(0, .ref 154), (1, .int a1), (2, .int (b2i a2)), (3, .int a3)] [] 0 0 (LH (old0 sl sx) S K T X M) Q := by
  intro n
  induction n with
  | zero =>
    intro a1 a2 a3 p hd hQ
    rw [rM_wordOf_L46] at hd
    cases hd
  | succ n ih =>
    intro a1 a2 a3 p hd hQ
    rw [rM_wordOf_L46] at hd
    refine s_iload_n f_228_46 rfl ?_
    refine s_aload_n f_228_47 rfl ?_
    refine M_getI f_228_48 fd_12_173 (by decide) ?_
    refine s_icmp_ge 96 f_228_51 (by decide) (fun c5 => ?_) (fun c5 => ?_)
    · replace hd := ite_p c5 hd
      refine aAt.sub [(0, .ref 154), (1, .int a1), (2, .int (b2i a2))] rfl ?_
      exact t_rM_wordOf_J96 hk2 _ _  _ hd hQ
    · replace hd := ite_n c5 hd
      refine s_iload_n f_228_54 rfl ?_
      refine z_if_eq 96 f_228_55 (by decide) (fun c7 => ?_) (fun c7 => ?_)
      · replace hd := ite_n c7 hd
        refine aAt.sub [(0, .ref 154), (1, .int a1), (2, .int (b2i a2))] rfl ?_
        exact t_rM_wordOf_J96 hk2 _ _  _ hd hQ
      · replace hd := ite_p c7 hd
        refine s_aload_n f_228_58 rfl ?_
        refine s_iload_n f_228_59 rfl ?_
        replace hd := obind hd
        obtain ⟨p8, e8, hd⟩ := hd
        refine L_virt (As := [.int a3]) f_228_60 ca_12_179 rfl rfl (obL (by decide)) (by decide) (Nat.le_of_ble_eq_true rfl) ?_
        refine t_rM_byteAt e8 ?_
        refine s_aload_n f_228_63 rfl ?_
        refine L_getR f_228_64 fd_12_30 (obL (by decide)) (by decide) (by decide : rf 154 9 = 161) ?_
        refine s_aload_n f_228_67 rfl ?_
        refine L_getR f_228_68 fd_12_34 (obL (by decide)) (by decide) (by decide : rf 154 10 = 162) ?_
        refine s_iload_n f_228_71 rfl ?_
        replace hd := gd hd
        obtain ⟨g9, hd⟩ := hd
        refine M_iaload (q := (ix a1)) f_228_72 ⟨by decide, by decide, by decide, fun _ => rfl⟩ (Nat.le_of_ble_eq_true rfl : 18 < 2 ^ 31) rfl g9 ?_
        refine s_iload_n f_228_73 rfl ?_
        refine s_iadd f_228_74 ?_
        refine s_aload_n f_228_75 rfl ?_
        refine M_getI f_228_76 fd_12_176 (by decide) ?_
        refine s_isub f_228_79 ?_
        replace hd := gd hd
        obtain ⟨g10, hd⟩ := hd
        refine M_caload (q := (ix (((M 162 (ix a1)) + a3) - (M 154 15)))) f_228_80 rfl g10 ?_
        refine s_icmp_ne 88 f_228_81 (by decide) (fun c11 => ?_) (fun c11 => ?_)
        · replace hd := ite_n c11 hd
          refine k_iconst (v := 0) f_228_88 (by decide) ?_
          refine aAt.sub [(0, .ref 154), (1, .int a1), (3, .int a3)] rfl ?_
          exact t_rM_wordOf_J89 hk2 ih _ _ _  _ hd hQ
        · replace hd := ite_p c11 hd
          refine k_iconst (v := 1) f_228_84 (by decide) ?_
          refine s_goto 89 f_228_85 (by decide) ?_
          refine aAt.sub [(0, .ref 154), (1, .int a1), (3, .int a3)] rfl ?_
          exact t_rM_wordOf_J89 hk2 ih _ _ _  _ hd hQ
def rM_wordOf_J40 (M : SS) (k2 : Int32 → Option (Int32)) (a1 : Int32) (w0 : Bool) : Option (Int32) :=
  rM_wordOf_L46 M k2 FU a1 w0 (M 154 15)
theorem t_rM_wordOf_J40 {l : Launch} {G : aG} {d : Nat} {Q : Option Value → aHeap → Prop} {sl : Nat} {sx : Nat → Int32} {S : SS} {K : KS} {T : TS} {X : XS} {M : SS} {k2 : Int32 → Option (Int32)} (hk2 : ∀ (a1 : Int32) (p : Int32), k2 a1 = some p → Q (some (.int p)) (LH (old0 sl sx) S K T X M) → aAt l G (d + 1) 0 0 228 2 [(0, .ref 154), (1, .int a1)] [] 0 0 (LH (old0 sl sx) S K T X M) Q) : ∀ (a1 : Int32) (w0 : Bool) (p : Int32), rM_wordOf_J40 M k2 a1 w0 = some p → Q (some (.int p)) (LH (old0 sl sx) S K T X M) → aAt l G (d + 1) 0 0 228 40 [(0, .ref 154), (1, .int a1)] [.int (b2i w0)] 0 0 (LH (old0 sl sx) S K T X M) Q := by
  intro a1 w0 p hd hQ
  unfold rM_wordOf_J40 at hd
  refine s_istore_n f_228_40 (by decide) ?_
  refine s_aload_n f_228_41 rfl ?_
  refine M_getI f_228_42 fd_12_176 (by decide) ?_
  refine s_istore_n f_228_45 (by decide) ?_
  refine aAt.sub [(0, .ref 154), (1, .int a1), (2, .int (b2i w0)), (3, .int (M 154 15))] rfl ?_
  exact t_rM_wordOf_L46 hk2 FU _ _ _  _ hd hQ
def rM_wordOf_L2 (M : SS) : Nat → Int32 → Option (Int32)
  | 0, _ => none
  | n + 1, a1 =>
    if (17 : Int32) ≤ a1 then
      some (60 : Int32)
    else
      if inb (a1 + (1 : Int32)) 18 then
        if inb a1 18 then
          if ((M 162 (ix (a1 + (1 : Int32)))) - (M 162 (ix a1))) = ((M 154 16) - (M 154 15)) then
            rM_wordOf_J40 M (rM_wordOf_L2 M  n) a1 true
          else
            rM_wordOf_J40 M (rM_wordOf_L2 M  n) a1 false
        else none
      else none
theorem t_rM_wordOf_L2 {l : Launch} {G : aG} {d : Nat} {Q : Option Value → aHeap → Prop} {sl : Nat} {sx : Nat → Int32} {S : SS} {K : KS} {T : TS} {X : XS} {M : SS} : ∀ (n : Nat), ∀ (a1 : Int32) (p : Int32), rM_wordOf_L2 M n a1 = some p → Q (some (.int p)) (LH (old0 sl sx) S K T X M) → aAt l G (d + 1) 0 0 228 2 [(0, .ref 154), (1, .int a1)] [] 0 0 (LH (old0 sl sx) S K T X M) Q := by
  intro n
  induction n with
  | zero =>
    intro a1 p hd hQ
    rw [rM_wordOf_L2] at hd
    cases hd
  | succ n ih =>
    intro a1 p hd hQ
    rw [rM_wordOf_L2] at hd
    refine s_iload_n f_228_2 rfl ?_
    refine k_bipush (v := 17) f_228_3 (by decide) ?_
    refine s_icmp_ge 110 f_228_5 (by decide) (fun c1 => ?_) (fun c1 => ?_)
    · replace hd := ite_p c1 hd
      refine k_bipush (v := 60) f_228_110 (by decide) ?_
      refine s_ireturn f_228_112 rfl rfl ?_
      cases hd
      exact hQ
    · replace hd := ite_n c1 hd
      refine s_aload_n f_228_8 rfl ?_
      refine L_getR f_228_9 fd_12_34 (obL (by decide)) (by decide) (by decide : rf 154 10 = 162) ?_
      refine s_iload_n f_228_12 rfl ?_
      refine k_iconst (v := 1) f_228_13 (by decide) ?_
      refine s_iadd f_228_14 ?_
      replace hd := gd hd
      obtain ⟨g2, hd⟩ := hd
      refine M_iaload (q := (ix (a1 + (1 : Int32)))) f_228_15 ⟨by decide, by decide, by decide, fun _ => rfl⟩ (Nat.le_of_ble_eq_true rfl : 18 < 2 ^ 31) rfl g2 ?_
      refine s_aload_n f_228_16 rfl ?_
      refine L_getR f_228_17 fd_12_34 (obL (by decide)) (by decide) (by decide : rf 154 10 = 162) ?_
      refine s_iload_n f_228_20 rfl ?_
      replace hd := gd hd
      obtain ⟨g3, hd⟩ := hd
      refine M_iaload (q := (ix a1)) f_228_21 ⟨by decide, by decide, by decide, fun _ => rfl⟩ (Nat.le_of_ble_eq_true rfl : 18 < 2 ^ 31) rfl g3 ?_
      refine s_isub f_228_22 ?_
      refine s_aload_n f_228_23 rfl ?_
      refine M_getI f_228_24 fd_12_173 (by decide) ?_
      refine s_aload_n f_228_27 rfl ?_
      refine M_getI f_228_28 fd_12_176 (by decide) ?_
      refine s_isub f_228_31 ?_
      refine s_icmp_ne 39 f_228_32 (by decide) (fun c4 => ?_) (fun c4 => ?_)
      · replace hd := ite_n c4 hd
        refine k_iconst (v := 0) f_228_39 (by decide) ?_
        refine aAt.sub [(0, .ref 154), (1, .int a1)] rfl ?_
        exact t_rM_wordOf_J40 ih _ _  _ hd hQ
      · replace hd := ite_p c4 hd
        refine k_iconst (v := 1) f_228_35 (by decide) ?_
        refine s_goto 40 f_228_36 (by decide) ?_
        refine aAt.sub [(0, .ref 154), (1, .int a1)] rfl ?_
        exact t_rM_wordOf_J40 ih _ _  _ hd hQ
def rM_wordOf (M : SS) : Option (Int32) :=
  rM_wordOf_L2 M FU (0 : Int32)
theorem t_rM_wordOf {l : Launch} {G : aG} {d : Nat} {Q : Option Value → aHeap → Prop} {sl : Nat} {sx : Nat → Int32} {S : SS} {K : KS} {T : TS} {X : XS} {M : SS} {p : Int32} (hd : rM_wordOf M = some p) (hQ : Q (some (.int p)) (LH (old0 sl sx) S K T X M)) : aCall l G (d + 1) 0 0 228 [.ref 154] (LH (old0 sl sx) S K T X M) Q := by
  refine aCall.of (by decide) (Nat.le_of_ble_eq_true rfl) ?_
  refine aAt.sub [(0, .ref 154)] rfl ?_
  unfold rM_wordOf at hd
  refine k_iconst (v := 0) f_228_0 (by decide) ?_
  refine s_istore_n f_228_1 (by decide) ?_
  refine aAt.sub [(0, .ref 154), (1, .int (0 : Int32))] rfl ?_
  exact t_rM_wordOf_L2 FU _  _ hd hQ

def rM_looks_J244 (M : SS) (w1 : Int32) : Option (SS) :=
  some (up M 154 17 w1)
theorem t_rM_looks_J244 {l : Launch} {G : aG} {d : Nat} {Q : Option Value → aHeap → Prop} {sl : Nat} {sx : Nat → Int32} {S : SS} {K : KS} {T : TS} {X : XS} : ∀ (M : SS) (w1 : Int32) (p : SS), rM_looks_J244 M w1 = some p → Q none (LH (old0 sl sx) S K T X p) → aAt l G (d + 2) 0 0 225 244 [] [.int w1, .ref 154] 0 0 (LH (old0 sl sx) S K T X M) Q := by
  intro M w1 p hd hQ
  unfold rM_looks_J244 at hd
  refine M_putI f_225_244 fd_12_182 (by decide) (Or.inl rfl) (by decide) ?_
  refine s_return f_225_247 rfl ?_
  cases hd
  exact hQ
def rM_looks_J211 (M : SS) (w1 : Int32) : Option (SS) :=
  some (up M 154 17 w1)
theorem t_rM_looks_J211 {l : Launch} {G : aG} {d : Nat} {Q : Option Value → aHeap → Prop} {sl : Nat} {sx : Nat → Int32} {S : SS} {K : KS} {T : TS} {X : XS} : ∀ (M : SS) (w1 : Int32) (p : SS), rM_looks_J211 M w1 = some p → Q none (LH (old0 sl sx) S K T X p) → aAt l G (d + 2) 0 0 225 211 [] [.int w1, .ref 154] 0 0 (LH (old0 sl sx) S K T X M) Q := by
  intro M w1 p hd hQ
  unfold rM_looks_J211 at hd
  refine M_putI f_225_211 fd_12_182 (by decide) (Or.inl rfl) (by decide) ?_
  refine s_goto 247 f_225_214 (by decide) ?_
  refine s_return f_225_247 rfl ?_
  cases hd
  exact hQ
def rM_looks_J174 (k120 : SS → Option (SS)) (M : SS) (w1 : Int32) : Option (SS) :=
  k120 (up (up M 154 18 w1) 154 16 (((up M 154 18 w1) 154 16) + (1 : Int32)))
theorem t_rM_looks_J174 {l : Launch} {G : aG} {d : Nat} {Q : Option Value → aHeap → Prop} {sl : Nat} {sx : Nat → Int32} {S : SS} {K : KS} {T : TS} {X : XS} {k120 : SS → Option (SS)} (hk120 : ∀ (M : SS) (p : SS), k120 M = some p → Q none (LH (old0 sl sx) S K T X p) → aAt l G (d + 2) 0 0 225 120 [(0, .ref 154)] [] 0 0 (LH (old0 sl sx) S K T X M) Q) : ∀ (M : SS) (w1 : Int32) (p : SS), rM_looks_J174 k120 M w1 = some p → Q none (LH (old0 sl sx) S K T X p) → aAt l G (d + 2) 0 0 225 174 [(0, .ref 154)] [.int w1, .ref 154] 0 0 (LH (old0 sl sx) S K T X M) Q := by
  intro M w1 p hd hQ
  unfold rM_looks_J174 at hd
  refine M_putI f_225_174 fd_12_195 (by decide) (Or.inl rfl) (by decide) ?_
  refine s_aload_n f_225_177 rfl ?_
  refine s_dup f_225_178 rfl ?_
  refine M_getI f_225_179 fd_12_173 (by decide) ?_
  refine k_iconst (v := 1) f_225_182 (by decide) ?_
  refine s_iadd f_225_183 ?_
  refine M_putI f_225_184 fd_12_173 (by decide) (Or.inl rfl) (by decide) ?_
  refine s_goto 120 f_225_187 (by decide) ?_
  refine aAt.sub [(0, .ref 154)] rfl ?_
  exact hk120 _  _ hd hQ
def rM_looks_L120 : Nat → SS → Option (SS)
  | 0, _ => none
  | n + 1, M =>
    (rM_byteAt M (M 154 16)).bind fun p11 =>
    (rM_isDigit p11).bind fun p12 =>
    if p12 = true then
      if (4 : Int32) ≤ ((M 154 16) - (M 154 15)) then
        rM_looks_J174 (rM_looks_L120  n) M (M 154 18)
      else
        (rM_byteAt M (M 154 16)).bind fun p16 =>
        rM_looks_J174 (rM_looks_L120  n) M ((((10 : Int32) * (M 154 18)) + p16) - (48 : Int32))
    else
      if ((M 154 16) - (M 154 15)) ≤ (4 : Int32) then
        rM_looks_J211 M (50 : Int32)
      else
        rM_looks_J211 M (60 : Int32)
theorem t_rM_looks_L120 {l : Launch} {G : aG} {d : Nat} {Q : Option Value → aHeap → Prop} {sl : Nat} {sx : Nat → Int32} {S : SS} {K : KS} {T : TS} {X : XS} : ∀ (n : Nat), ∀ (M : SS) (p : SS), rM_looks_L120 n M = some p → Q none (LH (old0 sl sx) S K T X p) → aAt l G (d + 2) 0 0 225 120 [(0, .ref 154)] [] 0 0 (LH (old0 sl sx) S K T X M) Q := by
  intro n
  induction n with
  | zero =>
    intro M p hd hQ
    rw [rM_looks_L120] at hd
    cases hd
  | succ n ih =>
    intro M p hd hQ
    rw [rM_looks_L120] at hd
    refine s_aload_n f_225_120 rfl ?_
    refine s_aload_n f_225_121 rfl ?_
    refine M_getI f_225_122 fd_12_173 (by decide) ?_
    replace hd := obind hd
    obtain ⟨p11, e11, hd⟩ := hd
    refine L_virt (As := [.int (M 154 16)]) f_225_125 ca_12_179 rfl rfl (obL (by decide)) (by decide) (Nat.le_of_ble_eq_true rfl) ?_
    refine t_rM_byteAt e11 ?_
    replace hd := obind hd
    obtain ⟨p12, e12, hd⟩ := hd
    refine L_stat (As := [.int p11]) f_225_128 ca_12_192 rfl rfl (Nat.le_of_ble_eq_true rfl) ?_
    refine t_rM_isDigit e12 ?_
    refine z_if_eq 190 f_225_131 (by decide) (fun c13 => ?_) (fun c13 => ?_)
    · replace hd := ite_n c13 hd
      refine s_aload_n f_225_190 rfl ?_
      refine s_aload_n f_225_191 rfl ?_
      refine M_getI f_225_192 fd_12_173 (by decide) ?_
      refine s_aload_n f_225_195 rfl ?_
      refine M_getI f_225_196 fd_12_176 (by decide) ?_
      refine s_isub f_225_199 ?_
      refine k_iconst (v := 4) f_225_200 (by decide) ?_
      refine s_icmp_le 209 f_225_201 (by decide) (fun c14 => ?_) (fun c14 => ?_)
      · replace hd := ite_p c14 hd
        refine k_bipush (v := 50) f_225_209 (by decide) ?_
        refine aAt.sub [] rfl ?_
        exact t_rM_looks_J211 _ _  _ hd hQ
      · replace hd := ite_n c14 hd
        refine k_bipush (v := 60) f_225_204 (by decide) ?_
        refine s_goto 211 f_225_206 (by decide) ?_
        refine aAt.sub [] rfl ?_
        exact t_rM_looks_J211 _ _  _ hd hQ
    · replace hd := ite_p c13 hd
      refine s_aload_n f_225_134 rfl ?_
      refine s_aload_n f_225_135 rfl ?_
      refine M_getI f_225_136 fd_12_173 (by decide) ?_
      refine s_aload_n f_225_139 rfl ?_
      refine M_getI f_225_140 fd_12_176 (by decide) ?_
      refine s_isub f_225_143 ?_
      refine k_iconst (v := 4) f_225_144 (by decide) ?_
      refine s_icmp_ge 170 f_225_145 (by decide) (fun c15 => ?_) (fun c15 => ?_)
      · replace hd := ite_p c15 hd
        refine s_aload_n f_225_170 rfl ?_
        refine M_getI f_225_171 fd_12_195 (by decide) ?_
        refine aAt.sub [(0, .ref 154)] rfl ?_
        exact t_rM_looks_J174 ih _ _  _ hd hQ
      · replace hd := ite_n c15 hd
        refine k_bipush (v := 10) f_225_148 (by decide) ?_
        refine s_aload_n f_225_150 rfl ?_
        refine M_getI f_225_151 fd_12_195 (by decide) ?_
        refine s_imul f_225_154 ?_
        refine s_aload_n f_225_155 rfl ?_
        refine s_aload_n f_225_156 rfl ?_
        refine M_getI f_225_157 fd_12_173 (by decide) ?_
        replace hd := obind hd
        obtain ⟨p16, e16, hd⟩ := hd
        refine L_virt (As := [.int (M 154 16)]) f_225_160 ca_12_179 rfl rfl (obL (by decide)) (by decide) (Nat.le_of_ble_eq_true rfl) ?_
        refine t_rM_byteAt e16 ?_
        refine s_iadd f_225_163 ?_
        refine k_bipush (v := 48) f_225_164 (by decide) ?_
        refine s_isub f_225_166 ?_
        refine s_goto 174 f_225_167 (by decide) ?_
        refine aAt.sub [(0, .ref 154)] rfl ?_
        exact t_rM_looks_J174 ih _ _  _ hd hQ
def rM_looks_L70 : Nat → SS → Option (SS)
  | 0, _ => none
  | n + 1, M =>
    (rM_byteAt M (M 154 16)).bind fun p17 =>
    (rM_isLetter p17).bind fun p18 =>
    if p18 = true then
      rM_looks_L70  n (up M 154 16 ((M 154 16) + (1 : Int32)))
    else
      (rM_wordOf M).bind fun p20 =>
      some (up M 154 17 p20)
theorem t_rM_looks_L70 {l : Launch} {G : aG} {d : Nat} {Q : Option Value → aHeap → Prop} {sl : Nat} {sx : Nat → Int32} {S : SS} {K : KS} {T : TS} {X : XS} : ∀ (n : Nat), ∀ (M : SS) (p : SS), rM_looks_L70 n M = some p → Q none (LH (old0 sl sx) S K T X p) → aAt l G (d + 2) 0 0 225 70 [(0, .ref 154)] [] 0 0 (LH (old0 sl sx) S K T X M) Q := by
  intro n
  induction n with
  | zero =>
    intro M p hd hQ
    rw [rM_looks_L70] at hd
    cases hd
  | succ n ih =>
    intro M p hd hQ
    rw [rM_looks_L70] at hd
    refine s_aload_n f_225_70 rfl ?_
    refine s_aload_n f_225_71 rfl ?_
    refine M_getI f_225_72 fd_12_173 (by decide) ?_
    replace hd := obind hd
    obtain ⟨p17, e17, hd⟩ := hd
    refine L_virt (As := [.int (M 154 16)]) f_225_75 ca_12_179 rfl rfl (obL (by decide)) (by decide) (Nat.le_of_ble_eq_true rfl) ?_
    refine t_rM_byteAt e17 ?_
    replace hd := obind hd
    obtain ⟨p18, e18, hd⟩ := hd
    refine L_stat (As := [.int p17]) f_225_78 ca_12_185 rfl rfl (Nat.le_of_ble_eq_true rfl) ?_
    refine t_rM_isLetter e18 ?_
    refine z_if_eq 97 f_225_81 (by decide) (fun c19 => ?_) (fun c19 => ?_)
    · replace hd := ite_n c19 hd
      refine s_aload_n f_225_97 rfl ?_
      refine s_aload_n f_225_98 rfl ?_
      replace hd := obind hd
      obtain ⟨p20, e20, hd⟩ := hd
      refine L_virt (As := []) f_225_99 ca_12_188 rfl rfl (obL (by decide)) (by decide) (Nat.le_of_ble_eq_true rfl) ?_
      refine t_rM_wordOf e20 ?_
      refine M_putI f_225_102 fd_12_182 (by decide) (Or.inl rfl) (by decide) ?_
      refine s_goto 247 f_225_105 (by decide) ?_
      refine s_return f_225_247 rfl ?_
      cases hd
      exact hQ
    · replace hd := ite_p c19 hd
      refine s_aload_n f_225_84 rfl ?_
      refine s_dup f_225_85 rfl ?_
      refine M_getI f_225_86 fd_12_173 (by decide) ?_
      refine k_iconst (v := 1) f_225_89 (by decide) ?_
      refine s_iadd f_225_90 ?_
      refine M_putI f_225_91 fd_12_173 (by decide) (Or.inl rfl) (by decide) ?_
      refine s_goto 70 f_225_94 (by decide) ?_
      refine aAt.sub [(0, .ref 154)] rfl ?_
      exact ih _  _ hd hQ
def rM_looks_L8 : Nat → SS → Option (SS)
  | 0, _ => none
  | n + 1, M =>
    (rM_byteAt M (M 154 15)).bind fun p1 =>
    if p1 = (32 : Int32) then
      rM_looks_L8  n (up M 154 15 ((M 154 15) + (1 : Int32)))
    else
      (rM_byteAt (up M 154 16 (M 154 15)) ((up M 154 16 (M 154 15)) 154 15)).bind fun p3 =>
      if 0 ≤ p3 then
        (rM_isLetter p3).bind fun p5 =>
        if p5 = true then
          rM_looks_L70 FU (up M 154 16 (M 154 15))
        else
          (rM_isDigit p3).bind fun p7 =>
          if p7 = true then
            rM_looks_L120 FU (up (up M 154 16 (M 154 15)) 154 18 (0 : Int32))
          else
            (rM_isSign p3).bind fun p9 =>
            if p9 = true then
              rM_looks_J244 (up (up M 154 16 (M 154 15)) 154 16 (((up M 154 16 (M 154 15)) 154 16) + (1 : Int32))) ((100 : Int32) + p3)
            else
              rM_looks_J244 (up (up M 154 16 (M 154 15)) 154 16 (((up M 154 16 (M 154 15)) 154 16) + (1 : Int32))) (60 : Int32)
      else
        some (up (up M 154 16 (M 154 15)) 154 17 (0 : Int32))
theorem t_rM_looks_L8 {l : Launch} {G : aG} {d : Nat} {Q : Option Value → aHeap → Prop} {sl : Nat} {sx : Nat → Int32} {S : SS} {K : KS} {T : TS} {X : XS} : ∀ (n : Nat), ∀ (M : SS) (p : SS), rM_looks_L8 n M = some p → Q none (LH (old0 sl sx) S K T X p) → aAt l G (d + 2) 0 0 225 8 [(0, .ref 154)] [] 0 0 (LH (old0 sl sx) S K T X M) Q := by
  intro n
  induction n with
  | zero =>
    intro M p hd hQ
    rw [rM_looks_L8] at hd
    cases hd
  | succ n ih =>
    intro M p hd hQ
    rw [rM_looks_L8] at hd
    refine s_aload_n f_225_8 rfl ?_
    refine s_aload_n f_225_9 rfl ?_
    refine M_getI f_225_10 fd_12_176 (by decide) ?_
    replace hd := obind hd
    obtain ⟨p1, e1, hd⟩ := hd
    refine L_virt (As := [.int (M 154 15)]) f_225_13 ca_12_179 rfl rfl (obL (by decide)) (by decide) (Nat.le_of_ble_eq_true rfl) ?_
    refine t_rM_byteAt e1 ?_
    refine k_bipush (v := 32) f_225_16 (by decide) ?_
    refine s_icmp_ne 34 f_225_18 (by decide) (fun c2 => ?_) (fun c2 => ?_)
    · replace hd := ite_n c2 hd
      refine s_aload_n f_225_34 rfl ?_
      refine s_aload_n f_225_35 rfl ?_
      refine M_getI f_225_36 fd_12_176 (by decide) ?_
      refine M_putI f_225_39 fd_12_173 (by decide) (Or.inl rfl) (by decide) ?_
      refine s_aload_n f_225_42 rfl ?_
      refine s_aload_n f_225_43 rfl ?_
      refine M_getI f_225_44 fd_12_176 (by decide) ?_
      replace hd := obind hd
      obtain ⟨p3, e3, hd⟩ := hd
      refine L_virt (As := [.int ((up M 154 16 (M 154 15)) 154 15)]) f_225_47 ca_12_179 rfl rfl (obL (by decide)) (by decide) (Nat.le_of_ble_eq_true rfl) ?_
      refine t_rM_byteAt e3 ?_
      refine s_istore_n f_225_50 (by decide) ?_
      refine s_iload_n f_225_51 rfl ?_
      refine s_if_ge 63 f_225_52 (by decide) (fun c4 => ?_) (fun c4 => ?_)
      · replace hd := ite_p c4 hd
        refine s_iload_n f_225_63 rfl ?_
        replace hd := obind hd
        obtain ⟨p5, e5, hd⟩ := hd
        refine L_stat (As := [.int p3]) f_225_64 ca_12_185 rfl rfl (Nat.le_of_ble_eq_true rfl) ?_
        refine t_rM_isLetter e5 ?_
        refine z_if_eq 108 f_225_67 (by decide) (fun c6 => ?_) (fun c6 => ?_)
        · replace hd := ite_n c6 hd
          refine s_iload_n f_225_108 rfl ?_
          replace hd := obind hd
          obtain ⟨p7, e7, hd⟩ := hd
          refine L_stat (As := [.int p3]) f_225_109 ca_12_192 rfl rfl (Nat.le_of_ble_eq_true rfl) ?_
          refine t_rM_isDigit e7 ?_
          refine z_if_eq 217 f_225_112 (by decide) (fun c8 => ?_) (fun c8 => ?_)
          · replace hd := ite_n c8 hd
            refine s_aload_n f_225_217 rfl ?_
            refine s_dup f_225_218 rfl ?_
            refine M_getI f_225_219 fd_12_173 (by decide) ?_
            refine k_iconst (v := 1) f_225_222 (by decide) ?_
            refine s_iadd f_225_223 ?_
            refine M_putI f_225_224 fd_12_173 (by decide) (Or.inl rfl) (by decide) ?_
            refine s_aload_n f_225_227 rfl ?_
            refine s_iload_n f_225_228 rfl ?_
            replace hd := obind hd
            obtain ⟨p9, e9, hd⟩ := hd
            refine L_stat (As := [.int p3]) f_225_229 ca_12_198 rfl rfl (Nat.le_of_ble_eq_true rfl) ?_
            refine t_rM_isSign e9 ?_
            refine z_if_eq 242 f_225_232 (by decide) (fun c10 => ?_) (fun c10 => ?_)
            · replace hd := ite_n c10 hd
              refine k_bipush (v := 60) f_225_242 (by decide) ?_
              refine aAt.sub [] rfl ?_
              exact t_rM_looks_J244 _ _  _ hd hQ
            · replace hd := ite_p c10 hd
              refine k_bipush (v := 100) f_225_235 (by decide) ?_
              refine s_iload_n f_225_237 rfl ?_
              refine s_iadd f_225_238 ?_
              refine s_goto 244 f_225_239 (by decide) ?_
              refine aAt.sub [] rfl ?_
              exact t_rM_looks_J244 _ _  _ hd hQ
          · replace hd := ite_p c8 hd
            refine s_aload_n f_225_115 rfl ?_
            refine k_iconst (v := 0) f_225_116 (by decide) ?_
            refine M_putI f_225_117 fd_12_195 (by decide) (Or.inl rfl) (by decide) ?_
            refine aAt.sub [(0, .ref 154)] rfl ?_
            exact t_rM_looks_L120 FU _  _ hd hQ
        · replace hd := ite_p c6 hd
          refine aAt.sub [(0, .ref 154)] rfl ?_
          exact t_rM_looks_L70 FU _  _ hd hQ
      · replace hd := ite_n c4 hd
        refine s_aload_n f_225_55 rfl ?_
        refine k_iconst (v := 0) f_225_56 (by decide) ?_
        refine M_putI f_225_57 fd_12_182 (by decide) (Or.inl rfl) (by decide) ?_
        refine s_goto 247 f_225_60 (by decide) ?_
        refine s_return f_225_247 rfl ?_
        cases hd
        exact hQ
    · replace hd := ite_p c2 hd
      refine s_aload_n f_225_21 rfl ?_
      refine s_dup f_225_22 rfl ?_
      refine M_getI f_225_23 fd_12_176 (by decide) ?_
      refine k_iconst (v := 1) f_225_26 (by decide) ?_
      refine s_iadd f_225_27 ?_
      refine M_putI f_225_28 fd_12_176 (by decide) (Or.inl rfl) (by decide) ?_
      refine s_goto 8 f_225_31 (by decide) ?_
      refine aAt.sub [(0, .ref 154)] rfl ?_
      exact ih _  _ hd hQ
def rM_looks (M : SS) : Option (SS) :=
  rM_looks_L8 FU (up M 154 15 (M 154 16))
theorem t_rM_looks {l : Launch} {G : aG} {d : Nat} {Q : Option Value → aHeap → Prop} {sl : Nat} {sx : Nat → Int32} {S : SS} {K : KS} {T : TS} {X : XS} {M : SS} {p : SS} (hd : rM_looks M = some p) (hQ : Q none (LH (old0 sl sx) S K T X p)) : aCall l G (d + 2) 0 0 225 [.ref 154] (LH (old0 sl sx) S K T X M) Q := by
  refine aCall.of (by decide) (Nat.le_of_ble_eq_true rfl) ?_
  refine aAt.sub [(0, .ref 154)] rfl ?_
  unfold rM_looks at hd
  refine s_aload_n f_225_0 rfl ?_
  refine s_aload_n f_225_1 rfl ?_
  refine M_getI f_225_2 fd_12_173 (by decide) ?_
  refine M_putI f_225_5 fd_12_176 (by decide) (Or.inl rfl) (by decide) ?_
  refine aAt.sub [(0, .ref 154)] rfl ?_
  exact t_rM_looks_L8 FU _  _ hd hQ

def rM_rankOf_J44 : Option (Int32) :=
  some (4 : Int32)
theorem t_rM_rankOf_J44 {l : Launch} {G : aG} {d : Nat} {Q : Option Value → aHeap → Prop} {sl : Nat} {sx : Nat → Int32} {S : SS} {K : KS} {T : TS} {X : XS} {M : SS} : ∀ (p : Int32), rM_rankOf_J44 = some p → Q (some (.int p)) (LH (old0 sl sx) S K T X M) → aAt l G d 0 0 235 44 [] [] 0 0 (LH (old0 sl sx) S K T X M) Q := by
  intro p hd hQ
  unfold rM_rankOf_J44 at hd
  refine k_iconst (v := 4) f_235_44 (by decide) ?_
  refine s_goto 67 f_235_45 (by decide) ?_
  refine s_ireturn f_235_67 rfl rfl ?_
  cases hd
  exact hQ
def rM_rankOf_J62 : Option (Int32) :=
  some (5 : Int32)
theorem t_rM_rankOf_J62 {l : Launch} {G : aG} {d : Nat} {Q : Option Value → aHeap → Prop} {sl : Nat} {sx : Nat → Int32} {S : SS} {K : KS} {T : TS} {X : XS} {M : SS} : ∀ (p : Int32), rM_rankOf_J62 = some p → Q (some (.int p)) (LH (old0 sl sx) S K T X M) → aAt l G d 0 0 235 62 [] [] 0 0 (LH (old0 sl sx) S K T X M) Q := by
  intro p hd hQ
  unfold rM_rankOf_J62 at hd
  refine k_iconst (v := 5) f_235_62 (by decide) ?_
  refine s_goto 67 f_235_63 (by decide) ?_
  refine s_ireturn f_235_67 rfl rfl ?_
  cases hd
  exact hQ
def rM_rankOf (a0 : Int32) : Option (Int32) :=
  if a0 = (15 : Int32) then
    some (1 : Int32)
  else
    if a0 = (16 : Int32) then
      some (2 : Int32)
    else
      if a0 = (17 : Int32) then
        some (3 : Int32)
      else
        if a0 = (160 : Int32) then
          rM_rankOf_J44 
        else
          if a0 = (161 : Int32) then
            rM_rankOf_J44 
          else
            if a0 = (143 : Int32) then
              rM_rankOf_J62 
            else
              if a0 = (145 : Int32) then
                rM_rankOf_J62 
              else
                some (0 : Int32)
theorem t_rM_rankOf {l : Launch} {G : aG} {d : Nat} {Q : Option Value → aHeap → Prop} {sl : Nat} {sx : Nat → Int32} {S : SS} {K : KS} {T : TS} {X : XS} {M : SS} {a0 : Int32} {p : Int32} (hd : rM_rankOf a0 = some p) (hQ : Q (some (.int p)) (LH (old0 sl sx) S K T X M)) : aCall l G d 0 0 235 [.int a0] (LH (old0 sl sx) S K T X M) Q := by
  refine aCall.of (by decide) (Nat.le_of_ble_eq_true rfl) ?_
  refine aAt.sub [(0, .int a0)] rfl ?_
  unfold rM_rankOf at hd
  refine s_iload_n f_235_0 rfl ?_
  refine k_bipush (v := 15) f_235_1 (by decide) ?_
  refine s_icmp_ne 10 f_235_3 (by decide) (fun c1 => ?_) (fun c1 => ?_)
  · replace hd := ite_n c1 hd
    refine s_iload_n f_235_10 rfl ?_
    refine k_bipush (v := 16) f_235_11 (by decide) ?_
    refine s_icmp_ne 20 f_235_13 (by decide) (fun c2 => ?_) (fun c2 => ?_)
    · replace hd := ite_n c2 hd
      refine s_iload_n f_235_20 rfl ?_
      refine k_bipush (v := 17) f_235_21 (by decide) ?_
      refine s_icmp_ne 30 f_235_23 (by decide) (fun c3 => ?_) (fun c3 => ?_)
      · replace hd := ite_n c3 hd
        refine s_iload_n f_235_30 rfl ?_
        refine k_sipush (v := 160) f_235_31 (by decide) ?_
        refine s_icmp_eq 44 f_235_34 (by decide) (fun c4 => ?_) (fun c4 => ?_)
        · replace hd := ite_p c4 hd
          refine aAt.sub [] rfl ?_
          exact t_rM_rankOf_J44   _ hd hQ
        · replace hd := ite_n c4 hd
          refine s_iload_n f_235_37 rfl ?_
          refine k_sipush (v := 161) f_235_38 (by decide) ?_
          refine s_icmp_ne 48 f_235_41 (by decide) (fun c5 => ?_) (fun c5 => ?_)
          · replace hd := ite_n c5 hd
            refine s_iload_n f_235_48 rfl ?_
            refine k_sipush (v := 143) f_235_49 (by decide) ?_
            refine s_icmp_eq 62 f_235_52 (by decide) (fun c6 => ?_) (fun c6 => ?_)
            · replace hd := ite_p c6 hd
              refine aAt.sub [] rfl ?_
              exact t_rM_rankOf_J62   _ hd hQ
            · replace hd := ite_n c6 hd
              refine s_iload_n f_235_55 rfl ?_
              refine k_sipush (v := 145) f_235_56 (by decide) ?_
              refine s_icmp_ne 66 f_235_59 (by decide) (fun c7 => ?_) (fun c7 => ?_)
              · replace hd := ite_n c7 hd
                refine k_iconst (v := 0) f_235_66 (by decide) ?_
                refine s_ireturn f_235_67 rfl rfl ?_
                cases hd
                exact hQ
              · replace hd := ite_p c7 hd
                refine aAt.sub [] rfl ?_
                exact t_rM_rankOf_J62   _ hd hQ
          · replace hd := ite_p c5 hd
            refine aAt.sub [] rfl ?_
            exact t_rM_rankOf_J44   _ hd hQ
      · replace hd := ite_p c3 hd
        refine k_iconst (v := 3) f_235_26 (by decide) ?_
        refine s_goto 67 f_235_27 (by decide) ?_
        refine s_ireturn f_235_67 rfl rfl ?_
        cases hd
        exact hQ
    · replace hd := ite_p c2 hd
      refine k_iconst (v := 2) f_235_16 (by decide) ?_
      refine s_goto 67 f_235_17 (by decide) ?_
      refine s_ireturn f_235_67 rfl rfl ?_
      cases hd
      exact hQ
  · replace hd := ite_p c1 hd
    refine k_iconst (v := 1) f_235_6 (by decide) ?_
    refine s_goto 67 f_235_7 (by decide) ?_
    refine s_ireturn f_235_67 rfl rfl ?_
    cases hd
    exact hQ

def rM_lays (M : SS) (a1 : Int32) : Option (SS) :=
  if inb (M 154 19) 609 then
    some (up (up M 163 (ix (M 154 19)) a1) 154 19 (((up M 163 (ix (M 154 19)) a1) 154 19) + (1 : Int32)))
  else none
theorem t_rM_lays {l : Launch} {G : aG} {d : Nat} {Q : Option Value → aHeap → Prop} {sl : Nat} {sx : Nat → Int32} {S : SS} {K : KS} {T : TS} {X : XS} {M : SS} {a1 : Int32} {p : SS} (hd : rM_lays M a1 = some p) (hQ : Q none (LH (old0 sl sx) S K T X p)) : aCall l G d 0 0 233 [.ref 154, .int a1] (LH (old0 sl sx) S K T X M) Q := by
  refine aCall.of (by decide) (Nat.le_of_ble_eq_true rfl) ?_
  refine aAt.sub [(0, .ref 154), (1, .int a1)] rfl ?_
  unfold rM_lays at hd
  refine s_aload_n f_233_0 rfl ?_
  refine L_getR f_233_1 fd_12_37 (obL (by decide)) (by decide) (by decide : rf 154 11 = 163) ?_
  refine s_aload_n f_233_4 rfl ?_
  refine M_getI f_233_5 fd_12_201 (by decide) ?_
  refine s_iload_n f_233_8 rfl ?_
  replace hd := gd hd
  obtain ⟨g1, hd⟩ := hd
  refine M_iastore (q := (ix (M 154 19))) f_233_9 ⟨by decide, by decide, by decide, fun _ => rfl⟩ (Nat.le_of_ble_eq_true rfl : 609 < 2 ^ 31) rfl g1 ?_
  refine s_aload_n f_233_10 rfl ?_
  refine s_dup f_233_11 rfl ?_
  refine M_getI f_233_12 fd_12_201 (by decide) ?_
  refine k_iconst (v := 1) f_233_15 (by decide) ?_
  refine s_iadd f_233_16 ?_
  refine M_putI f_233_17 fd_12_201 (by decide) (Or.inl rfl) (by decide) ?_
  refine s_return f_233_20 rfl ?_
  cases hd
  exact hQ

def rM_settles_L0 : Nat → SS → Int32 → Option (SS)
  | 0, _, _ => none
  | n + 1, M, a1 =>
    if (M 154 20) ≤ 0 then
      some M
    else
      if inb ((M 154 20) - (1 : Int32)) 200 then
        (rM_rankOf (M 164 (ix ((M 154 20) - (1 : Int32))))).bind fun p3 =>
        if p3 < a1 then
          some M
        else
          if inb ((up M 154 20 ((M 154 20) - (1 : Int32))) 154 20) 200 then
            (rM_lays (up M 154 20 ((M 154 20) - (1 : Int32))) ((-100 : Int32) - ((up M 154 20 ((M 154 20) - (1 : Int32))) 164 (ix ((up M 154 20 ((M 154 20) - (1 : Int32))) 154 20))))).bind fun p6 =>
            rM_settles_L0  n p6 a1
          else none
      else none
theorem t_rM_settles_L0 {l : Launch} {G : aG} {d : Nat} {Q : Option Value → aHeap → Prop} {sl : Nat} {sx : Nat → Int32} {S : SS} {K : KS} {T : TS} {X : XS} : ∀ (n : Nat), ∀ (M : SS) (a1 : Int32) (p : SS), rM_settles_L0 n M a1 = some p → Q none (LH (old0 sl sx) S K T X p) → aAt l G (d + 1) 0 0 234 0 [(0, .ref 154), (1, .int a1)] [] 0 0 (LH (old0 sl sx) S K T X M) Q := by
  intro n
  induction n with
  | zero =>
    intro M a1 p hd hQ
    rw [rM_settles_L0] at hd
    cases hd
  | succ n ih =>
    intro M a1 p hd hQ
    rw [rM_settles_L0] at hd
    refine s_aload_n f_234_0 rfl ?_
    refine M_getI f_234_1 fd_12_204 (by decide) ?_
    refine s_if_le 54 f_234_4 (by decide) (fun c1 => ?_) (fun c1 => ?_)
    · replace hd := ite_p c1 hd
      refine s_return f_234_54 rfl ?_
      cases hd
      exact hQ
    · replace hd := ite_n c1 hd
      refine s_aload_n f_234_7 rfl ?_
      refine L_getR f_234_8 fd_12_40 (obL (by decide)) (by decide) (by decide : rf 154 12 = 164) ?_
      refine s_aload_n f_234_11 rfl ?_
      refine M_getI f_234_12 fd_12_204 (by decide) ?_
      refine k_iconst (v := 1) f_234_15 (by decide) ?_
      refine s_isub f_234_16 ?_
      replace hd := gd hd
      obtain ⟨g2, hd⟩ := hd
      refine M_iaload (q := (ix ((M 154 20) - (1 : Int32)))) f_234_17 ⟨by decide, by decide, by decide, fun _ => rfl⟩ (Nat.le_of_ble_eq_true rfl : 200 < 2 ^ 31) rfl g2 ?_
      replace hd := obind hd
      obtain ⟨p3, e3, hd⟩ := hd
      refine L_stat (As := [.int (M 164 (ix ((M 154 20) - (1 : Int32))))]) f_234_18 ca_12_207 rfl rfl (Nat.le_of_ble_eq_true rfl) ?_
      refine t_rM_rankOf e3 ?_
      refine s_iload_n f_234_21 rfl ?_
      refine s_icmp_lt 54 f_234_22 (by decide) (fun c4 => ?_) (fun c4 => ?_)
      · replace hd := ite_p c4 hd
        refine s_return f_234_54 rfl ?_
        cases hd
        exact hQ
      · replace hd := ite_n c4 hd
        refine s_aload_n f_234_25 rfl ?_
        refine s_dup f_234_26 rfl ?_
        refine M_getI f_234_27 fd_12_204 (by decide) ?_
        refine k_iconst (v := 1) f_234_30 (by decide) ?_
        refine s_isub f_234_31 ?_
        refine M_putI f_234_32 fd_12_204 (by decide) (Or.inl rfl) (by decide) ?_
        refine s_aload_n f_234_35 rfl ?_
        refine k_bipush (v := (-100)) f_234_36 (by decide) ?_
        refine s_aload_n f_234_38 rfl ?_
        refine L_getR f_234_39 fd_12_40 (obL (by decide)) (by decide) (by decide : rf 154 12 = 164) ?_
        refine s_aload_n f_234_42 rfl ?_
        refine M_getI f_234_43 fd_12_204 (by decide) ?_
        replace hd := gd hd
        obtain ⟨g5, hd⟩ := hd
        refine M_iaload (q := (ix ((up M 154 20 ((M 154 20) - (1 : Int32))) 154 20))) f_234_46 ⟨by decide, by decide, by decide, fun _ => rfl⟩ (Nat.le_of_ble_eq_true rfl : 200 < 2 ^ 31) rfl g5 ?_
        refine s_isub f_234_47 ?_
        replace hd := obind hd
        obtain ⟨p6, e6, hd⟩ := hd
        refine L_virt (As := [.int ((-100 : Int32) - ((up M 154 20 ((M 154 20) - (1 : Int32))) 164 (ix ((up M 154 20 ((M 154 20) - (1 : Int32))) 154 20))))]) f_234_48 ca_12_210 rfl rfl (obL (by decide)) (by decide) (Nat.le_of_ble_eq_true rfl) ?_
        refine t_rM_lays e6 ?_
        refine s_goto 0 f_234_51 (by decide) ?_
        refine aAt.sub [(0, .ref 154), (1, .int a1)] rfl ?_
        exact ih _ _  _ hd hQ
def rM_settles (M : SS) (a1 : Int32) : Option (SS) :=
  rM_settles_L0 FU M a1
theorem t_rM_settles {l : Launch} {G : aG} {d : Nat} {Q : Option Value → aHeap → Prop} {sl : Nat} {sx : Nat → Int32} {S : SS} {K : KS} {T : TS} {X : XS} {M : SS} {a1 : Int32} {p : SS} (hd : rM_settles M a1 = some p) (hQ : Q none (LH (old0 sl sx) S K T X p)) : aCall l G (d + 1) 0 0 234 [.ref 154, .int a1] (LH (old0 sl sx) S K T X M) Q := by
  refine aCall.of (by decide) (Nat.le_of_ble_eq_true rfl) ?_
  refine aAt.sub [(0, .ref 154), (1, .int a1)] rfl ?_
  unfold rM_settles at hd
  refine aAt.sub [(0, .ref 154), (1, .int a1)] rfl ?_
  exact t_rM_settles_L0 FU _ _  _ hd hQ

def rM_isTested_J30 (M : SS) (a1 : Int32) : Option (Bool) :=
  if a1 < 0 then
    some false
  else
    if inb a1 200 then
      (rM_rankOf (M 164 (ix a1))).bind fun p4 =>
      if p4 = (4 : Int32) then
        some true
      else
        some false
    else none
theorem t_rM_isTested_J30 {l : Launch} {G : aG} {d : Nat} {Q : Option Value → aHeap → Prop} {sl : Nat} {sx : Nat → Int32} {S : SS} {K : KS} {T : TS} {X : XS} {M : SS} : ∀ (a1 : Int32) (p : Bool), rM_isTested_J30 M a1 = some p → Q (some (.int (b2i p))) (LH (old0 sl sx) S K T X M) → aAt l G (d + 1) 0 0 236 30 [(0, .ref 154), (1, .int a1)] [] 0 0 (LH (old0 sl sx) S K T X M) Q := by
  intro a1 p hd hQ
  unfold rM_isTested_J30 at hd
  refine s_iload_n f_236_30 rfl ?_
  refine s_if_lt 51 f_236_31 (by decide) (fun c2 => ?_) (fun c2 => ?_)
  · replace hd := ite_p c2 hd
    refine k_iconst (v := 0) f_236_51 (by decide) ?_
    refine s_iretB (b := false) f_236_52 rfl ?_
    cases hd
    exact hQ
  · replace hd := ite_n c2 hd
    refine s_aload_n f_236_34 rfl ?_
    refine L_getR f_236_35 fd_12_40 (obL (by decide)) (by decide) (by decide : rf 154 12 = 164) ?_
    refine s_iload_n f_236_38 rfl ?_
    replace hd := gd hd
    obtain ⟨g3, hd⟩ := hd
    refine M_iaload (q := (ix a1)) f_236_39 ⟨by decide, by decide, by decide, fun _ => rfl⟩ (Nat.le_of_ble_eq_true rfl : 200 < 2 ^ 31) rfl g3 ?_
    replace hd := obind hd
    obtain ⟨p4, e4, hd⟩ := hd
    refine L_stat (As := [.int (M 164 (ix a1))]) f_236_40 ca_12_207 rfl rfl (Nat.le_of_ble_eq_true rfl) ?_
    refine t_rM_rankOf e4 ?_
    refine k_iconst (v := 4) f_236_43 (by decide) ?_
    refine s_icmp_ne 51 f_236_44 (by decide) (fun c5 => ?_) (fun c5 => ?_)
    · replace hd := ite_n c5 hd
      refine k_iconst (v := 0) f_236_51 (by decide) ?_
      refine s_iretB (b := false) f_236_52 rfl ?_
      cases hd
      exact hQ
    · replace hd := ite_p c5 hd
      refine k_iconst (v := 1) f_236_47 (by decide) ?_
      refine s_goto 52 f_236_48 (by decide) ?_
      refine s_iretB (b := true) f_236_52 rfl ?_
      cases hd
      exact hQ
def rM_isTested_L7 (M : SS) : Nat → Int32 → Option (Bool)
  | 0, _ => none
  | n + 1, a1 =>
    if a1 < 0 then
      rM_isTested_J30 M a1
    else
      if inb a1 200 then
        (rM_rankOf (M 164 (ix a1))).bind fun p7 =>
        if p7 ≤ (4 : Int32) then
          rM_isTested_J30 M a1
        else
          rM_isTested_L7 M  n (a1 + (-1))
      else none
theorem t_rM_isTested_L7 {l : Launch} {G : aG} {d : Nat} {Q : Option Value → aHeap → Prop} {sl : Nat} {sx : Nat → Int32} {S : SS} {K : KS} {T : TS} {X : XS} {M : SS} : ∀ (n : Nat), ∀ (a1 : Int32) (p : Bool), rM_isTested_L7 M n a1 = some p → Q (some (.int (b2i p))) (LH (old0 sl sx) S K T X M) → aAt l G (d + 1) 0 0 236 7 [(0, .ref 154), (1, .int a1)] [] 0 0 (LH (old0 sl sx) S K T X M) Q := by
  intro n
  induction n with
  | zero =>
    intro a1 p hd hQ
    rw [rM_isTested_L7] at hd
    cases hd
  | succ n ih =>
    intro a1 p hd hQ
    rw [rM_isTested_L7] at hd
    refine s_iload_n f_236_7 rfl ?_
    refine s_if_lt 30 f_236_8 (by decide) (fun c1 => ?_) (fun c1 => ?_)
    · replace hd := ite_p c1 hd
      refine aAt.sub [(0, .ref 154), (1, .int a1)] rfl ?_
      exact t_rM_isTested_J30 _  _ hd hQ
    · replace hd := ite_n c1 hd
      refine s_aload_n f_236_11 rfl ?_
      refine L_getR f_236_12 fd_12_40 (obL (by decide)) (by decide) (by decide : rf 154 12 = 164) ?_
      refine s_iload_n f_236_15 rfl ?_
      replace hd := gd hd
      obtain ⟨g6, hd⟩ := hd
      refine M_iaload (q := (ix a1)) f_236_16 ⟨by decide, by decide, by decide, fun _ => rfl⟩ (Nat.le_of_ble_eq_true rfl : 200 < 2 ^ 31) rfl g6 ?_
      replace hd := obind hd
      obtain ⟨p7, e7, hd⟩ := hd
      refine L_stat (As := [.int (M 164 (ix a1))]) f_236_17 ca_12_207 rfl rfl (Nat.le_of_ble_eq_true rfl) ?_
      refine t_rM_rankOf e7 ?_
      refine k_iconst (v := 4) f_236_20 (by decide) ?_
      refine s_icmp_le 30 f_236_21 (by decide) (fun c8 => ?_) (fun c8 => ?_)
      · replace hd := ite_p c8 hd
        refine aAt.sub [(0, .ref 154), (1, .int a1)] rfl ?_
        exact t_rM_isTested_J30 _  _ hd hQ
      · replace hd := ite_n c8 hd
        refine k_iinc (w := (-1)) f_236_24 rfl (by decide) (by decide) ?_
        refine s_goto 7 f_236_27 (by decide) ?_
        refine aAt.sub [(0, .ref 154), (1, .int (a1 + (-1)))] rfl ?_
        exact ih _  _ hd hQ
def rM_isTested (M : SS) : Option (Bool) :=
  rM_isTested_L7 M FU ((M 154 20) - (1 : Int32))
theorem t_rM_isTested {l : Launch} {G : aG} {d : Nat} {Q : Option Value → aHeap → Prop} {sl : Nat} {sx : Nat → Int32} {S : SS} {K : KS} {T : TS} {X : XS} {M : SS} {p : Bool} (hd : rM_isTested M = some p) (hQ : Q (some (.int (b2i p))) (LH (old0 sl sx) S K T X M)) : aCall l G (d + 1) 0 0 236 [.ref 154] (LH (old0 sl sx) S K T X M) Q := by
  refine aCall.of (by decide) (Nat.le_of_ble_eq_true rfl) ?_
  refine aAt.sub [(0, .ref 154)] rfl ?_
  unfold rM_isTested at hd
  refine s_aload_n f_236_0 rfl ?_
  refine M_getI f_236_1 fd_12_204 (by decide) ?_
  refine k_iconst (v := 1) f_236_4 (by decide) ?_
  refine s_isub f_236_5 ?_
  refine s_istore_n f_236_6 (by decide) ?_
  refine aAt.sub [(0, .ref 154), (1, .int ((M 154 20) - (1 : Int32)))] rfl ?_
  exact t_rM_isTested_L7 FU _  _ hd hQ

def rM_waitsOf_J28 (M : SS) (k4 : Int32 → Int32 → Int32 → Option (Int32)) (a1 : Int32) (a3 : Int32) (w0 : Int32) (w1 : Bool) : Option (Int32) :=
  k4 a1 (w0 + (b2i w1)) (a3 + 1)
theorem t_rM_waitsOf_J28 {l : Launch} {G : aG} {d : Nat} {Q : Option Value → aHeap → Prop} {sl : Nat} {sx : Nat → Int32} {S : SS} {K : KS} {T : TS} {X : XS} {M : SS} {k4 : Int32 → Int32 → Int32 → Option (Int32)} (hk4 : ∀ (a1 : Int32) (a2 : Int32) (a3 : Int32) (p : Int32), k4 a1 a2 a3 = some p → Q (some (.int p)) (LH (old0 sl sx) S K T X M) → aAt l G d 0 0 232 4 [(0, .ref 154), (1, .int a1), (2, .int a2), (3, .int a3)] [] 0 0 (LH (old0 sl sx) S K T X M) Q) : ∀ (a1 : Int32) (a3 : Int32) (w0 : Int32) (w1 : Bool) (p : Int32), rM_waitsOf_J28 M k4 a1 a3 w0 w1 = some p → Q (some (.int p)) (LH (old0 sl sx) S K T X M) → aAt l G d 0 0 232 28 [(0, .ref 154), (1, .int a1), (3, .int a3)] [.int (b2i w1), .int w0] 0 0 (LH (old0 sl sx) S K T X M) Q := by
  intro a1 a3 w0 w1 p hd hQ
  unfold rM_waitsOf_J28 at hd
  refine s_iadd f_232_28 ?_
  refine s_istore_n f_232_29 (by decide) ?_
  refine k_iinc (w := 1) f_232_30 rfl (by decide) (by decide) ?_
  refine s_goto 4 f_232_33 (by decide) ?_
  refine aAt.sub [(0, .ref 154), (1, .int a1), (2, .int (w0 + (b2i w1))), (3, .int (a3 + 1))] rfl ?_
  exact hk4 _ _ _  _ hd hQ
def rM_waitsOf_L4 (M : SS) : Nat → Int32 → Int32 → Int32 → Option (Int32)
  | 0, _, _, _ => none
  | n + 1, a1, a2, a3 =>
    if (M 154 20) ≤ a3 then
      some a2
    else
      if inb a3 200 then
        if (M 164 (ix a3)) = a1 then
          rM_waitsOf_J28 M (rM_waitsOf_L4 M  n) a1 a3 a2 true
        else
          rM_waitsOf_J28 M (rM_waitsOf_L4 M  n) a1 a3 a2 false
      else none
theorem t_rM_waitsOf_L4 {l : Launch} {G : aG} {d : Nat} {Q : Option Value → aHeap → Prop} {sl : Nat} {sx : Nat → Int32} {S : SS} {K : KS} {T : TS} {X : XS} {M : SS} : ∀ (n : Nat), ∀ (a1 : Int32) (a2 : Int32) (a3 : Int32) (p : Int32), rM_waitsOf_L4 M n a1 a2 a3 = some p → Q (some (.int p)) (LH (old0 sl sx) S K T X M) → aAt l G d 0 0 232 4 [(0, .ref 154), (1, .int a1), (2, .int a2), (3, .int a3)] [] 0 0 (LH (old0 sl sx) S K T X M) Q := by
  intro n
  induction n with
  | zero =>
    intro a1 a2 a3 p hd hQ
    rw [rM_waitsOf_L4] at hd
    cases hd
  | succ n ih =>
    intro a1 a2 a3 p hd hQ
    rw [rM_waitsOf_L4] at hd
    refine s_iload_n f_232_4 rfl ?_
    refine s_aload_n f_232_5 rfl ?_
    refine M_getI f_232_6 fd_12_204 (by decide) ?_
    refine s_icmp_ge 36 f_232_9 (by decide) (fun c1 => ?_) (fun c1 => ?_)
    · replace hd := ite_p c1 hd
      refine s_iload_n f_232_36 rfl ?_
      refine s_ireturn f_232_37 rfl rfl ?_
      cases hd
      exact hQ
    · replace hd := ite_n c1 hd
      refine s_iload_n f_232_12 rfl ?_
      refine s_aload_n f_232_13 rfl ?_
      refine L_getR f_232_14 fd_12_40 (obL (by decide)) (by decide) (by decide : rf 154 12 = 164) ?_
      refine s_iload_n f_232_17 rfl ?_
      replace hd := gd hd
      obtain ⟨g2, hd⟩ := hd
      refine M_iaload (q := (ix a3)) f_232_18 ⟨by decide, by decide, by decide, fun _ => rfl⟩ (Nat.le_of_ble_eq_true rfl : 200 < 2 ^ 31) rfl g2 ?_
      refine s_iload_n f_232_19 rfl ?_
      refine s_icmp_ne 27 f_232_20 (by decide) (fun c3 => ?_) (fun c3 => ?_)
      · replace hd := ite_n c3 hd
        refine k_iconst (v := 0) f_232_27 (by decide) ?_
        refine aAt.sub [(0, .ref 154), (1, .int a1), (3, .int a3)] rfl ?_
        exact t_rM_waitsOf_J28 ih _ _ _ _  _ hd hQ
      · replace hd := ite_p c3 hd
        refine k_iconst (v := 1) f_232_23 (by decide) ?_
        refine s_goto 28 f_232_24 (by decide) ?_
        refine aAt.sub [(0, .ref 154), (1, .int a1), (3, .int a3)] rfl ?_
        exact t_rM_waitsOf_J28 ih _ _ _ _  _ hd hQ
def rM_waitsOf (M : SS) (a1 : Int32) : Option (Int32) :=
  rM_waitsOf_L4 M FU a1 (0 : Int32) (0 : Int32)
theorem t_rM_waitsOf {l : Launch} {G : aG} {d : Nat} {Q : Option Value → aHeap → Prop} {sl : Nat} {sx : Nat → Int32} {S : SS} {K : KS} {T : TS} {X : XS} {M : SS} {a1 : Int32} {p : Int32} (hd : rM_waitsOf M a1 = some p) (hQ : Q (some (.int p)) (LH (old0 sl sx) S K T X M)) : aCall l G d 0 0 232 [.ref 154, .int a1] (LH (old0 sl sx) S K T X M) Q := by
  refine aCall.of (by decide) (Nat.le_of_ble_eq_true rfl) ?_
  refine aAt.sub [(0, .ref 154), (1, .int a1)] rfl ?_
  unfold rM_waitsOf at hd
  refine k_iconst (v := 0) f_232_0 (by decide) ?_
  refine s_istore_n f_232_1 (by decide) ?_
  refine k_iconst (v := 0) f_232_2 (by decide) ?_
  refine s_istore_n f_232_3 (by decide) ?_
  refine aAt.sub [(0, .ref 154), (1, .int a1), (2, .int (0 : Int32)), (3, .int (0 : Int32))] rfl ?_
  exact t_rM_waitsOf_L4 FU _ _ _  _ hd hQ

def rM_readsE_J342 (k20 : SS → Int32 → Int32 → Int32 → Option (Bool × SS)) (M : SS) (a1 : Int32) (a2 : Int32) (w0 : Bool) : Option (Bool × SS) :=
  k20 M a1 a2 (b2i w0)
theorem t_rM_readsE_J342 {l : Launch} {G : aG} {d : Nat} {Q : Option Value → aHeap → Prop} {sl : Nat} {sx : Nat → Int32} {S : SS} {K : KS} {T : TS} {X : XS} {k20 : SS → Int32 → Int32 → Int32 → Option (Bool × SS)} (hk20 : ∀ (M : SS) (a1 : Int32) (a2 : Int32) (a3 : Int32) (p : Bool × SS), k20 M a1 a2 a3 = some p → Q (some (.int (b2i p.1))) (LH (old0 sl sx) S K T X p.2) → aAt l G (d + 3) 0 0 231 20 [(0, .ref 154), (1, .int a1), (2, .int a2), (3, .int a3)] [] 0 0 (LH (old0 sl sx) S K T X M) Q) : ∀ (M : SS) (a1 : Int32) (a2 : Int32) (w0 : Bool) (p : Bool × SS), rM_readsE_J342 k20 M a1 a2 w0 = some p → Q (some (.int (b2i p.1))) (LH (old0 sl sx) S K T X p.2) → aAt l G (d + 3) 0 0 231 342 [(0, .ref 154), (1, .int a1), (2, .int a2)] [.int (b2i w0)] 0 0 (LH (old0 sl sx) S K T X M) Q := by
  intro M a1 a2 w0 p hd hQ
  unfold rM_readsE_J342 at hd
  refine s_istore_n f_231_342 (by decide) ?_
  refine s_goto 20 f_231_343 (by decide) ?_
  refine aAt.sub [(0, .ref 154), (1, .int a1), (2, .int a2), (3, .int (b2i w0))] rfl ?_
  exact hk20 _ _ _ _  _ hd hQ
def rM_readsE_J300 (k20 : SS → Int32 → Int32 → Int32 → Option (Bool × SS)) (M : SS) (a1 : Int32) (a4 : Int32) : Option (Bool × SS) :=
  (rM_settles M a4).bind fun p9 =>
  if inb (p9 154 20) 200 then
    if (3 : Int32) ≤ a4 then
      rM_readsE_J342 k20 (up (up p9 164 (ix (p9 154 20)) (p9 154 17)) 154 20 (((up p9 164 (ix (p9 154 20)) (p9 154 17)) 154 20) + (1 : Int32))) a1 (1 : Int32) false
    else
      rM_readsE_J342 k20 (up (up p9 164 (ix (p9 154 20)) (p9 154 17)) 154 20 (((up p9 164 (ix (p9 154 20)) (p9 154 17)) 154 20) + (1 : Int32))) a1 (1 : Int32) true
  else none
theorem t_rM_readsE_J300 {l : Launch} {G : aG} {d : Nat} {Q : Option Value → aHeap → Prop} {sl : Nat} {sx : Nat → Int32} {S : SS} {K : KS} {T : TS} {X : XS} {k20 : SS → Int32 → Int32 → Int32 → Option (Bool × SS)} (hk20 : ∀ (M : SS) (a1 : Int32) (a2 : Int32) (a3 : Int32) (p : Bool × SS), k20 M a1 a2 a3 = some p → Q (some (.int (b2i p.1))) (LH (old0 sl sx) S K T X p.2) → aAt l G (d + 3) 0 0 231 20 [(0, .ref 154), (1, .int a1), (2, .int a2), (3, .int a3)] [] 0 0 (LH (old0 sl sx) S K T X M) Q) : ∀ (M : SS) (a1 : Int32) (a4 : Int32) (p : Bool × SS), rM_readsE_J300 k20 M a1 a4 = some p → Q (some (.int (b2i p.1))) (LH (old0 sl sx) S K T X p.2) → aAt l G (d + 3) 0 0 231 300 [(0, .ref 154), (1, .int a1), (4, .int a4)] [] 0 0 (LH (old0 sl sx) S K T X M) Q := by
  intro M a1 a4 p hd hQ
  unfold rM_readsE_J300 at hd
  refine s_aload_n f_231_300 rfl ?_
  refine s_iload f_231_301 rfl ?_
  replace hd := obind hd
  obtain ⟨p9, e9, hd⟩ := hd
  refine L_virt (As := [.int a4]) f_231_303 ca_12_219 rfl rfl (obL (by decide)) (by decide) (Nat.le_of_ble_eq_true rfl) ?_
  refine t_rM_settles e9 ?_
  refine s_aload_n f_231_306 rfl ?_
  refine L_getR f_231_307 fd_12_40 (obL (by decide)) (by decide) (by decide : rf 154 12 = 164) ?_
  refine s_aload_n f_231_310 rfl ?_
  refine M_getI f_231_311 fd_12_204 (by decide) ?_
  refine s_aload_n f_231_314 rfl ?_
  refine M_getI f_231_315 fd_12_182 (by decide) ?_
  replace hd := gd hd
  obtain ⟨g10, hd⟩ := hd
  refine M_iastore (q := (ix (p9 154 20))) f_231_318 ⟨by decide, by decide, by decide, fun _ => rfl⟩ (Nat.le_of_ble_eq_true rfl : 200 < 2 ^ 31) rfl g10 ?_
  refine s_aload_n f_231_319 rfl ?_
  refine s_dup f_231_320 rfl ?_
  refine M_getI f_231_321 fd_12_204 (by decide) ?_
  refine k_iconst (v := 1) f_231_324 (by decide) ?_
  refine s_iadd f_231_325 ?_
  refine M_putI f_231_326 fd_12_204 (by decide) (Or.inl rfl) (by decide) ?_
  refine k_iconst (v := 1) f_231_329 (by decide) ?_
  refine s_istore_n f_231_330 (by decide) ?_
  refine s_iload f_231_331 rfl ?_
  refine k_iconst (v := 3) f_231_333 (by decide) ?_
  refine s_icmp_ge 341 f_231_334 (by decide) (fun c11 => ?_) (fun c11 => ?_)
  · replace hd := ite_p c11 hd
    refine k_iconst (v := 0) f_231_341 (by decide) ?_
    refine aAt.sub [(0, .ref 154), (1, .int a1), (2, .int (1 : Int32))] rfl ?_
    exact t_rM_readsE_J342 hk20 _ _ _ _  _ hd hQ
  · replace hd := ite_n c11 hd
    refine k_iconst (v := 1) f_231_337 (by decide) ?_
    refine s_goto 342 f_231_338 (by decide) ?_
    refine aAt.sub [(0, .ref 154), (1, .int a1), (2, .int (1 : Int32))] rfl ?_
    exact t_rM_readsE_J342 hk20 _ _ _ _  _ hd hQ
def rM_readsE_J278 (k20 : SS → Int32 → Int32 → Int32 → Option (Bool × SS)) (M : SS) (a1 : Int32) (w0 : Int32) : Option (Bool × SS) :=
  if w0 = 0 then
    some (false, M)
  else
    if w0 = (4 : Int32) then
      (rM_isTested M).bind fun p12 =>
      if p12 = true then
        some (false, M)
      else
        rM_readsE_J300 k20 M a1 w0
    else
      rM_readsE_J300 k20 M a1 w0
theorem t_rM_readsE_J278 {l : Launch} {G : aG} {d : Nat} {Q : Option Value → aHeap → Prop} {sl : Nat} {sx : Nat → Int32} {S : SS} {K : KS} {T : TS} {X : XS} {k20 : SS → Int32 → Int32 → Int32 → Option (Bool × SS)} (hk20 : ∀ (M : SS) (a1 : Int32) (a2 : Int32) (a3 : Int32) (p : Bool × SS), k20 M a1 a2 a3 = some p → Q (some (.int (b2i p.1))) (LH (old0 sl sx) S K T X p.2) → aAt l G (d + 3) 0 0 231 20 [(0, .ref 154), (1, .int a1), (2, .int a2), (3, .int a3)] [] 0 0 (LH (old0 sl sx) S K T X M) Q) : ∀ (M : SS) (a1 : Int32) (w0 : Int32) (p : Bool × SS), rM_readsE_J278 k20 M a1 w0 = some p → Q (some (.int (b2i p.1))) (LH (old0 sl sx) S K T X p.2) → aAt l G (d + 3) 0 0 231 278 [(0, .ref 154), (1, .int a1)] [.int w0] 0 0 (LH (old0 sl sx) S K T X M) Q := by
  intro M a1 w0 p hd hQ
  unfold rM_readsE_J278 at hd
  refine s_istore f_231_278 (by decide) ?_
  refine s_iload f_231_280 rfl ?_
  refine s_if_eq 298 f_231_282 (by decide) (fun c7 => ?_) (fun c7 => ?_)
  · replace hd := ite_p c7 hd
    refine k_iconst (v := 0) f_231_298 (by decide) ?_
    refine s_iretB (b := false) f_231_299 rfl ?_
    cases hd
    exact hQ
  · replace hd := ite_n c7 hd
    refine s_iload f_231_285 rfl ?_
    refine k_iconst (v := 4) f_231_287 (by decide) ?_
    refine s_icmp_ne 300 f_231_288 (by decide) (fun c8 => ?_) (fun c8 => ?_)
    · replace hd := ite_n c8 hd
      refine aAt.sub [(0, .ref 154), (1, .int a1), (4, .int w0)] rfl ?_
      exact t_rM_readsE_J300 hk20 _ _ _  _ hd hQ
    · replace hd := ite_p c8 hd
      refine s_aload_n f_231_291 rfl ?_
      replace hd := obind hd
      obtain ⟨p12, e12, hd⟩ := hd
      refine L_virt (As := []) f_231_292 ca_12_222 rfl rfl (obL (by decide)) (by decide) (Nat.le_of_ble_eq_true rfl) ?_
      refine t_rM_isTested e12 ?_
      refine z_if_eq 300 f_231_295 (by decide) (fun c13 => ?_) (fun c13 => ?_)
      · replace hd := ite_n c13 hd
        refine aAt.sub [(0, .ref 154), (1, .int a1), (4, .int w0)] rfl ?_
        exact t_rM_readsE_J300 hk20 _ _ _  _ hd hQ
      · replace hd := ite_p c13 hd
        refine k_iconst (v := 0) f_231_298 (by decide) ?_
        refine s_iretB (b := false) f_231_299 rfl ?_
        cases hd
        exact hQ
def rM_readsE_J258 (k20 : SS → Int32 → Int32 → Int32 → Option (Bool × SS)) (M : SS) (a1 : Int32) : Option (Bool × SS) :=
  if (M 154 17) = (17 : Int32) then
    rM_readsE_J278 k20 M a1 (0 : Int32)
  else
    (rM_rankOf (M 154 17)).bind fun p6 =>
    rM_readsE_J278 k20 M a1 p6
theorem t_rM_readsE_J258 {l : Launch} {G : aG} {d : Nat} {Q : Option Value → aHeap → Prop} {sl : Nat} {sx : Nat → Int32} {S : SS} {K : KS} {T : TS} {X : XS} {k20 : SS → Int32 → Int32 → Int32 → Option (Bool × SS)} (hk20 : ∀ (M : SS) (a1 : Int32) (a2 : Int32) (a3 : Int32) (p : Bool × SS), k20 M a1 a2 a3 = some p → Q (some (.int (b2i p.1))) (LH (old0 sl sx) S K T X p.2) → aAt l G (d + 3) 0 0 231 20 [(0, .ref 154), (1, .int a1), (2, .int a2), (3, .int a3)] [] 0 0 (LH (old0 sl sx) S K T X M) Q) : ∀ (M : SS) (a1 : Int32) (p : Bool × SS), rM_readsE_J258 k20 M a1 = some p → Q (some (.int (b2i p.1))) (LH (old0 sl sx) S K T X p.2) → aAt l G (d + 3) 0 0 231 258 [(0, .ref 154), (1, .int a1)] [] 0 0 (LH (old0 sl sx) S K T X M) Q := by
  intro M a1 p hd hQ
  unfold rM_readsE_J258 at hd
  refine s_aload_n f_231_258 rfl ?_
  refine M_getI f_231_259 fd_12_182 (by decide) ?_
  refine k_bipush (v := 17) f_231_262 (by decide) ?_
  refine s_icmp_ne 271 f_231_264 (by decide) (fun c5 => ?_) (fun c5 => ?_)
  · replace hd := ite_n c5 hd
    refine s_aload_n f_231_271 rfl ?_
    refine M_getI f_231_272 fd_12_182 (by decide) ?_
    replace hd := obind hd
    obtain ⟨p6, e6, hd⟩ := hd
    refine L_stat (As := [.int (M 154 17)]) f_231_275 ca_12_207 rfl rfl (Nat.le_of_ble_eq_true rfl) ?_
    refine t_rM_rankOf e6 ?_
    refine aAt.sub [(0, .ref 154), (1, .int a1)] rfl ?_
    exact t_rM_readsE_J278 hk20 _ _ _  _ hd hQ
  · replace hd := ite_p c5 hd
    refine k_iconst (v := 0) f_231_267 (by decide) ?_
    refine s_goto 278 f_231_268 (by decide) ?_
    refine aAt.sub [(0, .ref 154), (1, .int a1)] rfl ?_
    exact t_rM_readsE_J278 hk20 _ _ _  _ hd hQ
def rM_readsE_J209 (k20 : SS → Int32 → Int32 → Int32 → Option (Bool × SS)) (M : SS) (a1 : Int32) : Option (Bool × SS) :=
  if (M 154 17) = (159 : Int32) then
    (rM_waitsOf M (140 : Int32)).bind fun p14 =>
    if p14 = 0 then
      (rM_settles M (1 : Int32)).bind fun p16 =>
      if inb ((203 : Int32) * a1) 609 then
        some (true, (up p16 163 (ix ((203 : Int32) * a1)) (((p16 154 19) - ((203 : Int32) * a1)) - (1 : Int32))))
      else none
    else
      rM_readsE_J258 k20 M a1
  else
    rM_readsE_J258 k20 M a1
theorem t_rM_readsE_J209 {l : Launch} {G : aG} {d : Nat} {Q : Option Value → aHeap → Prop} {sl : Nat} {sx : Nat → Int32} {S : SS} {K : KS} {T : TS} {X : XS} {k20 : SS → Int32 → Int32 → Int32 → Option (Bool × SS)} (hk20 : ∀ (M : SS) (a1 : Int32) (a2 : Int32) (a3 : Int32) (p : Bool × SS), k20 M a1 a2 a3 = some p → Q (some (.int (b2i p.1))) (LH (old0 sl sx) S K T X p.2) → aAt l G (d + 3) 0 0 231 20 [(0, .ref 154), (1, .int a1), (2, .int a2), (3, .int a3)] [] 0 0 (LH (old0 sl sx) S K T X M) Q) : ∀ (M : SS) (a1 : Int32) (p : Bool × SS), rM_readsE_J209 k20 M a1 = some p → Q (some (.int (b2i p.1))) (LH (old0 sl sx) S K T X p.2) → aAt l G (d + 3) 0 0 231 209 [(0, .ref 154), (1, .int a1)] [] 0 0 (LH (old0 sl sx) S K T X M) Q := by
  intro M a1 p hd hQ
  unfold rM_readsE_J209 at hd
  refine s_aload_n f_231_209 rfl ?_
  refine M_getI f_231_210 fd_12_182 (by decide) ?_
  refine k_sipush (v := 159) f_231_213 (by decide) ?_
  refine s_icmp_ne 258 f_231_216 (by decide) (fun c4 => ?_) (fun c4 => ?_)
  · replace hd := ite_n c4 hd
    refine aAt.sub [(0, .ref 154), (1, .int a1)] rfl ?_
    exact t_rM_readsE_J258 hk20 _ _  _ hd hQ
  · replace hd := ite_p c4 hd
    refine s_aload_n f_231_219 rfl ?_
    refine k_sipush (v := 140) f_231_220 (by decide) ?_
    replace hd := obind hd
    obtain ⟨p14, e14, hd⟩ := hd
    refine L_virt (As := [.int (140 : Int32)]) f_231_223 ca_12_216 rfl rfl (obL (by decide)) (by decide) (Nat.le_of_ble_eq_true rfl) ?_
    refine t_rM_waitsOf e14 ?_
    refine s_if_ne 258 f_231_226 (by decide) (fun c15 => ?_) (fun c15 => ?_)
    · replace hd := ite_n c15 hd
      refine aAt.sub [(0, .ref 154), (1, .int a1)] rfl ?_
      exact t_rM_readsE_J258 hk20 _ _  _ hd hQ
    · replace hd := ite_p c15 hd
      refine s_aload_n f_231_229 rfl ?_
      refine k_iconst (v := 1) f_231_230 (by decide) ?_
      replace hd := obind hd
      obtain ⟨p16, e16, hd⟩ := hd
      refine L_virt (As := [.int (1 : Int32)]) f_231_231 ca_12_219 rfl rfl (obL (by decide)) (by decide) (Nat.le_of_ble_eq_true rfl) ?_
      refine t_rM_settles e16 ?_
      refine s_aload_n f_231_234 rfl ?_
      refine L_getR f_231_235 fd_12_37 (obL (by decide)) (by decide) (by decide : rf 154 11 = 163) ?_
      refine k_sipush (v := 203) f_231_238 (by decide) ?_
      refine s_iload_n f_231_241 rfl ?_
      refine s_imul f_231_242 ?_
      refine s_aload_n f_231_243 rfl ?_
      refine M_getI f_231_244 fd_12_201 (by decide) ?_
      refine k_sipush (v := 203) f_231_247 (by decide) ?_
      refine s_iload_n f_231_250 rfl ?_
      refine s_imul f_231_251 ?_
      refine s_isub f_231_252 ?_
      refine k_iconst (v := 1) f_231_253 (by decide) ?_
      refine s_isub f_231_254 ?_
      replace hd := gd hd
      obtain ⟨g17, hd⟩ := hd
      refine M_iastore (q := (ix ((203 : Int32) * a1))) f_231_255 ⟨by decide, by decide, by decide, fun _ => rfl⟩ (Nat.le_of_ble_eq_true rfl : 609 < 2 ^ 31) rfl g17 ?_
      refine k_iconst (v := 1) f_231_256 (by decide) ?_
      refine s_iretB (b := true) f_231_257 rfl ?_
      cases hd
      exact hQ
def rM_readsE_J168 (k20 : SS → Int32 → Int32 → Int32 → Option (Bool × SS)) (M : SS) (a1 : Int32) (a2 : Int32) (a3 : Int32) : Option (Bool × SS) :=
  k20 M a1 a2 a3
theorem t_rM_readsE_J168 {l : Launch} {G : aG} {d : Nat} {Q : Option Value → aHeap → Prop} {sl : Nat} {sx : Nat → Int32} {S : SS} {K : KS} {T : TS} {X : XS} {k20 : SS → Int32 → Int32 → Int32 → Option (Bool × SS)} (hk20 : ∀ (M : SS) (a1 : Int32) (a2 : Int32) (a3 : Int32) (p : Bool × SS), k20 M a1 a2 a3 = some p → Q (some (.int (b2i p.1))) (LH (old0 sl sx) S K T X p.2) → aAt l G (d + 3) 0 0 231 20 [(0, .ref 154), (1, .int a1), (2, .int a2), (3, .int a3)] [] 0 0 (LH (old0 sl sx) S K T X M) Q) : ∀ (M : SS) (a1 : Int32) (a2 : Int32) (a3 : Int32) (p : Bool × SS), rM_readsE_J168 k20 M a1 a2 a3 = some p → Q (some (.int (b2i p.1))) (LH (old0 sl sx) S K T X p.2) → aAt l G (d + 3) 0 0 231 168 [(0, .ref 154), (1, .int a1), (2, .int a2), (3, .int a3)] [] 0 0 (LH (old0 sl sx) S K T X M) Q := by
  intro M a1 a2 a3 p hd hQ
  unfold rM_readsE_J168 at hd
  refine s_goto 20 f_231_168 (by decide) ?_
  refine aAt.sub [(0, .ref 154), (1, .int a1), (2, .int a2), (3, .int a3)] rfl ?_
  exact hk20 _ _ _ _  _ hd hQ
def rM_readsE_J158 (k20 : SS → Int32 → Int32 → Int32 → Option (Bool × SS)) (M : SS) (a1 : Int32) (a3 : Int32) (w1 : Int32) : Option (Bool × SS) :=
  (rM_lays M w1).bind fun p26 =>
  rM_readsE_J168 k20 p26 a1 (0 : Int32) a3
theorem t_rM_readsE_J158 {l : Launch} {G : aG} {d : Nat} {Q : Option Value → aHeap → Prop} {sl : Nat} {sx : Nat → Int32} {S : SS} {K : KS} {T : TS} {X : XS} {k20 : SS → Int32 → Int32 → Int32 → Option (Bool × SS)} (hk20 : ∀ (M : SS) (a1 : Int32) (a2 : Int32) (a3 : Int32) (p : Bool × SS), k20 M a1 a2 a3 = some p → Q (some (.int (b2i p.1))) (LH (old0 sl sx) S K T X p.2) → aAt l G (d + 3) 0 0 231 20 [(0, .ref 154), (1, .int a1), (2, .int a2), (3, .int a3)] [] 0 0 (LH (old0 sl sx) S K T X M) Q) : ∀ (M : SS) (a1 : Int32) (a3 : Int32) (w1 : Int32) (p : Bool × SS), rM_readsE_J158 k20 M a1 a3 w1 = some p → Q (some (.int (b2i p.1))) (LH (old0 sl sx) S K T X p.2) → aAt l G (d + 3) 0 0 231 158 [(0, .ref 154), (1, .int a1), (3, .int a3)] [.int w1, .ref 154] 0 0 (LH (old0 sl sx) S K T X M) Q := by
  intro M a1 a3 w1 p hd hQ
  unfold rM_readsE_J158 at hd
  replace hd := obind hd
  obtain ⟨p26, e26, hd⟩ := hd
  refine L_virt (As := [.int w1]) f_231_158 ca_12_210 rfl rfl (obL (by decide)) (by decide) (Nat.le_of_ble_eq_true rfl) ?_
  refine t_rM_lays e26 ?_
  refine k_iconst (v := 0) f_231_161 (by decide) ?_
  refine s_istore_n f_231_162 (by decide) ?_
  refine s_goto 168 f_231_163 (by decide) ?_
  refine aAt.sub [(0, .ref 154), (1, .int a1), (2, .int (0 : Int32)), (3, .int a3)] rfl ?_
  exact t_rM_readsE_J168 hk20 _ _ _ _  _ hd hQ
def rM_readsE_J136 (k20 : SS → Int32 → Int32 → Int32 → Option (Bool × SS)) (M : SS) (a1 : Int32) (a3 : Int32) : Option (Bool × SS) :=
  if (M 154 17) = (50 : Int32) then
    rM_readsE_J158 k20 M a1 a3 (M 154 18)
  else
    rM_readsE_J158 k20 M a1 a3 (-(M 154 17))
theorem t_rM_readsE_J136 {l : Launch} {G : aG} {d : Nat} {Q : Option Value → aHeap → Prop} {sl : Nat} {sx : Nat → Int32} {S : SS} {K : KS} {T : TS} {X : XS} {k20 : SS → Int32 → Int32 → Int32 → Option (Bool × SS)} (hk20 : ∀ (M : SS) (a1 : Int32) (a2 : Int32) (a3 : Int32) (p : Bool × SS), k20 M a1 a2 a3 = some p → Q (some (.int (b2i p.1))) (LH (old0 sl sx) S K T X p.2) → aAt l G (d + 3) 0 0 231 20 [(0, .ref 154), (1, .int a1), (2, .int a2), (3, .int a3)] [] 0 0 (LH (old0 sl sx) S K T X M) Q) : ∀ (M : SS) (a1 : Int32) (a3 : Int32) (p : Bool × SS), rM_readsE_J136 k20 M a1 a3 = some p → Q (some (.int (b2i p.1))) (LH (old0 sl sx) S K T X p.2) → aAt l G (d + 3) 0 0 231 136 [(0, .ref 154), (1, .int a1), (3, .int a3)] [] 0 0 (LH (old0 sl sx) S K T X M) Q := by
  intro M a1 a3 p hd hQ
  unfold rM_readsE_J136 at hd
  refine s_aload_n f_231_136 rfl ?_
  refine s_aload_n f_231_137 rfl ?_
  refine M_getI f_231_138 fd_12_182 (by decide) ?_
  refine k_bipush (v := 50) f_231_141 (by decide) ?_
  refine s_icmp_ne 153 f_231_143 (by decide) (fun c25 => ?_) (fun c25 => ?_)
  · replace hd := ite_n c25 hd
    refine s_aload_n f_231_153 rfl ?_
    refine M_getI f_231_154 fd_12_182 (by decide) ?_
    refine s_ineg f_231_157 ?_
    refine aAt.sub [(0, .ref 154), (1, .int a1), (3, .int a3)] rfl ?_
    exact t_rM_readsE_J158 hk20 _ _ _ _  _ hd hQ
  · replace hd := ite_p c25 hd
    refine s_aload_n f_231_146 rfl ?_
    refine M_getI f_231_147 fd_12_195 (by decide) ?_
    refine s_goto 158 f_231_150 (by decide) ?_
    refine aAt.sub [(0, .ref 154), (1, .int a1), (3, .int a3)] rfl ?_
    exact t_rM_readsE_J158 hk20 _ _ _ _  _ hd hQ
def rM_readsE_J109 (k20 : SS → Int32 → Int32 → Int32 → Option (Bool × SS)) (M : SS) (a1 : Int32) (a3 : Int32) (a4 : Bool) : Option (Bool × SS) :=
  if a4 = true then
    some (false, M)
  else
    if (M 154 17) = (50 : Int32) then
      rM_readsE_J136 k20 M a1 a3
    else
      (rM_in (M 154 17) (1 : Int32) (11 : Int32)).bind fun p27 =>
      if p27 = true then
        rM_readsE_J136 k20 M a1 a3
      else
        some (false, M)
theorem t_rM_readsE_J109 {l : Launch} {G : aG} {d : Nat} {Q : Option Value → aHeap → Prop} {sl : Nat} {sx : Nat → Int32} {S : SS} {K : KS} {T : TS} {X : XS} {k20 : SS → Int32 → Int32 → Int32 → Option (Bool × SS)} (hk20 : ∀ (M : SS) (a1 : Int32) (a2 : Int32) (a3 : Int32) (p : Bool × SS), k20 M a1 a2 a3 = some p → Q (some (.int (b2i p.1))) (LH (old0 sl sx) S K T X p.2) → aAt l G (d + 3) 0 0 231 20 [(0, .ref 154), (1, .int a1), (2, .int a2), (3, .int a3)] [] 0 0 (LH (old0 sl sx) S K T X M) Q) : ∀ (M : SS) (a1 : Int32) (a3 : Int32) (a4 : Bool) (p : Bool × SS), rM_readsE_J109 k20 M a1 a3 a4 = some p → Q (some (.int (b2i p.1))) (LH (old0 sl sx) S K T X p.2) → aAt l G (d + 3) 0 0 231 109 [(0, .ref 154), (1, .int a1), (3, .int a3), (4, .int (b2i a4))] [] 0 0 (LH (old0 sl sx) S K T X M) Q := by
  intro M a1 a3 a4 p hd hQ
  unfold rM_readsE_J109 at hd
  refine s_iload f_231_109 rfl ?_
  refine z_if_ne 166 f_231_111 (by decide) (fun c23 => ?_) (fun c23 => ?_)
  · replace hd := ite_p c23 hd
    refine k_iconst (v := 0) f_231_166 (by decide) ?_
    refine s_iretB (b := false) f_231_167 rfl ?_
    cases hd
    exact hQ
  · replace hd := ite_n c23 hd
    refine s_aload_n f_231_114 rfl ?_
    refine M_getI f_231_115 fd_12_182 (by decide) ?_
    refine k_bipush (v := 50) f_231_118 (by decide) ?_
    refine s_icmp_eq 136 f_231_120 (by decide) (fun c24 => ?_) (fun c24 => ?_)
    · replace hd := ite_p c24 hd
      refine aAt.sub [(0, .ref 154), (1, .int a1), (3, .int a3)] rfl ?_
      exact t_rM_readsE_J136 hk20 _ _ _  _ hd hQ
    · replace hd := ite_n c24 hd
      refine s_aload_n f_231_123 rfl ?_
      refine M_getI f_231_124 fd_12_182 (by decide) ?_
      refine k_iconst (v := 1) f_231_127 (by decide) ?_
      refine k_bipush (v := 11) f_231_128 (by decide) ?_
      replace hd := obind hd
      obtain ⟨p27, e27, hd⟩ := hd
      refine L_stat (As := [.int (M 154 17), .int (1 : Int32), .int (11 : Int32)]) f_231_130 ca_12_69 rfl rfl (Nat.le_of_ble_eq_true rfl) ?_
      refine t_rM_in e27 ?_
      refine z_if_eq 166 f_231_133 (by decide) (fun c28 => ?_) (fun c28 => ?_)
      · replace hd := ite_n c28 hd
        refine k_iconst (v := 0) f_231_166 (by decide) ?_
        refine s_iretB (b := false) f_231_167 rfl ?_
        cases hd
        exact hQ
      · replace hd := ite_p c28 hd
        refine aAt.sub [(0, .ref 154), (1, .int a1), (3, .int a3)] rfl ?_
        exact t_rM_readsE_J136 hk20 _ _ _  _ hd hQ
def rM_readsE_J56 (k20 : SS → Int32 → Int32 → Int32 → Option (Bool × SS)) (M : SS) (a1 : Int32) (a2 : Int32) (a3 : Int32) (w0 : Bool) : Option (Bool × SS) :=
  if w0 = true then
    (rM_waitsOf M (140 : Int32)).bind fun p29 =>
    (rM_waitsOf M (17 : Int32)).bind fun p30 =>
    if (4 : Int32) ≤ (p29 + p30) then
      rM_readsE_J109 k20 M a1 a3 w0
    else
      if inb (M 154 20) 200 then
        rM_readsE_J168 k20 (up (up M 164 (ix (M 154 20)) (M 154 17)) 154 20 (((up M 164 (ix (M 154 20)) (M 154 17)) 154 20) + (1 : Int32))) a1 a2 (1 : Int32)
      else none
  else
    rM_readsE_J109 k20 M a1 a3 w0
theorem t_rM_readsE_J56 {l : Launch} {G : aG} {d : Nat} {Q : Option Value → aHeap → Prop} {sl : Nat} {sx : Nat → Int32} {S : SS} {K : KS} {T : TS} {X : XS} {k20 : SS → Int32 → Int32 → Int32 → Option (Bool × SS)} (hk20 : ∀ (M : SS) (a1 : Int32) (a2 : Int32) (a3 : Int32) (p : Bool × SS), k20 M a1 a2 a3 = some p → Q (some (.int (b2i p.1))) (LH (old0 sl sx) S K T X p.2) → aAt l G (d + 3) 0 0 231 20 [(0, .ref 154), (1, .int a1), (2, .int a2), (3, .int a3)] [] 0 0 (LH (old0 sl sx) S K T X M) Q) : ∀ (M : SS) (a1 : Int32) (a2 : Int32) (a3 : Int32) (w0 : Bool) (p : Bool × SS), rM_readsE_J56 k20 M a1 a2 a3 w0 = some p → Q (some (.int (b2i p.1))) (LH (old0 sl sx) S K T X p.2) → aAt l G (d + 3) 0 0 231 56 [(0, .ref 154), (1, .int a1), (2, .int a2), (3, .int a3)] [.int (b2i w0)] 0 0 (LH (old0 sl sx) S K T X M) Q := by
  intro M a1 a2 a3 w0 p hd hQ
  unfold rM_readsE_J56 at hd
  refine s_istore f_231_56 (by decide) ?_
  refine s_iload f_231_58 rfl ?_
  refine z_if_eq 109 f_231_60 (by decide) (fun c22 => ?_) (fun c22 => ?_)
  · replace hd := ite_n c22 hd
    refine aAt.sub [(0, .ref 154), (1, .int a1), (3, .int a3), (4, .int (b2i w0))] rfl ?_
    exact t_rM_readsE_J109 hk20 _ _ _ _  _ hd hQ
  · replace hd := ite_p c22 hd
    refine s_aload_n f_231_63 rfl ?_
    refine k_sipush (v := 140) f_231_64 (by decide) ?_
    replace hd := obind hd
    obtain ⟨p29, e29, hd⟩ := hd
    refine L_virt (As := [.int (140 : Int32)]) f_231_67 ca_12_216 rfl rfl (obL (by decide)) (by decide) (Nat.le_of_ble_eq_true rfl) ?_
    refine t_rM_waitsOf e29 ?_
    refine s_aload_n f_231_70 rfl ?_
    refine k_bipush (v := 17) f_231_71 (by decide) ?_
    replace hd := obind hd
    obtain ⟨p30, e30, hd⟩ := hd
    refine L_virt (As := [.int (17 : Int32)]) f_231_73 ca_12_216 rfl rfl (obL (by decide)) (by decide) (Nat.le_of_ble_eq_true rfl) ?_
    refine t_rM_waitsOf e30 ?_
    refine s_iadd f_231_76 ?_
    refine k_iconst (v := 4) f_231_77 (by decide) ?_
    refine s_icmp_ge 109 f_231_78 (by decide) (fun c31 => ?_) (fun c31 => ?_)
    · replace hd := ite_p c31 hd
      refine aAt.sub [(0, .ref 154), (1, .int a1), (3, .int a3), (4, .int (b2i w0))] rfl ?_
      exact t_rM_readsE_J109 hk20 _ _ _ _  _ hd hQ
    · replace hd := ite_n c31 hd
      refine s_aload_n f_231_81 rfl ?_
      refine L_getR f_231_82 fd_12_40 (obL (by decide)) (by decide) (by decide : rf 154 12 = 164) ?_
      refine s_aload_n f_231_85 rfl ?_
      refine M_getI f_231_86 fd_12_204 (by decide) ?_
      refine s_aload_n f_231_89 rfl ?_
      refine M_getI f_231_90 fd_12_182 (by decide) ?_
      replace hd := gd hd
      obtain ⟨g32, hd⟩ := hd
      refine M_iastore (q := (ix (M 154 20))) f_231_93 ⟨by decide, by decide, by decide, fun _ => rfl⟩ (Nat.le_of_ble_eq_true rfl : 200 < 2 ^ 31) rfl g32 ?_
      refine s_aload_n f_231_94 rfl ?_
      refine s_dup f_231_95 rfl ?_
      refine M_getI f_231_96 fd_12_204 (by decide) ?_
      refine k_iconst (v := 1) f_231_99 (by decide) ?_
      refine s_iadd f_231_100 ?_
      refine M_putI f_231_101 fd_12_204 (by decide) (Or.inl rfl) (by decide) ?_
      refine k_iconst (v := 1) f_231_104 (by decide) ?_
      refine s_istore_n f_231_105 (by decide) ?_
      refine s_goto 168 f_231_106 (by decide) ?_
      refine aAt.sub [(0, .ref 154), (1, .int a1), (2, .int a2), (3, .int (1 : Int32))] rfl ?_
      exact t_rM_readsE_J168 hk20 _ _ _ _  _ hd hQ
def rM_readsE_J51 (k20 : SS → Int32 → Int32 → Int32 → Option (Bool × SS)) (M : SS) (a1 : Int32) (a2 : Int32) (a3 : Int32) : Option (Bool × SS) :=
  rM_readsE_J56 k20 M a1 a2 a3 true
theorem t_rM_readsE_J51 {l : Launch} {G : aG} {d : Nat} {Q : Option Value → aHeap → Prop} {sl : Nat} {sx : Nat → Int32} {S : SS} {K : KS} {T : TS} {X : XS} {k20 : SS → Int32 → Int32 → Int32 → Option (Bool × SS)} (hk20 : ∀ (M : SS) (a1 : Int32) (a2 : Int32) (a3 : Int32) (p : Bool × SS), k20 M a1 a2 a3 = some p → Q (some (.int (b2i p.1))) (LH (old0 sl sx) S K T X p.2) → aAt l G (d + 3) 0 0 231 20 [(0, .ref 154), (1, .int a1), (2, .int a2), (3, .int a3)] [] 0 0 (LH (old0 sl sx) S K T X M) Q) : ∀ (M : SS) (a1 : Int32) (a2 : Int32) (a3 : Int32) (p : Bool × SS), rM_readsE_J51 k20 M a1 a2 a3 = some p → Q (some (.int (b2i p.1))) (LH (old0 sl sx) S K T X p.2) → aAt l G (d + 3) 0 0 231 51 [(0, .ref 154), (1, .int a1), (2, .int a2), (3, .int a3)] [] 0 0 (LH (old0 sl sx) S K T X M) Q := by
  intro M a1 a2 a3 p hd hQ
  unfold rM_readsE_J51 at hd
  refine k_iconst (v := 1) f_231_51 (by decide) ?_
  refine s_goto 56 f_231_52 (by decide) ?_
  refine aAt.sub [(0, .ref 154), (1, .int a1), (2, .int a2), (3, .int a3)] rfl ?_
  exact t_rM_readsE_J56 hk20 _ _ _ _ _  _ hd hQ
def rM_readsE_J55 (k20 : SS → Int32 → Int32 → Int32 → Option (Bool × SS)) (M : SS) (a1 : Int32) (a2 : Int32) (a3 : Int32) : Option (Bool × SS) :=
  rM_readsE_J56 k20 M a1 a2 a3 false
theorem t_rM_readsE_J55 {l : Launch} {G : aG} {d : Nat} {Q : Option Value → aHeap → Prop} {sl : Nat} {sx : Nat → Int32} {S : SS} {K : KS} {T : TS} {X : XS} {k20 : SS → Int32 → Int32 → Int32 → Option (Bool × SS)} (hk20 : ∀ (M : SS) (a1 : Int32) (a2 : Int32) (a3 : Int32) (p : Bool × SS), k20 M a1 a2 a3 = some p → Q (some (.int (b2i p.1))) (LH (old0 sl sx) S K T X p.2) → aAt l G (d + 3) 0 0 231 20 [(0, .ref 154), (1, .int a1), (2, .int a2), (3, .int a3)] [] 0 0 (LH (old0 sl sx) S K T X M) Q) : ∀ (M : SS) (a1 : Int32) (a2 : Int32) (a3 : Int32) (p : Bool × SS), rM_readsE_J55 k20 M a1 a2 a3 = some p → Q (some (.int (b2i p.1))) (LH (old0 sl sx) S K T X p.2) → aAt l G (d + 3) 0 0 231 55 [(0, .ref 154), (1, .int a1), (2, .int a2), (3, .int a3)] [] 0 0 (LH (old0 sl sx) S K T X M) Q := by
  intro M a1 a2 a3 p hd hQ
  unfold rM_readsE_J55 at hd
  refine k_iconst (v := 0) f_231_55 (by decide) ?_
  refine aAt.sub [(0, .ref 154), (1, .int a1), (2, .int a2), (3, .int a3)] rfl ?_
  exact t_rM_readsE_J56 hk20 _ _ _ _ _  _ hd hQ
def rM_readsE_L20 : Nat → SS → Int32 → Int32 → Int32 → Option (Bool × SS)
  | 0, _, _, _, _ => none
  | n + 1, M, a1, a2, a3 =>
    (rM_looks M).bind fun p1 =>
    if a2 = 0 then
      if (p1 154 17) = (141 : Int32) then
        (rM_waitsOf p1 (140 : Int32)).bind fun p18 =>
        if p18 ≤ 0 then
          rM_readsE_J209 (rM_readsE_L20  n) p1 a1
        else
          (rM_settles p1 (1 : Int32)).bind fun p20 =>
          rM_readsE_L20  n (up p20 154 20 ((p20 154 20) - (1 : Int32))) a1 a2 a3
      else
        rM_readsE_J209 (rM_readsE_L20  n) p1 a1
    else
      if (p1 154 17) = (140 : Int32) then
        rM_readsE_J51 (rM_readsE_L20  n) p1 a1 a2 a3
      else
        if (p1 154 17) = (17 : Int32) then
          if a3 = 0 then
            rM_readsE_J55 (rM_readsE_L20  n) p1 a1 a2 a3
          else
            rM_readsE_J51 (rM_readsE_L20  n) p1 a1 a2 a3
        else
          rM_readsE_J55 (rM_readsE_L20  n) p1 a1 a2 a3
theorem t_rM_readsE_L20 {l : Launch} {G : aG} {d : Nat} {Q : Option Value → aHeap → Prop} {sl : Nat} {sx : Nat → Int32} {S : SS} {K : KS} {T : TS} {X : XS} : ∀ (n : Nat), ∀ (M : SS) (a1 : Int32) (a2 : Int32) (a3 : Int32) (p : Bool × SS), rM_readsE_L20 n M a1 a2 a3 = some p → Q (some (.int (b2i p.1))) (LH (old0 sl sx) S K T X p.2) → aAt l G (d + 3) 0 0 231 20 [(0, .ref 154), (1, .int a1), (2, .int a2), (3, .int a3)] [] 0 0 (LH (old0 sl sx) S K T X M) Q := by
  intro n
  induction n with
  | zero =>
    intro M a1 a2 a3 p hd hQ
    rw [rM_readsE_L20] at hd
    cases hd
  | succ n ih =>
    intro M a1 a2 a3 p hd hQ
    rw [rM_readsE_L20] at hd
    refine s_aload_n f_231_20 rfl ?_
    replace hd := obind hd
    obtain ⟨p1, e1, hd⟩ := hd
    refine L_virt (As := []) f_231_21 ca_12_213 rfl rfl (obL (by decide)) (by decide) (Nat.le_of_ble_eq_true rfl) ?_
    refine t_rM_looks e1 ?_
    refine s_iload_n f_231_24 rfl ?_
    refine s_if_eq 171 f_231_25 (by decide) (fun c2 => ?_) (fun c2 => ?_)
    · replace hd := ite_p c2 hd
      refine s_aload_n f_231_171 rfl ?_
      refine M_getI f_231_172 fd_12_182 (by decide) ?_
      refine k_sipush (v := 141) f_231_175 (by decide) ?_
      refine s_icmp_ne 209 f_231_178 (by decide) (fun c3 => ?_) (fun c3 => ?_)
      · replace hd := ite_n c3 hd
        refine aAt.sub [(0, .ref 154), (1, .int a1)] rfl ?_
        exact t_rM_readsE_J209 ih _ _  _ hd hQ
      · replace hd := ite_p c3 hd
        refine s_aload_n f_231_181 rfl ?_
        refine k_sipush (v := 140) f_231_182 (by decide) ?_
        replace hd := obind hd
        obtain ⟨p18, e18, hd⟩ := hd
        refine L_virt (As := [.int (140 : Int32)]) f_231_185 ca_12_216 rfl rfl (obL (by decide)) (by decide) (Nat.le_of_ble_eq_true rfl) ?_
        refine t_rM_waitsOf e18 ?_
        refine s_if_le 209 f_231_188 (by decide) (fun c19 => ?_) (fun c19 => ?_)
        · replace hd := ite_p c19 hd
          refine aAt.sub [(0, .ref 154), (1, .int a1)] rfl ?_
          exact t_rM_readsE_J209 ih _ _  _ hd hQ
        · replace hd := ite_n c19 hd
          refine s_aload_n f_231_191 rfl ?_
          refine k_iconst (v := 1) f_231_192 (by decide) ?_
          replace hd := obind hd
          obtain ⟨p20, e20, hd⟩ := hd
          refine L_virt (As := [.int (1 : Int32)]) f_231_193 ca_12_219 rfl rfl (obL (by decide)) (by decide) (Nat.le_of_ble_eq_true rfl) ?_
          refine t_rM_settles e20 ?_
          refine s_aload_n f_231_196 rfl ?_
          refine s_dup f_231_197 rfl ?_
          refine M_getI f_231_198 fd_12_204 (by decide) ?_
          refine k_iconst (v := 1) f_231_201 (by decide) ?_
          refine s_isub f_231_202 ?_
          refine M_putI f_231_203 fd_12_204 (by decide) (Or.inl rfl) (by decide) ?_
          refine s_goto 20 f_231_206 (by decide) ?_
          refine aAt.sub [(0, .ref 154), (1, .int a1), (2, .int a2), (3, .int a3)] rfl ?_
          exact ih _ _ _ _  _ hd hQ
    · replace hd := ite_n c2 hd
      refine s_aload_n f_231_28 rfl ?_
      refine M_getI f_231_29 fd_12_182 (by decide) ?_
      refine k_sipush (v := 140) f_231_32 (by decide) ?_
      refine s_icmp_eq 51 f_231_35 (by decide) (fun c21 => ?_) (fun c21 => ?_)
      · replace hd := ite_p c21 hd
        refine aAt.sub [(0, .ref 154), (1, .int a1), (2, .int a2), (3, .int a3)] rfl ?_
        exact t_rM_readsE_J51 ih _ _ _ _  _ hd hQ
      · replace hd := ite_n c21 hd
        refine s_aload_n f_231_38 rfl ?_
        refine M_getI f_231_39 fd_12_182 (by decide) ?_
        refine k_bipush (v := 17) f_231_42 (by decide) ?_
        refine s_icmp_ne 55 f_231_44 (by decide) (fun c33 => ?_) (fun c33 => ?_)
        · replace hd := ite_n c33 hd
          refine aAt.sub [(0, .ref 154), (1, .int a1), (2, .int a2), (3, .int a3)] rfl ?_
          exact t_rM_readsE_J55 ih _ _ _ _  _ hd hQ
        · replace hd := ite_p c33 hd
          refine s_iload_n f_231_47 rfl ?_
          refine s_if_eq 55 f_231_48 (by decide) (fun c34 => ?_) (fun c34 => ?_)
          · replace hd := ite_p c34 hd
            refine aAt.sub [(0, .ref 154), (1, .int a1), (2, .int a2), (3, .int a3)] rfl ?_
            exact t_rM_readsE_J55 ih _ _ _ _  _ hd hQ
          · replace hd := ite_n c34 hd
            refine aAt.sub [(0, .ref 154), (1, .int a1), (2, .int a2), (3, .int a3)] rfl ?_
            exact t_rM_readsE_J51 ih _ _ _ _  _ hd hQ
def rM_readsE (M : SS) (a1 : Int32) : Option (Bool × SS) :=
  rM_readsE_L20 FU (up (up M 154 19 (((203 : Int32) * a1) + (1 : Int32))) 154 20 (0 : Int32)) a1 (1 : Int32) (1 : Int32)
theorem t_rM_readsE {l : Launch} {G : aG} {d : Nat} {Q : Option Value → aHeap → Prop} {sl : Nat} {sx : Nat → Int32} {S : SS} {K : KS} {T : TS} {X : XS} {M : SS} {a1 : Int32} {p : Bool × SS} (hd : rM_readsE M a1 = some p) (hQ : Q (some (.int (b2i p.1))) (LH (old0 sl sx) S K T X p.2)) : aCall l G (d + 3) 0 0 231 [.ref 154, .int a1] (LH (old0 sl sx) S K T X M) Q := by
  refine aCall.of (by decide) (Nat.le_of_ble_eq_true rfl) ?_
  refine aAt.sub [(0, .ref 154), (1, .int a1)] rfl ?_
  unfold rM_readsE at hd
  refine s_aload_n f_231_0 rfl ?_
  refine k_sipush (v := 203) f_231_1 (by decide) ?_
  refine s_iload_n f_231_4 rfl ?_
  refine s_imul f_231_5 ?_
  refine k_iconst (v := 1) f_231_6 (by decide) ?_
  refine s_iadd f_231_7 ?_
  refine M_putI f_231_8 fd_12_201 (by decide) (Or.inl rfl) (by decide) ?_
  refine s_aload_n f_231_11 rfl ?_
  refine k_iconst (v := 0) f_231_12 (by decide) ?_
  refine M_putI f_231_13 fd_12_204 (by decide) (Or.inl rfl) (by decide) ?_
  refine k_iconst (v := 1) f_231_16 (by decide) ?_
  refine s_istore_n f_231_17 (by decide) ?_
  refine k_iconst (v := 1) f_231_18 (by decide) ?_
  refine s_istore_n f_231_19 (by decide) ?_
  refine aAt.sub [(0, .ref 154), (1, .int a1), (2, .int (1 : Int32)), (3, .int (1 : Int32))] rfl ?_
  exact t_rM_readsE_L20 FU _ _ _ _  _ hd hQ

def rM_reads_L7 : Nat → SS → Int32 → Option (Bool × SS)
  | 0, _, _ => none
  | n + 1, M, a1 =>
    if (3 : Int32) ≤ a1 then
      (rM_looks M).bind fun p2 =>
      if (p2 154 17) = 0 then
        some (true, p2)
      else
        some (false, p2)
    else
      (rM_looks M).bind fun p4 =>
      if (p4 154 17) = ((12 : Int32) + a1) then
        (rM_readsE p4 a1).bind fun p6 =>
        if p6.1 = true then
          rM_reads_L7  n p6.2 (a1 + 1)
        else
          some (false, p6.2)
      else
        some (false, p4)
theorem t_rM_reads_L7 {l : Launch} {G : aG} {d : Nat} {Q : Option Value → aHeap → Prop} {sl : Nat} {sx : Nat → Int32} {S : SS} {K : KS} {T : TS} {X : XS} : ∀ (n : Nat), ∀ (M : SS) (a1 : Int32) (p : Bool × SS), rM_reads_L7 n M a1 = some p → Q (some (.int (b2i p.1))) (LH (old0 sl sx) S K T X p.2) → aAt l G (d + 4) 0 0 224 7 [(0, .ref 154), (1, .int a1)] [] 0 0 (LH (old0 sl sx) S K T X M) Q := by
  intro n
  induction n with
  | zero =>
    intro M a1 p hd hQ
    rw [rM_reads_L7] at hd
    cases hd
  | succ n ih =>
    intro M a1 p hd hQ
    rw [rM_reads_L7] at hd
    refine s_iload_n f_224_7 rfl ?_
    refine k_iconst (v := 3) f_224_8 (by decide) ?_
    refine s_icmp_ge 43 f_224_9 (by decide) (fun c1 => ?_) (fun c1 => ?_)
    · replace hd := ite_p c1 hd
      refine s_aload_n f_224_43 rfl ?_
      replace hd := obind hd
      obtain ⟨p2, e2, hd⟩ := hd
      refine L_virt (As := []) f_224_44 ca_12_213 rfl rfl (obL (by decide)) (by decide) (Nat.le_of_ble_eq_true rfl) ?_
      refine t_rM_looks e2 ?_
      refine s_aload_n f_224_47 rfl ?_
      refine M_getI f_224_48 fd_12_182 (by decide) ?_
      refine s_if_ne 58 f_224_51 (by decide) (fun c3 => ?_) (fun c3 => ?_)
      · replace hd := ite_n c3 hd
        refine k_iconst (v := 0) f_224_58 (by decide) ?_
        refine s_iretB (b := false) f_224_59 rfl ?_
        cases hd
        exact hQ
      · replace hd := ite_p c3 hd
        refine k_iconst (v := 1) f_224_54 (by decide) ?_
        refine s_goto 59 f_224_55 (by decide) ?_
        refine s_iretB (b := true) f_224_59 rfl ?_
        cases hd
        exact hQ
    · replace hd := ite_n c1 hd
      refine s_aload_n f_224_12 rfl ?_
      replace hd := obind hd
      obtain ⟨p4, e4, hd⟩ := hd
      refine L_virt (As := []) f_224_13 ca_12_213 rfl rfl (obL (by decide)) (by decide) (Nat.le_of_ble_eq_true rfl) ?_
      refine t_rM_looks e4 ?_
      refine s_aload_n f_224_16 rfl ?_
      refine M_getI f_224_17 fd_12_182 (by decide) ?_
      refine k_bipush (v := 12) f_224_20 (by decide) ?_
      refine s_iload_n f_224_22 rfl ?_
      refine s_iadd f_224_23 ?_
      refine s_icmp_ne 35 f_224_24 (by decide) (fun c5 => ?_) (fun c5 => ?_)
      · replace hd := ite_n c5 hd
        refine k_iconst (v := 0) f_224_35 (by decide) ?_
        refine s_iretB (b := false) f_224_36 rfl ?_
        cases hd
        exact hQ
      · replace hd := ite_p c5 hd
        refine s_aload_n f_224_27 rfl ?_
        refine s_iload_n f_224_28 rfl ?_
        replace hd := obind hd
        obtain ⟨p6, e6, hd⟩ := hd
        refine L_virt (As := [.int a1]) f_224_29 ca_12_226 rfl rfl (obL (by decide)) (by decide) (Nat.le_of_ble_eq_true rfl) ?_
        refine t_rM_readsE e6 ?_
        refine z_if_ne 37 f_224_32 (by decide) (fun c7 => ?_) (fun c7 => ?_)
        · replace hd := ite_p c7 hd
          refine k_iinc (w := 1) f_224_37 rfl (by decide) (by decide) ?_
          refine s_goto 7 f_224_40 (by decide) ?_
          refine aAt.sub [(0, .ref 154), (1, .int (a1 + 1))] rfl ?_
          exact ih _ _  _ hd hQ
        · replace hd := ite_n c7 hd
          refine k_iconst (v := 0) f_224_35 (by decide) ?_
          refine s_iretB (b := false) f_224_36 rfl ?_
          cases hd
          exact hQ
def rM_reads (M : SS) : Option (Bool × SS) :=
  rM_reads_L7 FU (up M 154 16 (0 : Int32)) (0 : Int32)
theorem t_rM_reads {l : Launch} {G : aG} {d : Nat} {Q : Option Value → aHeap → Prop} {sl : Nat} {sx : Nat → Int32} {S : SS} {K : KS} {T : TS} {X : XS} {M : SS} {p : Bool × SS} (hd : rM_reads M = some p) (hQ : Q (some (.int (b2i p.1))) (LH (old0 sl sx) S K T X p.2)) : aCall l G (d + 4) 0 0 224 [.ref 154] (LH (old0 sl sx) S K T X M) Q := by
  refine aCall.of (by decide) (Nat.le_of_ble_eq_true rfl) ?_
  refine aAt.sub [(0, .ref 154)] rfl ?_
  unfold rM_reads at hd
  refine s_aload_n f_224_0 rfl ?_
  refine k_iconst (v := 0) f_224_1 (by decide) ?_
  refine M_putI f_224_2 fd_12_173 (by decide) (Or.inl rfl) (by decide) ?_
  refine k_iconst (v := 0) f_224_5 (by decide) ?_
  refine s_istore_n f_224_6 (by decide) ?_
  refine aAt.sub [(0, .ref 154), (1, .int (0 : Int32))] rfl ?_
  exact t_rM_reads_L7 FU _ _  _ hd hQ

def rM_text_L37 : Nat → SS → Int32 → Int32 → Option (Int32 × SS)
  | 0, _, _, _ => none
  | n + 1, M, a1, a3 =>
    if (609 : Int32) ≤ a3 then
      some ((-1 : Int32), M)
    else
      if inb a3 609 then
        if inb (((406 : Int32) + ((609 : Int32) * a1)) + a3) 10759 then
          rM_text_L37  n (up M 155 (ix (((406 : Int32) + ((609 : Int32) * a1)) + a3)) (M 163 (ix a3))) a1 (a3 + 1)
        else none
      else none
theorem t_rM_text_L37 {l : Launch} {G : aG} {d : Nat} {Q : Option Value → aHeap → Prop} {sl : Nat} {sx : Nat → Int32} {S : SS} {K : KS} {T : TS} {X : XS} : ∀ (n : Nat), ∀ (M : SS) (a1 : Int32) (a3 : Int32) (p : Int32 × SS), rM_text_L37 n M a1 a3 = some p → Q (some (.int p.1)) (LH (old0 sl sx) S K T X p.2) → aAt l G (d + 5) 0 0 223 37 [(0, .ref 154), (1, .int a1), (3, .int a3)] [] 0 0 (LH (old0 sl sx) S K T X M) Q := by
  intro n
  induction n with
  | zero =>
    intro M a1 a3 p hd hQ
    rw [rM_text_L37] at hd
    cases hd
  | succ n ih =>
    intro M a1 a3 p hd hQ
    rw [rM_text_L37] at hd
    refine s_iload_n f_223_37 rfl ?_
    refine k_sipush (v := 609) f_223_38 (by decide) ?_
    refine s_icmp_ge 72 f_223_41 (by decide) (fun c5 => ?_) (fun c5 => ?_)
    · replace hd := ite_p c5 hd
      refine k_iconst (v := (-1)) f_223_72 (by decide) ?_
      refine s_ireturn f_223_73 rfl rfl ?_
      cases hd
      exact hQ
    · replace hd := ite_n c5 hd
      refine s_aload_n f_223_44 rfl ?_
      refine L_getR f_223_45 fd_12_7 (obL (by decide)) (by decide) (by decide : rf 154 0 = 155) ?_
      refine k_sipush (v := 406) f_223_48 (by decide) ?_
      refine k_sipush (v := 609) f_223_51 (by decide) ?_
      refine s_iload_n f_223_54 rfl ?_
      refine s_imul f_223_55 ?_
      refine s_iadd f_223_56 ?_
      refine s_iload_n f_223_57 rfl ?_
      refine s_iadd f_223_58 ?_
      refine s_aload_n f_223_59 rfl ?_
      refine L_getR f_223_60 fd_12_37 (obL (by decide)) (by decide) (by decide : rf 154 11 = 163) ?_
      refine s_iload_n f_223_63 rfl ?_
      replace hd := gd hd
      obtain ⟨g6, hd⟩ := hd
      refine M_iaload (q := (ix a3)) f_223_64 ⟨by decide, by decide, by decide, fun _ => rfl⟩ (Nat.le_of_ble_eq_true rfl : 609 < 2 ^ 31) rfl g6 ?_
      replace hd := gd hd
      obtain ⟨g7, hd⟩ := hd
      refine M_iastore (q := (ix (((406 : Int32) + ((609 : Int32) * a1)) + a3))) f_223_65 ⟨by decide, by decide, by decide, fun _ => rfl⟩ (Nat.le_of_ble_eq_true rfl : 10759 < 2 ^ 31) rfl g7 ?_
      refine k_iinc (w := 1) f_223_66 rfl (by decide) (by decide) ?_
      refine s_goto 37 f_223_69 (by decide) ?_
      refine aAt.sub [(0, .ref 154), (1, .int a1), (3, .int (a3 + 1))] rfl ?_
      exact ih _ _ _  _ hd hQ
def rM_text (M : SS) (a1 : Int32) : Option (Int32 × SS) :=
  (rM_in a1 (0 : Int32) (4 : Int32)).bind fun p1 =>
  if p1 = true then
    (rM_reads M).bind fun p3 =>
    if p3.1 = true then
      rM_text_L37 FU (up p3.2 154 8 (0 : Int32)) a1 (0 : Int32)
    else
      some (((up p3.2 154 8 (0 : Int32)) 154 15), (up p3.2 154 8 (0 : Int32)))
  else
    (rM_finds M (-100001 : Int32)).bind fun p8 =>
    some (p8.1, p8.2)
theorem t_rM_text {l : Launch} {G : aG} {d : Nat} {Q : Option Value → aHeap → Prop} {sl : Nat} {sx : Nat → Int32} {S : SS} {K : KS} {T : TS} {X : XS} {M : SS} {a1 : Int32} {p : Int32 × SS} (hd : rM_text M a1 = some p) (hQ : Q (some (.int p.1)) (LH (old0 sl sx) S K T X p.2)) : aCall l G (d + 5) 0 0 223 [.ref 154, .int a1] (LH (old0 sl sx) S K T X M) Q := by
  refine aCall.of (by decide) (Nat.le_of_ble_eq_true rfl) ?_
  refine aAt.sub [(0, .ref 154), (1, .int a1)] rfl ?_
  unfold rM_text at hd
  refine s_iload_n f_223_0 rfl ?_
  refine k_iconst (v := 0) f_223_1 (by decide) ?_
  refine k_iconst (v := 4) f_223_2 (by decide) ?_
  replace hd := obind hd
  obtain ⟨p1, e1, hd⟩ := hd
  refine L_stat (As := [.int a1, .int (0 : Int32), .int (4 : Int32)]) f_223_3 ca_12_69 rfl rfl (Nat.le_of_ble_eq_true rfl) ?_
  refine t_rM_in e1 ?_
  refine z_if_ne 16 f_223_6 (by decide) (fun c2 => ?_) (fun c2 => ?_)
  · replace hd := ite_p c2 hd
    refine s_aload_n f_223_16 rfl ?_
    replace hd := obind hd
    obtain ⟨p3, e3, hd⟩ := hd
    refine L_virt (As := []) f_223_17 ca_12_229 rfl rfl (obL (by decide)) (by decide) (Nat.le_of_ble_eq_true rfl) ?_
    refine t_rM_reads e3 ?_
    refine s_istore_n f_223_20 (by decide) ?_
    refine s_aload_n f_223_21 rfl ?_
    refine k_iconst (v := 0) f_223_22 (by decide) ?_
    refine M_putI f_223_23 fd_12_170 (by decide) (Or.inl rfl) (by decide) ?_
    refine s_iload_n f_223_26 rfl ?_
    refine z_if_ne 35 f_223_27 (by decide) (fun c4 => ?_) (fun c4 => ?_)
    · replace hd := ite_p c4 hd
      refine k_iconst (v := 0) f_223_35 (by decide) ?_
      refine s_istore_n f_223_36 (by decide) ?_
      refine aAt.sub [(0, .ref 154), (1, .int a1), (3, .int (0 : Int32))] rfl ?_
      exact t_rM_text_L37 FU _ _ _  _ hd hQ
    · replace hd := ite_n c4 hd
      refine s_aload_n f_223_30 rfl ?_
      refine M_getI f_223_31 fd_12_176 (by decide) ?_
      refine s_ireturn f_223_34 rfl rfl ?_
      cases hd
      exact hQ
  · replace hd := ite_n c2 hd
    refine s_aload_n f_223_9 rfl ?_
    refine s_ldc f_223_10 ko_12_77 ?_
    replace hd := obind hd
    obtain ⟨p8, e8, hd⟩ := hd
    refine L_virt (As := [.int (-100001 : Int32)]) f_223_12 ca_12_78 rfl rfl (obL (by decide)) (by decide) (Nat.le_of_ble_eq_true rfl) ?_
    refine t_rM_finds e8 ?_
    refine s_ireturn f_223_15 rfl rfl ?_
    cases hd
    exact hQ

def rM_force_J23 (M : SS) : Option (Int32 × SS) :=
  (rM_finds M (-100001 : Int32)).bind fun p3 =>
  some (p3.1, p3.2)
theorem t_rM_force_J23 {l : Launch} {G : aG} {d : Nat} {Q : Option Value → aHeap → Prop} {sl : Nat} {sx : Nat → Int32} {S : SS} {K : KS} {T : TS} {X : XS} : ∀ (M : SS) (p : Int32 × SS), rM_force_J23 M = some p → Q (some (.int p.1)) (LH (old0 sl sx) S K T X p.2) → aAt l G (d + 2) 0 0 237 23 [(0, .ref 154)] [] 0 0 (LH (old0 sl sx) S K T X M) Q := by
  intro M p hd hQ
  unfold rM_force_J23 at hd
  refine s_aload_n f_237_23 rfl ?_
  refine s_ldc f_237_24 ko_12_77 ?_
  replace hd := obind hd
  obtain ⟨p3, e3, hd⟩ := hd
  refine L_virt (As := [.int (-100001 : Int32)]) f_237_26 ca_12_78 rfl rfl (obL (by decide)) (by decide) (Nat.le_of_ble_eq_true rfl) ?_
  refine t_rM_finds e3 ?_
  refine s_ireturn f_237_29 rfl rfl ?_
  cases hd
  exact hQ
def rM_force_L119 : Nat → SS → Int32 → Int32 → Int32 → Option (Int32 × SS)
  | 0, _, _, _, _ => none
  | n + 1, M, a1, a4, a5 =>
    if (609 : Int32) ≤ a5 then
      some (a4, M)
    else
      if inb (((406 : Int32) + ((609 : Int32) * a1)) + a5) 10759 then
        if inb (((406 : Int32) + ((609 : Int32) * ((5 : Int32) + a4))) + a5) 10759 then
          rM_force_L119  n (up M 155 (ix (((406 : Int32) + ((609 : Int32) * ((5 : Int32) + a4))) + a5)) (M 155 (ix (((406 : Int32) + ((609 : Int32) * a1)) + a5)))) a1 a4 (a5 + 1)
        else none
      else none
theorem t_rM_force_L119 {l : Launch} {G : aG} {d : Nat} {Q : Option Value → aHeap → Prop} {sl : Nat} {sx : Nat → Int32} {S : SS} {K : KS} {T : TS} {X : XS} : ∀ (n : Nat), ∀ (M : SS) (a1 : Int32) (a4 : Int32) (a5 : Int32) (p : Int32 × SS), rM_force_L119 n M a1 a4 a5 = some p → Q (some (.int p.1)) (LH (old0 sl sx) S K T X p.2) → aAt l G (d + 2) 0 0 237 119 [(0, .ref 154), (1, .int a1), (4, .int a4), (5, .int a5)] [] 0 0 (LH (old0 sl sx) S K T X M) Q := by
  intro n
  induction n with
  | zero =>
    intro M a1 a4 a5 p hd hQ
    rw [rM_force_L119] at hd
    cases hd
  | succ n ih =>
    intro M a1 a4 a5 p hd hQ
    rw [rM_force_L119] at hd
    refine s_iload f_237_119 rfl ?_
    refine k_sipush (v := 609) f_237_121 (by decide) ?_
    refine s_icmp_ge 170 f_237_124 (by decide) (fun c13 => ?_) (fun c13 => ?_)
    · replace hd := ite_p c13 hd
      refine s_iload f_237_170 rfl ?_
      refine s_ireturn f_237_172 rfl rfl ?_
      cases hd
      exact hQ
    · replace hd := ite_n c13 hd
      refine s_aload_n f_237_127 rfl ?_
      refine L_getR f_237_128 fd_12_7 (obL (by decide)) (by decide) (by decide : rf 154 0 = 155) ?_
      refine k_sipush (v := 406) f_237_131 (by decide) ?_
      refine k_sipush (v := 609) f_237_134 (by decide) ?_
      refine k_iconst (v := 5) f_237_137 (by decide) ?_
      refine s_iload f_237_138 rfl ?_
      refine s_iadd f_237_140 ?_
      refine s_imul f_237_141 ?_
      refine s_iadd f_237_142 ?_
      refine s_iload f_237_143 rfl ?_
      refine s_iadd f_237_145 ?_
      refine s_aload_n f_237_146 rfl ?_
      refine L_getR f_237_147 fd_12_7 (obL (by decide)) (by decide) (by decide : rf 154 0 = 155) ?_
      refine k_sipush (v := 406) f_237_150 (by decide) ?_
      refine k_sipush (v := 609) f_237_153 (by decide) ?_
      refine s_iload_n f_237_156 rfl ?_
      refine s_imul f_237_157 ?_
      refine s_iadd f_237_158 ?_
      refine s_iload f_237_159 rfl ?_
      refine s_iadd f_237_161 ?_
      replace hd := gd hd
      obtain ⟨g14, hd⟩ := hd
      refine M_iaload (q := (ix (((406 : Int32) + ((609 : Int32) * a1)) + a5))) f_237_162 ⟨by decide, by decide, by decide, fun _ => rfl⟩ (Nat.le_of_ble_eq_true rfl : 10759 < 2 ^ 31) rfl g14 ?_
      replace hd := gd hd
      obtain ⟨g15, hd⟩ := hd
      refine M_iastore (q := (ix (((406 : Int32) + ((609 : Int32) * ((5 : Int32) + a4))) + a5))) f_237_163 ⟨by decide, by decide, by decide, fun _ => rfl⟩ (Nat.le_of_ble_eq_true rfl : 10759 < 2 ^ 31) rfl g15 ?_
      refine k_iinc (w := 1) f_237_164 rfl (by decide) (by decide) ?_
      refine s_goto 119 f_237_167 (by decide) ?_
      refine aAt.sub [(0, .ref 154), (1, .int a1), (4, .int a4), (5, .int (a5 + 1))] rfl ?_
      exact ih _ _ _ _  _ hd hQ
def rM_force (M : SS) (a1 : Int32) (a2 : Int32) (a3 : Int32) : Option (Int32 × SS) :=
  (rM_in a1 (0 : Int32) (4 : Int32)).bind fun p1 =>
  if p1 = true then
    (rM_isBench a2).bind fun p4 =>
    if p4 = true then
      (rM_isYear a3).bind fun p6 =>
      if p6 = true then
        if inb ((406 : Int32) + ((609 : Int32) * a1)) 10759 then
          if (M 155 (ix ((406 : Int32) + ((609 : Int32) * a1)))) = 0 then
            (rM_finds M (-100006 : Int32)).bind fun p17 =>
            some (p17.1, p17.2)
          else
            if (M 155 4) = (12 : Int32) then
              (rM_finds M (-100005 : Int32)).bind fun p16 =>
              some (p16.1, p16.2)
            else
              if inb ((382 : Int32) + ((2 : Int32) * (M 155 4))) 10759 then
                if inb (((382 : Int32) + ((2 : Int32) * (M 155 4))) + (1 : Int32)) 10759 then
                  rM_force_L119 FU (up (up (up M 155 4 ((M 155 4) + (1 : Int32))) 155 (ix ((382 : Int32) + ((2 : Int32) * (M 155 4)))) a2) 155 (ix (((382 : Int32) + ((2 : Int32) * (M 155 4))) + (1 : Int32))) a3) a1 (M 155 4) (0 : Int32)
                else none
              else none
        else none
      else
        rM_force_J23 M
    else
      rM_force_J23 M
  else
    rM_force_J23 M
theorem t_rM_force {l : Launch} {G : aG} {d : Nat} {Q : Option Value → aHeap → Prop} {sl : Nat} {sx : Nat → Int32} {S : SS} {K : KS} {T : TS} {X : XS} {M : SS} {a1 : Int32} {a2 : Int32} {a3 : Int32} {p : Int32 × SS} (hd : rM_force M a1 a2 a3 = some p) (hQ : Q (some (.int p.1)) (LH (old0 sl sx) S K T X p.2)) : aCall l G (d + 2) 0 0 237 [.ref 154, .int a1, .int a2, .int a3] (LH (old0 sl sx) S K T X M) Q := by
  refine aCall.of (by decide) (Nat.le_of_ble_eq_true rfl) ?_
  refine aAt.sub [(0, .ref 154), (1, .int a1), (2, .int a2), (3, .int a3)] rfl ?_
  unfold rM_force at hd
  refine s_iload_n f_237_0 rfl ?_
  refine k_iconst (v := 0) f_237_1 (by decide) ?_
  refine k_iconst (v := 4) f_237_2 (by decide) ?_
  replace hd := obind hd
  obtain ⟨p1, e1, hd⟩ := hd
  refine L_stat (As := [.int a1, .int (0 : Int32), .int (4 : Int32)]) f_237_3 ca_12_69 rfl rfl (Nat.le_of_ble_eq_true rfl) ?_
  refine t_rM_in e1 ?_
  refine z_if_eq 23 f_237_6 (by decide) (fun c2 => ?_) (fun c2 => ?_)
  · replace hd := ite_n c2 hd
    refine aAt.sub [(0, .ref 154)] rfl ?_
    exact t_rM_force_J23 _  _ hd hQ
  · replace hd := ite_p c2 hd
    refine s_iload_n f_237_9 rfl ?_
    replace hd := obind hd
    obtain ⟨p4, e4, hd⟩ := hd
    refine L_stat (As := [.int a2]) f_237_10 ca_12_161 rfl rfl (Nat.le_of_ble_eq_true rfl) ?_
    refine t_rM_isBench e4 ?_
    refine z_if_eq 23 f_237_13 (by decide) (fun c5 => ?_) (fun c5 => ?_)
    · replace hd := ite_n c5 hd
      refine aAt.sub [(0, .ref 154)] rfl ?_
      exact t_rM_force_J23 _  _ hd hQ
    · replace hd := ite_p c5 hd
      refine s_iload_n f_237_16 rfl ?_
      replace hd := obind hd
      obtain ⟨p6, e6, hd⟩ := hd
      refine L_stat (As := [.int a3]) f_237_17 ca_12_164 rfl rfl (Nat.le_of_ble_eq_true rfl) ?_
      refine t_rM_isYear e6 ?_
      refine z_if_ne 30 f_237_20 (by decide) (fun c7 => ?_) (fun c7 => ?_)
      · replace hd := ite_p c7 hd
        refine s_aload_n f_237_30 rfl ?_
        refine L_getR f_237_31 fd_12_7 (obL (by decide)) (by decide) (by decide : rf 154 0 = 155) ?_
        refine k_sipush (v := 406) f_237_34 (by decide) ?_
        refine k_sipush (v := 609) f_237_37 (by decide) ?_
        refine s_iload_n f_237_40 rfl ?_
        refine s_imul f_237_41 ?_
        refine s_iadd f_237_42 ?_
        replace hd := gd hd
        obtain ⟨g8, hd⟩ := hd
        refine M_iaload (q := (ix ((406 : Int32) + ((609 : Int32) * a1)))) f_237_43 ⟨by decide, by decide, by decide, fun _ => rfl⟩ (Nat.le_of_ble_eq_true rfl : 10759 < 2 ^ 31) rfl g8 ?_
        refine s_if_ne 54 f_237_44 (by decide) (fun c9 => ?_) (fun c9 => ?_)
        · replace hd := ite_n c9 hd
          refine s_aload_n f_237_54 rfl ?_
          refine L_getR f_237_55 fd_12_7 (obL (by decide)) (by decide) (by decide : rf 154 0 = 155) ?_
          refine k_iconst (v := 4) f_237_58 (by decide) ?_
          refine M_iaload (q := 4) f_237_59 ⟨by decide, by decide, by decide, fun _ => rfl⟩ (Nat.le_of_ble_eq_true rfl : 10759 < 2 ^ 31) (by decide) (by decide) ?_
          refine s_istore f_237_60 (by decide) ?_
          refine s_iload f_237_62 rfl ?_
          refine k_bipush (v := 12) f_237_64 (by decide) ?_
          refine s_icmp_ne 76 f_237_66 (by decide) (fun c10 => ?_) (fun c10 => ?_)
          · replace hd := ite_n c10 hd
            refine s_aload_n f_237_76 rfl ?_
            refine L_getR f_237_77 fd_12_7 (obL (by decide)) (by decide) (by decide : rf 154 0 = 155) ?_
            refine k_iconst (v := 4) f_237_80 (by decide) ?_
            refine s_dup2 f_237_81 rfl rfl ?_
            refine M_iaload (q := 4) f_237_82 ⟨by decide, by decide, by decide, fun _ => rfl⟩ (Nat.le_of_ble_eq_true rfl : 10759 < 2 ^ 31) (by decide) (by decide) ?_
            refine k_iconst (v := 1) f_237_83 (by decide) ?_
            refine s_iadd f_237_84 ?_
            refine M_iastore (q := 4) f_237_85 ⟨by decide, by decide, by decide, fun _ => rfl⟩ (Nat.le_of_ble_eq_true rfl : 10759 < 2 ^ 31) (by decide) (by decide) ?_
            refine s_aload_n f_237_86 rfl ?_
            refine L_getR f_237_87 fd_12_7 (obL (by decide)) (by decide) (by decide : rf 154 0 = 155) ?_
            refine k_sipush (v := 382) f_237_90 (by decide) ?_
            refine k_iconst (v := 2) f_237_93 (by decide) ?_
            refine s_iload f_237_94 rfl ?_
            refine s_imul f_237_96 ?_
            refine s_iadd f_237_97 ?_
            refine s_iload_n f_237_98 rfl ?_
            replace hd := gd hd
            obtain ⟨g11, hd⟩ := hd
            refine M_iastore (q := (ix ((382 : Int32) + ((2 : Int32) * (M 155 4))))) f_237_99 ⟨by decide, by decide, by decide, fun _ => rfl⟩ (Nat.le_of_ble_eq_true rfl : 10759 < 2 ^ 31) rfl g11 ?_
            refine s_aload_n f_237_100 rfl ?_
            refine L_getR f_237_101 fd_12_7 (obL (by decide)) (by decide) (by decide : rf 154 0 = 155) ?_
            refine k_sipush (v := 382) f_237_104 (by decide) ?_
            refine k_iconst (v := 2) f_237_107 (by decide) ?_
            refine s_iload f_237_108 rfl ?_
            refine s_imul f_237_110 ?_
            refine s_iadd f_237_111 ?_
            refine k_iconst (v := 1) f_237_112 (by decide) ?_
            refine s_iadd f_237_113 ?_
            refine s_iload_n f_237_114 rfl ?_
            replace hd := gd hd
            obtain ⟨g12, hd⟩ := hd
            refine M_iastore (q := (ix (((382 : Int32) + ((2 : Int32) * (M 155 4))) + (1 : Int32)))) f_237_115 ⟨by decide, by decide, by decide, fun _ => rfl⟩ (Nat.le_of_ble_eq_true rfl : 10759 < 2 ^ 31) rfl g12 ?_
            refine k_iconst (v := 0) f_237_116 (by decide) ?_
            refine s_istore f_237_117 (by decide) ?_
            refine aAt.sub [(0, .ref 154), (1, .int a1), (4, .int (M 155 4)), (5, .int (0 : Int32))] rfl ?_
            exact t_rM_force_L119 FU _ _ _ _  _ hd hQ
          · replace hd := ite_p c10 hd
            refine s_aload_n f_237_69 rfl ?_
            refine s_ldc f_237_70 ko_12_82 ?_
            replace hd := obind hd
            obtain ⟨p16, e16, hd⟩ := hd
            refine L_virt (As := [.int (-100005 : Int32)]) f_237_72 ca_12_78 rfl rfl (obL (by decide)) (by decide) (Nat.le_of_ble_eq_true rfl) ?_
            refine t_rM_finds e16 ?_
            refine s_ireturn f_237_75 rfl rfl ?_
            cases hd
            exact hQ
        · replace hd := ite_p c9 hd
          refine s_aload_n f_237_47 rfl ?_
          refine s_ldc f_237_48 ko_12_131 ?_
          replace hd := obind hd
          obtain ⟨p17, e17, hd⟩ := hd
          refine L_virt (As := [.int (-100006 : Int32)]) f_237_50 ca_12_78 rfl rfl (obL (by decide)) (by decide) (Nat.le_of_ble_eq_true rfl) ?_
          refine t_rM_finds e17 ?_
          refine s_ireturn f_237_53 rfl rfl ?_
          cases hd
          exact hQ
      · replace hd := ite_n c7 hd
        refine aAt.sub [(0, .ref 154)] rfl ?_
        exact t_rM_force_J23 _  _ hd hQ
