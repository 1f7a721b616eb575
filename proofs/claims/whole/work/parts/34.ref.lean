def rM_isLast (a0 : Int32) (a1 : Int32) (a2 : Int32) (a3 : Int32) : Option (Bool) :=
  (rM_in a0 (0 : Int32) (60 : Int32)).bind fun p1 =>
  if p1 = true then
    (rM_in a1 (0 : Int32) (60 : Int32)).bind fun p3 =>
    if p3 = true then
      (rM_in a2 (0 : Int32) (8 : Int32)).bind fun p5 =>
      if p5 = true then
        if a3 < 0 then
          some false
        else
          (rM_in (a3 / (100 : Int32)) (0 : Int32) (30 : Int32)).bind fun p8 =>
          if p8 = true then
            (rM_in (a3 - a3 / (100 : Int32) * (100 : Int32)) (0 : Int32) (30 : Int32)).bind fun p10 =>
            if p10 = true then
              if (a3 - a3 / (100 : Int32) * (100 : Int32)) < (a3 / (100 : Int32)) then
                some false
              else
                some true
            else
              some false
          else
            some false
      else
        some false
    else
      some false
  else
    some false
theorem t_rM_isLast {l : Launch} {G : aG} {d : Nat} {Q : Option Value → aHeap → Prop} {sl : Nat} {sx : Nat → Int32} {S : SS} {K : KS} {T : TS} {X : XS} {M : SS} {a0 : Int32} {a1 : Int32} {a2 : Int32} {a3 : Int32} {p : Bool} (hd : rM_isLast a0 a1 a2 a3 = some p) (hQ : Q (some (.int (b2i p))) (LH (old0 sl sx) S K T X M)) : aCall l G (d + 1) 0 0 262 [.int a0, .int a1, .int a2, .int a3] (LH (old0 sl sx) S K T X M) Q := by
  refine aCall.of (by decide) (Nat.le_of_ble_eq_true rfl) ?_
  refine aAt.sub [(0, .int a0), (1, .int a1), (2, .int a2), (3, .int a3)] rfl ?_
  unfold rM_isLast at hd
  refine s_iload_n f_262_0 rfl ?_
  refine k_iconst (v := 0) f_262_1 (by decide) ?_
  refine k_bipush (v := 60) f_262_2 (by decide) ?_
  replace hd := obind hd
  obtain ⟨p1, e1, hd⟩ := hd
  refine L_stat (As := [.int a0, .int (0 : Int32), .int (60 : Int32)]) f_262_4 ca_12_69 rfl rfl (Nat.le_of_ble_eq_true rfl) ?_
  refine t_rM_in e1 ?_
  refine z_if_eq 75 f_262_7 (by decide) (fun c2 => ?_) (fun c2 => ?_)
  · replace hd := ite_n c2 hd
    refine k_iconst (v := 0) f_262_75 (by decide) ?_
    refine s_iretB (b := false) f_262_76 rfl ?_
    cases hd
    exact hQ
  · replace hd := ite_p c2 hd
    refine s_iload_n f_262_10 rfl ?_
    refine k_iconst (v := 0) f_262_11 (by decide) ?_
    refine k_bipush (v := 60) f_262_12 (by decide) ?_
    replace hd := obind hd
    obtain ⟨p3, e3, hd⟩ := hd
    refine L_stat (As := [.int a1, .int (0 : Int32), .int (60 : Int32)]) f_262_14 ca_12_69 rfl rfl (Nat.le_of_ble_eq_true rfl) ?_
    refine t_rM_in e3 ?_
    refine z_if_eq 75 f_262_17 (by decide) (fun c4 => ?_) (fun c4 => ?_)
    · replace hd := ite_n c4 hd
      refine k_iconst (v := 0) f_262_75 (by decide) ?_
      refine s_iretB (b := false) f_262_76 rfl ?_
      cases hd
      exact hQ
    · replace hd := ite_p c4 hd
      refine s_iload_n f_262_20 rfl ?_
      refine k_iconst (v := 0) f_262_21 (by decide) ?_
      refine k_bipush (v := 8) f_262_22 (by decide) ?_
      replace hd := obind hd
      obtain ⟨p5, e5, hd⟩ := hd
      refine L_stat (As := [.int a2, .int (0 : Int32), .int (8 : Int32)]) f_262_24 ca_12_69 rfl rfl (Nat.le_of_ble_eq_true rfl) ?_
      refine t_rM_in e5 ?_
      refine z_if_eq 75 f_262_27 (by decide) (fun c6 => ?_) (fun c6 => ?_)
      · replace hd := ite_n c6 hd
        refine k_iconst (v := 0) f_262_75 (by decide) ?_
        refine s_iretB (b := false) f_262_76 rfl ?_
        cases hd
        exact hQ
      · replace hd := ite_p c6 hd
        refine s_iload_n f_262_30 rfl ?_
        refine s_if_lt 75 f_262_31 (by decide) (fun c7 => ?_) (fun c7 => ?_)
        · replace hd := ite_p c7 hd
          refine k_iconst (v := 0) f_262_75 (by decide) ?_
          refine s_iretB (b := false) f_262_76 rfl ?_
          cases hd
          exact hQ
        · replace hd := ite_n c7 hd
          refine s_iload_n f_262_34 rfl ?_
          refine k_bipush (v := 100) f_262_35 (by decide) ?_
          refine s_idiv f_262_37 (by decide) ?_
          refine k_iconst (v := 0) f_262_38 (by decide) ?_
          refine k_bipush (v := 30) f_262_39 (by decide) ?_
          replace hd := obind hd
          obtain ⟨p8, e8, hd⟩ := hd
          refine L_stat (As := [.int (a3 / (100 : Int32)), .int (0 : Int32), .int (30 : Int32)]) f_262_41 ca_12_69 rfl rfl (Nat.le_of_ble_eq_true rfl) ?_
          refine t_rM_in e8 ?_
          refine z_if_eq 75 f_262_44 (by decide) (fun c9 => ?_) (fun c9 => ?_)
          · replace hd := ite_n c9 hd
            refine k_iconst (v := 0) f_262_75 (by decide) ?_
            refine s_iretB (b := false) f_262_76 rfl ?_
            cases hd
            exact hQ
          · replace hd := ite_p c9 hd
            refine s_iload_n f_262_47 rfl ?_
            refine k_bipush (v := 100) f_262_48 (by decide) ?_
            refine s_irem f_262_50 (by decide) ?_
            refine k_iconst (v := 0) f_262_51 (by decide) ?_
            refine k_bipush (v := 30) f_262_52 (by decide) ?_
            replace hd := obind hd
            obtain ⟨p10, e10, hd⟩ := hd
            refine L_stat (As := [.int (a3 - a3 / (100 : Int32) * (100 : Int32)), .int (0 : Int32), .int (30 : Int32)]) f_262_54 ca_12_69 rfl rfl (Nat.le_of_ble_eq_true rfl) ?_
            refine t_rM_in e10 ?_
            refine z_if_eq 75 f_262_57 (by decide) (fun c11 => ?_) (fun c11 => ?_)
            · replace hd := ite_n c11 hd
              refine k_iconst (v := 0) f_262_75 (by decide) ?_
              refine s_iretB (b := false) f_262_76 rfl ?_
              cases hd
              exact hQ
            · replace hd := ite_p c11 hd
              refine s_iload_n f_262_60 rfl ?_
              refine k_bipush (v := 100) f_262_61 (by decide) ?_
              refine s_idiv f_262_63 (by decide) ?_
              refine s_iload_n f_262_64 rfl ?_
              refine k_bipush (v := 100) f_262_65 (by decide) ?_
              refine s_irem f_262_67 (by decide) ?_
              refine s_icmp_gt 75 f_262_68 (by decide) (fun c12 => ?_) (fun c12 => ?_)
              · replace hd := ite_p c12 hd
                refine k_iconst (v := 0) f_262_75 (by decide) ?_
                refine s_iretB (b := false) f_262_76 rfl ?_
                cases hd
                exact hQ
              · replace hd := ite_n c12 hd
                refine k_iconst (v := 1) f_262_71 (by decide) ?_
                refine s_goto 76 f_262_72 (by decide) ?_
                refine s_iretB (b := true) f_262_76 rfl ?_
                cases hd
                exact hQ

def rM_at (a0 : Int32) (a1 : Int32) (a2 : Int32) : Option (Int32) :=
  some (((61 : Int32) * (((61 : Int32) * a0) + a1)) + a2)
theorem t_rM_at {l : Launch} {G : aG} {d : Nat} {Q : Option Value → aHeap → Prop} {sl : Nat} {sx : Nat → Int32} {S : SS} {K : KS} {T : TS} {X : XS} {M : SS} {a0 : Int32} {a1 : Int32} {a2 : Int32} {p : Int32} (hd : rM_at a0 a1 a2 = some p) (hQ : Q (some (.int p)) (LH (old0 sl sx) S K T X M)) : aCall l G d 0 0 264 [.int a0, .int a1, .int a2] (LH (old0 sl sx) S K T X M) Q := by
  refine aCall.of (by decide) (Nat.le_of_ble_eq_true rfl) ?_
  refine aAt.sub [(0, .int a0), (1, .int a1), (2, .int a2)] rfl ?_
  unfold rM_at at hd
  refine k_bipush (v := 61) f_264_0 (by decide) ?_
  refine k_bipush (v := 61) f_264_2 (by decide) ?_
  refine s_iload_n f_264_4 rfl ?_
  refine s_imul f_264_5 ?_
  refine s_iload_n f_264_6 rfl ?_
  refine s_iadd f_264_7 ?_
  refine s_imul f_264_8 ?_
  refine s_iload_n f_264_9 rfl ?_
  refine s_iadd f_264_10 ?_
  refine s_ireturn f_264_11 rfl rfl ?_
  cases hd
  exact hQ

def rM_byPaying_J46 (M : SS) (a1 : Int32) (a3 : Int32) (a4 : Int32) (a6 : Int32) (w0 : Int32) : Option (Int32) :=
  (rM_at a1 w0 (a3 - a4)).bind fun p4 =>
  if inb p4 33489 then
    some (a6 + (M 167 (ix p4)))
  else none
theorem t_rM_byPaying_J46 {l : Launch} {G : aG} {d : Nat} {Q : Option Value → aHeap → Prop} {sl : Nat} {sx : Nat → Int32} {S : SS} {K : KS} {T : TS} {X : XS} {M : SS} : ∀ (a1 : Int32) (a3 : Int32) (a4 : Int32) (a6 : Int32) (w0 : Int32) (p : Int32), rM_byPaying_J46 M a1 a3 a4 a6 w0 = some p → Q (some (.int p)) (LH (old0 sl sx) S K T X M) → aAt l G (d + 1) 0 0 266 46 [(0, .ref 154), (1, .int a1), (3, .int a3), (4, .int a4), (6, .int a6)] [.int w0] 0 0 (LH (old0 sl sx) S K T X M) Q := by
  intro a1 a3 a4 a6 w0 p hd hQ
  unfold rM_byPaying_J46 at hd
  refine s_istore f_266_46 (by decide) ?_
  refine s_iload f_266_48 rfl ?_
  refine s_aload_n f_266_50 rfl ?_
  refine L_getR f_266_51 fd_12_50 (obL (by decide)) (by decide) (by decide : rf 154 21 = 167) ?_
  refine s_iload_n f_266_54 rfl ?_
  refine s_iload f_266_55 rfl ?_
  refine s_iload_n f_266_57 rfl ?_
  refine s_iload f_266_58 rfl ?_
  refine s_isub f_266_60 ?_
  replace hd := obind hd
  obtain ⟨p4, e4, hd⟩ := hd
  refine L_stat (As := [.int a1, .int w0, .int (a3 - a4)]) f_266_61 ca_12_276 rfl rfl (Nat.le_of_ble_eq_true rfl) ?_
  refine t_rM_at e4 ?_
  replace hd := gd hd
  obtain ⟨g5, hd⟩ := hd
  refine M_iaload (q := (ix p4)) f_266_64 ⟨by decide, by decide, by decide, fun _ => rfl⟩ (Nat.le_of_ble_eq_true rfl : 33489 < 2 ^ 31) rfl g5 ?_
  refine s_iadd f_266_65 ?_
  refine s_ireturn f_266_66 rfl rfl ?_
  cases hd
  exact hQ
def rM_byPaying_J21 (M : SS) (a1 : Int32) (a3 : Int32) (a4 : Int32) (a5 : Int32) (w0 : Int32) : Option (Int32) :=
  if 0 ≤ a5 then
    if a5 ≤ (60 : Int32) then
      rM_byPaying_J46 M a1 a3 a4 w0 a5
    else
      rM_byPaying_J46 M a1 a3 a4 w0 (60 : Int32)
  else
    rM_byPaying_J46 M a1 a3 a4 w0 (0 : Int32)
theorem t_rM_byPaying_J21 {l : Launch} {G : aG} {d : Nat} {Q : Option Value → aHeap → Prop} {sl : Nat} {sx : Nat → Int32} {S : SS} {K : KS} {T : TS} {X : XS} {M : SS} : ∀ (a1 : Int32) (a3 : Int32) (a4 : Int32) (a5 : Int32) (w0 : Int32) (p : Int32), rM_byPaying_J21 M a1 a3 a4 a5 w0 = some p → Q (some (.int p)) (LH (old0 sl sx) S K T X M) → aAt l G (d + 1) 0 0 266 21 [(0, .ref 154), (1, .int a1), (3, .int a3), (4, .int a4), (5, .int a5)] [.int w0] 0 0 (LH (old0 sl sx) S K T X M) Q := by
  intro a1 a3 a4 a5 w0 p hd hQ
  unfold rM_byPaying_J21 at hd
  refine s_istore f_266_21 (by decide) ?_
  refine s_iload f_266_23 rfl ?_
  refine s_if_ge 32 f_266_25 (by decide) (fun c2 => ?_) (fun c2 => ?_)
  · replace hd := ite_p c2 hd
    refine s_iload f_266_32 rfl ?_
    refine k_bipush (v := 60) f_266_34 (by decide) ?_
    refine s_icmp_le 44 f_266_36 (by decide) (fun c3 => ?_) (fun c3 => ?_)
    · replace hd := ite_p c3 hd
      refine s_iload f_266_44 rfl ?_
      refine aAt.sub [(0, .ref 154), (1, .int a1), (3, .int a3), (4, .int a4), (6, .int w0)] rfl ?_
      exact t_rM_byPaying_J46 _ _ _ _ _  _ hd hQ
    · replace hd := ite_n c3 hd
      refine k_bipush (v := 60) f_266_39 (by decide) ?_
      refine s_goto 46 f_266_41 (by decide) ?_
      refine aAt.sub [(0, .ref 154), (1, .int a1), (3, .int a3), (4, .int a4), (6, .int w0)] rfl ?_
      exact t_rM_byPaying_J46 _ _ _ _ _  _ hd hQ
  · replace hd := ite_n c2 hd
    refine k_iconst (v := 0) f_266_28 (by decide) ?_
    refine s_goto 46 f_266_29 (by decide) ?_
    refine aAt.sub [(0, .ref 154), (1, .int a1), (3, .int a3), (4, .int a4), (6, .int w0)] rfl ?_
    exact t_rM_byPaying_J46 _ _ _ _ _  _ hd hQ
def rM_byPaying (M : SS) (a1 : Int32) (a2 : Int32) (a3 : Int32) (a4 : Int32) : Option (Int32) :=
  if 0 ≤ ((a2 - a4) - (10 : Int32)) then
    rM_byPaying_J21 M a1 a3 a4 ((a2 - a4) - (10 : Int32)) (0 : Int32)
  else
    rM_byPaying_J21 M a1 a3 a4 ((a2 - a4) - (10 : Int32)) (-((a2 - a4) - (10 : Int32)))
theorem t_rM_byPaying {l : Launch} {G : aG} {d : Nat} {Q : Option Value → aHeap → Prop} {sl : Nat} {sx : Nat → Int32} {S : SS} {K : KS} {T : TS} {X : XS} {M : SS} {a1 : Int32} {a2 : Int32} {a3 : Int32} {a4 : Int32} {p : Int32} (hd : rM_byPaying M a1 a2 a3 a4 = some p) (hQ : Q (some (.int p)) (LH (old0 sl sx) S K T X M)) : aCall l G (d + 1) 0 0 266 [.ref 154, .int a1, .int a2, .int a3, .int a4] (LH (old0 sl sx) S K T X M) Q := by
  refine aCall.of (by decide) (Nat.le_of_ble_eq_true rfl) ?_
  refine aAt.sub [(0, .ref 154), (1, .int a1), (2, .int a2), (3, .int a3), (4, .int a4)] rfl ?_
  unfold rM_byPaying at hd
  refine s_iload_n f_266_0 rfl ?_
  refine s_iload f_266_1 rfl ?_
  refine s_isub f_266_3 ?_
  refine k_bipush (v := 10) f_266_4 (by decide) ?_
  refine s_isub f_266_6 ?_
  refine s_istore f_266_7 (by decide) ?_
  refine s_iload f_266_9 rfl ?_
  refine s_if_ge 20 f_266_11 (by decide) (fun c1 => ?_) (fun c1 => ?_)
  · replace hd := ite_p c1 hd
    refine k_iconst (v := 0) f_266_20 (by decide) ?_
    refine aAt.sub [(0, .ref 154), (1, .int a1), (3, .int a3), (4, .int a4), (5, .int ((a2 - a4) - (10 : Int32)))] rfl ?_
    exact t_rM_byPaying_J21 _ _ _ _ _  _ hd hQ
  · replace hd := ite_n c1 hd
    refine s_iload f_266_14 rfl ?_
    refine s_ineg f_266_16 ?_
    refine s_goto 21 f_266_17 (by decide) ?_
    refine aAt.sub [(0, .ref 154), (1, .int a1), (3, .int a3), (4, .int a4), (5, .int ((a2 - a4) - (10 : Int32)))] rfl ?_
    exact t_rM_byPaying_J21 _ _ _ _ _  _ hd hQ

def rM_mostPaid_J10 (w0 : Int32) : Option (Int32) :=
  if (9 : Int32) ≤ w0 then
    some (9 : Int32)
  else
    some w0
theorem t_rM_mostPaid_J10 {l : Launch} {G : aG} {d : Nat} {Q : Option Value → aHeap → Prop} {sl : Nat} {sx : Nat → Int32} {S : SS} {K : KS} {T : TS} {X : XS} {M : SS} : ∀ (w0 : Int32) (p : Int32), rM_mostPaid_J10 w0 = some p → Q (some (.int p)) (LH (old0 sl sx) S K T X M) → aAt l G d 0 0 267 10 [] [.int w0] 0 0 (LH (old0 sl sx) S K T X M) Q := by
  intro w0 p hd hQ
  unfold rM_mostPaid_J10 at hd
  refine s_istore_n f_267_10 (by decide) ?_
  refine s_iload_n f_267_11 rfl ?_
  refine k_bipush (v := 9) f_267_12 (by decide) ?_
  refine s_icmp_ge 21 f_267_14 (by decide) (fun c2 => ?_) (fun c2 => ?_)
  · replace hd := ite_p c2 hd
    refine k_bipush (v := 9) f_267_21 (by decide) ?_
    refine s_ireturn f_267_23 rfl rfl ?_
    cases hd
    exact hQ
  · replace hd := ite_n c2 hd
    refine s_iload_n f_267_17 rfl ?_
    refine s_goto 23 f_267_18 (by decide) ?_
    refine s_ireturn f_267_23 rfl rfl ?_
    cases hd
    exact hQ
def rM_mostPaid (a0 : Int32) (a1 : Int32) : Option (Int32) :=
  if a1 ≤ a0 then
    rM_mostPaid_J10 a1
  else
    rM_mostPaid_J10 a0
theorem t_rM_mostPaid {l : Launch} {G : aG} {d : Nat} {Q : Option Value → aHeap → Prop} {sl : Nat} {sx : Nat → Int32} {S : SS} {K : KS} {T : TS} {X : XS} {M : SS} {a0 : Int32} {a1 : Int32} {p : Int32} (hd : rM_mostPaid a0 a1 = some p) (hQ : Q (some (.int p)) (LH (old0 sl sx) S K T X M)) : aCall l G d 0 0 267 [.int a0, .int a1] (LH (old0 sl sx) S K T X M) Q := by
  refine aCall.of (by decide) (Nat.le_of_ble_eq_true rfl) ?_
  refine aAt.sub [(0, .int a0), (1, .int a1)] rfl ?_
  unfold rM_mostPaid at hd
  refine s_iload_n f_267_0 rfl ?_
  refine s_iload_n f_267_1 rfl ?_
  refine s_icmp_ge 9 f_267_2 (by decide) (fun c1 => ?_) (fun c1 => ?_)
  · replace hd := ite_p c1 hd
    refine s_iload_n f_267_9 rfl ?_
    refine aAt.sub [] rfl ?_
    exact t_rM_mostPaid_J10 _  _ hd hQ
  · replace hd := ite_n c1 hd
    refine s_iload_n f_267_5 rfl ?_
    refine s_goto 10 f_267_6 (by decide) ?_
    refine aAt.sub [] rfl ?_
    exact t_rM_mostPaid_J10 _  _ hd hQ

def rM_bestOf_J48 (M : SS) (k13 : Int32 → Int32 → Int32 → Int32 → Int32 → Option (Int32)) (a1 : Int32) (a2 : Int32) (a3 : Int32) (a5 : Int32) (w0 : Int32) : Option (Int32) :=
  k13 a1 a2 a3 w0 (a5 + 1)
theorem t_rM_bestOf_J48 {l : Launch} {G : aG} {d : Nat} {Q : Option Value → aHeap → Prop} {sl : Nat} {sx : Nat → Int32} {S : SS} {K : KS} {T : TS} {X : XS} {M : SS} {k13 : Int32 → Int32 → Int32 → Int32 → Int32 → Option (Int32)} (hk13 : ∀ (a1 : Int32) (a2 : Int32) (a3 : Int32) (a4 : Int32) (a5 : Int32) (p : Int32), k13 a1 a2 a3 a4 a5 = some p → Q (some (.int p)) (LH (old0 sl sx) S K T X M) → aAt l G (d + 2) 0 0 265 13 [(0, .ref 154), (1, .int a1), (2, .int a2), (3, .int a3), (4, .int a4), (5, .int a5)] [] 0 0 (LH (old0 sl sx) S K T X M) Q) : ∀ (a1 : Int32) (a2 : Int32) (a3 : Int32) (a5 : Int32) (w0 : Int32) (p : Int32), rM_bestOf_J48 M k13 a1 a2 a3 a5 w0 = some p → Q (some (.int p)) (LH (old0 sl sx) S K T X M) → aAt l G (d + 2) 0 0 265 48 [(0, .ref 154), (1, .int a1), (2, .int a2), (3, .int a3), (5, .int a5)] [.int w0] 0 0 (LH (old0 sl sx) S K T X M) Q := by
  intro a1 a2 a3 a5 w0 p hd hQ
  unfold rM_bestOf_J48 at hd
  refine s_istore f_265_48 (by decide) ?_
  refine k_iinc (w := 1) f_265_50 rfl (by decide) (by decide) ?_
  refine s_goto 13 f_265_53 (by decide) ?_
  refine aAt.sub [(0, .ref 154), (1, .int a1), (2, .int a2), (3, .int a3), (4, .int w0), (5, .int (a5 + 1))] rfl ?_
  exact hk13 _ _ _ _ _  _ hd hQ
def rM_bestOf_L13 (M : SS) : Nat → Int32 → Int32 → Int32 → Int32 → Int32 → Option (Int32)
  | 0, _, _, _, _, _ => none
  | n + 1, a1, a2, a3, a4, a5 =>
    (rM_mostPaid a2 a3).bind fun p2 =>
    if p2 < a5 then
      some a4
    else
      (rM_byPaying M a1 a2 a3 a5).bind fun p4 =>
      if a4 ≤ p4 then
        rM_bestOf_J48 M (rM_bestOf_L13 M  n) a1 a2 a3 a5 a4
      else
        rM_bestOf_J48 M (rM_bestOf_L13 M  n) a1 a2 a3 a5 p4
theorem t_rM_bestOf_L13 {l : Launch} {G : aG} {d : Nat} {Q : Option Value → aHeap → Prop} {sl : Nat} {sx : Nat → Int32} {S : SS} {K : KS} {T : TS} {X : XS} {M : SS} : ∀ (n : Nat), ∀ (a1 : Int32) (a2 : Int32) (a3 : Int32) (a4 : Int32) (a5 : Int32) (p : Int32), rM_bestOf_L13 M n a1 a2 a3 a4 a5 = some p → Q (some (.int p)) (LH (old0 sl sx) S K T X M) → aAt l G (d + 2) 0 0 265 13 [(0, .ref 154), (1, .int a1), (2, .int a2), (3, .int a3), (4, .int a4), (5, .int a5)] [] 0 0 (LH (old0 sl sx) S K T X M) Q := by
  intro n
  induction n with
  | zero =>
    intro a1 a2 a3 a4 a5 p hd hQ
    rw [rM_bestOf_L13] at hd
    cases hd
  | succ n ih =>
    intro a1 a2 a3 a4 a5 p hd hQ
    rw [rM_bestOf_L13] at hd
    refine s_iload f_265_13 rfl ?_
    refine s_iload_n f_265_15 rfl ?_
    refine s_iload_n f_265_16 rfl ?_
    replace hd := obind hd
    obtain ⟨p2, e2, hd⟩ := hd
    refine L_stat (As := [.int a2, .int a3]) f_265_17 ca_12_283 rfl rfl (Nat.le_of_ble_eq_true rfl) ?_
    refine t_rM_mostPaid e2 ?_
    refine s_icmp_gt 56 f_265_20 (by decide) (fun c3 => ?_) (fun c3 => ?_)
    · replace hd := ite_p c3 hd
      refine s_iload f_265_56 rfl ?_
      refine s_ireturn f_265_58 rfl rfl ?_
      cases hd
      exact hQ
    · replace hd := ite_n c3 hd
      refine s_aload_n f_265_23 rfl ?_
      refine s_iload_n f_265_24 rfl ?_
      refine s_iload_n f_265_25 rfl ?_
      refine s_iload_n f_265_26 rfl ?_
      refine s_iload f_265_27 rfl ?_
      replace hd := obind hd
      obtain ⟨p4, e4, hd⟩ := hd
      refine L_virt (As := [.int a1, .int a2, .int a3, .int a5]) f_265_29 ca_12_279 rfl rfl (obL (by decide)) (by decide) (Nat.le_of_ble_eq_true rfl) ?_
      refine t_rM_byPaying e4 ?_
      refine s_istore f_265_32 (by decide) ?_
      refine s_iload f_265_34 rfl ?_
      refine s_iload f_265_36 rfl ?_
      refine s_icmp_ge 46 f_265_38 (by decide) (fun c5 => ?_) (fun c5 => ?_)
      · replace hd := ite_p c5 hd
        refine s_iload f_265_46 rfl ?_
        refine aAt.sub [(0, .ref 154), (1, .int a1), (2, .int a2), (3, .int a3), (5, .int a5)] rfl ?_
        exact t_rM_bestOf_J48 ih _ _ _ _ _  _ hd hQ
      · replace hd := ite_n c5 hd
        refine s_iload f_265_41 rfl ?_
        refine s_goto 48 f_265_43 (by decide) ?_
        refine aAt.sub [(0, .ref 154), (1, .int a1), (2, .int a2), (3, .int a3), (5, .int a5)] rfl ?_
        exact t_rM_bestOf_J48 ih _ _ _ _ _  _ hd hQ
def rM_bestOf (M : SS) (a1 : Int32) (a2 : Int32) (a3 : Int32) : Option (Int32) :=
  (rM_byPaying M a1 a2 a3 (0 : Int32)).bind fun p1 =>
  rM_bestOf_L13 M FU a1 a2 a3 p1 (1 : Int32)
theorem t_rM_bestOf {l : Launch} {G : aG} {d : Nat} {Q : Option Value → aHeap → Prop} {sl : Nat} {sx : Nat → Int32} {S : SS} {K : KS} {T : TS} {X : XS} {M : SS} {a1 : Int32} {a2 : Int32} {a3 : Int32} {p : Int32} (hd : rM_bestOf M a1 a2 a3 = some p) (hQ : Q (some (.int p)) (LH (old0 sl sx) S K T X M)) : aCall l G (d + 2) 0 0 265 [.ref 154, .int a1, .int a2, .int a3] (LH (old0 sl sx) S K T X M) Q := by
  refine aCall.of (by decide) (Nat.le_of_ble_eq_true rfl) ?_
  refine aAt.sub [(0, .ref 154), (1, .int a1), (2, .int a2), (3, .int a3)] rfl ?_
  unfold rM_bestOf at hd
  refine s_aload_n f_265_0 rfl ?_
  refine s_iload_n f_265_1 rfl ?_
  refine s_iload_n f_265_2 rfl ?_
  refine s_iload_n f_265_3 rfl ?_
  refine k_iconst (v := 0) f_265_4 (by decide) ?_
  replace hd := obind hd
  obtain ⟨p1, e1, hd⟩ := hd
  refine L_virt (As := [.int a1, .int a2, .int a3, .int (0 : Int32)]) f_265_5 ca_12_279 rfl rfl (obL (by decide)) (by decide) (Nat.le_of_ble_eq_true rfl) ?_
  refine t_rM_byPaying e1 ?_
  refine s_istore f_265_8 (by decide) ?_
  refine k_iconst (v := 1) f_265_10 (by decide) ?_
  refine s_istore f_265_11 (by decide) ?_
  refine aAt.sub [(0, .ref 154), (1, .int a1), (2, .int a2), (3, .int a3), (4, .int p1), (5, .int (1 : Int32))] rfl ?_
  exact t_rM_bestOf_L13 FU _ _ _ _ _  _ hd hQ

def rM_findLast_J136 (k51 : SS → Int32 → Int32 → Int32 → Int32 → Int32 → Option (SS)) (k60 : SS → Int32 → Int32 → Int32 → Int32 → Int32 → Int32 → Option (SS)) (k70 : SS → Int32 → Int32 → Int32 → Int32 → Int32 → Int32 → Int32 → Option (SS)) (M : SS) (a1 : Int32) (a2 : Int32) (a3 : Int32) (a4 : Int32) (a5 : Int32) (a6 : Int32) (a7 : Int32) (w1 : Int32) (w2 : Int32) : Option (SS) :=
  if inb w1 33489 then
    k70 (up M 167 (ix w1) w2) a1 a2 a3 a4 a5 a6 (a7 + 1)
  else none
theorem t_rM_findLast_J136 {l : Launch} {G : aG} {d : Nat} {Q : Option Value → aHeap → Prop} {sl : Nat} {sx : Nat → Int32} {S : SS} {K : KS} {T : TS} {X : XS} {k51 : SS → Int32 → Int32 → Int32 → Int32 → Int32 → Option (SS)} {k60 : SS → Int32 → Int32 → Int32 → Int32 → Int32 → Int32 → Option (SS)} {k70 : SS → Int32 → Int32 → Int32 → Int32 → Int32 → Int32 → Int32 → Option (SS)} (hk51 : ∀ (M : SS) (a1 : Int32) (a2 : Int32) (a3 : Int32) (a4 : Int32) (a5 : Int32) (p : SS), k51 M a1 a2 a3 a4 a5 = some p → Q none (LH (old0 sl sx) S K T X p) → aAt l G (d + 3) 0 0 263 51 [(0, .ref 154), (1, .int a1), (2, .int a2), (3, .int a3), (4, .int a4), (5, .int a5)] [] 0 0 (LH (old0 sl sx) S K T X M) Q) (hk60 : ∀ (M : SS) (a1 : Int32) (a2 : Int32) (a3 : Int32) (a4 : Int32) (a5 : Int32) (a6 : Int32) (p : SS), k60 M a1 a2 a3 a4 a5 a6 = some p → Q none (LH (old0 sl sx) S K T X p) → aAt l G (d + 3) 0 0 263 60 [(0, .ref 154), (1, .int a1), (2, .int a2), (3, .int a3), (4, .int a4), (5, .int a5), (6, .int a6)] [] 0 0 (LH (old0 sl sx) S K T X M) Q) (hk70 : ∀ (M : SS) (a1 : Int32) (a2 : Int32) (a3 : Int32) (a4 : Int32) (a5 : Int32) (a6 : Int32) (a7 : Int32) (p : SS), k70 M a1 a2 a3 a4 a5 a6 a7 = some p → Q none (LH (old0 sl sx) S K T X p) → aAt l G (d + 3) 0 0 263 70 [(0, .ref 154), (1, .int a1), (2, .int a2), (3, .int a3), (4, .int a4), (5, .int a5), (6, .int a6), (7, .int a7)] [] 0 0 (LH (old0 sl sx) S K T X M) Q) : ∀ (M : SS) (a1 : Int32) (a2 : Int32) (a3 : Int32) (a4 : Int32) (a5 : Int32) (a6 : Int32) (a7 : Int32) (w1 : Int32) (w2 : Int32) (p : SS), rM_findLast_J136 k51 k60 k70 M a1 a2 a3 a4 a5 a6 a7 w1 w2 = some p → Q none (LH (old0 sl sx) S K T X p) → aAt l G (d + 3) 0 0 263 136 [(0, .ref 154), (1, .int a1), (2, .int a2), (3, .int a3), (4, .int a4), (5, .int a5), (6, .int a6), (7, .int a7)] [.int w2, .int w1, .ref 167] 0 0 (LH (old0 sl sx) S K T X M) Q := by
  intro M a1 a2 a3 a4 a5 a6 a7 w1 w2 p hd hQ
  unfold rM_findLast_J136 at hd
  replace hd := gd hd
  obtain ⟨g9, hd⟩ := hd
  refine M_iastore (q := (ix w1)) f_263_136 ⟨by decide, by decide, by decide, fun _ => rfl⟩ (Nat.le_of_ble_eq_true rfl : 33489 < 2 ^ 31) rfl g9 ?_
  refine k_iinc (w := 1) f_263_137 rfl (by decide) (by decide) ?_
  refine s_goto 70 f_263_140 (by decide) ?_
  refine aAt.sub [(0, .ref 154), (1, .int a1), (2, .int a2), (3, .int a3), (4, .int a4), (5, .int a5), (6, .int a6), (7, .int (a7 + 1))] rfl ?_
  exact hk70 _ _ _ _ _ _ _ _  _ hd hQ
def rM_findLast_L70 (k51 : SS → Int32 → Int32 → Int32 → Int32 → Int32 → Option (SS)) (k60 : SS → Int32 → Int32 → Int32 → Int32 → Int32 → Int32 → Option (SS)) : Nat → SS → Int32 → Int32 → Int32 → Int32 → Int32 → Int32 → Int32 → Option (SS)
  | 0, _, _, _, _, _, _, _, _ => none
  | n + 1, M, a1, a2, a3, a4, a5, a6, a7 =>
    if a2 < a7 then
      k60 M a1 a2 a3 a4 a5 (a6 + 1)
    else
      (rM_bestOf M (a5 - (1 : Int32)) (a6 + a3) a7).bind fun p5 =>
      (rM_bestOf M (a5 - (1 : Int32)) (a6 + a4) a7).bind fun p6 =>
      (rM_at a5 a6 a7).bind fun p7 =>
      if p5 ≤ p6 then
        rM_findLast_J136 k51 k60 (rM_findLast_L70 k51 k60  n) M a1 a2 a3 a4 a5 a6 a7 p7 p6
      else
        rM_findLast_J136 k51 k60 (rM_findLast_L70 k51 k60  n) M a1 a2 a3 a4 a5 a6 a7 p7 p5
theorem t_rM_findLast_L70 {l : Launch} {G : aG} {d : Nat} {Q : Option Value → aHeap → Prop} {sl : Nat} {sx : Nat → Int32} {S : SS} {K : KS} {T : TS} {X : XS} {k51 : SS → Int32 → Int32 → Int32 → Int32 → Int32 → Option (SS)} {k60 : SS → Int32 → Int32 → Int32 → Int32 → Int32 → Int32 → Option (SS)} (hk51 : ∀ (M : SS) (a1 : Int32) (a2 : Int32) (a3 : Int32) (a4 : Int32) (a5 : Int32) (p : SS), k51 M a1 a2 a3 a4 a5 = some p → Q none (LH (old0 sl sx) S K T X p) → aAt l G (d + 3) 0 0 263 51 [(0, .ref 154), (1, .int a1), (2, .int a2), (3, .int a3), (4, .int a4), (5, .int a5)] [] 0 0 (LH (old0 sl sx) S K T X M) Q) (hk60 : ∀ (M : SS) (a1 : Int32) (a2 : Int32) (a3 : Int32) (a4 : Int32) (a5 : Int32) (a6 : Int32) (p : SS), k60 M a1 a2 a3 a4 a5 a6 = some p → Q none (LH (old0 sl sx) S K T X p) → aAt l G (d + 3) 0 0 263 60 [(0, .ref 154), (1, .int a1), (2, .int a2), (3, .int a3), (4, .int a4), (5, .int a5), (6, .int a6)] [] 0 0 (LH (old0 sl sx) S K T X M) Q) : ∀ (n : Nat), ∀ (M : SS) (a1 : Int32) (a2 : Int32) (a3 : Int32) (a4 : Int32) (a5 : Int32) (a6 : Int32) (a7 : Int32) (p : SS), rM_findLast_L70 k51 k60 n M a1 a2 a3 a4 a5 a6 a7 = some p → Q none (LH (old0 sl sx) S K T X p) → aAt l G (d + 3) 0 0 263 70 [(0, .ref 154), (1, .int a1), (2, .int a2), (3, .int a3), (4, .int a4), (5, .int a5), (6, .int a6), (7, .int a7)] [] 0 0 (LH (old0 sl sx) S K T X M) Q := by
  intro n
  induction n with
  | zero =>
    intro M a1 a2 a3 a4 a5 a6 a7 p hd hQ
    rw [rM_findLast_L70] at hd
    cases hd
  | succ n ih =>
    intro M a1 a2 a3 a4 a5 a6 a7 p hd hQ
    rw [rM_findLast_L70] at hd
    refine s_iload f_263_70 rfl ?_
    refine s_iload_n f_263_72 rfl ?_
    refine s_icmp_gt 143 f_263_73 (by decide) (fun c4 => ?_) (fun c4 => ?_)
    · replace hd := ite_p c4 hd
      refine k_iinc (w := 1) f_263_143 rfl (by decide) (by decide) ?_
      refine s_goto 60 f_263_146 (by decide) ?_
      refine aAt.sub [(0, .ref 154), (1, .int a1), (2, .int a2), (3, .int a3), (4, .int a4), (5, .int a5), (6, .int (a6 + 1))] rfl ?_
      exact hk60 _ _ _ _ _ _ _  _ hd hQ
    · replace hd := ite_n c4 hd
      refine s_aload_n f_263_76 rfl ?_
      refine s_iload f_263_77 rfl ?_
      refine k_iconst (v := 1) f_263_79 (by decide) ?_
      refine s_isub f_263_80 ?_
      refine s_iload f_263_81 rfl ?_
      refine s_iload_n f_263_83 rfl ?_
      refine s_iadd f_263_84 ?_
      refine s_iload f_263_85 rfl ?_
      replace hd := obind hd
      obtain ⟨p5, e5, hd⟩ := hd
      refine L_virt (As := [.int (a5 - (1 : Int32)), .int (a6 + a3), .int a7]) f_263_87 ca_12_286 rfl rfl (obL (by decide)) (by decide) (Nat.le_of_ble_eq_true rfl) ?_
      refine t_rM_bestOf e5 ?_
      refine s_istore f_263_90 (by decide) ?_
      refine s_aload_n f_263_92 rfl ?_
      refine s_iload f_263_93 rfl ?_
      refine k_iconst (v := 1) f_263_95 (by decide) ?_
      refine s_isub f_263_96 ?_
      refine s_iload f_263_97 rfl ?_
      refine s_iload f_263_99 rfl ?_
      refine s_iadd f_263_101 ?_
      refine s_iload f_263_102 rfl ?_
      replace hd := obind hd
      obtain ⟨p6, e6, hd⟩ := hd
      refine L_virt (As := [.int (a5 - (1 : Int32)), .int (a6 + a4), .int a7]) f_263_104 ca_12_286 rfl rfl (obL (by decide)) (by decide) (Nat.le_of_ble_eq_true rfl) ?_
      refine t_rM_bestOf e6 ?_
      refine s_istore f_263_107 (by decide) ?_
      refine s_aload_n f_263_109 rfl ?_
      refine L_getR f_263_110 fd_12_50 (obL (by decide)) (by decide) (by decide : rf 154 21 = 167) ?_
      refine s_iload f_263_113 rfl ?_
      refine s_iload f_263_115 rfl ?_
      refine s_iload f_263_117 rfl ?_
      replace hd := obind hd
      obtain ⟨p7, e7, hd⟩ := hd
      refine L_stat (As := [.int a5, .int a6, .int a7]) f_263_119 ca_12_276 rfl rfl (Nat.le_of_ble_eq_true rfl) ?_
      refine t_rM_at e7 ?_
      refine s_iload f_263_122 rfl ?_
      refine s_iload f_263_124 rfl ?_
      refine s_icmp_le 134 f_263_126 (by decide) (fun c8 => ?_) (fun c8 => ?_)
      · replace hd := ite_p c8 hd
        refine s_iload f_263_134 rfl ?_
        refine aAt.sub [(0, .ref 154), (1, .int a1), (2, .int a2), (3, .int a3), (4, .int a4), (5, .int a5), (6, .int a6), (7, .int a7)] rfl ?_
        exact t_rM_findLast_J136 hk51 hk60 ih _ _ _ _ _ _ _ _ _ _  _ hd hQ
      · replace hd := ite_n c8 hd
        refine s_iload f_263_129 rfl ?_
        refine s_goto 136 f_263_131 (by decide) ?_
        refine aAt.sub [(0, .ref 154), (1, .int a1), (2, .int a2), (3, .int a3), (4, .int a4), (5, .int a5), (6, .int a6), (7, .int a7)] rfl ?_
        exact t_rM_findLast_J136 hk51 hk60 ih _ _ _ _ _ _ _ _ _ _  _ hd hQ
def rM_findLast_L60 (k51 : SS → Int32 → Int32 → Int32 → Int32 → Int32 → Option (SS)) : Nat → SS → Int32 → Int32 → Int32 → Int32 → Int32 → Int32 → Option (SS)
  | 0, _, _, _, _, _, _, _ => none
  | n + 1, M, a1, a2, a3, a4, a5, a6 =>
    if (60 : Int32) < a6 then
      k51 M a1 a2 a3 a4 (a5 + 1)
    else
      rM_findLast_L70 k51 (rM_findLast_L60 k51  n) FU M a1 a2 a3 a4 a5 a6 (0 : Int32)
theorem t_rM_findLast_L60 {l : Launch} {G : aG} {d : Nat} {Q : Option Value → aHeap → Prop} {sl : Nat} {sx : Nat → Int32} {S : SS} {K : KS} {T : TS} {X : XS} {k51 : SS → Int32 → Int32 → Int32 → Int32 → Int32 → Option (SS)} (hk51 : ∀ (M : SS) (a1 : Int32) (a2 : Int32) (a3 : Int32) (a4 : Int32) (a5 : Int32) (p : SS), k51 M a1 a2 a3 a4 a5 = some p → Q none (LH (old0 sl sx) S K T X p) → aAt l G (d + 3) 0 0 263 51 [(0, .ref 154), (1, .int a1), (2, .int a2), (3, .int a3), (4, .int a4), (5, .int a5)] [] 0 0 (LH (old0 sl sx) S K T X M) Q) : ∀ (n : Nat), ∀ (M : SS) (a1 : Int32) (a2 : Int32) (a3 : Int32) (a4 : Int32) (a5 : Int32) (a6 : Int32) (p : SS), rM_findLast_L60 k51 n M a1 a2 a3 a4 a5 a6 = some p → Q none (LH (old0 sl sx) S K T X p) → aAt l G (d + 3) 0 0 263 60 [(0, .ref 154), (1, .int a1), (2, .int a2), (3, .int a3), (4, .int a4), (5, .int a5), (6, .int a6)] [] 0 0 (LH (old0 sl sx) S K T X M) Q := by
  intro n
  induction n with
  | zero =>
    intro M a1 a2 a3 a4 a5 a6 p hd hQ
    rw [rM_findLast_L60] at hd
    cases hd
  | succ n ih =>
    intro M a1 a2 a3 a4 a5 a6 p hd hQ
    rw [rM_findLast_L60] at hd
    refine s_iload f_263_60 rfl ?_
    refine k_bipush (v := 60) f_263_62 (by decide) ?_
    refine s_icmp_gt 149 f_263_64 (by decide) (fun c3 => ?_) (fun c3 => ?_)
    · replace hd := ite_p c3 hd
      refine k_iinc (w := 1) f_263_149 rfl (by decide) (by decide) ?_
      refine s_goto 51 f_263_152 (by decide) ?_
      refine aAt.sub [(0, .ref 154), (1, .int a1), (2, .int a2), (3, .int a3), (4, .int a4), (5, .int (a5 + 1))] rfl ?_
      exact hk51 _ _ _ _ _ _  _ hd hQ
    · replace hd := ite_n c3 hd
      refine k_iconst (v := 0) f_263_67 (by decide) ?_
      refine s_istore f_263_68 (by decide) ?_
      refine aAt.sub [(0, .ref 154), (1, .int a1), (2, .int a2), (3, .int a3), (4, .int a4), (5, .int a5), (6, .int a6), (7, .int (0 : Int32))] rfl ?_
      exact t_rM_findLast_L70 hk51 ih FU _ _ _ _ _ _ _ _  _ hd hQ
def rM_findLast_L51 : Nat → SS → Int32 → Int32 → Int32 → Int32 → Int32 → Option (SS)
  | 0, _, _, _, _, _, _ => none
  | n + 1, M, a1, a2, a3, a4, a5 =>
    if a1 < a5 then
      some M
    else
      rM_findLast_L60 (rM_findLast_L51  n) FU M a1 a2 a3 a4 a5 (0 : Int32)
theorem t_rM_findLast_L51 {l : Launch} {G : aG} {d : Nat} {Q : Option Value → aHeap → Prop} {sl : Nat} {sx : Nat → Int32} {S : SS} {K : KS} {T : TS} {X : XS} : ∀ (n : Nat), ∀ (M : SS) (a1 : Int32) (a2 : Int32) (a3 : Int32) (a4 : Int32) (a5 : Int32) (p : SS), rM_findLast_L51 n M a1 a2 a3 a4 a5 = some p → Q none (LH (old0 sl sx) S K T X p) → aAt l G (d + 3) 0 0 263 51 [(0, .ref 154), (1, .int a1), (2, .int a2), (3, .int a3), (4, .int a4), (5, .int a5)] [] 0 0 (LH (old0 sl sx) S K T X M) Q := by
  intro n
  induction n with
  | zero =>
    intro M a1 a2 a3 a4 a5 p hd hQ
    rw [rM_findLast_L51] at hd
    cases hd
  | succ n ih =>
    intro M a1 a2 a3 a4 a5 p hd hQ
    rw [rM_findLast_L51] at hd
    refine s_iload f_263_51 rfl ?_
    refine s_iload_n f_263_53 rfl ?_
    refine s_icmp_gt 155 f_263_54 (by decide) (fun c2 => ?_) (fun c2 => ?_)
    · replace hd := ite_p c2 hd
      refine s_return f_263_155 rfl ?_
      cases hd
      exact hQ
    · replace hd := ite_n c2 hd
      refine k_iconst (v := 0) f_263_57 (by decide) ?_
      refine s_istore f_263_58 (by decide) ?_
      refine aAt.sub [(0, .ref 154), (1, .int a1), (2, .int a2), (3, .int a3), (4, .int a4), (5, .int a5), (6, .int (0 : Int32))] rfl ?_
      exact t_rM_findLast_L60 ih FU _ _ _ _ _ _ _  _ hd hQ
def rM_findLast_L13 (k3 : SS → Int32 → Int32 → Int32 → Int32 → Int32 → Option (SS)) : Nat → SS → Int32 → Int32 → Int32 → Int32 → Int32 → Int32 → Option (SS)
  | 0, _, _, _, _, _, _, _ => none
  | n + 1, M, a1, a2, a3, a4, a5, a6 =>
    if a2 < a6 then
      k3 M a1 a2 a3 a4 (a5 + 1)
    else
      (rM_at (0 : Int32) a5 a6).bind fun p11 =>
      if inb p11 33489 then
        rM_findLast_L13 k3  n (up M 167 (ix p11) ((2 : Int32) * a6)) a1 a2 a3 a4 a5 (a6 + 1)
      else none
theorem t_rM_findLast_L13 {l : Launch} {G : aG} {d : Nat} {Q : Option Value → aHeap → Prop} {sl : Nat} {sx : Nat → Int32} {S : SS} {K : KS} {T : TS} {X : XS} {k3 : SS → Int32 → Int32 → Int32 → Int32 → Int32 → Option (SS)} (hk3 : ∀ (M : SS) (a1 : Int32) (a2 : Int32) (a3 : Int32) (a4 : Int32) (a5 : Int32) (p : SS), k3 M a1 a2 a3 a4 a5 = some p → Q none (LH (old0 sl sx) S K T X p) → aAt l G (d + 3) 0 0 263 3 [(0, .ref 154), (1, .int a1), (2, .int a2), (3, .int a3), (4, .int a4), (5, .int a5)] [] 0 0 (LH (old0 sl sx) S K T X M) Q) : ∀ (n : Nat), ∀ (M : SS) (a1 : Int32) (a2 : Int32) (a3 : Int32) (a4 : Int32) (a5 : Int32) (a6 : Int32) (p : SS), rM_findLast_L13 k3 n M a1 a2 a3 a4 a5 a6 = some p → Q none (LH (old0 sl sx) S K T X p) → aAt l G (d + 3) 0 0 263 13 [(0, .ref 154), (1, .int a1), (2, .int a2), (3, .int a3), (4, .int a4), (5, .int a5), (6, .int a6)] [] 0 0 (LH (old0 sl sx) S K T X M) Q := by
  intro n
  induction n with
  | zero =>
    intro M a1 a2 a3 a4 a5 a6 p hd hQ
    rw [rM_findLast_L13] at hd
    cases hd
  | succ n ih =>
    intro M a1 a2 a3 a4 a5 a6 p hd hQ
    rw [rM_findLast_L13] at hd
    refine s_iload f_263_13 rfl ?_
    refine s_iload_n f_263_15 rfl ?_
    refine s_icmp_gt 42 f_263_16 (by decide) (fun c10 => ?_) (fun c10 => ?_)
    · replace hd := ite_p c10 hd
      refine k_iinc (w := 1) f_263_42 rfl (by decide) (by decide) ?_
      refine s_goto 3 f_263_45 (by decide) ?_
      refine aAt.sub [(0, .ref 154), (1, .int a1), (2, .int a2), (3, .int a3), (4, .int a4), (5, .int (a5 + 1))] rfl ?_
      exact hk3 _ _ _ _ _ _  _ hd hQ
    · replace hd := ite_n c10 hd
      refine s_aload_n f_263_19 rfl ?_
      refine L_getR f_263_20 fd_12_50 (obL (by decide)) (by decide) (by decide : rf 154 21 = 167) ?_
      refine k_iconst (v := 0) f_263_23 (by decide) ?_
      refine s_iload f_263_24 rfl ?_
      refine s_iload f_263_26 rfl ?_
      replace hd := obind hd
      obtain ⟨p11, e11, hd⟩ := hd
      refine L_stat (As := [.int (0 : Int32), .int a5, .int a6]) f_263_28 ca_12_276 rfl rfl (Nat.le_of_ble_eq_true rfl) ?_
      refine t_rM_at e11 ?_
      refine k_iconst (v := 2) f_263_31 (by decide) ?_
      refine s_iload f_263_32 rfl ?_
      refine s_imul f_263_34 ?_
      replace hd := gd hd
      obtain ⟨g12, hd⟩ := hd
      refine M_iastore (q := (ix p11)) f_263_35 ⟨by decide, by decide, by decide, fun _ => rfl⟩ (Nat.le_of_ble_eq_true rfl : 33489 < 2 ^ 31) rfl g12 ?_
      refine k_iinc (w := 1) f_263_36 rfl (by decide) (by decide) ?_
      refine s_goto 13 f_263_39 (by decide) ?_
      refine aAt.sub [(0, .ref 154), (1, .int a1), (2, .int a2), (3, .int a3), (4, .int a4), (5, .int a5), (6, .int (a6 + 1))] rfl ?_
      exact ih _ _ _ _ _ _ _  _ hd hQ
def rM_findLast_L3 : Nat → SS → Int32 → Int32 → Int32 → Int32 → Int32 → Option (SS)
  | 0, _, _, _, _, _, _ => none
  | n + 1, M, a1, a2, a3, a4, a5 =>
    if (60 : Int32) < a5 then
      rM_findLast_L51 FU M a1 a2 a3 a4 (1 : Int32)
    else
      rM_findLast_L13 (rM_findLast_L3  n) FU M a1 a2 a3 a4 a5 (0 : Int32)
theorem t_rM_findLast_L3 {l : Launch} {G : aG} {d : Nat} {Q : Option Value → aHeap → Prop} {sl : Nat} {sx : Nat → Int32} {S : SS} {K : KS} {T : TS} {X : XS} : ∀ (n : Nat), ∀ (M : SS) (a1 : Int32) (a2 : Int32) (a3 : Int32) (a4 : Int32) (a5 : Int32) (p : SS), rM_findLast_L3 n M a1 a2 a3 a4 a5 = some p → Q none (LH (old0 sl sx) S K T X p) → aAt l G (d + 3) 0 0 263 3 [(0, .ref 154), (1, .int a1), (2, .int a2), (3, .int a3), (4, .int a4), (5, .int a5)] [] 0 0 (LH (old0 sl sx) S K T X M) Q := by
  intro n
  induction n with
  | zero =>
    intro M a1 a2 a3 a4 a5 p hd hQ
    rw [rM_findLast_L3] at hd
    cases hd
  | succ n ih =>
    intro M a1 a2 a3 a4 a5 p hd hQ
    rw [rM_findLast_L3] at hd
    refine s_iload f_263_3 rfl ?_
    refine k_bipush (v := 60) f_263_5 (by decide) ?_
    refine s_icmp_gt 48 f_263_7 (by decide) (fun c1 => ?_) (fun c1 => ?_)
    · replace hd := ite_p c1 hd
      refine k_iconst (v := 1) f_263_48 (by decide) ?_
      refine s_istore f_263_49 (by decide) ?_
      refine aAt.sub [(0, .ref 154), (1, .int a1), (2, .int a2), (3, .int a3), (4, .int a4), (5, .int (1 : Int32))] rfl ?_
      exact t_rM_findLast_L51 FU _ _ _ _ _ _  _ hd hQ
    · replace hd := ite_n c1 hd
      refine k_iconst (v := 0) f_263_10 (by decide) ?_
      refine s_istore f_263_11 (by decide) ?_
      refine aAt.sub [(0, .ref 154), (1, .int a1), (2, .int a2), (3, .int a3), (4, .int a4), (5, .int a5), (6, .int (0 : Int32))] rfl ?_
      exact t_rM_findLast_L13 ih FU _ _ _ _ _ _ _  _ hd hQ
def rM_findLast (M : SS) (a1 : Int32) (a2 : Int32) (a3 : Int32) (a4 : Int32) : Option (SS) :=
  rM_findLast_L3 FU M a1 a2 a3 a4 (0 : Int32)
theorem t_rM_findLast {l : Launch} {G : aG} {d : Nat} {Q : Option Value → aHeap → Prop} {sl : Nat} {sx : Nat → Int32} {S : SS} {K : KS} {T : TS} {X : XS} {M : SS} {a1 : Int32} {a2 : Int32} {a3 : Int32} {a4 : Int32} {p : SS} (hd : rM_findLast M a1 a2 a3 a4 = some p) (hQ : Q none (LH (old0 sl sx) S K T X p)) : aCall l G (d + 3) 0 0 263 [.ref 154, .int a1, .int a2, .int a3, .int a4] (LH (old0 sl sx) S K T X M) Q := by
  refine aCall.of (by decide) (Nat.le_of_ble_eq_true rfl) ?_
  refine aAt.sub [(0, .ref 154), (1, .int a1), (2, .int a2), (3, .int a3), (4, .int a4)] rfl ?_
  unfold rM_findLast at hd
  refine k_iconst (v := 0) f_263_0 (by decide) ?_
  refine s_istore f_263_1 (by decide) ?_
  refine aAt.sub [(0, .ref 154), (1, .int a1), (2, .int a2), (3, .int a3), (4, .int a4), (5, .int (0 : Int32))] rfl ?_
  exact t_rM_findLast_L3 FU _ _ _ _ _ _  _ hd hQ

def rM_last (M : SS) (a1 : Int32) (a2 : Int32) (a3 : Int32) (a4 : Int32) : Option (Int32 × SS) :=
  (rM_isLast a1 a2 a3 a4).bind fun p1 =>
  if p1 = true then
    (rM_findLast M a3 a2 (a4 / (100 : Int32)) (a4 - a4 / (100 : Int32) * (100 : Int32))).bind fun p3 =>
    (rM_at a3 a1 a2).bind fun p4 =>
    if inb p4 33489 then
      some ((p3 167 (ix p4)), p3)
    else none
  else
    (rM_finds M (-100001 : Int32)).bind fun p6 =>
    some (p6.1, p6.2)
theorem t_rM_last {l : Launch} {G : aG} {d : Nat} {Q : Option Value → aHeap → Prop} {sl : Nat} {sx : Nat → Int32} {S : SS} {K : KS} {T : TS} {X : XS} {M : SS} {a1 : Int32} {a2 : Int32} {a3 : Int32} {a4 : Int32} {p : Int32 × SS} (hd : rM_last M a1 a2 a3 a4 = some p) (hQ : Q (some (.int p.1)) (LH (old0 sl sx) S K T X p.2)) : aCall l G (d + 4) 0 0 261 [.ref 154, .int a1, .int a2, .int a3, .int a4] (LH (old0 sl sx) S K T X M) Q := by
  refine aCall.of (by decide) (Nat.le_of_ble_eq_true rfl) ?_
  refine aAt.sub [(0, .ref 154), (1, .int a1), (2, .int a2), (3, .int a3), (4, .int a4)] rfl ?_
  unfold rM_last at hd
  refine s_iload_n f_261_0 rfl ?_
  refine s_iload_n f_261_1 rfl ?_
  refine s_iload_n f_261_2 rfl ?_
  refine s_iload f_261_3 rfl ?_
  replace hd := obind hd
  obtain ⟨p1, e1, hd⟩ := hd
  refine L_stat (As := [.int a1, .int a2, .int a3, .int a4]) f_261_5 ca_12_289 rfl rfl (Nat.le_of_ble_eq_true rfl) ?_
  refine t_rM_isLast e1 ?_
  refine z_if_ne 18 f_261_8 (by decide) (fun c2 => ?_) (fun c2 => ?_)
  · replace hd := ite_p c2 hd
    refine s_aload_n f_261_18 rfl ?_
    refine s_iload_n f_261_19 rfl ?_
    refine s_iload_n f_261_20 rfl ?_
    refine s_iload f_261_21 rfl ?_
    refine k_bipush (v := 100) f_261_23 (by decide) ?_
    refine s_idiv f_261_25 (by decide) ?_
    refine s_iload f_261_26 rfl ?_
    refine k_bipush (v := 100) f_261_28 (by decide) ?_
    refine s_irem f_261_30 (by decide) ?_
    replace hd := obind hd
    obtain ⟨p3, e3, hd⟩ := hd
    refine L_virt (As := [.int a3, .int a2, .int (a4 / (100 : Int32)), .int (a4 - a4 / (100 : Int32) * (100 : Int32))]) f_261_31 ca_12_293 rfl rfl (obL (by decide)) (by decide) (Nat.le_of_ble_eq_true rfl) ?_
    refine t_rM_findLast e3 ?_
    refine s_aload_n f_261_34 rfl ?_
    refine L_getR f_261_35 fd_12_50 (obL (by decide)) (by decide) (by decide : rf 154 21 = 167) ?_
    refine s_iload_n f_261_38 rfl ?_
    refine s_iload_n f_261_39 rfl ?_
    refine s_iload_n f_261_40 rfl ?_
    replace hd := obind hd
    obtain ⟨p4, e4, hd⟩ := hd
    refine L_stat (As := [.int a3, .int a1, .int a2]) f_261_41 ca_12_276 rfl rfl (Nat.le_of_ble_eq_true rfl) ?_
    refine t_rM_at e4 ?_
    replace hd := gd hd
    obtain ⟨g5, hd⟩ := hd
    refine M_iaload (q := (ix p4)) f_261_44 ⟨by decide, by decide, by decide, fun _ => rfl⟩ (Nat.le_of_ble_eq_true rfl : 33489 < 2 ^ 31) rfl g5 ?_
    refine s_ireturn f_261_45 rfl rfl ?_
    cases hd
    exact hQ
  · replace hd := ite_n c2 hd
    refine s_aload_n f_261_11 rfl ?_
    refine s_ldc f_261_12 ko_12_77 ?_
    replace hd := obind hd
    obtain ⟨p6, e6, hd⟩ := hd
    refine L_virt (As := [.int (-100001 : Int32)]) f_261_14 ca_12_78 rfl rfl (obL (by decide)) (by decide) (Nat.le_of_ble_eq_true rfl) ?_
    refine t_rM_finds e6 ?_
    refine s_ireturn f_261_17 rfl rfl ?_
    cases hd
    exact hQ

def rM_pays_J15 (M : SS) : Option (Int32 × SS) :=
  (rM_finds M (-100001 : Int32)).bind fun p3 =>
  some (p3.1, p3.2)
theorem t_rM_pays_J15 {l : Launch} {G : aG} {d : Nat} {Q : Option Value → aHeap → Prop} {sl : Nat} {sx : Nat → Int32} {S : SS} {K : KS} {T : TS} {X : XS} : ∀ (M : SS) (p : Int32 × SS), rM_pays_J15 M = some p → Q (some (.int p.1)) (LH (old0 sl sx) S K T X p.2) → aAt l G (d + 4) 0 0 268 15 [(0, .ref 154)] [] 0 0 (LH (old0 sl sx) S K T X M) Q := by
  intro M p hd hQ
  unfold rM_pays_J15 at hd
  refine s_aload_n f_268_15 rfl ?_
  refine s_ldc f_268_16 ko_12_77 ?_
  replace hd := obind hd
  obtain ⟨p3, e3, hd⟩ := hd
  refine L_virt (As := [.int (-100001 : Int32)]) f_268_18 ca_12_78 rfl rfl (obL (by decide)) (by decide) (Nat.le_of_ble_eq_true rfl) ?_
  refine t_rM_finds e3 ?_
  refine s_ireturn f_268_21 rfl rfl ?_
  cases hd
  exact hQ
def rM_pays_L70 : Nat → SS → Int32 → Int32 → Int32 → Int32 → Int32 → Option (Int32 × SS)
  | 0, _, _, _, _, _, _ => none
  | n + 1, M, a1, a2, a3, a5, a6 =>
    (rM_byPaying M (a3 - (1 : Int32)) (a1 + a5) a2 a6).bind fun p7 =>
    (rM_bestOf M (a3 - (1 : Int32)) (a1 + a5) a2).bind fun p8 =>
    if p7 = p8 then
      some (a6, M)
    else
      rM_pays_L70  n M a1 a2 a3 a5 (a6 + 1)
theorem t_rM_pays_L70 {l : Launch} {G : aG} {d : Nat} {Q : Option Value → aHeap → Prop} {sl : Nat} {sx : Nat → Int32} {S : SS} {K : KS} {T : TS} {X : XS} : ∀ (n : Nat), ∀ (M : SS) (a1 : Int32) (a2 : Int32) (a3 : Int32) (a5 : Int32) (a6 : Int32) (p : Int32 × SS), rM_pays_L70 n M a1 a2 a3 a5 a6 = some p → Q (some (.int p.1)) (LH (old0 sl sx) S K T X p.2) → aAt l G (d + 4) 0 0 268 70 [(0, .ref 154), (1, .int a1), (2, .int a2), (3, .int a3), (5, .int a5), (6, .int a6)] [] 0 0 (LH (old0 sl sx) S K T X M) Q := by
  intro n
  induction n with
  | zero =>
    intro M a1 a2 a3 a5 a6 p hd hQ
    rw [rM_pays_L70] at hd
    cases hd
  | succ n ih =>
    intro M a1 a2 a3 a5 a6 p hd hQ
    rw [rM_pays_L70] at hd
    refine s_aload_n f_268_70 rfl ?_
    refine s_iload_n f_268_71 rfl ?_
    refine k_iconst (v := 1) f_268_72 (by decide) ?_
    refine s_isub f_268_73 ?_
    refine s_iload_n f_268_74 rfl ?_
    refine s_iload f_268_75 rfl ?_
    refine s_iadd f_268_77 ?_
    refine s_iload_n f_268_78 rfl ?_
    refine s_iload f_268_79 rfl ?_
    replace hd := obind hd
    obtain ⟨p7, e7, hd⟩ := hd
    refine L_virt (As := [.int (a3 - (1 : Int32)), .int (a1 + a5), .int a2, .int a6]) f_268_81 ca_12_279 rfl rfl (obL (by decide)) (by decide) (Nat.le_of_ble_eq_true rfl) ?_
    refine t_rM_byPaying e7 ?_
    refine s_aload_n f_268_84 rfl ?_
    refine s_iload_n f_268_85 rfl ?_
    refine k_iconst (v := 1) f_268_86 (by decide) ?_
    refine s_isub f_268_87 ?_
    refine s_iload_n f_268_88 rfl ?_
    refine s_iload f_268_89 rfl ?_
    refine s_iadd f_268_91 ?_
    refine s_iload_n f_268_92 rfl ?_
    replace hd := obind hd
    obtain ⟨p8, e8, hd⟩ := hd
    refine L_virt (As := [.int (a3 - (1 : Int32)), .int (a1 + a5), .int a2]) f_268_93 ca_12_286 rfl rfl (obL (by decide)) (by decide) (Nat.le_of_ble_eq_true rfl) ?_
    refine t_rM_bestOf e8 ?_
    refine s_icmp_eq 105 f_268_96 (by decide) (fun c9 => ?_) (fun c9 => ?_)
    · replace hd := ite_p c9 hd
      refine s_iload f_268_105 rfl ?_
      refine s_ireturn f_268_107 rfl rfl ?_
      cases hd
      exact hQ
    · replace hd := ite_n c9 hd
      refine k_iinc (w := 1) f_268_99 rfl (by decide) (by decide) ?_
      refine s_goto 70 f_268_102 (by decide) ?_
      refine aAt.sub [(0, .ref 154), (1, .int a1), (2, .int a2), (3, .int a3), (5, .int a5), (6, .int (a6 + 1))] rfl ?_
      exact ih _ _ _ _ _ _  _ hd hQ
def rM_pays_J49 (M : SS) (a1 : Int32) (a2 : Int32) (a3 : Int32) (a4 : Int32) (a5 : Int32) : Option (Int32 × SS) :=
  (rM_findLast M (a3 - (1 : Int32)) a2 (a4 / (100 : Int32)) (a4 - a4 / (100 : Int32) * (100 : Int32))).bind fun p6 =>
  rM_pays_L70 FU p6 a1 a2 a3 a5 (0 : Int32)
theorem t_rM_pays_J49 {l : Launch} {G : aG} {d : Nat} {Q : Option Value → aHeap → Prop} {sl : Nat} {sx : Nat → Int32} {S : SS} {K : KS} {T : TS} {X : XS} : ∀ (M : SS) (a1 : Int32) (a2 : Int32) (a3 : Int32) (a4 : Int32) (a5 : Int32) (p : Int32 × SS), rM_pays_J49 M a1 a2 a3 a4 a5 = some p → Q (some (.int p.1)) (LH (old0 sl sx) S K T X p.2) → aAt l G (d + 4) 0 0 268 49 [(0, .ref 154), (1, .int a1), (2, .int a2), (3, .int a3), (4, .int a4), (5, .int a5)] [] 0 0 (LH (old0 sl sx) S K T X M) Q := by
  intro M a1 a2 a3 a4 a5 p hd hQ
  unfold rM_pays_J49 at hd
  refine s_aload_n f_268_49 rfl ?_
  refine s_iload_n f_268_50 rfl ?_
  refine k_iconst (v := 1) f_268_51 (by decide) ?_
  refine s_isub f_268_52 ?_
  refine s_iload_n f_268_53 rfl ?_
  refine s_iload f_268_54 rfl ?_
  refine k_bipush (v := 100) f_268_56 (by decide) ?_
  refine s_idiv f_268_58 (by decide) ?_
  refine s_iload f_268_59 rfl ?_
  refine k_bipush (v := 100) f_268_61 (by decide) ?_
  refine s_irem f_268_63 (by decide) ?_
  replace hd := obind hd
  obtain ⟨p6, e6, hd⟩ := hd
  refine L_virt (As := [.int (a3 - (1 : Int32)), .int a2, .int (a4 / (100 : Int32)), .int (a4 - a4 / (100 : Int32) * (100 : Int32))]) f_268_64 ca_12_293 rfl rfl (obL (by decide)) (by decide) (Nat.le_of_ble_eq_true rfl) ?_
  refine t_rM_findLast e6 ?_
  refine k_iconst (v := 0) f_268_67 (by decide) ?_
  refine s_istore f_268_68 (by decide) ?_
  refine aAt.sub [(0, .ref 154), (1, .int a1), (2, .int a2), (3, .int a3), (5, .int a5), (6, .int (0 : Int32))] rfl ?_
  exact t_rM_pays_L70 FU _ _ _ _ _ _  _ hd hQ
def rM_pays (M : SS) (a1 : Int32) (a2 : Int32) (a3 : Int32) (a4 : Int32) (a5 : Int32) : Option (Int32 × SS) :=
  (rM_isLast a1 a2 a3 a4).bind fun p1 =>
  if p1 = true then
    if a3 = 0 then
      rM_pays_J15 M
    else
      if a5 = (a4 / (100 : Int32)) then
        rM_pays_J49 M a1 a2 a3 a4 a5
      else
        if a5 = (a4 - a4 / (100 : Int32) * (100 : Int32)) then
          rM_pays_J49 M a1 a2 a3 a4 a5
        else
          (rM_finds M (-100006 : Int32)).bind fun p11 =>
          some (p11.1, p11.2)
  else
    rM_pays_J15 M
theorem t_rM_pays {l : Launch} {G : aG} {d : Nat} {Q : Option Value → aHeap → Prop} {sl : Nat} {sx : Nat → Int32} {S : SS} {K : KS} {T : TS} {X : XS} {M : SS} {a1 : Int32} {a2 : Int32} {a3 : Int32} {a4 : Int32} {a5 : Int32} {p : Int32 × SS} (hd : rM_pays M a1 a2 a3 a4 a5 = some p) (hQ : Q (some (.int p.1)) (LH (old0 sl sx) S K T X p.2)) : aCall l G (d + 4) 0 0 268 [.ref 154, .int a1, .int a2, .int a3, .int a4, .int a5] (LH (old0 sl sx) S K T X M) Q := by
  refine aCall.of (by decide) (Nat.le_of_ble_eq_true rfl) ?_
  refine aAt.sub [(0, .ref 154), (1, .int a1), (2, .int a2), (3, .int a3), (4, .int a4), (5, .int a5)] rfl ?_
  unfold rM_pays at hd
  refine s_iload_n f_268_0 rfl ?_
  refine s_iload_n f_268_1 rfl ?_
  refine s_iload_n f_268_2 rfl ?_
  refine s_iload f_268_3 rfl ?_
  replace hd := obind hd
  obtain ⟨p1, e1, hd⟩ := hd
  refine L_stat (As := [.int a1, .int a2, .int a3, .int a4]) f_268_5 ca_12_289 rfl rfl (Nat.le_of_ble_eq_true rfl) ?_
  refine t_rM_isLast e1 ?_
  refine z_if_eq 15 f_268_8 (by decide) (fun c2 => ?_) (fun c2 => ?_)
  · replace hd := ite_n c2 hd
    refine aAt.sub [(0, .ref 154)] rfl ?_
    exact t_rM_pays_J15 _  _ hd hQ
  · replace hd := ite_p c2 hd
    refine s_iload_n f_268_11 rfl ?_
    refine s_if_ne 22 f_268_12 (by decide) (fun c4 => ?_) (fun c4 => ?_)
    · replace hd := ite_n c4 hd
      refine s_iload f_268_22 rfl ?_
      refine s_iload f_268_24 rfl ?_
      refine k_bipush (v := 100) f_268_26 (by decide) ?_
      refine s_idiv f_268_28 (by decide) ?_
      refine s_icmp_eq 49 f_268_29 (by decide) (fun c5 => ?_) (fun c5 => ?_)
      · replace hd := ite_p c5 hd
        refine aAt.sub [(0, .ref 154), (1, .int a1), (2, .int a2), (3, .int a3), (4, .int a4), (5, .int a5)] rfl ?_
        exact t_rM_pays_J49 _ _ _ _ _ _  _ hd hQ
      · replace hd := ite_n c5 hd
        refine s_iload f_268_32 rfl ?_
        refine s_iload f_268_34 rfl ?_
        refine k_bipush (v := 100) f_268_36 (by decide) ?_
        refine s_irem f_268_38 (by decide) ?_
        refine s_icmp_eq 49 f_268_39 (by decide) (fun c10 => ?_) (fun c10 => ?_)
        · replace hd := ite_p c10 hd
          refine aAt.sub [(0, .ref 154), (1, .int a1), (2, .int a2), (3, .int a3), (4, .int a4), (5, .int a5)] rfl ?_
          exact t_rM_pays_J49 _ _ _ _ _ _  _ hd hQ
        · replace hd := ite_n c10 hd
          refine s_aload_n f_268_42 rfl ?_
          refine s_ldc f_268_43 ko_12_131 ?_
          replace hd := obind hd
          obtain ⟨p11, e11, hd⟩ := hd
          refine L_virt (As := [.int (-100006 : Int32)]) f_268_45 ca_12_78 rfl rfl (obL (by decide)) (by decide) (Nat.le_of_ble_eq_true rfl) ?_
          refine t_rM_finds e11 ?_
          refine s_ireturn f_268_48 rfl rfl ?_
          cases hd
          exact hQ
    · replace hd := ite_p c4 hd
      refine aAt.sub [(0, .ref 154)] rfl ?_
      exact t_rM_pays_J15 _  _ hd hQ

def rM_proves_J39 (M : SS) : Option (Int32 × SS) :=
  (rM_finds M (-100001 : Int32)).bind fun p3 =>
  some (p3.1, p3.2)
theorem t_rM_proves_J39 {l : Launch} {G : aG} {d : Nat} {Q : Option Value → aHeap → Prop} {sl : Nat} {sx : Nat → Int32} {S : SS} {K : KS} {T : TS} {X : XS} : ∀ (M : SS) (p : Int32 × SS), rM_proves_J39 M = some p → Q (some (.int p.1)) (LH (old0 sl sx) S K T X p.2) → aAt l G (d + 2) 0 0 269 39 [(0, .ref 154)] [] 0 0 (LH (old0 sl sx) S K T X M) Q := by
  intro M p hd hQ
  unfold rM_proves_J39 at hd
  refine s_aload_n f_269_39 rfl ?_
  refine s_ldc f_269_40 ko_12_77 ?_
  replace hd := obind hd
  obtain ⟨p3, e3, hd⟩ := hd
  refine L_virt (As := [.int (-100001 : Int32)]) f_269_42 ca_12_78 rfl rfl (obL (by decide)) (by decide) (Nat.le_of_ble_eq_true rfl) ?_
  refine t_rM_finds e3 ?_
  refine s_ireturn f_269_45 rfl rfl ?_
  cases hd
  exact hQ
def rM_proves_J212 (k75 : SS → Int32 → Int32 → Int32 → Int32 → Int32 → Int32 → Option (Int32 × SS)) (M : SS) (a3 : Int32) (a4 : Int32) (a6 : Int32) (a7 : Int32) (a8 : Int32) (a10 : Int32) (w0 : Int32) : Option (Int32 × SS) :=
  k75 M a3 a4 w0 (a6 - a10) a7 (a8 + 2)
theorem t_rM_proves_J212 {l : Launch} {G : aG} {d : Nat} {Q : Option Value → aHeap → Prop} {sl : Nat} {sx : Nat → Int32} {S : SS} {K : KS} {T : TS} {X : XS} {k75 : SS → Int32 → Int32 → Int32 → Int32 → Int32 → Int32 → Option (Int32 × SS)} (hk75 : ∀ (M : SS) (a3 : Int32) (a4 : Int32) (a5 : Int32) (a6 : Int32) (a7 : Int32) (a8 : Int32) (p : Int32 × SS), k75 M a3 a4 a5 a6 a7 a8 = some p → Q (some (.int p.1)) (LH (old0 sl sx) S K T X p.2) → aAt l G (d + 2) 0 0 269 75 [(0, .ref 154), (3, .int a3), (4, .int a4), (5, .int a5), (6, .int a6), (7, .int a7), (8, .int a8)] [] 0 0 (LH (old0 sl sx) S K T X M) Q) : ∀ (M : SS) (a3 : Int32) (a4 : Int32) (a6 : Int32) (a7 : Int32) (a8 : Int32) (a10 : Int32) (w0 : Int32) (p : Int32 × SS), rM_proves_J212 k75 M a3 a4 a6 a7 a8 a10 w0 = some p → Q (some (.int p.1)) (LH (old0 sl sx) S K T X p.2) → aAt l G (d + 2) 0 0 269 212 [(0, .ref 154), (3, .int a3), (4, .int a4), (6, .int a6), (7, .int a7), (8, .int a8), (10, .int a10)] [.int w0] 0 0 (LH (old0 sl sx) S K T X M) Q := by
  intro M a3 a4 a6 a7 a8 a10 w0 p hd hQ
  unfold rM_proves_J212 at hd
  refine s_istore f_269_212 (by decide) ?_
  refine s_iload f_269_214 rfl ?_
  refine s_iload f_269_216 rfl ?_
  refine s_isub f_269_218 ?_
  refine s_istore f_269_219 (by decide) ?_
  refine k_iinc (w := 2) f_269_221 rfl (by decide) (by decide) ?_
  refine s_goto 75 f_269_224 (by decide) ?_
  refine aAt.sub [(0, .ref 154), (3, .int a3), (4, .int a4), (5, .int w0), (6, .int (a6 - a10)), (7, .int a7), (8, .int (a8 + 2))] rfl ?_
  exact hk75 _ _ _ _ _ _ _  _ hd hQ
def rM_proves_J186 (k75 : SS → Int32 → Int32 → Int32 → Int32 → Int32 → Int32 → Option (Int32 × SS)) (M : SS) (a3 : Int32) (a4 : Int32) (a6 : Int32) (a8 : Int32) (a10 : Int32) (a11 : Int32) (w0 : Int32) (w1 : Int32) : Option (Int32 × SS) :=
  if 0 ≤ a11 then
    if a11 ≤ (60 : Int32) then
      rM_proves_J212 k75 M a3 a4 a6 (w0 + w1) a8 a10 a11
    else
      rM_proves_J212 k75 M a3 a4 a6 (w0 + w1) a8 a10 (60 : Int32)
  else
    rM_proves_J212 k75 M a3 a4 a6 (w0 + w1) a8 a10 (0 : Int32)
theorem t_rM_proves_J186 {l : Launch} {G : aG} {d : Nat} {Q : Option Value → aHeap → Prop} {sl : Nat} {sx : Nat → Int32} {S : SS} {K : KS} {T : TS} {X : XS} {k75 : SS → Int32 → Int32 → Int32 → Int32 → Int32 → Int32 → Option (Int32 × SS)} (hk75 : ∀ (M : SS) (a3 : Int32) (a4 : Int32) (a5 : Int32) (a6 : Int32) (a7 : Int32) (a8 : Int32) (p : Int32 × SS), k75 M a3 a4 a5 a6 a7 a8 = some p → Q (some (.int p.1)) (LH (old0 sl sx) S K T X p.2) → aAt l G (d + 2) 0 0 269 75 [(0, .ref 154), (3, .int a3), (4, .int a4), (5, .int a5), (6, .int a6), (7, .int a7), (8, .int a8)] [] 0 0 (LH (old0 sl sx) S K T X M) Q) : ∀ (M : SS) (a3 : Int32) (a4 : Int32) (a6 : Int32) (a8 : Int32) (a10 : Int32) (a11 : Int32) (w0 : Int32) (w1 : Int32) (p : Int32 × SS), rM_proves_J186 k75 M a3 a4 a6 a8 a10 a11 w0 w1 = some p → Q (some (.int p.1)) (LH (old0 sl sx) S K T X p.2) → aAt l G (d + 2) 0 0 269 186 [(0, .ref 154), (3, .int a3), (4, .int a4), (6, .int a6), (8, .int a8), (10, .int a10), (11, .int a11)] [.int w1, .int w0] 0 0 (LH (old0 sl sx) S K T X M) Q := by
  intro M a3 a4 a6 a8 a10 a11 w0 w1 p hd hQ
  unfold rM_proves_J186 at hd
  refine s_iadd f_269_186 ?_
  refine s_istore f_269_187 (by decide) ?_
  refine s_iload f_269_189 rfl ?_
  refine s_if_ge 198 f_269_191 (by decide) (fun c23 => ?_) (fun c23 => ?_)
  · replace hd := ite_p c23 hd
    refine s_iload f_269_198 rfl ?_
    refine k_bipush (v := 60) f_269_200 (by decide) ?_
    refine s_icmp_le 210 f_269_202 (by decide) (fun c24 => ?_) (fun c24 => ?_)
    · replace hd := ite_p c24 hd
      refine s_iload f_269_210 rfl ?_
      refine aAt.sub [(0, .ref 154), (3, .int a3), (4, .int a4), (6, .int a6), (7, .int (w0 + w1)), (8, .int a8), (10, .int a10)] rfl ?_
      exact t_rM_proves_J212 hk75 _ _ _ _ _ _ _ _  _ hd hQ
    · replace hd := ite_n c24 hd
      refine k_bipush (v := 60) f_269_205 (by decide) ?_
      refine s_goto 212 f_269_207 (by decide) ?_
      refine aAt.sub [(0, .ref 154), (3, .int a3), (4, .int a4), (6, .int a6), (7, .int (w0 + w1)), (8, .int a8), (10, .int a10)] rfl ?_
      exact t_rM_proves_J212 hk75 _ _ _ _ _ _ _ _  _ hd hQ
  · replace hd := ite_n c23 hd
    refine k_iconst (v := 0) f_269_194 (by decide) ?_
    refine s_goto 212 f_269_195 (by decide) ?_
    refine aAt.sub [(0, .ref 154), (3, .int a3), (4, .int a4), (6, .int a6), (7, .int (w0 + w1)), (8, .int a8), (10, .int a10)] rfl ?_
    exact t_rM_proves_J212 hk75 _ _ _ _ _ _ _ _  _ hd hQ
def rM_proves_L75 : Nat → SS → Int32 → Int32 → Int32 → Int32 → Int32 → Int32 → Option (Int32 × SS)
  | 0, _, _, _, _, _, _, _ => none
  | n + 1, M, a3, a4, a5, a6, a7, a8 =>
    if inb a4 4 then
      if (M 169 (ix a4)) ≤ (a8 + (1 : Int32)) then
        if (a7 + ((2 : Int32) * a6)) ≤ a3 then
          some ((-1 : Int32), M)
        else
          some ((M 169 (ix a4)), M)
      else
        if inb (((20 : Int32) * a4) + a8) 80 then
          if inb ((((20 : Int32) * a4) + a8) + (1 : Int32)) 80 then
            (rM_in (M 170 (ix (((20 : Int32) * a4) + a8))) (0 : Int32) (30 : Int32)).bind fun p17 =>
            if p17 = true then
              (rM_mostPaid (a5 + (M 170 (ix (((20 : Int32) * a4) + a8)))) a6).bind fun p19 =>
              (rM_in (M 170 (ix ((((20 : Int32) * a4) + a8) + (1 : Int32)))) (0 : Int32) p19).bind fun p20 =>
              if p20 = true then
                if 0 ≤ (((a5 + (M 170 (ix (((20 : Int32) * a4) + a8)))) - (M 170 (ix ((((20 : Int32) * a4) + a8) + (1 : Int32))))) - (10 : Int32)) then
                  rM_proves_J186 (rM_proves_L75  n) M a3 a4 a6 a8 (M 170 (ix ((((20 : Int32) * a4) + a8) + (1 : Int32)))) (((a5 + (M 170 (ix (((20 : Int32) * a4) + a8)))) - (M 170 (ix ((((20 : Int32) * a4) + a8) + (1 : Int32))))) - (10 : Int32)) a7 (0 : Int32)
                else
                  rM_proves_J186 (rM_proves_L75  n) M a3 a4 a6 a8 (M 170 (ix ((((20 : Int32) * a4) + a8) + (1 : Int32)))) (((a5 + (M 170 (ix (((20 : Int32) * a4) + a8)))) - (M 170 (ix ((((20 : Int32) * a4) + a8) + (1 : Int32))))) - (10 : Int32)) a7 (-(((a5 + (M 170 (ix (((20 : Int32) * a4) + a8)))) - (M 170 (ix ((((20 : Int32) * a4) + a8) + (1 : Int32))))) - (10 : Int32)))
              else
                some ((a8 + (1 : Int32)), M)
            else
              some (a8, M)
          else none
        else none
    else none
theorem t_rM_proves_L75 {l : Launch} {G : aG} {d : Nat} {Q : Option Value → aHeap → Prop} {sl : Nat} {sx : Nat → Int32} {S : SS} {K : KS} {T : TS} {X : XS} : ∀ (n : Nat), ∀ (M : SS) (a3 : Int32) (a4 : Int32) (a5 : Int32) (a6 : Int32) (a7 : Int32) (a8 : Int32) (p : Int32 × SS), rM_proves_L75 n M a3 a4 a5 a6 a7 a8 = some p → Q (some (.int p.1)) (LH (old0 sl sx) S K T X p.2) → aAt l G (d + 2) 0 0 269 75 [(0, .ref 154), (3, .int a3), (4, .int a4), (5, .int a5), (6, .int a6), (7, .int a7), (8, .int a8)] [] 0 0 (LH (old0 sl sx) S K T X M) Q := by
  intro n
  induction n with
  | zero =>
    intro M a3 a4 a5 a6 a7 a8 p hd hQ
    rw [rM_proves_L75] at hd
    cases hd
  | succ n ih =>
    intro M a3 a4 a5 a6 a7 a8 p hd hQ
    rw [rM_proves_L75] at hd
    refine s_iload f_269_75 rfl ?_
    refine k_iconst (v := 1) f_269_77 (by decide) ?_
    refine s_iadd f_269_78 ?_
    refine s_aload_n f_269_79 rfl ?_
    refine L_getR f_269_80 fd_12_56 (obL (by decide)) (by decide) (by decide : rf 154 23 = 169) ?_
    refine s_iload f_269_83 rfl ?_
    replace hd := gd hd
    obtain ⟨g12, hd⟩ := hd
    refine M_iaload (q := (ix a4)) f_269_85 ⟨by decide, by decide, by decide, fun _ => rfl⟩ (Nat.le_of_ble_eq_true rfl : 4 < 2 ^ 31) rfl g12 ?_
    refine s_icmp_ge 227 f_269_86 (by decide) (fun c13 => ?_) (fun c13 => ?_)
    · replace hd := ite_p c13 hd
      refine s_iload f_269_227 rfl ?_
      refine k_iconst (v := 2) f_269_229 (by decide) ?_
      refine s_iload f_269_230 rfl ?_
      refine s_imul f_269_232 ?_
      refine s_iadd f_269_233 ?_
      refine s_iload_n f_269_234 rfl ?_
      refine s_icmp_le 248 f_269_235 (by decide) (fun c14 => ?_) (fun c14 => ?_)
      · replace hd := ite_p c14 hd
        refine k_iconst (v := (-1)) f_269_248 (by decide) ?_
        refine s_ireturn f_269_249 rfl rfl ?_
        cases hd
        exact hQ
      · replace hd := ite_n c14 hd
        refine s_aload_n f_269_238 rfl ?_
        refine L_getR f_269_239 fd_12_56 (obL (by decide)) (by decide) (by decide : rf 154 23 = 169) ?_
        refine s_iload f_269_242 rfl ?_
        refine M_iaload (q := (ix a4)) f_269_244 ⟨by decide, by decide, by decide, fun _ => rfl⟩ (Nat.le_of_ble_eq_true rfl : 4 < 2 ^ 31) rfl g12 ?_
        refine s_goto 249 f_269_245 (by decide) ?_
        refine s_ireturn f_269_249 rfl rfl ?_
        cases hd
        exact hQ
    · replace hd := ite_n c13 hd
      refine s_aload_n f_269_89 rfl ?_
      refine L_getR f_269_90 fd_12_59 (obL (by decide)) (by decide) (by decide : rf 154 24 = 170) ?_
      refine k_bipush (v := 20) f_269_93 (by decide) ?_
      refine s_iload f_269_95 rfl ?_
      refine s_imul f_269_97 ?_
      refine s_iload f_269_98 rfl ?_
      refine s_iadd f_269_100 ?_
      replace hd := gd hd
      obtain ⟨g15, hd⟩ := hd
      refine M_iaload (q := (ix (((20 : Int32) * a4) + a8))) f_269_101 ⟨by decide, by decide, by decide, fun _ => rfl⟩ (Nat.le_of_ble_eq_true rfl : 80 < 2 ^ 31) rfl g15 ?_
      refine s_istore f_269_102 (by decide) ?_
      refine s_aload_n f_269_104 rfl ?_
      refine L_getR f_269_105 fd_12_59 (obL (by decide)) (by decide) (by decide : rf 154 24 = 170) ?_
      refine k_bipush (v := 20) f_269_108 (by decide) ?_
      refine s_iload f_269_110 rfl ?_
      refine s_imul f_269_112 ?_
      refine s_iload f_269_113 rfl ?_
      refine s_iadd f_269_115 ?_
      refine k_iconst (v := 1) f_269_116 (by decide) ?_
      refine s_iadd f_269_117 ?_
      replace hd := gd hd
      obtain ⟨g16, hd⟩ := hd
      refine M_iaload (q := (ix ((((20 : Int32) * a4) + a8) + (1 : Int32)))) f_269_118 ⟨by decide, by decide, by decide, fun _ => rfl⟩ (Nat.le_of_ble_eq_true rfl : 80 < 2 ^ 31) rfl g16 ?_
      refine s_istore f_269_119 (by decide) ?_
      refine s_iload f_269_121 rfl ?_
      refine k_iconst (v := 0) f_269_123 (by decide) ?_
      refine k_bipush (v := 30) f_269_124 (by decide) ?_
      replace hd := obind hd
      obtain ⟨p17, e17, hd⟩ := hd
      refine L_stat (As := [.int (M 170 (ix (((20 : Int32) * a4) + a8))), .int (0 : Int32), .int (30 : Int32)]) f_269_126 ca_12_69 rfl rfl (Nat.le_of_ble_eq_true rfl) ?_
      refine t_rM_in e17 ?_
      refine z_if_ne 135 f_269_129 (by decide) (fun c18 => ?_) (fun c18 => ?_)
      · replace hd := ite_p c18 hd
        refine s_iload f_269_135 rfl ?_
        refine k_iconst (v := 0) f_269_137 (by decide) ?_
        refine s_iload f_269_138 rfl ?_
        refine s_iload f_269_140 rfl ?_
        refine s_iadd f_269_142 ?_
        refine s_iload f_269_143 rfl ?_
        replace hd := obind hd
        obtain ⟨p19, e19, hd⟩ := hd
        refine L_stat (As := [.int (a5 + (M 170 (ix (((20 : Int32) * a4) + a8)))), .int a6]) f_269_145 ca_12_283 rfl rfl (Nat.le_of_ble_eq_true rfl) ?_
        refine t_rM_mostPaid e19 ?_
        replace hd := obind hd
        obtain ⟨p20, e20, hd⟩ := hd
        refine L_stat (As := [.int (M 170 (ix ((((20 : Int32) * a4) + a8) + (1 : Int32)))), .int (0 : Int32), .int p19]) f_269_148 ca_12_69 rfl rfl (Nat.le_of_ble_eq_true rfl) ?_
        refine t_rM_in e20 ?_
        refine z_if_ne 159 f_269_151 (by decide) (fun c21 => ?_) (fun c21 => ?_)
        · replace hd := ite_p c21 hd
          refine s_iload f_269_159 rfl ?_
          refine s_iload f_269_161 rfl ?_
          refine s_iadd f_269_163 ?_
          refine s_iload f_269_164 rfl ?_
          refine s_isub f_269_166 ?_
          refine k_bipush (v := 10) f_269_167 (by decide) ?_
          refine s_isub f_269_169 ?_
          refine s_istore f_269_170 (by decide) ?_
          refine s_iload f_269_172 rfl ?_
          refine s_iload f_269_174 rfl ?_
          refine s_if_ge 185 f_269_176 (by decide) (fun c22 => ?_) (fun c22 => ?_)
          · replace hd := ite_p c22 hd
            refine k_iconst (v := 0) f_269_185 (by decide) ?_
            refine aAt.sub [(0, .ref 154), (3, .int a3), (4, .int a4), (6, .int a6), (8, .int a8), (10, .int (M 170 (ix ((((20 : Int32) * a4) + a8) + (1 : Int32))))), (11, .int (((a5 + (M 170 (ix (((20 : Int32) * a4) + a8)))) - (M 170 (ix ((((20 : Int32) * a4) + a8) + (1 : Int32))))) - (10 : Int32)))] rfl ?_
            exact t_rM_proves_J186 ih _ _ _ _ _ _ _ _ _  _ hd hQ
          · replace hd := ite_n c22 hd
            refine s_iload f_269_179 rfl ?_
            refine s_ineg f_269_181 ?_
            refine s_goto 186 f_269_182 (by decide) ?_
            refine aAt.sub [(0, .ref 154), (3, .int a3), (4, .int a4), (6, .int a6), (8, .int a8), (10, .int (M 170 (ix ((((20 : Int32) * a4) + a8) + (1 : Int32))))), (11, .int (((a5 + (M 170 (ix (((20 : Int32) * a4) + a8)))) - (M 170 (ix ((((20 : Int32) * a4) + a8) + (1 : Int32))))) - (10 : Int32)))] rfl ?_
            exact t_rM_proves_J186 ih _ _ _ _ _ _ _ _ _  _ hd hQ
        · replace hd := ite_n c21 hd
          refine s_iload f_269_154 rfl ?_
          refine k_iconst (v := 1) f_269_156 (by decide) ?_
          refine s_iadd f_269_157 ?_
          refine s_ireturn f_269_158 rfl rfl ?_
          cases hd
          exact hQ
      · replace hd := ite_n c18 hd
        refine s_iload f_269_132 rfl ?_
        refine s_ireturn f_269_134 rfl rfl ?_
        cases hd
        exact hQ
def rM_proves (M : SS) (a1 : Int32) (a2 : Int32) (a3 : Int32) (a4 : Int32) : Option (Int32 × SS) :=
  (rM_in a1 (0 : Int32) (60 : Int32)).bind fun p1 =>
  if p1 = true then
    (rM_in a2 (0 : Int32) (60 : Int32)).bind fun p4 =>
    if p4 = true then
      (rM_in a3 (0 : Int32) (999 : Int32)).bind fun p6 =>
      if p6 = true then
        (rM_isSheet a4).bind fun p8 =>
        if p8 = true then
          if inb a4 4 then
            if (M 168 (ix a4)) = 0 then
              (rM_finds M (-100002 : Int32)).bind fun p25 =>
              some (p25.1, p25.2)
            else
              rM_proves_L75 FU M a3 a4 a1 a2 (0 : Int32) (0 : Int32)
          else none
        else
          rM_proves_J39 M
      else
        rM_proves_J39 M
    else
      rM_proves_J39 M
  else
    rM_proves_J39 M
theorem t_rM_proves {l : Launch} {G : aG} {d : Nat} {Q : Option Value → aHeap → Prop} {sl : Nat} {sx : Nat → Int32} {S : SS} {K : KS} {T : TS} {X : XS} {M : SS} {a1 : Int32} {a2 : Int32} {a3 : Int32} {a4 : Int32} {p : Int32 × SS} (hd : rM_proves M a1 a2 a3 a4 = some p) (hQ : Q (some (.int p.1)) (LH (old0 sl sx) S K T X p.2)) : aCall l G (d + 2) 0 0 269 [.ref 154, .int a1, .int a2, .int a3, .int a4] (LH (old0 sl sx) S K T X M) Q := by
  refine aCall.of (by decide) (Nat.le_of_ble_eq_true rfl) ?_
  refine aAt.sub [(0, .ref 154), (1, .int a1), (2, .int a2), (3, .int a3), (4, .int a4)] rfl ?_
  unfold rM_proves at hd
  refine s_iload_n f_269_0 rfl ?_
  refine k_iconst (v := 0) f_269_1 (by decide) ?_
  refine k_bipush (v := 60) f_269_2 (by decide) ?_
  replace hd := obind hd
  obtain ⟨p1, e1, hd⟩ := hd
  refine L_stat (As := [.int a1, .int (0 : Int32), .int (60 : Int32)]) f_269_4 ca_12_69 rfl rfl (Nat.le_of_ble_eq_true rfl) ?_
  refine t_rM_in e1 ?_
  refine z_if_eq 39 f_269_7 (by decide) (fun c2 => ?_) (fun c2 => ?_)
  · replace hd := ite_n c2 hd
    refine aAt.sub [(0, .ref 154)] rfl ?_
    exact t_rM_proves_J39 _  _ hd hQ
  · replace hd := ite_p c2 hd
    refine s_iload_n f_269_10 rfl ?_
    refine k_iconst (v := 0) f_269_11 (by decide) ?_
    refine k_bipush (v := 60) f_269_12 (by decide) ?_
    replace hd := obind hd
    obtain ⟨p4, e4, hd⟩ := hd
    refine L_stat (As := [.int a2, .int (0 : Int32), .int (60 : Int32)]) f_269_14 ca_12_69 rfl rfl (Nat.le_of_ble_eq_true rfl) ?_
    refine t_rM_in e4 ?_
    refine z_if_eq 39 f_269_17 (by decide) (fun c5 => ?_) (fun c5 => ?_)
    · replace hd := ite_n c5 hd
      refine aAt.sub [(0, .ref 154)] rfl ?_
      exact t_rM_proves_J39 _  _ hd hQ
    · replace hd := ite_p c5 hd
      refine s_iload_n f_269_20 rfl ?_
      refine k_iconst (v := 0) f_269_21 (by decide) ?_
      refine k_sipush (v := 999) f_269_22 (by decide) ?_
      replace hd := obind hd
      obtain ⟨p6, e6, hd⟩ := hd
      refine L_stat (As := [.int a3, .int (0 : Int32), .int (999 : Int32)]) f_269_25 ca_12_69 rfl rfl (Nat.le_of_ble_eq_true rfl) ?_
      refine t_rM_in e6 ?_
      refine z_if_eq 39 f_269_28 (by decide) (fun c7 => ?_) (fun c7 => ?_)
      · replace hd := ite_n c7 hd
        refine aAt.sub [(0, .ref 154)] rfl ?_
        exact t_rM_proves_J39 _  _ hd hQ
      · replace hd := ite_p c7 hd
        refine s_iload f_269_31 rfl ?_
        replace hd := obind hd
        obtain ⟨p8, e8, hd⟩ := hd
        refine L_stat (As := [.int a4]) f_269_33 ca_12_273 rfl rfl (Nat.le_of_ble_eq_true rfl) ?_
        refine t_rM_isSheet e8 ?_
        refine z_if_ne 46 f_269_36 (by decide) (fun c9 => ?_) (fun c9 => ?_)
        · replace hd := ite_p c9 hd
          refine s_aload_n f_269_46 rfl ?_
          refine L_getR f_269_47 fd_12_53 (obL (by decide)) (by decide) (by decide : rf 154 22 = 168) ?_
          refine s_iload f_269_50 rfl ?_
          replace hd := gd hd
          obtain ⟨g10, hd⟩ := hd
          refine M_iaload (q := (ix a4)) f_269_52 ⟨by decide, by decide, by decide, fun _ => rfl⟩ (Nat.le_of_ble_eq_true rfl : 4 < 2 ^ 31) rfl g10 ?_
          refine s_if_ne 63 f_269_53 (by decide) (fun c11 => ?_) (fun c11 => ?_)
          · replace hd := ite_n c11 hd
            refine s_iload_n f_269_63 rfl ?_
            refine s_istore f_269_64 (by decide) ?_
            refine s_iload_n f_269_66 rfl ?_
            refine s_istore f_269_67 (by decide) ?_
            refine k_iconst (v := 0) f_269_69 (by decide) ?_
            refine s_istore f_269_70 (by decide) ?_
            refine k_iconst (v := 0) f_269_72 (by decide) ?_
            refine s_istore f_269_73 (by decide) ?_
            refine aAt.sub [(0, .ref 154), (3, .int a3), (4, .int a4), (5, .int a1), (6, .int a2), (7, .int (0 : Int32)), (8, .int (0 : Int32))] rfl ?_
            exact t_rM_proves_L75 FU _ _ _ _ _ _ _  _ hd hQ
          · replace hd := ite_p c11 hd
            refine s_aload_n f_269_56 rfl ?_
            refine s_ldc f_269_57 ko_12_139 ?_
            replace hd := obind hd
            obtain ⟨p25, e25, hd⟩ := hd
            refine L_virt (As := [.int (-100002 : Int32)]) f_269_59 ca_12_78 rfl rfl (obL (by decide)) (by decide) (Nat.le_of_ble_eq_true rfl) ?_
            refine t_rM_finds e25 ?_
            refine s_ireturn f_269_62 rfl rfl ?_
            cases hd
            exact hQ
        · replace hd := ite_n c9 hd
          refine aAt.sub [(0, .ref 154)] rfl ?_
          exact t_rM_proves_J39 _  _ hd hQ

def rM_sheet_J29 (M : SS) : Option (Int32 × SS) :=
  (rM_finds M (-100001 : Int32)).bind fun p3 =>
  some (p3.1, p3.2)
theorem t_rM_sheet_J29 {l : Launch} {G : aG} {d : Nat} {Q : Option Value → aHeap → Prop} {sl : Nat} {sx : Nat → Int32} {S : SS} {K : KS} {T : TS} {X : XS} : ∀ (M : SS) (p : Int32 × SS), rM_sheet_J29 M = some p → Q (some (.int p.1)) (LH (old0 sl sx) S K T X p.2) → aAt l G (d + 2) 0 0 270 29 [(0, .ref 154)] [] 0 0 (LH (old0 sl sx) S K T X M) Q := by
  intro M p hd hQ
  unfold rM_sheet_J29 at hd
  refine s_aload_n f_270_29 rfl ?_
  refine s_ldc f_270_30 ko_12_77 ?_
  replace hd := obind hd
  obtain ⟨p3, e3, hd⟩ := hd
  refine L_virt (As := [.int (-100001 : Int32)]) f_270_32 ca_12_78 rfl rfl (obL (by decide)) (by decide) (Nat.le_of_ble_eq_true rfl) ?_
  refine t_rM_finds e3 ?_
  refine s_ireturn f_270_35 rfl rfl ?_
  cases hd
  exact hQ
def rM_sheet_L85 : Nat → SS → Int32 → Int32 → Option (Int32 × SS)
  | 0, _, _, _ => none
  | n + 1, M, a1, a4 =>
    if (20 : Int32) ≤ a4 then
      if inb a1 4 then
        some ((M 169 (ix a1)), M)
      else none
    else
      if inb (((20 : Int32) * a1) + a4) 80 then
        rM_sheet_L85  n (up M 170 (ix (((20 : Int32) * a1) + a4)) (0 : Int32)) a1 (a4 + 1)
      else none
theorem t_rM_sheet_L85 {l : Launch} {G : aG} {d : Nat} {Q : Option Value → aHeap → Prop} {sl : Nat} {sx : Nat → Int32} {S : SS} {K : KS} {T : TS} {X : XS} : ∀ (n : Nat), ∀ (M : SS) (a1 : Int32) (a4 : Int32) (p : Int32 × SS), rM_sheet_L85 n M a1 a4 = some p → Q (some (.int p.1)) (LH (old0 sl sx) S K T X p.2) → aAt l G (d + 2) 0 0 270 85 [(0, .ref 154), (1, .int a1), (4, .int a4)] [] 0 0 (LH (old0 sl sx) S K T X M) Q := by
  intro n
  induction n with
  | zero =>
    intro M a1 a4 p hd hQ
    rw [rM_sheet_L85] at hd
    cases hd
  | succ n ih =>
    intro M a1 a4 p hd hQ
    rw [rM_sheet_L85] at hd
    refine s_iload f_270_85 rfl ?_
    refine k_bipush (v := 20) f_270_87 (by decide) ?_
    refine s_icmp_ge 111 f_270_89 (by decide) (fun c10 => ?_) (fun c10 => ?_)
    · replace hd := ite_p c10 hd
      refine s_aload_n f_270_111 rfl ?_
      refine L_getR f_270_112 fd_12_56 (obL (by decide)) (by decide) (by decide : rf 154 23 = 169) ?_
      refine s_iload_n f_270_115 rfl ?_
      replace hd := gd hd
      obtain ⟨g11, hd⟩ := hd
      refine M_iaload (q := (ix a1)) f_270_116 ⟨by decide, by decide, by decide, fun _ => rfl⟩ (Nat.le_of_ble_eq_true rfl : 4 < 2 ^ 31) rfl g11 ?_
      refine s_ireturn f_270_117 rfl rfl ?_
      cases hd
      exact hQ
    · replace hd := ite_n c10 hd
      refine s_aload_n f_270_92 rfl ?_
      refine L_getR f_270_93 fd_12_59 (obL (by decide)) (by decide) (by decide : rf 154 24 = 170) ?_
      refine k_bipush (v := 20) f_270_96 (by decide) ?_
      refine s_iload_n f_270_98 rfl ?_
      refine s_imul f_270_99 ?_
      refine s_iload f_270_100 rfl ?_
      refine s_iadd f_270_102 ?_
      refine k_iconst (v := 0) f_270_103 (by decide) ?_
      replace hd := gd hd
      obtain ⟨g12, hd⟩ := hd
      refine M_iastore (q := (ix (((20 : Int32) * a1) + a4))) f_270_104 ⟨by decide, by decide, by decide, fun _ => rfl⟩ (Nat.le_of_ble_eq_true rfl : 80 < 2 ^ 31) rfl g12 ?_
      refine k_iinc (w := 1) f_270_105 rfl (by decide) (by decide) ?_
      refine s_goto 85 f_270_108 (by decide) ?_
      refine aAt.sub [(0, .ref 154), (1, .int a1), (4, .int (a4 + 1))] rfl ?_
      exact ih _ _ _  _ hd hQ
def rM_sheet_J81 (M : SS) (a1 : Int32) (w1 : Int32) (w2 : Int32) : Option (Int32 × SS) :=
  if inb w1 4 then
    rM_sheet_L85 FU (up M 169 (ix w1) w2) a1 (0 : Int32)
  else none
theorem t_rM_sheet_J81 {l : Launch} {G : aG} {d : Nat} {Q : Option Value → aHeap → Prop} {sl : Nat} {sx : Nat → Int32} {S : SS} {K : KS} {T : TS} {X : XS} : ∀ (M : SS) (a1 : Int32) (w1 : Int32) (w2 : Int32) (p : Int32 × SS), rM_sheet_J81 M a1 w1 w2 = some p → Q (some (.int p.1)) (LH (old0 sl sx) S K T X p.2) → aAt l G (d + 2) 0 0 270 81 [(0, .ref 154), (1, .int a1)] [.int w2, .int w1, .ref 169] 0 0 (LH (old0 sl sx) S K T X M) Q := by
  intro M a1 w1 w2 p hd hQ
  unfold rM_sheet_J81 at hd
  replace hd := gd hd
  obtain ⟨g9, hd⟩ := hd
  refine M_iastore (q := (ix w1)) f_270_81 ⟨by decide, by decide, by decide, fun _ => rfl⟩ (Nat.le_of_ble_eq_true rfl : 4 < 2 ^ 31) rfl g9 ?_
  refine k_iconst (v := 0) f_270_82 (by decide) ?_
  refine s_istore f_270_83 (by decide) ?_
  refine aAt.sub [(0, .ref 154), (1, .int a1), (4, .int (0 : Int32))] rfl ?_
  exact t_rM_sheet_L85 FU _ _ _  _ hd hQ
def rM_sheet_J36 (M : SS) (a1 : Int32) (a2 : Int32) (a3 : Int32) : Option (Int32 × SS) :=
  if 0 ≤ a3 then
    if a3 ≤ (20 : Int32) then
      if inb a1 4 then
        if a2 = 0 then
          rM_sheet_J81 (up M 168 (ix a1) a2) a1 a1 (0 : Int32)
        else
          rM_sheet_J81 (up M 168 (ix a1) a2) a1 a1 a3
      else none
    else
      (rM_finds M (-100001 : Int32)).bind fun p13 =>
      some (p13.1, p13.2)
  else
    (rM_finds M (-100003 : Int32)).bind fun p14 =>
    some (p14.1, p14.2)
theorem t_rM_sheet_J36 {l : Launch} {G : aG} {d : Nat} {Q : Option Value → aHeap → Prop} {sl : Nat} {sx : Nat → Int32} {S : SS} {K : KS} {T : TS} {X : XS} : ∀ (M : SS) (a1 : Int32) (a2 : Int32) (a3 : Int32) (p : Int32 × SS), rM_sheet_J36 M a1 a2 a3 = some p → Q (some (.int p.1)) (LH (old0 sl sx) S K T X p.2) → aAt l G (d + 2) 0 0 270 36 [(0, .ref 154), (1, .int a1), (2, .int a2), (3, .int a3)] [] 0 0 (LH (old0 sl sx) S K T X M) Q := by
  intro M a1 a2 a3 p hd hQ
  unfold rM_sheet_J36 at hd
  refine s_iload_n f_270_36 rfl ?_
  refine s_if_ge 47 f_270_37 (by decide) (fun c5 => ?_) (fun c5 => ?_)
  · replace hd := ite_p c5 hd
    refine s_iload_n f_270_47 rfl ?_
    refine k_bipush (v := 20) f_270_48 (by decide) ?_
    refine s_icmp_le 60 f_270_50 (by decide) (fun c6 => ?_) (fun c6 => ?_)
    · replace hd := ite_p c6 hd
      refine s_aload_n f_270_60 rfl ?_
      refine L_getR f_270_61 fd_12_53 (obL (by decide)) (by decide) (by decide : rf 154 22 = 168) ?_
      refine s_iload_n f_270_64 rfl ?_
      refine s_iload_n f_270_65 rfl ?_
      replace hd := gd hd
      obtain ⟨g7, hd⟩ := hd
      refine M_iastore (q := (ix a1)) f_270_66 ⟨by decide, by decide, by decide, fun _ => rfl⟩ (Nat.le_of_ble_eq_true rfl : 4 < 2 ^ 31) rfl g7 ?_
      refine s_aload_n f_270_67 rfl ?_
      refine L_getR f_270_68 fd_12_56 (obL (by decide)) (by decide) (by decide : rf 154 23 = 169) ?_
      refine s_iload_n f_270_71 rfl ?_
      refine s_iload_n f_270_72 rfl ?_
      refine s_if_ne 80 f_270_73 (by decide) (fun c8 => ?_) (fun c8 => ?_)
      · replace hd := ite_n c8 hd
        refine s_iload_n f_270_80 rfl ?_
        refine aAt.sub [(0, .ref 154), (1, .int a1)] rfl ?_
        exact t_rM_sheet_J81 _ _ _ _  _ hd hQ
      · replace hd := ite_p c8 hd
        refine k_iconst (v := 0) f_270_76 (by decide) ?_
        refine s_goto 81 f_270_77 (by decide) ?_
        refine aAt.sub [(0, .ref 154), (1, .int a1)] rfl ?_
        exact t_rM_sheet_J81 _ _ _ _  _ hd hQ
    · replace hd := ite_n c6 hd
      refine s_aload_n f_270_53 rfl ?_
      refine s_ldc f_270_54 ko_12_77 ?_
      replace hd := obind hd
      obtain ⟨p13, e13, hd⟩ := hd
      refine L_virt (As := [.int (-100001 : Int32)]) f_270_56 ca_12_78 rfl rfl (obL (by decide)) (by decide) (Nat.le_of_ble_eq_true rfl) ?_
      refine t_rM_finds e13 ?_
      refine s_ireturn f_270_59 rfl rfl ?_
      cases hd
      exact hQ
  · replace hd := ite_n c5 hd
    refine s_aload_n f_270_40 rfl ?_
    refine s_ldc f_270_41 ko_12_135 ?_
    replace hd := obind hd
    obtain ⟨p14, e14, hd⟩ := hd
    refine L_virt (As := [.int (-100003 : Int32)]) f_270_43 ca_12_78 rfl rfl (obL (by decide)) (by decide) (Nat.le_of_ble_eq_true rfl) ?_
    refine t_rM_finds e14 ?_
    refine s_ireturn f_270_46 rfl rfl ?_
    cases hd
    exact hQ
def rM_sheet (M : SS) (a1 : Int32) (a2 : Int32) (a3 : Int32) : Option (Int32 × SS) :=
  (rM_isSheet a1).bind fun p1 =>
  if p1 = true then
    if a2 = 0 then
      rM_sheet_J36 M a1 a2 a3
    else
      if a2 = (8 : Int32) then
        rM_sheet_J36 M a1 a2 a3
      else
        if a2 = (16 : Int32) then
          rM_sheet_J36 M a1 a2 a3
        else
          if a2 = (32 : Int32) then
            rM_sheet_J36 M a1 a2 a3
          else
            rM_sheet_J29 M
  else
    rM_sheet_J29 M
theorem t_rM_sheet {l : Launch} {G : aG} {d : Nat} {Q : Option Value → aHeap → Prop} {sl : Nat} {sx : Nat → Int32} {S : SS} {K : KS} {T : TS} {X : XS} {M : SS} {a1 : Int32} {a2 : Int32} {a3 : Int32} {p : Int32 × SS} (hd : rM_sheet M a1 a2 a3 = some p) (hQ : Q (some (.int p.1)) (LH (old0 sl sx) S K T X p.2)) : aCall l G (d + 2) 0 0 270 [.ref 154, .int a1, .int a2, .int a3] (LH (old0 sl sx) S K T X M) Q := by
  refine aCall.of (by decide) (Nat.le_of_ble_eq_true rfl) ?_
  refine aAt.sub [(0, .ref 154), (1, .int a1), (2, .int a2), (3, .int a3)] rfl ?_
  unfold rM_sheet at hd
  refine s_iload_n f_270_0 rfl ?_
  replace hd := obind hd
  obtain ⟨p1, e1, hd⟩ := hd
  refine L_stat (As := [.int a1]) f_270_1 ca_12_273 rfl rfl (Nat.le_of_ble_eq_true rfl) ?_
  refine t_rM_isSheet e1 ?_
  refine z_if_eq 29 f_270_4 (by decide) (fun c2 => ?_) (fun c2 => ?_)
  · replace hd := ite_n c2 hd
    refine aAt.sub [(0, .ref 154)] rfl ?_
    exact t_rM_sheet_J29 _  _ hd hQ
  · replace hd := ite_p c2 hd
    refine s_iload_n f_270_7 rfl ?_
    refine s_if_eq 36 f_270_8 (by decide) (fun c4 => ?_) (fun c4 => ?_)
    · replace hd := ite_p c4 hd
      refine aAt.sub [(0, .ref 154), (1, .int a1), (2, .int a2), (3, .int a3)] rfl ?_
      exact t_rM_sheet_J36 _ _ _ _  _ hd hQ
    · replace hd := ite_n c4 hd
      refine s_iload_n f_270_11 rfl ?_
      refine k_bipush (v := 8) f_270_12 (by decide) ?_
      refine s_icmp_eq 36 f_270_14 (by decide) (fun c15 => ?_) (fun c15 => ?_)
      · replace hd := ite_p c15 hd
        refine aAt.sub [(0, .ref 154), (1, .int a1), (2, .int a2), (3, .int a3)] rfl ?_
        exact t_rM_sheet_J36 _ _ _ _  _ hd hQ
      · replace hd := ite_n c15 hd
        refine s_iload_n f_270_17 rfl ?_
        refine k_bipush (v := 16) f_270_18 (by decide) ?_
        refine s_icmp_eq 36 f_270_20 (by decide) (fun c16 => ?_) (fun c16 => ?_)
        · replace hd := ite_p c16 hd
          refine aAt.sub [(0, .ref 154), (1, .int a1), (2, .int a2), (3, .int a3)] rfl ?_
          exact t_rM_sheet_J36 _ _ _ _  _ hd hQ
        · replace hd := ite_n c16 hd
          refine s_iload_n f_270_23 rfl ?_
          refine k_bipush (v := 32) f_270_24 (by decide) ?_
          refine s_icmp_eq 36 f_270_26 (by decide) (fun c17 => ?_) (fun c17 => ?_)
          · replace hd := ite_p c17 hd
            refine aAt.sub [(0, .ref 154), (1, .int a1), (2, .int a2), (3, .int a3)] rfl ?_
            exact t_rM_sheet_J36 _ _ _ _  _ hd hQ
          · replace hd := ite_n c17 hd
            refine aAt.sub [(0, .ref 154)] rfl ?_
            exact t_rM_sheet_J29 _  _ hd hQ

def rM_put_J96 (M : SS) (w1 : Int32) (w2 : Int32) : Option (Int32 × SS) :=
  if inb w1 80 then
    some ((0 : Int32), (up M 170 (ix w1) w2))
  else none
theorem t_rM_put_J96 {l : Launch} {G : aG} {d : Nat} {Q : Option Value → aHeap → Prop} {sl : Nat} {sx : Nat → Int32} {S : SS} {K : KS} {T : TS} {X : XS} : ∀ (M : SS) (w1 : Int32) (w2 : Int32) (p : Int32 × SS), rM_put_J96 M w1 w2 = some p → Q (some (.int p.1)) (LH (old0 sl sx) S K T X p.2) → aAt l G (d + 2) 0 0 271 96 [] [.int w2, .int w1, .ref 170] 0 0 (LH (old0 sl sx) S K T X M) Q := by
  intro M w1 w2 p hd hQ
  unfold rM_put_J96 at hd
  replace hd := gd hd
  obtain ⟨g9, hd⟩ := hd
  refine M_iastore (q := (ix w1)) f_271_96 ⟨by decide, by decide, by decide, fun _ => rfl⟩ (Nat.le_of_ble_eq_true rfl : 80 < 2 ^ 31) rfl g9 ?_
  refine k_iconst (v := 0) f_271_97 (by decide) ?_
  refine s_ireturn f_271_98 rfl rfl ?_
  cases hd
  exact hQ
def rM_put (M : SS) (a1 : Int32) (a2 : Int32) (a3 : Int32) : Option (Int32 × SS) :=
  (rM_isSheet a1).bind fun p1 =>
  if p1 = true then
    if inb a1 4 then
      if (M 168 (ix a1)) = 0 then
        (rM_finds M (-100002 : Int32)).bind fun p11 =>
        some (p11.1, p11.2)
      else
        (rM_in a2 (0 : Int32) ((M 169 (ix a1)) - (1 : Int32))).bind fun p5 =>
        if p5 = true then
          if (M 168 (ix a1)) = (8 : Int32) then
            rM_put_J96 M (((20 : Int32) * a1) + a2) (a3.toInt8.toInt32)
          else
            if (M 168 (ix a1)) = (16 : Int32) then
              rM_put_J96 M (((20 : Int32) * a1) + a2) (a3.toInt16.toInt32)
            else
              rM_put_J96 M (((20 : Int32) * a1) + a2) a3
        else
          (rM_finds M (-100001 : Int32)).bind fun p10 =>
          some (p10.1, p10.2)
    else none
  else
    (rM_finds M (-100001 : Int32)).bind fun p12 =>
    some (p12.1, p12.2)
theorem t_rM_put {l : Launch} {G : aG} {d : Nat} {Q : Option Value → aHeap → Prop} {sl : Nat} {sx : Nat → Int32} {S : SS} {K : KS} {T : TS} {X : XS} {M : SS} {a1 : Int32} {a2 : Int32} {a3 : Int32} {p : Int32 × SS} (hd : rM_put M a1 a2 a3 = some p) (hQ : Q (some (.int p.1)) (LH (old0 sl sx) S K T X p.2)) : aCall l G (d + 2) 0 0 271 [.ref 154, .int a1, .int a2, .int a3] (LH (old0 sl sx) S K T X M) Q := by
  refine aCall.of (by decide) (Nat.le_of_ble_eq_true rfl) ?_
  refine aAt.sub [(0, .ref 154), (1, .int a1), (2, .int a2), (3, .int a3)] rfl ?_
  unfold rM_put at hd
  refine s_iload_n f_271_0 rfl ?_
  replace hd := obind hd
  obtain ⟨p1, e1, hd⟩ := hd
  refine L_stat (As := [.int a1]) f_271_1 ca_12_273 rfl rfl (Nat.le_of_ble_eq_true rfl) ?_
  refine t_rM_isSheet e1 ?_
  refine z_if_ne 14 f_271_4 (by decide) (fun c2 => ?_) (fun c2 => ?_)
  · replace hd := ite_p c2 hd
    refine s_aload_n f_271_14 rfl ?_
    refine L_getR f_271_15 fd_12_53 (obL (by decide)) (by decide) (by decide : rf 154 22 = 168) ?_
    refine s_iload_n f_271_18 rfl ?_
    replace hd := gd hd
    obtain ⟨g3, hd⟩ := hd
    refine M_iaload (q := (ix a1)) f_271_19 ⟨by decide, by decide, by decide, fun _ => rfl⟩ (Nat.le_of_ble_eq_true rfl : 4 < 2 ^ 31) rfl g3 ?_
    refine s_if_ne 30 f_271_20 (by decide) (fun c4 => ?_) (fun c4 => ?_)
    · replace hd := ite_n c4 hd
      refine s_iload_n f_271_30 rfl ?_
      refine k_iconst (v := 0) f_271_31 (by decide) ?_
      refine s_aload_n f_271_32 rfl ?_
      refine L_getR f_271_33 fd_12_56 (obL (by decide)) (by decide) (by decide : rf 154 23 = 169) ?_
      refine s_iload_n f_271_36 rfl ?_
      refine M_iaload (q := (ix a1)) f_271_37 ⟨by decide, by decide, by decide, fun _ => rfl⟩ (Nat.le_of_ble_eq_true rfl : 4 < 2 ^ 31) rfl g3 ?_
      refine k_iconst (v := 1) f_271_38 (by decide) ?_
      refine s_isub f_271_39 ?_
      replace hd := obind hd
      obtain ⟨p5, e5, hd⟩ := hd
      refine L_stat (As := [.int a2, .int (0 : Int32), .int ((M 169 (ix a1)) - (1 : Int32))]) f_271_40 ca_12_69 rfl rfl (Nat.le_of_ble_eq_true rfl) ?_
      refine t_rM_in e5 ?_
      refine z_if_ne 53 f_271_43 (by decide) (fun c6 => ?_) (fun c6 => ?_)
      · replace hd := ite_p c6 hd
        refine s_aload_n f_271_53 rfl ?_
        refine L_getR f_271_54 fd_12_59 (obL (by decide)) (by decide) (by decide : rf 154 24 = 170) ?_
        refine k_bipush (v := 20) f_271_57 (by decide) ?_
        refine s_iload_n f_271_59 rfl ?_
        refine s_imul f_271_60 ?_
        refine s_iload_n f_271_61 rfl ?_
        refine s_iadd f_271_62 ?_
        refine s_aload_n f_271_63 rfl ?_
        refine L_getR f_271_64 fd_12_53 (obL (by decide)) (by decide) (by decide : rf 154 22 = 168) ?_
        refine s_iload_n f_271_67 rfl ?_
        refine M_iaload (q := (ix a1)) f_271_68 ⟨by decide, by decide, by decide, fun _ => rfl⟩ (Nat.le_of_ble_eq_true rfl : 4 < 2 ^ 31) rfl g3 ?_
        refine k_bipush (v := 8) f_271_69 (by decide) ?_
        refine s_icmp_ne 79 f_271_71 (by decide) (fun c7 => ?_) (fun c7 => ?_)
        · replace hd := ite_n c7 hd
          refine s_aload_n f_271_79 rfl ?_
          refine L_getR f_271_80 fd_12_53 (obL (by decide)) (by decide) (by decide : rf 154 22 = 168) ?_
          refine s_iload_n f_271_83 rfl ?_
          refine M_iaload (q := (ix a1)) f_271_84 ⟨by decide, by decide, by decide, fun _ => rfl⟩ (Nat.le_of_ble_eq_true rfl : 4 < 2 ^ 31) rfl g3 ?_
          refine k_bipush (v := 16) f_271_85 (by decide) ?_
          refine s_icmp_ne 95 f_271_87 (by decide) (fun c8 => ?_) (fun c8 => ?_)
          · replace hd := ite_n c8 hd
            refine s_iload_n f_271_95 rfl ?_
            refine aAt.sub [] rfl ?_
            exact t_rM_put_J96 _ _ _  _ hd hQ
          · replace hd := ite_p c8 hd
            refine s_iload_n f_271_90 rfl ?_
            refine s_i2s f_271_91 ?_
            refine s_goto 96 f_271_92 (by decide) ?_
            refine aAt.sub [] rfl ?_
            exact t_rM_put_J96 _ _ _  _ hd hQ
        · replace hd := ite_p c7 hd
          refine s_iload_n f_271_74 rfl ?_
          refine s_i2b f_271_75 ?_
          refine s_goto 96 f_271_76 (by decide) ?_
          refine aAt.sub [] rfl ?_
          exact t_rM_put_J96 _ _ _  _ hd hQ
      · replace hd := ite_n c6 hd
        refine s_aload_n f_271_46 rfl ?_
        refine s_ldc f_271_47 ko_12_77 ?_
        replace hd := obind hd
        obtain ⟨p10, e10, hd⟩ := hd
        refine L_virt (As := [.int (-100001 : Int32)]) f_271_49 ca_12_78 rfl rfl (obL (by decide)) (by decide) (Nat.le_of_ble_eq_true rfl) ?_
        refine t_rM_finds e10 ?_
        refine s_ireturn f_271_52 rfl rfl ?_
        cases hd
        exact hQ
    · replace hd := ite_p c4 hd
      refine s_aload_n f_271_23 rfl ?_
      refine s_ldc f_271_24 ko_12_139 ?_
      replace hd := obind hd
      obtain ⟨p11, e11, hd⟩ := hd
      refine L_virt (As := [.int (-100002 : Int32)]) f_271_26 ca_12_78 rfl rfl (obL (by decide)) (by decide) (Nat.le_of_ble_eq_true rfl) ?_
      refine t_rM_finds e11 ?_
      refine s_ireturn f_271_29 rfl rfl ?_
      cases hd
      exact hQ
  · replace hd := ite_n c2 hd
    refine s_aload_n f_271_7 rfl ?_
    refine s_ldc f_271_8 ko_12_77 ?_
    replace hd := obind hd
    obtain ⟨p12, e12, hd⟩ := hd
    refine L_virt (As := [.int (-100001 : Int32)]) f_271_10 ca_12_78 rfl rfl (obL (by decide)) (by decide) (Nat.le_of_ble_eq_true rfl) ?_
    refine t_rM_finds e12 ?_
    refine s_ireturn f_271_13 rfl rfl ?_
    cases hd
    exact hQ

def rM_copy_J14 (M : SS) : Option (Int32 × SS) :=
  (rM_finds M (-100001 : Int32)).bind fun p3 =>
  some (p3.1, p3.2)
theorem t_rM_copy_J14 {l : Launch} {G : aG} {d : Nat} {Q : Option Value → aHeap → Prop} {sl : Nat} {sx : Nat → Int32} {S : SS} {K : KS} {T : TS} {X : XS} : ∀ (M : SS) (p : Int32 × SS), rM_copy_J14 M = some p → Q (some (.int p.1)) (LH (old0 sl sx) S K T X p.2) → aAt l G (d + 2) 0 0 272 14 [(0, .ref 154)] [] 0 0 (LH (old0 sl sx) S K T X M) Q := by
  intro M p hd hQ
  unfold rM_copy_J14 at hd
  refine s_aload_n f_272_14 rfl ?_
  refine s_ldc f_272_15 ko_12_77 ?_
  replace hd := obind hd
  obtain ⟨p3, e3, hd⟩ := hd
  refine L_virt (As := [.int (-100001 : Int32)]) f_272_17 ca_12_78 rfl rfl (obL (by decide)) (by decide) (Nat.le_of_ble_eq_true rfl) ?_
  refine t_rM_finds e3 ?_
  refine s_ireturn f_272_20 rfl rfl ?_
  cases hd
  exact hQ
def rM_copy_J39 (M : SS) : Option (Int32 × SS) :=
  (rM_finds M (-100002 : Int32)).bind fun p8 =>
  some (p8.1, p8.2)
theorem t_rM_copy_J39 {l : Launch} {G : aG} {d : Nat} {Q : Option Value → aHeap → Prop} {sl : Nat} {sx : Nat → Int32} {S : SS} {K : KS} {T : TS} {X : XS} : ∀ (M : SS) (p : Int32 × SS), rM_copy_J39 M = some p → Q (some (.int p.1)) (LH (old0 sl sx) S K T X p.2) → aAt l G (d + 2) 0 0 272 39 [(0, .ref 154)] [] 0 0 (LH (old0 sl sx) S K T X M) Q := by
  intro M p hd hQ
  unfold rM_copy_J39 at hd
  refine s_aload_n f_272_39 rfl ?_
  refine s_ldc f_272_40 ko_12_139 ?_
  replace hd := obind hd
  obtain ⟨p8, e8, hd⟩ := hd
  refine L_virt (As := [.int (-100002 : Int32)]) f_272_42 ca_12_78 rfl rfl (obL (by decide)) (by decide) (Nat.le_of_ble_eq_true rfl) ?_
  refine t_rM_finds e8 ?_
  refine s_ireturn f_272_45 rfl rfl ?_
  cases hd
  exact hQ
def rM_copy_J117 (M : SS) : Option (Int32 × SS) :=
  (rM_finds M (-100001 : Int32)).bind fun p13 =>
  some (p13.1, p13.2)
theorem t_rM_copy_J117 {l : Launch} {G : aG} {d : Nat} {Q : Option Value → aHeap → Prop} {sl : Nat} {sx : Nat → Int32} {S : SS} {K : KS} {T : TS} {X : XS} : ∀ (M : SS) (p : Int32 × SS), rM_copy_J117 M = some p → Q (some (.int p.1)) (LH (old0 sl sx) S K T X p.2) → aAt l G (d + 2) 0 0 272 117 [(0, .ref 154)] [] 0 0 (LH (old0 sl sx) S K T X M) Q := by
  intro M p hd hQ
  unfold rM_copy_J117 at hd
  refine s_aload_n f_272_117 rfl ?_
  refine s_ldc f_272_118 ko_12_77 ?_
  replace hd := obind hd
  obtain ⟨p13, e13, hd⟩ := hd
  refine L_virt (As := [.int (-100001 : Int32)]) f_272_120 ca_12_78 rfl rfl (obL (by decide)) (by decide) (Nat.le_of_ble_eq_true rfl) ?_
  refine t_rM_finds e13 ?_
  refine s_ireturn f_272_123 rfl rfl ?_
  cases hd
  exact hQ
def rM_copy_L164 : Nat → SS → Int32 → Int32 → Int32 → Int32 → Option (Int32 × SS)
  | 0, _, _, _, _, _ => none
  | n + 1, M, a3, a4, a5, a6 =>
    if a5 ≤ a6 then
      some (a5, M)
    else
      if inb a6 20 then
        if inb ((((20 : Int32) * a3) + a4) + a6) 80 then
          rM_copy_L164  n (up M 170 (ix ((((20 : Int32) * a3) + a4) + a6)) (M 171 (ix a6))) a3 a4 a5 (a6 + 1)
        else none
      else none
theorem t_rM_copy_L164 {l : Launch} {G : aG} {d : Nat} {Q : Option Value → aHeap → Prop} {sl : Nat} {sx : Nat → Int32} {S : SS} {K : KS} {T : TS} {X : XS} : ∀ (n : Nat), ∀ (M : SS) (a3 : Int32) (a4 : Int32) (a5 : Int32) (a6 : Int32) (p : Int32 × SS), rM_copy_L164 n M a3 a4 a5 a6 = some p → Q (some (.int p.1)) (LH (old0 sl sx) S K T X p.2) → aAt l G (d + 2) 0 0 272 164 [(0, .ref 154), (3, .int a3), (4, .int a4), (5, .int a5), (6, .int a6)] [] 0 0 (LH (old0 sl sx) S K T X M) Q := by
  intro n
  induction n with
  | zero =>
    intro M a3 a4 a5 a6 p hd hQ
    rw [rM_copy_L164] at hd
    cases hd
  | succ n ih =>
    intro M a3 a4 a5 a6 p hd hQ
    rw [rM_copy_L164] at hd
    refine s_iload f_272_164 rfl ?_
    refine s_iload f_272_166 rfl ?_
    refine s_icmp_ge 199 f_272_168 (by decide) (fun c19 => ?_) (fun c19 => ?_)
    · replace hd := ite_p c19 hd
      refine s_iload f_272_199 rfl ?_
      refine s_ireturn f_272_201 rfl rfl ?_
      cases hd
      exact hQ
    · replace hd := ite_n c19 hd
      refine s_aload_n f_272_171 rfl ?_
      refine L_getR f_272_172 fd_12_59 (obL (by decide)) (by decide) (by decide : rf 154 24 = 170) ?_
      refine k_bipush (v := 20) f_272_175 (by decide) ?_
      refine s_iload_n f_272_177 rfl ?_
      refine s_imul f_272_178 ?_
      refine s_iload f_272_179 rfl ?_
      refine s_iadd f_272_181 ?_
      refine s_iload f_272_182 rfl ?_
      refine s_iadd f_272_184 ?_
      refine s_aload_n f_272_185 rfl ?_
      refine L_getR f_272_186 fd_12_62 (obL (by decide)) (by decide) (by decide : rf 154 25 = 171) ?_
      refine s_iload f_272_189 rfl ?_
      replace hd := gd hd
      obtain ⟨g20, hd⟩ := hd
      refine M_iaload (q := (ix a6)) f_272_191 ⟨by decide, by decide, by decide, fun _ => rfl⟩ (Nat.le_of_ble_eq_true rfl : 20 < 2 ^ 31) rfl g20 ?_
      replace hd := gd hd
      obtain ⟨g21, hd⟩ := hd
      refine M_iastore (q := (ix ((((20 : Int32) * a3) + a4) + a6))) f_272_192 ⟨by decide, by decide, by decide, fun _ => rfl⟩ (Nat.le_of_ble_eq_true rfl : 80 < 2 ^ 31) rfl g21 ?_
      refine k_iinc (w := 1) f_272_193 rfl (by decide) (by decide) ?_
      refine s_goto 164 f_272_196 (by decide) ?_
      refine aAt.sub [(0, .ref 154), (3, .int a3), (4, .int a4), (5, .int a5), (6, .int (a6 + 1))] rfl ?_
      exact ih _ _ _ _ _  _ hd hQ
def rM_copy_L127 : Nat → SS → Int32 → Int32 → Int32 → Int32 → Int32 → Int32 → Option (Int32 × SS)
  | 0, _, _, _, _, _, _, _ => none
  | n + 1, M, a1, a2, a3, a4, a5, a6 =>
    if a5 ≤ a6 then
      rM_copy_L164 FU M a3 a4 a5 (0 : Int32)
    else
      if inb ((((20 : Int32) * a1) + a2) + a6) 80 then
        if inb a6 20 then
          rM_copy_L127  n (up M 171 (ix a6) (M 170 (ix ((((20 : Int32) * a1) + a2) + a6)))) a1 a2 a3 a4 a5 (a6 + 1)
        else none
      else none
theorem t_rM_copy_L127 {l : Launch} {G : aG} {d : Nat} {Q : Option Value → aHeap → Prop} {sl : Nat} {sx : Nat → Int32} {S : SS} {K : KS} {T : TS} {X : XS} : ∀ (n : Nat), ∀ (M : SS) (a1 : Int32) (a2 : Int32) (a3 : Int32) (a4 : Int32) (a5 : Int32) (a6 : Int32) (p : Int32 × SS), rM_copy_L127 n M a1 a2 a3 a4 a5 a6 = some p → Q (some (.int p.1)) (LH (old0 sl sx) S K T X p.2) → aAt l G (d + 2) 0 0 272 127 [(0, .ref 154), (1, .int a1), (2, .int a2), (3, .int a3), (4, .int a4), (5, .int a5), (6, .int a6)] [] 0 0 (LH (old0 sl sx) S K T X M) Q := by
  intro n
  induction n with
  | zero =>
    intro M a1 a2 a3 a4 a5 a6 p hd hQ
    rw [rM_copy_L127] at hd
    cases hd
  | succ n ih =>
    intro M a1 a2 a3 a4 a5 a6 p hd hQ
    rw [rM_copy_L127] at hd
    refine s_iload f_272_127 rfl ?_
    refine s_iload f_272_129 rfl ?_
    refine s_icmp_ge 161 f_272_131 (by decide) (fun c18 => ?_) (fun c18 => ?_)
    · replace hd := ite_p c18 hd
      refine k_iconst (v := 0) f_272_161 (by decide) ?_
      refine s_istore f_272_162 (by decide) ?_
      refine aAt.sub [(0, .ref 154), (3, .int a3), (4, .int a4), (5, .int a5), (6, .int (0 : Int32))] rfl ?_
      exact t_rM_copy_L164 FU _ _ _ _ _  _ hd hQ
    · replace hd := ite_n c18 hd
      refine s_aload_n f_272_134 rfl ?_
      refine L_getR f_272_135 fd_12_62 (obL (by decide)) (by decide) (by decide : rf 154 25 = 171) ?_
      refine s_iload f_272_138 rfl ?_
      refine s_aload_n f_272_140 rfl ?_
      refine L_getR f_272_141 fd_12_59 (obL (by decide)) (by decide) (by decide : rf 154 24 = 170) ?_
      refine k_bipush (v := 20) f_272_144 (by decide) ?_
      refine s_iload_n f_272_146 rfl ?_
      refine s_imul f_272_147 ?_
      refine s_iload_n f_272_148 rfl ?_
      refine s_iadd f_272_149 ?_
      refine s_iload f_272_150 rfl ?_
      refine s_iadd f_272_152 ?_
      replace hd := gd hd
      obtain ⟨g22, hd⟩ := hd
      refine M_iaload (q := (ix ((((20 : Int32) * a1) + a2) + a6))) f_272_153 ⟨by decide, by decide, by decide, fun _ => rfl⟩ (Nat.le_of_ble_eq_true rfl : 80 < 2 ^ 31) rfl g22 ?_
      replace hd := gd hd
      obtain ⟨g23, hd⟩ := hd
      refine M_iastore (q := (ix a6)) f_272_154 ⟨by decide, by decide, by decide, fun _ => rfl⟩ (Nat.le_of_ble_eq_true rfl : 20 < 2 ^ 31) rfl g23 ?_
      refine k_iinc (w := 1) f_272_155 rfl (by decide) (by decide) ?_
      refine s_goto 127 f_272_158 (by decide) ?_
      refine aAt.sub [(0, .ref 154), (1, .int a1), (2, .int a2), (3, .int a3), (4, .int a4), (5, .int a5), (6, .int (a6 + 1))] rfl ?_
      exact ih _ _ _ _ _ _ _  _ hd hQ
def rM_copy (M : SS) (a1 : Int32) (a2 : Int32) (a3 : Int32) (a4 : Int32) (a5 : Int32) : Option (Int32 × SS) :=
  (rM_isSheet a1).bind fun p1 =>
  if p1 = true then
    (rM_isSheet a3).bind fun p4 =>
    if p4 = true then
      if inb a1 4 then
        if (M 168 (ix a1)) = 0 then
          rM_copy_J39 M
        else
          if inb a3 4 then
            if (M 168 (ix a3)) = 0 then
              rM_copy_J39 M
            else
              if (M 168 (ix a1)) = (M 168 (ix a3)) then
                if a2 < 0 then
                  rM_copy_J117 M
                else
                  if a4 < 0 then
                    rM_copy_J117 M
                  else
                    if a5 < 0 then
                      rM_copy_J117 M
                    else
                      if 0 < (lg_cmp ((a2.toInt64) + (a5.toInt64)) ((M 169 (ix a1)).toInt64)) then
                        rM_copy_J117 M
                      else
                        if (lg_cmp ((a4.toInt64) + (a5.toInt64)) ((M 169 (ix a3)).toInt64)) ≤ 0 then
                          rM_copy_L127 FU M a1 a2 a3 a4 a5 (0 : Int32)
                        else
                          rM_copy_J117 M
              else
                (rM_finds M (-100004 : Int32)).bind fun p24 =>
                some (p24.1, p24.2)
          else none
      else none
    else
      rM_copy_J14 M
  else
    rM_copy_J14 M
theorem t_rM_copy {l : Launch} {G : aG} {d : Nat} {Q : Option Value → aHeap → Prop} {sl : Nat} {sx : Nat → Int32} {S : SS} {K : KS} {T : TS} {X : XS} {M : SS} {a1 : Int32} {a2 : Int32} {a3 : Int32} {a4 : Int32} {a5 : Int32} {p : Int32 × SS} (hd : rM_copy M a1 a2 a3 a4 a5 = some p) (hQ : Q (some (.int p.1)) (LH (old0 sl sx) S K T X p.2)) : aCall l G (d + 2) 0 0 272 [.ref 154, .int a1, .int a2, .int a3, .int a4, .int a5] (LH (old0 sl sx) S K T X M) Q := by
  refine aCall.of (by decide) (Nat.le_of_ble_eq_true rfl) ?_
  refine aAt.sub [(0, .ref 154), (1, .int a1), (2, .int a2), (3, .int a3), (4, .int a4), (5, .int a5)] rfl ?_
  unfold rM_copy at hd
  refine s_iload_n f_272_0 rfl ?_
  replace hd := obind hd
  obtain ⟨p1, e1, hd⟩ := hd
  refine L_stat (As := [.int a1]) f_272_1 ca_12_273 rfl rfl (Nat.le_of_ble_eq_true rfl) ?_
  refine t_rM_isSheet e1 ?_
  refine z_if_eq 14 f_272_4 (by decide) (fun c2 => ?_) (fun c2 => ?_)
  · replace hd := ite_n c2 hd
    refine aAt.sub [(0, .ref 154)] rfl ?_
    exact t_rM_copy_J14 _  _ hd hQ
  · replace hd := ite_p c2 hd
    refine s_iload_n f_272_7 rfl ?_
    replace hd := obind hd
    obtain ⟨p4, e4, hd⟩ := hd
    refine L_stat (As := [.int a3]) f_272_8 ca_12_273 rfl rfl (Nat.le_of_ble_eq_true rfl) ?_
    refine t_rM_isSheet e4 ?_
    refine z_if_ne 21 f_272_11 (by decide) (fun c5 => ?_) (fun c5 => ?_)
    · replace hd := ite_p c5 hd
      refine s_aload_n f_272_21 rfl ?_
      refine L_getR f_272_22 fd_12_53 (obL (by decide)) (by decide) (by decide : rf 154 22 = 168) ?_
      refine s_iload_n f_272_25 rfl ?_
      replace hd := gd hd
      obtain ⟨g6, hd⟩ := hd
      refine M_iaload (q := (ix a1)) f_272_26 ⟨by decide, by decide, by decide, fun _ => rfl⟩ (Nat.le_of_ble_eq_true rfl : 4 < 2 ^ 31) rfl g6 ?_
      refine s_if_eq 39 f_272_27 (by decide) (fun c7 => ?_) (fun c7 => ?_)
      · replace hd := ite_p c7 hd
        refine aAt.sub [(0, .ref 154)] rfl ?_
        exact t_rM_copy_J39 _  _ hd hQ
      · replace hd := ite_n c7 hd
        refine s_aload_n f_272_30 rfl ?_
        refine L_getR f_272_31 fd_12_53 (obL (by decide)) (by decide) (by decide : rf 154 22 = 168) ?_
        refine s_iload_n f_272_34 rfl ?_
        replace hd := gd hd
        obtain ⟨g9, hd⟩ := hd
        refine M_iaload (q := (ix a3)) f_272_35 ⟨by decide, by decide, by decide, fun _ => rfl⟩ (Nat.le_of_ble_eq_true rfl : 4 < 2 ^ 31) rfl g9 ?_
        refine s_if_ne 46 f_272_36 (by decide) (fun c10 => ?_) (fun c10 => ?_)
        · replace hd := ite_n c10 hd
          refine s_aload_n f_272_46 rfl ?_
          refine L_getR f_272_47 fd_12_53 (obL (by decide)) (by decide) (by decide : rf 154 22 = 168) ?_
          refine s_iload_n f_272_50 rfl ?_
          refine M_iaload (q := (ix a1)) f_272_51 ⟨by decide, by decide, by decide, fun _ => rfl⟩ (Nat.le_of_ble_eq_true rfl : 4 < 2 ^ 31) rfl g6 ?_
          refine s_aload_n f_272_52 rfl ?_
          refine L_getR f_272_53 fd_12_53 (obL (by decide)) (by decide) (by decide : rf 154 22 = 168) ?_
          refine s_iload_n f_272_56 rfl ?_
          refine M_iaload (q := (ix a3)) f_272_57 ⟨by decide, by decide, by decide, fun _ => rfl⟩ (Nat.le_of_ble_eq_true rfl : 4 < 2 ^ 31) rfl g9 ?_
          refine s_icmp_eq 68 f_272_58 (by decide) (fun c11 => ?_) (fun c11 => ?_)
          · replace hd := ite_p c11 hd
            refine s_iload_n f_272_68 rfl ?_
            refine s_if_lt 117 f_272_69 (by decide) (fun c12 => ?_) (fun c12 => ?_)
            · replace hd := ite_p c12 hd
              refine aAt.sub [(0, .ref 154)] rfl ?_
              exact t_rM_copy_J117 _  _ hd hQ
            · replace hd := ite_n c12 hd
              refine s_iload f_272_72 rfl ?_
              refine s_if_lt 117 f_272_74 (by decide) (fun c14 => ?_) (fun c14 => ?_)
              · replace hd := ite_p c14 hd
                refine aAt.sub [(0, .ref 154)] rfl ?_
                exact t_rM_copy_J117 _  _ hd hQ
              · replace hd := ite_n c14 hd
                refine s_iload f_272_77 rfl ?_
                refine s_if_lt 117 f_272_79 (by decide) (fun c15 => ?_) (fun c15 => ?_)
                · replace hd := ite_p c15 hd
                  refine aAt.sub [(0, .ref 154)] rfl ?_
                  exact t_rM_copy_J117 _  _ hd hQ
                · replace hd := ite_n c15 hd
                  refine s_iload_n f_272_82 rfl ?_
                  refine s_i2l f_272_83 ?_
                  refine s_iload f_272_84 rfl ?_
                  refine s_i2l f_272_86 ?_
                  refine s_ladd f_272_87 ?_
                  refine s_aload_n f_272_88 rfl ?_
                  refine L_getR f_272_89 fd_12_56 (obL (by decide)) (by decide) (by decide : rf 154 23 = 169) ?_
                  refine s_iload_n f_272_92 rfl ?_
                  refine M_iaload (q := (ix a1)) f_272_93 ⟨by decide, by decide, by decide, fun _ => rfl⟩ (Nat.le_of_ble_eq_true rfl : 4 < 2 ^ 31) rfl g6 ?_
                  refine s_i2l f_272_94 ?_
                  refine s_lcmp f_272_95 ?_
                  refine s_if_gt 117 f_272_96 (by decide) (fun c16 => ?_) (fun c16 => ?_)
                  · replace hd := ite_p c16 hd
                    refine aAt.sub [(0, .ref 154)] rfl ?_
                    exact t_rM_copy_J117 _  _ hd hQ
                  · replace hd := ite_n c16 hd
                    refine s_iload f_272_99 rfl ?_
                    refine s_i2l f_272_101 ?_
                    refine s_iload f_272_102 rfl ?_
                    refine s_i2l f_272_104 ?_
                    refine s_ladd f_272_105 ?_
                    refine s_aload_n f_272_106 rfl ?_
                    refine L_getR f_272_107 fd_12_56 (obL (by decide)) (by decide) (by decide : rf 154 23 = 169) ?_
                    refine s_iload_n f_272_110 rfl ?_
                    refine M_iaload (q := (ix a3)) f_272_111 ⟨by decide, by decide, by decide, fun _ => rfl⟩ (Nat.le_of_ble_eq_true rfl : 4 < 2 ^ 31) rfl g9 ?_
                    refine s_i2l f_272_112 ?_
                    refine s_lcmp f_272_113 ?_
                    refine s_if_le 124 f_272_114 (by decide) (fun c17 => ?_) (fun c17 => ?_)
                    · replace hd := ite_p c17 hd
                      refine k_iconst (v := 0) f_272_124 (by decide) ?_
                      refine s_istore f_272_125 (by decide) ?_
                      refine aAt.sub [(0, .ref 154), (1, .int a1), (2, .int a2), (3, .int a3), (4, .int a4), (5, .int a5), (6, .int (0 : Int32))] rfl ?_
                      exact t_rM_copy_L127 FU _ _ _ _ _ _ _  _ hd hQ
                    · replace hd := ite_n c17 hd
                      refine aAt.sub [(0, .ref 154)] rfl ?_
                      exact t_rM_copy_J117 _  _ hd hQ
          · replace hd := ite_n c11 hd
            refine s_aload_n f_272_61 rfl ?_
            refine s_ldc f_272_62 ko_12_150 ?_
            replace hd := obind hd
            obtain ⟨p24, e24, hd⟩ := hd
            refine L_virt (As := [.int (-100004 : Int32)]) f_272_64 ca_12_78 rfl rfl (obL (by decide)) (by decide) (Nat.le_of_ble_eq_true rfl) ?_
            refine t_rM_finds e24 ?_
            refine s_ireturn f_272_67 rfl rfl ?_
            cases hd
            exact hQ
        · replace hd := ite_p c10 hd
          refine aAt.sub [(0, .ref 154)] rfl ?_
          exact t_rM_copy_J39 _  _ hd hQ
    · replace hd := ite_n c5 hd
      refine aAt.sub [(0, .ref 154)] rfl ?_
      exact t_rM_copy_J14 _  _ hd hQ

def rM_image_L2 : Nat → SS → Int32 → Option (Int32 × SS)
  | 0, _, _ => none
  | n + 1, M, a1 =>
    if (10759 : Int32) ≤ a1 then
      some (((up M 154 2 (1 : Int32)) 155 3), (up M 154 2 (1 : Int32)))
    else
      if inb a1 10759 then
        rM_image_L2  n (up M 156 (ix a1) (M 155 (ix a1))) (a1 + 1)
      else none
theorem t_rM_image_L2 {l : Launch} {G : aG} {d : Nat} {Q : Option Value → aHeap → Prop} {sl : Nat} {sx : Nat → Int32} {S : SS} {K : KS} {T : TS} {X : XS} : ∀ (n : Nat), ∀ (M : SS) (a1 : Int32) (p : Int32 × SS), rM_image_L2 n M a1 = some p → Q (some (.int p.1)) (LH (old0 sl sx) S K T X p.2) → aAt l G d 0 0 273 2 [(0, .ref 154), (1, .int a1)] [] 0 0 (LH (old0 sl sx) S K T X M) Q := by
  intro n
  induction n with
  | zero =>
    intro M a1 p hd hQ
    rw [rM_image_L2] at hd
    cases hd
  | succ n ih =>
    intro M a1 p hd hQ
    rw [rM_image_L2] at hd
    refine s_iload_n f_273_2 rfl ?_
    refine k_sipush (v := 10759) f_273_3 (by decide) ?_
    refine s_icmp_ge 27 f_273_6 (by decide) (fun c1 => ?_) (fun c1 => ?_)
    · replace hd := ite_p c1 hd
      refine s_aload_n f_273_27 rfl ?_
      refine k_iconst (v := 1) f_273_28 (by decide) ?_
      refine M_putI f_273_29 fd_12_297 (by decide) (Or.inr ⟨rfl, by decide⟩) (by decide) ?_
      refine s_aload_n f_273_32 rfl ?_
      refine L_getR f_273_33 fd_12_7 (obL (by decide)) (by decide) (by decide : rf 154 0 = 155) ?_
      refine k_iconst (v := 3) f_273_36 (by decide) ?_
      refine M_iaload (q := 3) f_273_37 ⟨by decide, by decide, by decide, fun _ => rfl⟩ (Nat.le_of_ble_eq_true rfl : 10759 < 2 ^ 31) (by decide) (by decide) ?_
      refine s_ireturn f_273_38 rfl rfl ?_
      cases hd
      exact hQ
    · replace hd := ite_n c1 hd
      refine s_aload_n f_273_9 rfl ?_
      refine L_getR f_273_10 fd_12_13 (obL (by decide)) (by decide) (by decide : rf 154 1 = 156) ?_
      refine s_iload_n f_273_13 rfl ?_
      refine s_aload_n f_273_14 rfl ?_
      refine L_getR f_273_15 fd_12_7 (obL (by decide)) (by decide) (by decide : rf 154 0 = 155) ?_
      refine s_iload_n f_273_18 rfl ?_
      replace hd := gd hd
      obtain ⟨g2, hd⟩ := hd
      refine M_iaload (q := (ix a1)) f_273_19 ⟨by decide, by decide, by decide, fun _ => rfl⟩ (Nat.le_of_ble_eq_true rfl : 10759 < 2 ^ 31) rfl g2 ?_
      refine M_iastore (q := (ix a1)) f_273_20 ⟨by decide, by decide, by decide, fun _ => rfl⟩ (Nat.le_of_ble_eq_true rfl : 10759 < 2 ^ 31) rfl g2 ?_
      refine k_iinc (w := 1) f_273_21 rfl (by decide) (by decide) ?_
      refine s_goto 2 f_273_24 (by decide) ?_
      refine aAt.sub [(0, .ref 154), (1, .int (a1 + 1))] rfl ?_
      exact ih _ _  _ hd hQ
def rM_image (M : SS) : Option (Int32 × SS) :=
  rM_image_L2 FU M (0 : Int32)
theorem t_rM_image {l : Launch} {G : aG} {d : Nat} {Q : Option Value → aHeap → Prop} {sl : Nat} {sx : Nat → Int32} {S : SS} {K : KS} {T : TS} {X : XS} {M : SS} {p : Int32 × SS} (hd : rM_image M = some p) (hQ : Q (some (.int p.1)) (LH (old0 sl sx) S K T X p.2)) : aCall l G d 0 0 273 [.ref 154] (LH (old0 sl sx) S K T X M) Q := by
  refine aCall.of (by decide) (Nat.le_of_ble_eq_true rfl) ?_
  refine aAt.sub [(0, .ref 154)] rfl ?_
  unfold rM_image at hd
  refine k_iconst (v := 0) f_273_0 (by decide) ?_
  refine s_istore_n f_273_1 (by decide) ?_
  refine aAt.sub [(0, .ref 154), (1, .int (0 : Int32))] rfl ?_
  exact t_rM_image_L2 FU _ _  _ hd hQ

def rM_restore_L16 : Nat → SS → Int32 → Option (Int32 × SS)
  | 0, _, _ => none
  | n + 1, M, a1 =>
    if (10759 : Int32) ≤ a1 then
      some ((M 155 3), M)
    else
      if inb a1 10759 then
        rM_restore_L16  n (up M 155 (ix a1) (M 156 (ix a1))) (a1 + 1)
      else none
theorem t_rM_restore_L16 {l : Launch} {G : aG} {d : Nat} {Q : Option Value → aHeap → Prop} {sl : Nat} {sx : Nat → Int32} {S : SS} {K : KS} {T : TS} {X : XS} : ∀ (n : Nat), ∀ (M : SS) (a1 : Int32) (p : Int32 × SS), rM_restore_L16 n M a1 = some p → Q (some (.int p.1)) (LH (old0 sl sx) S K T X p.2) → aAt l G (d + 1) 0 0 274 16 [(0, .ref 154), (1, .int a1)] [] 0 0 (LH (old0 sl sx) S K T X M) Q := by
  intro n
  induction n with
  | zero =>
    intro M a1 p hd hQ
    rw [rM_restore_L16] at hd
    cases hd
  | succ n ih =>
    intro M a1 p hd hQ
    rw [rM_restore_L16] at hd
    refine s_iload_n f_274_16 rfl ?_
    refine k_sipush (v := 10759) f_274_17 (by decide) ?_
    refine s_icmp_ge 41 f_274_20 (by decide) (fun c2 => ?_) (fun c2 => ?_)
    · replace hd := ite_p c2 hd
      refine s_aload_n f_274_41 rfl ?_
      refine L_getR f_274_42 fd_12_7 (obL (by decide)) (by decide) (by decide : rf 154 0 = 155) ?_
      refine k_iconst (v := 3) f_274_45 (by decide) ?_
      refine M_iaload (q := 3) f_274_46 ⟨by decide, by decide, by decide, fun _ => rfl⟩ (Nat.le_of_ble_eq_true rfl : 10759 < 2 ^ 31) (by decide) (by decide) ?_
      refine s_ireturn f_274_47 rfl rfl ?_
      cases hd
      exact hQ
    · replace hd := ite_n c2 hd
      refine s_aload_n f_274_23 rfl ?_
      refine L_getR f_274_24 fd_12_7 (obL (by decide)) (by decide) (by decide : rf 154 0 = 155) ?_
      refine s_iload_n f_274_27 rfl ?_
      refine s_aload_n f_274_28 rfl ?_
      refine L_getR f_274_29 fd_12_13 (obL (by decide)) (by decide) (by decide : rf 154 1 = 156) ?_
      refine s_iload_n f_274_32 rfl ?_
      replace hd := gd hd
      obtain ⟨g3, hd⟩ := hd
      refine M_iaload (q := (ix a1)) f_274_33 ⟨by decide, by decide, by decide, fun _ => rfl⟩ (Nat.le_of_ble_eq_true rfl : 10759 < 2 ^ 31) rfl g3 ?_
      refine M_iastore (q := (ix a1)) f_274_34 ⟨by decide, by decide, by decide, fun _ => rfl⟩ (Nat.le_of_ble_eq_true rfl : 10759 < 2 ^ 31) rfl g3 ?_
      refine k_iinc (w := 1) f_274_35 rfl (by decide) (by decide) ?_
      refine s_goto 16 f_274_38 (by decide) ?_
      refine aAt.sub [(0, .ref 154), (1, .int (a1 + 1))] rfl ?_
      exact ih _ _  _ hd hQ
def rM_restore (M : SS) : Option (Int32 × SS) :=
  if (M 154 2) = 0 then
    (rM_finds M (-100006 : Int32)).bind fun p4 =>
    some (p4.1, p4.2)
  else
    rM_restore_L16 FU M (0 : Int32)
theorem t_rM_restore {l : Launch} {G : aG} {d : Nat} {Q : Option Value → aHeap → Prop} {sl : Nat} {sx : Nat → Int32} {S : SS} {K : KS} {T : TS} {X : XS} {M : SS} {p : Int32 × SS} (hd : rM_restore M = some p) (hQ : Q (some (.int p.1)) (LH (old0 sl sx) S K T X p.2)) : aCall l G (d + 1) 0 0 274 [.ref 154] (LH (old0 sl sx) S K T X M) Q := by
  refine aCall.of (by decide) (Nat.le_of_ble_eq_true rfl) ?_
  refine aAt.sub [(0, .ref 154)] rfl ?_
  unfold rM_restore at hd
  refine s_aload_n f_274_0 rfl ?_
  refine M_getI f_274_1 fd_12_297 (by decide) ?_
  refine s_if_ne 14 f_274_4 (by decide) (fun c1 => ?_) (fun c1 => ?_)
  · replace hd := ite_n c1 hd
    refine k_iconst (v := 0) f_274_14 (by decide) ?_
    refine s_istore_n f_274_15 (by decide) ?_
    refine aAt.sub [(0, .ref 154), (1, .int (0 : Int32))] rfl ?_
    exact t_rM_restore_L16 FU _ _  _ hd hQ
  · replace hd := ite_p c1 hd
    refine s_aload_n f_274_7 rfl ?_
    refine s_ldc f_274_8 ko_12_131 ?_
    replace hd := obind hd
    obtain ⟨p4, e4, hd⟩ := hd
    refine L_virt (As := [.int (-100006 : Int32)]) f_274_10 ca_12_78 rfl rfl (obL (by decide)) (by decide) (Nat.le_of_ble_eq_true rfl) ?_
    refine t_rM_finds e4 ?_
    refine s_ireturn f_274_13 rfl rfl ?_
    cases hd
    exact hQ

def rM_count_J78 (k54 : SS → Int32 → Int32 → Option (Int32 × SS)) (M : SS) (a3 : Int32) (w0 : Int32) (w1 : Bool) : Option (Int32 × SS) :=
  k54 M (w0 + (b2i w1)) (a3 + 1)
theorem t_rM_count_J78 {l : Launch} {G : aG} {d : Nat} {Q : Option Value → aHeap → Prop} {sl : Nat} {sx : Nat → Int32} {S : SS} {K : KS} {T : TS} {X : XS} {k54 : SS → Int32 → Int32 → Option (Int32 × SS)} (hk54 : ∀ (M : SS) (a2 : Int32) (a3 : Int32) (p : Int32 × SS), k54 M a2 a3 = some p → Q (some (.int p.1)) (LH (old0 sl sx) S K T X p.2) → aAt l G (d + 2) 0 0 275 54 [(0, .ref 154), (2, .int a2), (3, .int a3)] [] 0 0 (LH (old0 sl sx) S K T X M) Q) : ∀ (M : SS) (a3 : Int32) (w0 : Int32) (w1 : Bool) (p : Int32 × SS), rM_count_J78 k54 M a3 w0 w1 = some p → Q (some (.int p.1)) (LH (old0 sl sx) S K T X p.2) → aAt l G (d + 2) 0 0 275 78 [(0, .ref 154), (3, .int a3)] [.int (b2i w1), .int w0] 0 0 (LH (old0 sl sx) S K T X M) Q := by
  intro M a3 w0 w1 p hd hQ
  unfold rM_count_J78 at hd
  refine s_iadd f_275_78 ?_
  refine s_istore_n f_275_79 (by decide) ?_
  refine k_iinc (w := 1) f_275_80 rfl (by decide) (by decide) ?_
  refine s_goto 54 f_275_83 (by decide) ?_
  refine aAt.sub [(0, .ref 154), (2, .int (w0 + (b2i w1))), (3, .int (a3 + 1))] rfl ?_
  exact hk54 _ _ _  _ hd hQ
def rM_count_L54 : Nat → SS → Int32 → Int32 → Option (Int32 × SS)
  | 0, _, _, _ => none
  | n + 1, M, a2, a3 =>
    if (M 155 0) ≤ a3 then
      some (a2, M)
    else
      (rM_lives0 M a3).bind fun p3 =>
      if p3 = true then
        rM_count_J78 (rM_count_L54  n) M a3 a2 true
      else
        rM_count_J78 (rM_count_L54  n) M a3 a2 false
theorem t_rM_count_L54 {l : Launch} {G : aG} {d : Nat} {Q : Option Value → aHeap → Prop} {sl : Nat} {sx : Nat → Int32} {S : SS} {K : KS} {T : TS} {X : XS} : ∀ (n : Nat), ∀ (M : SS) (a2 : Int32) (a3 : Int32) (p : Int32 × SS), rM_count_L54 n M a2 a3 = some p → Q (some (.int p.1)) (LH (old0 sl sx) S K T X p.2) → aAt l G (d + 2) 0 0 275 54 [(0, .ref 154), (2, .int a2), (3, .int a3)] [] 0 0 (LH (old0 sl sx) S K T X M) Q := by
  intro n
  induction n with
  | zero =>
    intro M a2 a3 p hd hQ
    rw [rM_count_L54] at hd
    cases hd
  | succ n ih =>
    intro M a2 a3 p hd hQ
    rw [rM_count_L54] at hd
    refine s_iload_n f_275_54 rfl ?_
    refine s_aload_n f_275_55 rfl ?_
    refine L_getR f_275_56 fd_12_7 (obL (by decide)) (by decide) (by decide : rf 154 0 = 155) ?_
    refine k_iconst (v := 0) f_275_59 (by decide) ?_
    refine M_iaload (q := 0) f_275_60 ⟨by decide, by decide, by decide, fun _ => rfl⟩ (Nat.le_of_ble_eq_true rfl : 10759 < 2 ^ 31) (by decide) (by decide) ?_
    refine s_icmp_ge 86 f_275_61 (by decide) (fun c2 => ?_) (fun c2 => ?_)
    · replace hd := ite_p c2 hd
      refine s_iload_n f_275_86 rfl ?_
      refine s_ireturn f_275_87 rfl rfl ?_
      cases hd
      exact hQ
    · replace hd := ite_n c2 hd
      refine s_iload_n f_275_64 rfl ?_
      refine s_aload_n f_275_65 rfl ?_
      refine s_iload_n f_275_66 rfl ?_
      replace hd := obind hd
      obtain ⟨p3, e3, hd⟩ := hd
      refine L_virt (As := [.int a3]) f_275_67 ca_12_91 rfl rfl (obL (by decide)) (by decide) (Nat.le_of_ble_eq_true rfl) ?_
      refine t_rM_lives0 e3 ?_
      refine z_if_eq 77 f_275_70 (by decide) (fun c4 => ?_) (fun c4 => ?_)
      · replace hd := ite_n c4 hd
        refine k_iconst (v := 0) f_275_77 (by decide) ?_
        refine aAt.sub [(0, .ref 154), (3, .int a3)] rfl ?_
        exact t_rM_count_J78 ih _ _ _ _  _ hd hQ
      · replace hd := ite_p c4 hd
        refine k_iconst (v := 1) f_275_73 (by decide) ?_
        refine s_goto 78 f_275_74 (by decide) ?_
        refine aAt.sub [(0, .ref 154), (3, .int a3)] rfl ?_
        exact t_rM_count_J78 ih _ _ _ _  _ hd hQ
def rM_count_J128 (k104 : SS → Int32 → Int32 → Option (Int32 × SS)) (M : SS) (a3 : Int32) (w0 : Int32) (w1 : Bool) : Option (Int32 × SS) :=
  k104 M (w0 + (b2i w1)) (a3 + 1)
theorem t_rM_count_J128 {l : Launch} {G : aG} {d : Nat} {Q : Option Value → aHeap → Prop} {sl : Nat} {sx : Nat → Int32} {S : SS} {K : KS} {T : TS} {X : XS} {k104 : SS → Int32 → Int32 → Option (Int32 × SS)} (hk104 : ∀ (M : SS) (a2 : Int32) (a3 : Int32) (p : Int32 × SS), k104 M a2 a3 = some p → Q (some (.int p.1)) (LH (old0 sl sx) S K T X p.2) → aAt l G (d + 2) 0 0 275 104 [(0, .ref 154), (2, .int a2), (3, .int a3)] [] 0 0 (LH (old0 sl sx) S K T X M) Q) : ∀ (M : SS) (a3 : Int32) (w0 : Int32) (w1 : Bool) (p : Int32 × SS), rM_count_J128 k104 M a3 w0 w1 = some p → Q (some (.int p.1)) (LH (old0 sl sx) S K T X p.2) → aAt l G (d + 2) 0 0 275 128 [(0, .ref 154), (3, .int a3)] [.int (b2i w1), .int w0] 0 0 (LH (old0 sl sx) S K T X M) Q := by
  intro M a3 w0 w1 p hd hQ
  unfold rM_count_J128 at hd
  refine s_iadd f_275_128 ?_
  refine s_istore_n f_275_129 (by decide) ?_
  refine k_iinc (w := 1) f_275_130 rfl (by decide) (by decide) ?_
  refine s_goto 104 f_275_133 (by decide) ?_
  refine aAt.sub [(0, .ref 154), (2, .int (w0 + (b2i w1))), (3, .int (a3 + 1))] rfl ?_
  exact hk104 _ _ _  _ hd hQ
def rM_count_L104 : Nat → SS → Int32 → Int32 → Option (Int32 × SS)
  | 0, _, _, _ => none
  | n + 1, M, a2, a3 =>
    if (M 155 2) ≤ a3 then
      some (a2, M)
    else
      (rM_isOpen M a3).bind fun p9 =>
      if p9 = true then
        rM_count_J128 (rM_count_L104  n) M a3 a2 true
      else
        rM_count_J128 (rM_count_L104  n) M a3 a2 false
theorem t_rM_count_L104 {l : Launch} {G : aG} {d : Nat} {Q : Option Value → aHeap → Prop} {sl : Nat} {sx : Nat → Int32} {S : SS} {K : KS} {T : TS} {X : XS} : ∀ (n : Nat), ∀ (M : SS) (a2 : Int32) (a3 : Int32) (p : Int32 × SS), rM_count_L104 n M a2 a3 = some p → Q (some (.int p.1)) (LH (old0 sl sx) S K T X p.2) → aAt l G (d + 2) 0 0 275 104 [(0, .ref 154), (2, .int a2), (3, .int a3)] [] 0 0 (LH (old0 sl sx) S K T X M) Q := by
  intro n
  induction n with
  | zero =>
    intro M a2 a3 p hd hQ
    rw [rM_count_L104] at hd
    cases hd
  | succ n ih =>
    intro M a2 a3 p hd hQ
    rw [rM_count_L104] at hd
    refine s_iload_n f_275_104 rfl ?_
    refine s_aload_n f_275_105 rfl ?_
    refine L_getR f_275_106 fd_12_7 (obL (by decide)) (by decide) (by decide : rf 154 0 = 155) ?_
    refine k_iconst (v := 2) f_275_109 (by decide) ?_
    refine M_iaload (q := 2) f_275_110 ⟨by decide, by decide, by decide, fun _ => rfl⟩ (Nat.le_of_ble_eq_true rfl : 10759 < 2 ^ 31) (by decide) (by decide) ?_
    refine s_icmp_ge 136 f_275_111 (by decide) (fun c8 => ?_) (fun c8 => ?_)
    · replace hd := ite_p c8 hd
      refine s_iload_n f_275_136 rfl ?_
      refine s_ireturn f_275_137 rfl rfl ?_
      cases hd
      exact hQ
    · replace hd := ite_n c8 hd
      refine s_iload_n f_275_114 rfl ?_
      refine s_aload_n f_275_115 rfl ?_
      refine s_iload_n f_275_116 rfl ?_
      replace hd := obind hd
      obtain ⟨p9, e9, hd⟩ := hd
      refine L_virt (As := [.int a3]) f_275_117 ca_12_95 rfl rfl (obL (by decide)) (by decide) (Nat.le_of_ble_eq_true rfl) ?_
      refine t_rM_isOpen e9 ?_
      refine z_if_eq 127 f_275_120 (by decide) (fun c10 => ?_) (fun c10 => ?_)
      · replace hd := ite_n c10 hd
        refine k_iconst (v := 0) f_275_127 (by decide) ?_
        refine aAt.sub [(0, .ref 154), (3, .int a3)] rfl ?_
        exact t_rM_count_J128 ih _ _ _ _  _ hd hQ
      · replace hd := ite_p c10 hd
        refine k_iconst (v := 1) f_275_123 (by decide) ?_
        refine s_goto 128 f_275_124 (by decide) ?_
        refine aAt.sub [(0, .ref 154), (3, .int a3)] rfl ?_
        exact t_rM_count_J128 ih _ _ _ _  _ hd hQ
def rM_count_L147 : Nat → SS → Int32 → Int32 → Option (Int32 × SS)
  | 0, _, _, _ => none
  | n + 1, M, a2, a3 =>
    if (M 155 0) ≤ a3 then
      some (a2, M)
    else
      (rM_own M a3 (6 : Int32)).bind fun p14 =>
      rM_count_L147  n M (a2 + p14) (a3 + 1)
theorem t_rM_count_L147 {l : Launch} {G : aG} {d : Nat} {Q : Option Value → aHeap → Prop} {sl : Nat} {sx : Nat → Int32} {S : SS} {K : KS} {T : TS} {X : XS} : ∀ (n : Nat), ∀ (M : SS) (a2 : Int32) (a3 : Int32) (p : Int32 × SS), rM_count_L147 n M a2 a3 = some p → Q (some (.int p.1)) (LH (old0 sl sx) S K T X p.2) → aAt l G (d + 2) 0 0 275 147 [(0, .ref 154), (2, .int a2), (3, .int a3)] [] 0 0 (LH (old0 sl sx) S K T X M) Q := by
  intro n
  induction n with
  | zero =>
    intro M a2 a3 p hd hQ
    rw [rM_count_L147] at hd
    cases hd
  | succ n ih =>
    intro M a2 a3 p hd hQ
    rw [rM_count_L147] at hd
    refine s_iload_n f_275_147 rfl ?_
    refine s_aload_n f_275_148 rfl ?_
    refine L_getR f_275_149 fd_12_7 (obL (by decide)) (by decide) (by decide : rf 154 0 = 155) ?_
    refine k_iconst (v := 0) f_275_152 (by decide) ?_
    refine M_iaload (q := 0) f_275_153 ⟨by decide, by decide, by decide, fun _ => rfl⟩ (Nat.le_of_ble_eq_true rfl : 10759 < 2 ^ 31) (by decide) (by decide) ?_
    refine s_icmp_ge 173 f_275_154 (by decide) (fun c13 => ?_) (fun c13 => ?_)
    · replace hd := ite_p c13 hd
      refine s_iload_n f_275_173 rfl ?_
      refine s_ireturn f_275_174 rfl rfl ?_
      cases hd
      exact hQ
    · replace hd := ite_n c13 hd
      refine s_iload_n f_275_157 rfl ?_
      refine s_aload_n f_275_158 rfl ?_
      refine s_iload_n f_275_159 rfl ?_
      refine k_bipush (v := 6) f_275_160 (by decide) ?_
      replace hd := obind hd
      obtain ⟨p14, e14, hd⟩ := hd
      refine L_virt (As := [.int a3, .int (6 : Int32)]) f_275_162 ca_12_73 rfl rfl (obL (by decide)) (by decide) (Nat.le_of_ble_eq_true rfl) ?_
      refine t_rM_own e14 ?_
      refine s_iadd f_275_165 ?_
      refine s_istore_n f_275_166 (by decide) ?_
      refine k_iinc (w := 1) f_275_167 rfl (by decide) (by decide) ?_
      refine s_goto 147 f_275_170 (by decide) ?_
      refine aAt.sub [(0, .ref 154), (2, .int (a2 + p14)), (3, .int (a3 + 1))] rfl ?_
      exact ih _ _ _  _ hd hQ
def rM_count (M : SS) (a1 : Int32) : Option (Int32 × SS) :=
  if a1 = 0 then
    rM_count_L54 FU M (0 : Int32) (0 : Int32)
  else
    if a1 = 1 then
      some ((M 155 1), M)
    else
      if a1 = 2 then
        some ((M 155 2), M)
      else
        if a1 = 3 then
          rM_count_L104 FU M (0 : Int32) (0 : Int32)
        else
          if a1 = 4 then
            some ((M 155 3), M)
          else
            if a1 = 5 then
              rM_count_L147 FU M (0 : Int32) (0 : Int32)
            else
              if a1 = 6 then
                some ((M 155 5), M)
              else
                if a1 = 7 then
                  some ((M 155 6), M)
                else
                  if a1 = 8 then
                    some ((M 154 3), M)
                  else
                    (rM_finds M (-100001 : Int32)).bind fun p18 =>
                    some (p18.1, p18.2)
theorem t_rM_count {l : Launch} {G : aG} {d : Nat} {Q : Option Value → aHeap → Prop} {sl : Nat} {sx : Nat → Int32} {S : SS} {K : KS} {T : TS} {X : XS} {M : SS} {a1 : Int32} {p : Int32 × SS} (hd : rM_count M a1 = some p) (hQ : Q (some (.int p.1)) (LH (old0 sl sx) S K T X p.2)) : aCall l G (d + 2) 0 0 275 [.ref 154, .int a1] (LH (old0 sl sx) S K T X M) Q := by
  refine aCall.of (by decide) (Nat.le_of_ble_eq_true rfl) ?_
  refine aAt.sub [(0, .ref 154), (1, .int a1)] rfl ?_
  unfold rM_count at hd
  refine k_iconst (v := 0) f_275_0 (by decide) ?_
  refine s_istore_n f_275_1 (by decide) ?_
  refine s_iload_n f_275_2 rfl ?_
  by_cases c1 : a1 = 0
  · replace hd := ite_p c1 hd
    refine s_tabJ (off := 49) (0 : Int32) 52 c1 f_275_3 (by decide) (by decide) (by decide) (by decide) ?_
    refine k_iconst (v := 0) f_275_52 (by decide) ?_
    refine s_istore_n f_275_53 (by decide) ?_
    refine aAt.sub [(0, .ref 154), (2, .int (0 : Int32)), (3, .int (0 : Int32))] rfl ?_
    exact t_rM_count_L54 FU _ _ _  _ hd hQ
  replace hd := ite_n c1 hd
  by_cases c5 : a1 = 1
  · replace hd := ite_p c5 hd
    refine s_tabJ (off := 85) (1 : Int32) 88 c5 f_275_3 (by decide) (by decide) (by decide) (by decide) ?_
    refine s_aload_n f_275_88 rfl ?_
    refine L_getR f_275_89 fd_12_7 (obL (by decide)) (by decide) (by decide : rf 154 0 = 155) ?_
    refine k_iconst (v := 1) f_275_92 (by decide) ?_
    refine M_iaload (q := 1) f_275_93 ⟨by decide, by decide, by decide, fun _ => rfl⟩ (Nat.le_of_ble_eq_true rfl : 10759 < 2 ^ 31) (by decide) (by decide) ?_
    refine s_ireturn f_275_94 rfl rfl ?_
    cases hd
    exact hQ
  replace hd := ite_n c5 hd
  by_cases c6 : a1 = 2
  · replace hd := ite_p c6 hd
    refine s_tabJ (off := 92) (2 : Int32) 95 c6 f_275_3 (by decide) (by decide) (by decide) (by decide) ?_
    refine s_aload_n f_275_95 rfl ?_
    refine L_getR f_275_96 fd_12_7 (obL (by decide)) (by decide) (by decide : rf 154 0 = 155) ?_
    refine k_iconst (v := 2) f_275_99 (by decide) ?_
    refine M_iaload (q := 2) f_275_100 ⟨by decide, by decide, by decide, fun _ => rfl⟩ (Nat.le_of_ble_eq_true rfl : 10759 < 2 ^ 31) (by decide) (by decide) ?_
    refine s_ireturn f_275_101 rfl rfl ?_
    cases hd
    exact hQ
  replace hd := ite_n c6 hd
  by_cases c7 : a1 = 3
  · replace hd := ite_p c7 hd
    refine s_tabJ (off := 99) (3 : Int32) 102 c7 f_275_3 (by decide) (by decide) (by decide) (by decide) ?_
    refine k_iconst (v := 0) f_275_102 (by decide) ?_
    refine s_istore_n f_275_103 (by decide) ?_
    refine aAt.sub [(0, .ref 154), (2, .int (0 : Int32)), (3, .int (0 : Int32))] rfl ?_
    exact t_rM_count_L104 FU _ _ _  _ hd hQ
  replace hd := ite_n c7 hd
  by_cases c11 : a1 = 4
  · replace hd := ite_p c11 hd
    refine s_tabJ (off := 135) (4 : Int32) 138 c11 f_275_3 (by decide) (by decide) (by decide) (by decide) ?_
    refine s_aload_n f_275_138 rfl ?_
    refine L_getR f_275_139 fd_12_7 (obL (by decide)) (by decide) (by decide : rf 154 0 = 155) ?_
    refine k_iconst (v := 3) f_275_142 (by decide) ?_
    refine M_iaload (q := 3) f_275_143 ⟨by decide, by decide, by decide, fun _ => rfl⟩ (Nat.le_of_ble_eq_true rfl : 10759 < 2 ^ 31) (by decide) (by decide) ?_
    refine s_ireturn f_275_144 rfl rfl ?_
    cases hd
    exact hQ
  replace hd := ite_n c11 hd
  by_cases c12 : a1 = 5
  · replace hd := ite_p c12 hd
    refine s_tabJ (off := 142) (5 : Int32) 145 c12 f_275_3 (by decide) (by decide) (by decide) (by decide) ?_
    refine k_iconst (v := 0) f_275_145 (by decide) ?_
    refine s_istore_n f_275_146 (by decide) ?_
    refine aAt.sub [(0, .ref 154), (2, .int (0 : Int32)), (3, .int (0 : Int32))] rfl ?_
    exact t_rM_count_L147 FU _ _ _  _ hd hQ
  replace hd := ite_n c12 hd
  by_cases c15 : a1 = 6
  · replace hd := ite_p c15 hd
    refine s_tabJ (off := 172) (6 : Int32) 175 c15 f_275_3 (by decide) (by decide) (by decide) (by decide) ?_
    refine s_aload_n f_275_175 rfl ?_
    refine L_getR f_275_176 fd_12_7 (obL (by decide)) (by decide) (by decide : rf 154 0 = 155) ?_
    refine k_iconst (v := 5) f_275_179 (by decide) ?_
    refine M_iaload (q := 5) f_275_180 ⟨by decide, by decide, by decide, fun _ => rfl⟩ (Nat.le_of_ble_eq_true rfl : 10759 < 2 ^ 31) (by decide) (by decide) ?_
    refine s_ireturn f_275_181 rfl rfl ?_
    cases hd
    exact hQ
  replace hd := ite_n c15 hd
  by_cases c16 : a1 = 7
  · replace hd := ite_p c16 hd
    refine s_tabJ (off := 179) (7 : Int32) 182 c16 f_275_3 (by decide) (by decide) (by decide) (by decide) ?_
    refine s_aload_n f_275_182 rfl ?_
    refine L_getR f_275_183 fd_12_7 (obL (by decide)) (by decide) (by decide : rf 154 0 = 155) ?_
    refine k_bipush (v := 6) f_275_186 (by decide) ?_
    refine M_iaload (q := 6) f_275_188 ⟨by decide, by decide, by decide, fun _ => rfl⟩ (Nat.le_of_ble_eq_true rfl : 10759 < 2 ^ 31) (by decide) (by decide) ?_
    refine s_ireturn f_275_189 rfl rfl ?_
    cases hd
    exact hQ
  replace hd := ite_n c16 hd
  by_cases c17 : a1 = 8
  · replace hd := ite_p c17 hd
    refine s_tabJ (off := 187) (8 : Int32) 190 c17 f_275_3 (by decide) (by decide) (by decide) (by decide) ?_
    refine s_aload_n f_275_190 rfl ?_
    refine M_getI f_275_191 fd_12_65 (by decide) ?_
    refine s_ireturn f_275_194 rfl rfl ?_
    cases hd
    exact hQ
  replace hd := ite_n c17 hd
  refine s_tableOut 195 f_275_3 (sw_out (lo := 0) (n := 8) (by decide) (by decide) (fun j hj e => by
    have : j = 0 ∨ j = 1 ∨ j = 2 ∨ j = 3 ∨ j = 4 ∨ j = 5 ∨ j = 6 ∨ j = 7 ∨ j = 8 := by omega
    rcases this with rfl | rfl | rfl | rfl | rfl | rfl | rfl | rfl | rfl
    · exact c1 (e.trans (by decide))
    · exact c5 (e.trans (by decide))
    · exact c6 (e.trans (by decide))
    · exact c7 (e.trans (by decide))
    · exact c11 (e.trans (by decide))
    · exact c12 (e.trans (by decide))
    · exact c15 (e.trans (by decide))
    · exact c16 (e.trans (by decide))
    · exact c17 (e.trans (by decide)))) (by decide) ?_
  refine s_aload_n f_275_195 rfl ?_
  refine s_ldc f_275_196 ko_12_77 ?_
  replace hd := obind hd
  obtain ⟨p18, e18, hd⟩ := hd
  refine L_virt (As := [.int (-100001 : Int32)]) f_275_198 ca_12_78 rfl rfl (obL (by decide)) (by decide) (Nat.le_of_ble_eq_true rfl) ?_
  refine t_rM_finds e18 ?_
  refine s_ireturn f_275_201 rfl rfl ?_
  cases hd
  exact hQ
