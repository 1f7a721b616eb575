def cD_chain (S : SS) (a1 : Int32) : Option (Int32 × SS) :=
  (cLand_hasPaper S a1).bind fun p1 =>
  if p1 = true then
    (cLand_unableWithout S a1).bind fun p4 =>
    some (p4.1, p4.2)
  else
    (cD_found S (-100001 : Int32)).bind fun p3 =>
    some (p3.1, p3.2)
theorem t_cD_chain {l : Launch} {G : aG} {d : Nat} {Q : Option Value → aHeap → Prop} {sl : Nat} {sx : Nat → Int32} {S : SS} {K : KS} {T : TS} {X : XS} {M : SS} {a1 : Int32} {p : Int32 × SS} (hd : cD_chain S a1 = some p) (hQ : Q (some (.int p.1)) (LH (old0 sl sx) p.2 K T X M)) : aCall l G (d + 4) 0 0 142 [.ref 8, .int a1] (LH (old0 sl sx) S K T X M) Q := by
  refine aCall.of (by decide) (Nat.le_of_ble_eq_true rfl) ?_
  refine aAt.sub [(0, .ref 8), (1, .int a1)] rfl ?_
  unfold cD_chain at hd
  refine s_aload_n f_142_0 rfl ?_
  refine L_getR f_142_1 fd_0_10 (obL (by decide)) (by decide) (by decide : rf 8 0 = 9) ?_
  refine s_iload_n f_142_4 rfl ?_
  replace hd := obind hd
  obtain ⟨p1, e1, hd⟩ := hd
  refine L_virt (As := [.int a1]) f_142_5 ca_0_203 rfl rfl (obL (by decide)) (by decide) (Nat.le_of_ble_eq_true rfl) ?_
  refine t_cLand_hasPaper e1 ?_
  refine z_if_eq 22 f_142_8 (by decide) (fun c2 => ?_) (fun c2 => ?_)
  · replace hd := ite_n c2 hd
    refine s_aload_n f_142_22 rfl ?_
    refine s_ldc f_142_23 ko_0_83 ?_
    replace hd := obind hd
    obtain ⟨p3, e3, hd⟩ := hd
    refine L_virt (As := [.int (-100001 : Int32)]) f_142_25 ca_0_84 rfl rfl (obL (by decide)) (by decide) (Nat.le_of_ble_eq_true rfl) ?_
    refine t_cD_found e3 ?_
    refine s_ireturn f_142_28 rfl rfl ?_
    cases hd
    exact hQ
  · replace hd := ite_p c2 hd
    refine s_aload_n f_142_11 rfl ?_
    refine L_getR f_142_12 fd_0_10 (obL (by decide)) (by decide) (by decide : rf 8 0 = 9) ?_
    refine s_iload_n f_142_15 rfl ?_
    replace hd := obind hd
    obtain ⟨p4, e4, hd⟩ := hd
    refine L_virt (As := [.int a1]) f_142_16 ca_0_332 rfl rfl (obL (by decide)) (by decide) (Nat.le_of_ble_eq_true rfl) ?_
    refine t_cLand_unableWithout e4 ?_
    refine s_goto 28 f_142_19 (by decide) ?_
    refine s_ireturn f_142_28 rfl rfl ?_
    cases hd
    exact hQ

def cD_isPurse (a0 : Int32) : Option (Bool) :=
  (cD_within a0 (0 : Int32) (60 : Int32)).bind fun p1 =>
  some p1
theorem t_cD_isPurse {l : Launch} {G : aG} {d : Nat} {Q : Option Value → aHeap → Prop} {sl : Nat} {sx : Nat → Int32} {S : SS} {K : KS} {T : TS} {X : XS} {M : SS} {a0 : Int32} {p : Bool} (hd : cD_isPurse a0 = some p) (hQ : Q (some (.int (b2i p))) (LH (old0 sl sx) S K T X M)) : aCall l G (d + 1) 0 0 147 [.int a0] (LH (old0 sl sx) S K T X M) Q := by
  refine aCall.of (by decide) (Nat.le_of_ble_eq_true rfl) ?_
  refine aAt.sub [(0, .int a0)] rfl ?_
  unfold cD_isPurse at hd
  refine s_iload_n f_147_0 rfl ?_
  refine k_iconst (v := 0) f_147_1 (by decide) ?_
  refine k_bipush (v := 60) f_147_2 (by decide) ?_
  replace hd := obind hd
  obtain ⟨p1, e1, hd⟩ := hd
  refine L_stat (As := [.int a0, .int (0 : Int32), .int (60 : Int32)]) f_147_4 ca_0_75 rfl rfl (Nat.le_of_ble_eq_true rfl) ?_
  refine t_cD_within e1 ?_
  refine s_iretB (b := p1) f_147_7 rfl ?_
  cases hd
  exact hQ

def cD_mayLast (a0 : Int32) (a1 : Int32) (a2 : Int32) (a3 : Int32) : Option (Bool) :=
  (cD_isPurse a0).bind fun p1 =>
  if p1 = true then
    (cD_isPurse a1).bind fun p3 =>
    if p3 = true then
      (cD_within a2 (0 : Int32) (8 : Int32)).bind fun p5 =>
      if p5 = true then
        (cD_isHarvest (a3 / (100 : Int32))).bind fun p7 =>
        if p7 = true then
          (cD_isHarvest (a3 - a3 / (100 : Int32) * (100 : Int32))).bind fun p9 =>
          if p9 = true then
            if (a3 - a3 / (100 : Int32) * (100 : Int32)) < (a3 / (100 : Int32)) then
              some false
            else
              some true
          else
            some false
        else
          some false
      else
        some false
    else
      some false
  else
    some false
theorem t_cD_mayLast {l : Launch} {G : aG} {d : Nat} {Q : Option Value → aHeap → Prop} {sl : Nat} {sx : Nat → Int32} {S : SS} {K : KS} {T : TS} {X : XS} {M : SS} {a0 : Int32} {a1 : Int32} {a2 : Int32} {a3 : Int32} {p : Bool} (hd : cD_mayLast a0 a1 a2 a3 = some p) (hQ : Q (some (.int (b2i p))) (LH (old0 sl sx) S K T X M)) : aCall l G (d + 2) 0 0 146 [.int a0, .int a1, .int a2, .int a3] (LH (old0 sl sx) S K T X M) Q := by
  refine aCall.of (by decide) (Nat.le_of_ble_eq_true rfl) ?_
  refine aAt.sub [(0, .int a0), (1, .int a1), (2, .int a2), (3, .int a3)] rfl ?_
  unfold cD_mayLast at hd
  refine s_iload_n f_146_0 rfl ?_
  refine k_bipush (v := 100) f_146_1 (by decide) ?_
  refine s_idiv f_146_3 (by decide) ?_
  refine s_istore f_146_4 (by decide) ?_
  refine s_iload_n f_146_6 rfl ?_
  refine k_bipush (v := 100) f_146_7 (by decide) ?_
  refine s_irem f_146_9 (by decide) ?_
  refine s_istore f_146_10 (by decide) ?_
  refine s_iload_n f_146_12 rfl ?_
  replace hd := obind hd
  obtain ⟨p1, e1, hd⟩ := hd
  refine L_stat (As := [.int a0]) f_146_13 ca_0_350 rfl rfl (Nat.le_of_ble_eq_true rfl) ?_
  refine t_cD_isPurse e1 ?_
  refine z_if_eq 63 f_146_16 (by decide) (fun c2 => ?_) (fun c2 => ?_)
  · replace hd := ite_n c2 hd
    refine k_iconst (v := 0) f_146_63 (by decide) ?_
    refine s_iretB (b := false) f_146_64 rfl ?_
    cases hd
    exact hQ
  · replace hd := ite_p c2 hd
    refine s_iload_n f_146_19 rfl ?_
    replace hd := obind hd
    obtain ⟨p3, e3, hd⟩ := hd
    refine L_stat (As := [.int a1]) f_146_20 ca_0_350 rfl rfl (Nat.le_of_ble_eq_true rfl) ?_
    refine t_cD_isPurse e3 ?_
    refine z_if_eq 63 f_146_23 (by decide) (fun c4 => ?_) (fun c4 => ?_)
    · replace hd := ite_n c4 hd
      refine k_iconst (v := 0) f_146_63 (by decide) ?_
      refine s_iretB (b := false) f_146_64 rfl ?_
      cases hd
      exact hQ
    · replace hd := ite_p c4 hd
      refine s_iload_n f_146_26 rfl ?_
      refine k_iconst (v := 0) f_146_27 (by decide) ?_
      refine k_bipush (v := 8) f_146_28 (by decide) ?_
      replace hd := obind hd
      obtain ⟨p5, e5, hd⟩ := hd
      refine L_stat (As := [.int a2, .int (0 : Int32), .int (8 : Int32)]) f_146_30 ca_0_75 rfl rfl (Nat.le_of_ble_eq_true rfl) ?_
      refine t_cD_within e5 ?_
      refine z_if_eq 63 f_146_33 (by decide) (fun c6 => ?_) (fun c6 => ?_)
      · replace hd := ite_n c6 hd
        refine k_iconst (v := 0) f_146_63 (by decide) ?_
        refine s_iretB (b := false) f_146_64 rfl ?_
        cases hd
        exact hQ
      · replace hd := ite_p c6 hd
        refine s_iload f_146_36 rfl ?_
        replace hd := obind hd
        obtain ⟨p7, e7, hd⟩ := hd
        refine L_stat (As := [.int (a3 / (100 : Int32))]) f_146_38 ca_0_316 rfl rfl (Nat.le_of_ble_eq_true rfl) ?_
        refine t_cD_isHarvest e7 ?_
        refine z_if_eq 63 f_146_41 (by decide) (fun c8 => ?_) (fun c8 => ?_)
        · replace hd := ite_n c8 hd
          refine k_iconst (v := 0) f_146_63 (by decide) ?_
          refine s_iretB (b := false) f_146_64 rfl ?_
          cases hd
          exact hQ
        · replace hd := ite_p c8 hd
          refine s_iload f_146_44 rfl ?_
          replace hd := obind hd
          obtain ⟨p9, e9, hd⟩ := hd
          refine L_stat (As := [.int (a3 - a3 / (100 : Int32) * (100 : Int32))]) f_146_46 ca_0_316 rfl rfl (Nat.le_of_ble_eq_true rfl) ?_
          refine t_cD_isHarvest e9 ?_
          refine z_if_eq 63 f_146_49 (by decide) (fun c10 => ?_) (fun c10 => ?_)
          · replace hd := ite_n c10 hd
            refine k_iconst (v := 0) f_146_63 (by decide) ?_
            refine s_iretB (b := false) f_146_64 rfl ?_
            cases hd
            exact hQ
          · replace hd := ite_p c10 hd
            refine s_iload f_146_52 rfl ?_
            refine s_iload f_146_54 rfl ?_
            refine s_icmp_gt 63 f_146_56 (by decide) (fun c11 => ?_) (fun c11 => ?_)
            · replace hd := ite_p c11 hd
              refine k_iconst (v := 0) f_146_63 (by decide) ?_
              refine s_iretB (b := false) f_146_64 rfl ?_
              cases hd
              exact hQ
            · replace hd := ite_n c11 hd
              refine k_iconst (v := 1) f_146_59 (by decide) ?_
              refine s_goto 64 f_146_60 (by decide) ?_
              refine s_iretB (b := true) f_146_64 rfl ?_
              cases hd
              exact hQ

def cThrift_expect (S : SS) (K : KS) (a1 : Int32) : Option (SS × KS) :=
  if a1 = (S 143 0) then
    some (S, K)
  else
    (cFillL K (0 : Int64)).bind fun p2 =>
    some ((up S 143 0 a1), p2)
theorem t_cThrift_expect {l : Launch} {G : aG} {d : Nat} {Q : Option Value → aHeap → Prop} {sl : Nat} {sx : Nat → Int32} {S : SS} {K : KS} {T : TS} {X : XS} {M : SS} {a1 : Int32} {p : SS × KS} (hd : cThrift_expect S K a1 = some p) (hQ : Q none (LH (old0 sl sx) p.1 p.2 T X M)) : aCall l G (d + 1) 0 0 148 [.ref 143, .int a1] (LH (old0 sl sx) S K T X M) Q := by
  refine aCall.of (by decide) (Nat.le_of_ble_eq_true rfl) ?_
  refine aAt.sub [(0, .ref 143), (1, .int a1)] rfl ?_
  unfold cThrift_expect at hd
  refine s_iload_n f_148_0 rfl ?_
  refine s_aload_n f_148_1 rfl ?_
  refine C_getI f_148_2 fd_11_11 (ocl (by decide)) (by decide) ?_
  refine s_icmp_eq 21 f_148_5 (by decide) (fun c1 => ?_) (fun c1 => ?_)
  · replace hd := ite_p c1 hd
    refine s_return f_148_21 rfl ?_
    cases hd
    exact hQ
  · replace hd := ite_n c1 hd
    refine s_aload_n f_148_8 rfl ?_
    refine s_iload_n f_148_9 rfl ?_
    refine C_putI f_148_10 fd_11_11 (ocl (by decide)) (by decide) (Or.inl rfl) (by decide) ?_
    refine s_aload_n f_148_13 rfl ?_
    refine L_getR f_148_14 fd_11_15 (obL (by decide)) (by decide) (by decide : rf 143 1 = 144) ?_
    refine k_lconst (v := 0) f_148_17 (by decide) ?_
    replace hd := obind hd
    obtain ⟨p2, e2, hd⟩ := hd
    refine L_stat (As := [.ref 144, .long (0 : Int64)]) f_148_18 ca_11_19 rfl rfl (Nat.le_of_ble_eq_true rfl) ?_
    refine t_cFillL e2 ?_
    refine s_return f_148_21 rfl ?_
    cases hd
    exact hQ

def cThrift_hungerWith (a0 : Int32) : Option (Int32) :=
  some (if (0 : Int32) < ((10 : Int32) - a0) then ((10 : Int32) - a0) else (0 : Int32))
theorem t_cThrift_hungerWith {l : Launch} {G : aG} {d : Nat} {Q : Option Value → aHeap → Prop} {sl : Nat} {sx : Nat → Int32} {S : SS} {K : KS} {T : TS} {X : XS} {M : SS} {a0 : Int32} {p : Int32} (hd : cThrift_hungerWith a0 = some p) (hQ : Q (some (.int p)) (LH (old0 sl sx) S K T X M)) : aCall l G (d + 1) 0 0 154 [.int a0] (LH (old0 sl sx) S K T X M) Q := by
  refine aCall.of (by decide) (Nat.le_of_ble_eq_true rfl) ?_
  refine aAt.sub [(0, .int a0)] rfl ?_
  unfold cThrift_hungerWith at hd
  refine k_iconst (v := 0) f_154_0 (by decide) ?_
  refine k_bipush (v := 10) f_154_1 (by decide) ?_
  refine s_iload_n f_154_3 rfl ?_
  refine s_isub f_154_4 ?_
  refine s_max f_154_5 ca_11_69 (Nat.le_of_ble_eq_true rfl) ?_
  refine s_ireturn f_154_8 rfl rfl ?_
  cases hd
  exact hQ

def cThrift_keptOf (a0 : Int32) : Option (Int32) :=
  some (if (if (0 : Int32) < (a0 - (10 : Int32)) then (a0 - (10 : Int32)) else (0 : Int32)) < (60 : Int32) then (if (0 : Int32) < (a0 - (10 : Int32)) then (a0 - (10 : Int32)) else (0 : Int32)) else (60 : Int32))
theorem t_cThrift_keptOf {l : Launch} {G : aG} {d : Nat} {Q : Option Value → aHeap → Prop} {sl : Nat} {sx : Nat → Int32} {S : SS} {K : KS} {T : TS} {X : XS} {M : SS} {a0 : Int32} {p : Int32} (hd : cThrift_keptOf a0 = some p) (hQ : Q (some (.int p)) (LH (old0 sl sx) S K T X M)) : aCall l G (d + 1) 0 0 155 [.int a0] (LH (old0 sl sx) S K T X M) Q := by
  refine aCall.of (by decide) (Nat.le_of_ble_eq_true rfl) ?_
  refine aAt.sub [(0, .int a0)] rfl ?_
  unfold cThrift_keptOf at hd
  refine k_bipush (v := 60) f_155_0 (by decide) ?_
  refine k_iconst (v := 0) f_155_2 (by decide) ?_
  refine s_iload_n f_155_3 rfl ?_
  refine k_bipush (v := 10) f_155_4 (by decide) ?_
  refine s_isub f_155_6 ?_
  refine s_max f_155_7 ca_11_69 (Nat.le_of_ble_eq_true rfl) ?_
  refine s_min f_155_10 ca_11_41 (Nat.le_of_ble_eq_true rfl) ?_
  refine s_ireturn f_155_13 rfl rfl ?_
  cases hd
  exact hQ

def cThrift_paying (fT : KS → Int32 → Int32 → Int32 → Option (Int32 × KS)) (S : SS) (K : KS) (a1 : Int32) (a2 : Int32) (a3 : Int32) (a4 : Int32) : Option (Int32 × KS) :=
  (cThrift_hungerWith (a2 - a1)).bind fun p1 =>
  (cThrift_keptOf (a2 - a1)).bind fun p2 =>
  (fT K p2 (a3 - a1) (a4 - (1 : Int32))).bind fun p3 =>
  some ((p1 + p3.1), p3.2)
theorem t_cThrift_paying {l : Launch} {G : aG} {d : Nat} {Q : Option Value → aHeap → Prop} {sl : Nat} {sx : Nat → Int32} {S : SS} {K : KS} {T : TS} {X : XS} {M : SS} {fT : KS → Int32 → Int32 → Int32 → Option (Int32 × KS)} {a1 : Int32} {a2 : Int32} {a3 : Int32} {a4 : Int32} (hfT : ∀ (e : Nat) (K : KS) (a1 : Int32) (a2 : Int32) (a3 : Int32) (p : Int32 × KS) (Q : Option Value → aHeap → Prop), fT K a1 a2 a3 = some p → Q (some (.int p.1)) (LH (old0 sl sx) S p.2 T X M) → aCall l G (d + 2 + e) 0 0 150 [.ref 143, .int a1, .int a2, .int a3] (LH (old0 sl sx) S K T X M) Q) {p : Int32 × KS} (hd : cThrift_paying fT S K a1 a2 a3 a4 = some p) (hQ : Q (some (.int p.1)) (LH (old0 sl sx) S p.2 T X M)) : aCall l G (d + 3) 0 0 153 [.ref 143, .int a1, .int a2, .int a3, .int a4] (LH (old0 sl sx) S K T X M) Q := by
  refine aCall.of (by decide) (Nat.le_of_ble_eq_true rfl) ?_
  refine aAt.sub [(0, .ref 143), (1, .int a1), (2, .int a2), (3, .int a3), (4, .int a4)] rfl ?_
  unfold cThrift_paying at hd
  refine s_iload_n f_153_0 rfl ?_
  refine s_iload_n f_153_1 rfl ?_
  refine s_isub f_153_2 ?_
  refine s_istore f_153_3 (by decide) ?_
  refine s_iload f_153_5 rfl ?_
  replace hd := obind hd
  obtain ⟨p1, e1, hd⟩ := hd
  refine L_stat (As := [.int (a2 - a1)]) f_153_7 ca_11_46 rfl rfl (Nat.le_of_ble_eq_true rfl) ?_
  refine t_cThrift_hungerWith e1 ?_
  refine s_aload_n f_153_10 rfl ?_
  refine s_iload f_153_11 rfl ?_
  replace hd := obind hd
  obtain ⟨p2, e2, hd⟩ := hd
  refine L_stat (As := [.int (a2 - a1)]) f_153_13 ca_11_50 rfl rfl (Nat.le_of_ble_eq_true rfl) ?_
  refine t_cThrift_keptOf e2 ?_
  refine s_iload_n f_153_16 rfl ?_
  refine s_iload_n f_153_17 rfl ?_
  refine s_isub f_153_18 ?_
  refine s_iload f_153_19 rfl ?_
  refine k_iconst (v := 1) f_153_21 (by decide) ?_
  refine s_isub f_153_22 ?_
  replace hd := obind hd
  obtain ⟨p3, e3, hd⟩ := hd
  refine L_virt (As := [.int p2, .int (a3 - a1), .int (a4 - (1 : Int32))]) f_153_23 ca_11_53 rfl rfl (obL (by decide)) (by decide) (Nat.le_of_ble_eq_true rfl) ?_
  refine hfT 0 _ _ _ _ _ _ e3 ?_
  refine s_iadd f_153_26 ?_
  refine s_ireturn f_153_27 rfl rfl ?_
  cases hd
  exact hQ

def cThrift_mostPayment (a0 : Int32) (a1 : Int32) : Option (Int32) :=
  some (if (if a1 < a0 then a1 else a0) < (9 : Int32) then (if a1 < a0 then a1 else a0) else (9 : Int32))
theorem t_cThrift_mostPayment {l : Launch} {G : aG} {d : Nat} {Q : Option Value → aHeap → Prop} {sl : Nat} {sx : Nat → Int32} {S : SS} {K : KS} {T : TS} {X : XS} {M : SS} {a0 : Int32} {a1 : Int32} {p : Int32} (hd : cThrift_mostPayment a0 a1 = some p) (hQ : Q (some (.int p)) (LH (old0 sl sx) S K T X M)) : aCall l G (d + 1) 0 0 152 [.int a0, .int a1] (LH (old0 sl sx) S K T X M) Q := by
  refine aCall.of (by decide) (Nat.le_of_ble_eq_true rfl) ?_
  refine aAt.sub [(0, .int a0), (1, .int a1)] rfl ?_
  unfold cThrift_mostPayment at hd
  refine k_bipush (v := 9) f_152_0 (by decide) ?_
  refine s_iload_n f_152_2 rfl ?_
  refine s_iload_n f_152_3 rfl ?_
  refine s_min f_152_4 ca_11_41 (Nat.le_of_ble_eq_true rfl) ?_
  refine s_min f_152_7 ca_11_41 (Nat.le_of_ble_eq_true rfl) ?_
  refine s_ireturn f_152_10 rfl rfl ?_
  cases hd
  exact hQ

def cThrift_leastHunger_L20 (fT : KS → Int32 → Int32 → Int32 → Option (Int32 × KS)) (S : SS) : Nat → KS → Int32 → Int32 → Int32 → Int32 → Int32 → Int32 → Option (Int32 × KS)
  | 0, _, _, _, _, _, _, _ => none
  | n + 1, K, a1, a2, a3, a4, a5, a6 =>
    if a4 < a6 then
      some (a5, K)
    else
      (cThrift_paying fT S K a6 a1 a2 a3).bind fun p4 =>
      cThrift_leastHunger_L20 fT S  n p4.2 a1 a2 a3 a4 (if p4.1 < a5 then p4.1 else a5) (a6 + 1)
theorem t_cThrift_leastHunger_L20 {l : Launch} {G : aG} {d : Nat} {Q : Option Value → aHeap → Prop} {sl : Nat} {sx : Nat → Int32} {S : SS} {T : TS} {X : XS} {M : SS} {fT : KS → Int32 → Int32 → Int32 → Option (Int32 × KS)} (hfT : ∀ (e : Nat) (K : KS) (a1 : Int32) (a2 : Int32) (a3 : Int32) (p : Int32 × KS) (Q : Option Value → aHeap → Prop), fT K a1 a2 a3 = some p → Q (some (.int p.1)) (LH (old0 sl sx) S p.2 T X M) → aCall l G (d + 2 + e) 0 0 150 [.ref 143, .int a1, .int a2, .int a3] (LH (old0 sl sx) S K T X M) Q) : ∀ (n : Nat), ∀ (K : KS) (a1 : Int32) (a2 : Int32) (a3 : Int32) (a4 : Int32) (a5 : Int32) (a6 : Int32) (p : Int32 × KS), cThrift_leastHunger_L20 fT S n K a1 a2 a3 a4 a5 a6 = some p → Q (some (.int p.1)) (LH (old0 sl sx) S p.2 T X M) → aAt l G (d + 4) 0 0 151 20 [(0, .ref 143), (1, .int a1), (2, .int a2), (3, .int a3), (4, .int a4), (5, .int a5), (6, .int a6)] [] 0 0 (LH (old0 sl sx) S K T X M) Q := by
  intro n
  induction n with
  | zero =>
    intro K a1 a2 a3 a4 a5 a6 p hd hQ
    rw [cThrift_leastHunger_L20] at hd
    cases hd
  | succ n ih =>
    intro K a1 a2 a3 a4 a5 a6 p hd hQ
    rw [cThrift_leastHunger_L20] at hd
    refine s_iload f_151_20 rfl ?_
    refine s_iload f_151_22 rfl ?_
    refine s_icmp_gt 49 f_151_24 (by decide) (fun c3 => ?_) (fun c3 => ?_)
    · replace hd := ite_p c3 hd
      refine s_iload f_151_49 rfl ?_
      refine s_ireturn f_151_51 rfl rfl ?_
      cases hd
      exact hQ
    · replace hd := ite_n c3 hd
      refine s_iload f_151_27 rfl ?_
      refine s_aload_n f_151_29 rfl ?_
      refine s_iload f_151_30 rfl ?_
      refine s_iload_n f_151_32 rfl ?_
      refine s_iload_n f_151_33 rfl ?_
      refine s_iload_n f_151_34 rfl ?_
      replace hd := obind hd
      obtain ⟨p4, e4, hd⟩ := hd
      refine L_virt (As := [.int a6, .int a1, .int a2, .int a3]) f_151_35 ca_11_37 rfl rfl (obL (by decide)) (by decide) (Nat.le_of_ble_eq_true rfl) ?_
      refine t_cThrift_paying hfT e4 ?_
      refine s_min f_151_38 ca_11_41 (Nat.le_of_ble_eq_true rfl) ?_
      refine s_istore f_151_41 (by decide) ?_
      refine k_iinc (w := 1) f_151_43 rfl (by decide) (by decide) ?_
      refine s_goto 20 f_151_46 (by decide) ?_
      refine aAt.sub [(0, .ref 143), (1, .int a1), (2, .int a2), (3, .int a3), (4, .int a4), (5, .int (if p4.1 < a5 then p4.1 else a5)), (6, .int (a6 + 1))] rfl ?_
      exact ih _ _ _ _ _ _ _  _ hd hQ
def cThrift_leastHunger (fT : KS → Int32 → Int32 → Int32 → Option (Int32 × KS)) (S : SS) (K : KS) (a1 : Int32) (a2 : Int32) (a3 : Int32) : Option (Int32 × KS) :=
  (cThrift_mostPayment a1 a2).bind fun p1 =>
  (cThrift_paying fT S K (0 : Int32) a1 a2 a3).bind fun p2 =>
  cThrift_leastHunger_L20 fT S FU p2.2 a1 a2 a3 p1 p2.1 (1 : Int32)
theorem t_cThrift_leastHunger {l : Launch} {G : aG} {d : Nat} {Q : Option Value → aHeap → Prop} {sl : Nat} {sx : Nat → Int32} {S : SS} {K : KS} {T : TS} {X : XS} {M : SS} {fT : KS → Int32 → Int32 → Int32 → Option (Int32 × KS)} {a1 : Int32} {a2 : Int32} {a3 : Int32} (hfT : ∀ (e : Nat) (K : KS) (a1 : Int32) (a2 : Int32) (a3 : Int32) (p : Int32 × KS) (Q : Option Value → aHeap → Prop), fT K a1 a2 a3 = some p → Q (some (.int p.1)) (LH (old0 sl sx) S p.2 T X M) → aCall l G (d + 2 + e) 0 0 150 [.ref 143, .int a1, .int a2, .int a3] (LH (old0 sl sx) S K T X M) Q) {p : Int32 × KS} (hd : cThrift_leastHunger fT S K a1 a2 a3 = some p) (hQ : Q (some (.int p.1)) (LH (old0 sl sx) S p.2 T X M)) : aCall l G (d + 4) 0 0 151 [.ref 143, .int a1, .int a2, .int a3] (LH (old0 sl sx) S K T X M) Q := by
  refine aCall.of (by decide) (Nat.le_of_ble_eq_true rfl) ?_
  refine aAt.sub [(0, .ref 143), (1, .int a1), (2, .int a2), (3, .int a3)] rfl ?_
  unfold cThrift_leastHunger at hd
  refine s_iload_n f_151_0 rfl ?_
  refine s_iload_n f_151_1 rfl ?_
  replace hd := obind hd
  obtain ⟨p1, e1, hd⟩ := hd
  refine L_stat (As := [.int a1, .int a2]) f_151_2 ca_11_33 rfl rfl (Nat.le_of_ble_eq_true rfl) ?_
  refine t_cThrift_mostPayment e1 ?_
  refine s_istore f_151_5 (by decide) ?_
  refine s_aload_n f_151_7 rfl ?_
  refine k_iconst (v := 0) f_151_8 (by decide) ?_
  refine s_iload_n f_151_9 rfl ?_
  refine s_iload_n f_151_10 rfl ?_
  refine s_iload_n f_151_11 rfl ?_
  replace hd := obind hd
  obtain ⟨p2, e2, hd⟩ := hd
  refine L_virt (As := [.int (0 : Int32), .int a1, .int a2, .int a3]) f_151_12 ca_11_37 rfl rfl (obL (by decide)) (by decide) (Nat.le_of_ble_eq_true rfl) ?_
  refine t_cThrift_paying hfT e2 ?_
  refine s_istore f_151_15 (by decide) ?_
  refine k_iconst (v := 1) f_151_17 (by decide) ?_
  refine s_istore f_151_18 (by decide) ?_
  refine aAt.sub [(0, .ref 143), (1, .int a1), (2, .int a2), (3, .int a3), (4, .int p1), (5, .int p2.1), (6, .int (1 : Int32))] rfl ?_
  exact t_cThrift_leastHunger_L20 hfT FU _ _ _ _ _ _ _  _ hd hQ

def cThrift_sureHunger (fT : KS → Int32 → Int32 → Int32 → Option (Int32 × KS)) (S : SS) (K : KS) (a1 : Int32) (a2 : Int32) (a3 : Int32) : Option (Int32 × KS) :=
  if a3 < (1 : Int32) then
    some (((2 : Int32) * a2), K)
  else
    if a3 ≤ (8 : Int32) then
      (cD_within ((a1 * (61 : Int32)) + a2) (0 : Int32) ((3721 : Int32) - (1 : Int32))).bind fun p3 =>
      if p3 = true then
        if inb ((a1 * (61 : Int32)) + a2) 3721 then
          if (((((K (ix ((a1 * (61 : Int32)) + a2))).toUInt64 >>> (((8 : Int32) * (a3 - (1 : Int32))).toInt64.toUInt64 &&& Int64.toUInt64 63)).toInt64).toInt32) &&& (255 : Int32)) ≤ 0 then
            (cThrift_leastHunger fT S K (a1 + (S 143 0)) a2 a3).bind fun p7 =>
            some (p7.1, (upK p7.2 (ix ((a1 * (61 : Int32)) + a2)) ((p7.2 (ix ((a1 * (61 : Int32)) + a2))) ||| (((p7.1 + (1 : Int32)).toInt64) <<< (((8 : Int32) * (a3 - (1 : Int32))).toInt64 &&& 63)))))
          else
            some (((((((K (ix ((a1 * (61 : Int32)) + a2))).toUInt64 >>> (((8 : Int32) * (a3 - (1 : Int32))).toInt64.toUInt64 &&& Int64.toUInt64 63)).toInt64).toInt32) &&& (255 : Int32)) - (1 : Int32)), K)
        else none
      else
        some (((2 : Int32) * a2), K)
    else
      some (((2 : Int32) * a2), K)
theorem t_cThrift_sureHunger {l : Launch} {G : aG} {d : Nat} {Q : Option Value → aHeap → Prop} {sl : Nat} {sx : Nat → Int32} {S : SS} {K : KS} {T : TS} {X : XS} {M : SS} {fT : KS → Int32 → Int32 → Int32 → Option (Int32 × KS)} {a1 : Int32} {a2 : Int32} {a3 : Int32} (hfT : ∀ (e : Nat) (K : KS) (a1 : Int32) (a2 : Int32) (a3 : Int32) (p : Int32 × KS) (Q : Option Value → aHeap → Prop), fT K a1 a2 a3 = some p → Q (some (.int p.1)) (LH (old0 sl sx) S p.2 T X M) → aCall l G (d + 2 + e) 0 0 150 [.ref 143, .int a1, .int a2, .int a3] (LH (old0 sl sx) S K T X M) Q) {p : Int32 × KS} (hd : cThrift_sureHunger fT S K a1 a2 a3 = some p) (hQ : Q (some (.int p.1)) (LH (old0 sl sx) S p.2 T X M)) : aCall l G (d + 5) 0 0 150 [.ref 143, .int a1, .int a2, .int a3] (LH (old0 sl sx) S K T X M) Q := by
  refine aCall.of (by decide) (Nat.le_of_ble_eq_true rfl) ?_
  refine aAt.sub [(0, .ref 143), (1, .int a1), (2, .int a2), (3, .int a3)] rfl ?_
  unfold cThrift_sureHunger at hd
  refine s_iload_n f_150_0 rfl ?_
  refine k_iconst (v := 1) f_150_1 (by decide) ?_
  refine s_icmp_lt 11 f_150_2 (by decide) (fun c1 => ?_) (fun c1 => ?_)
  · replace hd := ite_p c1 hd
    refine k_iconst (v := 2) f_150_11 (by decide) ?_
    refine s_iload_n f_150_12 rfl ?_
    refine s_imul f_150_13 ?_
    refine s_ireturn f_150_14 rfl rfl ?_
    cases hd
    exact hQ
  · replace hd := ite_n c1 hd
    refine s_iload_n f_150_5 rfl ?_
    refine k_bipush (v := 8) f_150_6 (by decide) ?_
    refine s_icmp_le 15 f_150_8 (by decide) (fun c2 => ?_) (fun c2 => ?_)
    · replace hd := ite_p c2 hd
      refine s_iload_n f_150_15 rfl ?_
      refine k_bipush (v := 61) f_150_16 (by decide) ?_
      refine s_imul f_150_18 ?_
      refine s_iload_n f_150_19 rfl ?_
      refine s_iadd f_150_20 ?_
      refine s_istore f_150_21 (by decide) ?_
      refine s_iload f_150_23 rfl ?_
      refine k_iconst (v := 0) f_150_25 (by decide) ?_
      refine s_aload_n f_150_26 rfl ?_
      refine L_getR f_150_27 fd_11_15 (obL (by decide)) (by decide) (by decide : rf 143 1 = 144) ?_
      refine L_alen (ak := 21) f_150_30 (obL (by decide)) (by decide) (rfl : ln _ 144 = 3721) ?_
      refine k_iconst (v := 1) f_150_31 (by decide) ?_
      refine s_isub f_150_32 ?_
      replace hd := obind hd
      obtain ⟨p3, e3, hd⟩ := hd
      refine L_statN (As := [.int ((a1 * (61 : Int32)) + a2), .int (0 : Int32), .int ((3721 : Int32) - (1 : Int32))]) f_150_33 ca_11_25 rfl rfl (Nat.le_of_ble_eq_true rfl) ?_
      refine t_cD_within e3 ?_
      refine z_if_ne 43 f_150_36 (by decide) (fun c4 => ?_) (fun c4 => ?_)
      · replace hd := ite_p c4 hd
        refine k_bipush (v := 8) f_150_43 (by decide) ?_
        refine s_iload_n f_150_45 rfl ?_
        refine k_iconst (v := 1) f_150_46 (by decide) ?_
        refine s_isub f_150_47 ?_
        refine s_imul f_150_48 ?_
        refine s_istore f_150_49 (by decide) ?_
        refine s_aload_n f_150_51 rfl ?_
        refine L_getR f_150_52 fd_11_15 (obL (by decide)) (by decide) (by decide : rf 143 1 = 144) ?_
        refine s_iload f_150_55 rfl ?_
        replace hd := gd hd
        obtain ⟨g5, hd⟩ := hd
        refine C_laload (q := (ix ((a1 * (61 : Int32)) + a2))) f_150_57 rfl g5 ?_
        refine s_iload f_150_58 rfl ?_
        refine s_lushr f_150_60 ?_
        refine s_l2i f_150_61 ?_
        refine k_sipush (v := 255) f_150_62 (by decide) ?_
        refine s_iand f_150_65 ?_
        refine s_istore f_150_66 (by decide) ?_
        refine s_iload f_150_68 rfl ?_
        refine s_if_le 78 f_150_70 (by decide) (fun c6 => ?_) (fun c6 => ?_)
        · replace hd := ite_p c6 hd
          refine s_aload_n f_150_78 rfl ?_
          refine s_iload_n f_150_79 rfl ?_
          refine s_aload_n f_150_80 rfl ?_
          refine C_getI f_150_81 fd_11_11 (ocl (by decide)) (by decide) ?_
          refine s_iadd f_150_84 ?_
          refine s_iload_n f_150_85 rfl ?_
          refine s_iload_n f_150_86 rfl ?_
          replace hd := obind hd
          obtain ⟨p7, e7, hd⟩ := hd
          refine L_virt (As := [.int (a1 + (S 143 0)), .int a2, .int a3]) f_150_87 ca_11_29 rfl rfl (obL (by decide)) (by decide) (Nat.le_of_ble_eq_true rfl) ?_
          refine t_cThrift_leastHunger hfT e7 ?_
          refine s_istore f_150_90 (by decide) ?_
          refine s_aload_n f_150_92 rfl ?_
          refine L_getR f_150_93 fd_11_15 (obL (by decide)) (by decide) (by decide : rf 143 1 = 144) ?_
          refine s_iload f_150_96 rfl ?_
          refine s_dup2 f_150_98 rfl rfl ?_
          refine C_laload (q := (ix ((a1 * (61 : Int32)) + a2))) f_150_99 rfl g5 ?_
          refine s_iload f_150_100 rfl ?_
          refine k_iconst (v := 1) f_150_102 (by decide) ?_
          refine s_iadd f_150_103 ?_
          refine s_i2l f_150_104 ?_
          refine s_iload f_150_105 rfl ?_
          refine s_lshl f_150_107 ?_
          refine s_lor f_150_108 ?_
          refine C_lastore (q := (ix ((a1 * (61 : Int32)) + a2))) f_150_109 rfl g5 ?_
          refine s_iload f_150_110 rfl ?_
          refine s_ireturn f_150_112 rfl rfl ?_
          cases hd
          exact hQ
        · replace hd := ite_n c6 hd
          refine s_iload f_150_73 rfl ?_
          refine k_iconst (v := 1) f_150_75 (by decide) ?_
          refine s_isub f_150_76 ?_
          refine s_ireturn f_150_77 rfl rfl ?_
          cases hd
          exact hQ
      · replace hd := ite_n c4 hd
        refine k_iconst (v := 2) f_150_39 (by decide) ?_
        refine s_iload_n f_150_40 rfl ?_
        refine s_imul f_150_41 ?_
        refine s_ireturn f_150_42 rfl rfl ?_
        cases hd
        exact hQ
    · replace hd := ite_n c2 hd
      refine k_iconst (v := 2) f_150_11 (by decide) ?_
      refine s_iload_n f_150_12 rfl ?_
      refine s_imul f_150_13 ?_
      refine s_ireturn f_150_14 rfl rfl ?_
      cases hd
      exact hQ

def rSure (S : SS) : Nat → KS → Int32 → Int32 → Int32 → Option (Int32 × KS)
  | 0, _, _, _, _ => none
  | n + 1, K, a1, a2, a3 => cThrift_sureHunger (rSure S n) S K a1 a2 a3
theorem t_rSure {l : Launch} {G : aG} {sl : Nat} {sx : Nat → Int32} {d : Nat} {S : SS} {T : TS} {X : XS} {M : SS} : ∀ (n : Nat), ∀ (e : Nat) (K : KS) (a1 : Int32) (a2 : Int32) (a3 : Int32) (p : Int32 × KS) (Q : Option Value → aHeap → Prop), rSure S n K a1 a2 a3 = some p → Q (some (.int p.1)) (LH (old0 sl sx) S p.2 T X M) → aCall l G (d + 3 * n + 2 + e) 0 0 150 [.ref 143, .int a1, .int a2, .int a3] (LH (old0 sl sx) S K T X M) Q := by
  intro n
  induction n with
  | zero =>
    intro e K a1 a2 a3 p Q hd hQ
    rw [rSure] at hd
    cases hd
  | succ n ih =>
    intro e K a1 a2 a3 p Q hd hQ
    rw [rSure] at hd
    rw [show d + 3 * (n + 1) + 2 + e = (d + 3 * n + e) + 5 from by omega]
    refine t_cThrift_sureHunger (fun e2 K a1 a2 a3 p Q h1 h2 => ?_) hd hQ
    rw [show d + 3 * n + e + 2 + e2 = d + 3 * n + 2 + (e + e2) from by omega]
    exact ih (e + e2) K a1 a2 a3 p Q h1 h2
def cThrift_sureHunger_r (S : SS) (K : KS) (a1 : Int32) (a2 : Int32) (a3 : Int32) : Option (Int32 × KS) := cThrift_sureHunger (rSure S 12) S K a1 a2 a3
theorem t_cThrift_sureHunger_r {l : Launch} {G : aG} {sl : Nat} {sx : Nat → Int32} {d : Nat} {Q : Option Value → aHeap → Prop} {S : SS} {K : KS} {T : TS} {X : XS} {M : SS} {a1 : Int32} {a2 : Int32} {a3 : Int32} {p : Int32 × KS} (hd : cThrift_sureHunger_r S K a1 a2 a3 = some p) (hQ : Q (some (.int p.1)) (LH (old0 sl sx) S p.2 T X M)) : aCall l G (d + 41) 0 0 150 [.ref 143, .int a1, .int a2, .int a3] (LH (old0 sl sx) S K T X M) Q := by
  unfold cThrift_sureHunger_r at hd
  rw [show d + 41 = (d + 36) + 5 from by omega]
  refine t_cThrift_sureHunger (fun e2 K a1 a2 a3 p Q h1 h2 => by rw [show d + 36 + 2 + e2 = d + 3 * 12 + 2 + e2 from by omega]; exact (t_rSure 12) e2 K a1 a2 a3 p Q h1 h2) hd hQ
def cThrift_leastHunger_r (S : SS) (K : KS) (a1 : Int32) (a2 : Int32) (a3 : Int32) : Option (Int32 × KS) := cThrift_leastHunger (rSure S 12) S K a1 a2 a3
theorem t_cThrift_leastHunger_r {l : Launch} {G : aG} {sl : Nat} {sx : Nat → Int32} {d : Nat} {Q : Option Value → aHeap → Prop} {S : SS} {K : KS} {T : TS} {X : XS} {M : SS} {a1 : Int32} {a2 : Int32} {a3 : Int32} {p : Int32 × KS} (hd : cThrift_leastHunger_r S K a1 a2 a3 = some p) (hQ : Q (some (.int p.1)) (LH (old0 sl sx) S p.2 T X M)) : aCall l G (d + 40) 0 0 151 [.ref 143, .int a1, .int a2, .int a3] (LH (old0 sl sx) S K T X M) Q := by
  unfold cThrift_leastHunger_r at hd
  rw [show d + 40 = (d + 36) + 4 from by omega]
  refine t_cThrift_leastHunger (fun e2 K a1 a2 a3 p Q h1 h2 => by rw [show d + 36 + 2 + e2 = d + 3 * 12 + 2 + e2 from by omega]; exact (t_rSure 12) e2 K a1 a2 a3 p Q h1 h2) hd hQ
def cThrift_paying_r (S : SS) (K : KS) (a1 : Int32) (a2 : Int32) (a3 : Int32) (a4 : Int32) : Option (Int32 × KS) := cThrift_paying (rSure S 12) S K a1 a2 a3 a4
theorem t_cThrift_paying_r {l : Launch} {G : aG} {sl : Nat} {sx : Nat → Int32} {d : Nat} {Q : Option Value → aHeap → Prop} {S : SS} {K : KS} {T : TS} {X : XS} {M : SS} {a1 : Int32} {a2 : Int32} {a3 : Int32} {a4 : Int32} {p : Int32 × KS} (hd : cThrift_paying_r S K a1 a2 a3 a4 = some p) (hQ : Q (some (.int p.1)) (LH (old0 sl sx) S p.2 T X M)) : aCall l G (d + 39) 0 0 153 [.ref 143, .int a1, .int a2, .int a3, .int a4] (LH (old0 sl sx) S K T X M) Q := by
  unfold cThrift_paying_r at hd
  rw [show d + 39 = (d + 36) + 3 from by omega]
  refine t_cThrift_paying (fun e2 K a1 a2 a3 p Q h1 h2 => by rw [show d + 36 + 2 + e2 = d + 3 * 12 + 2 + e2 from by omega]; exact (t_rSure 12) e2 K a1 a2 a3 p Q h1 h2) hd hQ

def cD_last (S : SS) (K : KS) (a1 : Int32) (a2 : Int32) (a3 : Int32) (a4 : Int32) : Option (Int32 × SS × KS) :=
  (cD_mayLast a1 a2 a3 a4).bind fun p1 =>
  if p1 = true then
    (cThrift_expect S K (a4 / (100 : Int32))).bind fun p3 =>
    (cThrift_sureHunger_r p3.1 p3.2 a1 a2 a3).bind fun p4 =>
    some (p4.1, p3.1, p4.2)
  else
    (cD_found S (-100001 : Int32)).bind fun p5 =>
    some (p5.1, p5.2, K)
theorem t_cD_last {l : Launch} {G : aG} {d : Nat} {Q : Option Value → aHeap → Prop} {sl : Nat} {sx : Nat → Int32} {S : SS} {K : KS} {T : TS} {X : XS} {M : SS} {a1 : Int32} {a2 : Int32} {a3 : Int32} {a4 : Int32} {p : Int32 × SS × KS} (hd : cD_last S K a1 a2 a3 a4 = some p) (hQ : Q (some (.int p.1)) (LH (old0 sl sx) p.2.1 p.2.2 T X M)) : aCall l G (d + 42) 0 0 145 [.ref 8, .int a1, .int a2, .int a3, .int a4] (LH (old0 sl sx) S K T X M) Q := by
  refine aCall.of (by decide) (Nat.le_of_ble_eq_true rfl) ?_
  refine aAt.sub [(0, .ref 8), (1, .int a1), (2, .int a2), (3, .int a3), (4, .int a4)] rfl ?_
  unfold cD_last at hd
  refine s_iload_n f_145_0 rfl ?_
  refine s_iload_n f_145_1 rfl ?_
  refine s_iload_n f_145_2 rfl ?_
  refine s_iload f_145_3 rfl ?_
  replace hd := obind hd
  obtain ⟨p1, e1, hd⟩ := hd
  refine L_stat (As := [.int a1, .int a2, .int a3, .int a4]) f_145_5 ca_0_335 rfl rfl (Nat.le_of_ble_eq_true rfl) ?_
  refine t_cD_mayLast e1 ?_
  refine z_if_ne 18 f_145_8 (by decide) (fun c2 => ?_) (fun c2 => ?_)
  · replace hd := ite_p c2 hd
    refine s_aload_n f_145_18 rfl ?_
    refine L_getR f_145_19 fd_0_47 (obL (by decide)) (by decide) (by decide : rf 8 5 = 143) ?_
    refine s_iload f_145_22 rfl ?_
    refine k_bipush (v := 100) f_145_24 (by decide) ?_
    refine s_idiv f_145_26 (by decide) ?_
    replace hd := obind hd
    obtain ⟨p3, e3, hd⟩ := hd
    refine L_virt (As := [.int (a4 / (100 : Int32))]) f_145_27 ca_0_339 rfl rfl (obL (by decide)) (by decide) (Nat.le_of_ble_eq_true rfl) ?_
    refine t_cThrift_expect e3 ?_
    refine s_aload_n f_145_30 rfl ?_
    refine L_getR f_145_31 fd_0_47 (obL (by decide)) (by decide) (by decide : rf 8 5 = 143) ?_
    refine s_iload_n f_145_34 rfl ?_
    refine s_iload_n f_145_35 rfl ?_
    refine s_iload_n f_145_36 rfl ?_
    replace hd := obind hd
    obtain ⟨p4, e4, hd⟩ := hd
    refine L_virt (As := [.int a1, .int a2, .int a3]) f_145_37 ca_0_343 rfl rfl (obL (by decide)) (by decide) (Nat.le_of_ble_eq_true rfl) ?_
    refine t_cThrift_sureHunger_r e4 ?_
    refine s_ireturn f_145_40 rfl rfl ?_
    cases hd
    exact hQ
  · replace hd := ite_n c2 hd
    refine s_aload_n f_145_11 rfl ?_
    refine s_ldc f_145_12 ko_0_83 ?_
    replace hd := obind hd
    obtain ⟨p5, e5, hd⟩ := hd
    refine L_virt (As := [.int (-100001 : Int32)]) f_145_14 ca_0_84 rfl rfl (obL (by decide)) (by decide) (Nat.le_of_ble_eq_true rfl) ?_
    refine t_cD_found e5 ?_
    refine s_ireturn f_145_17 rfl rfl ?_
    cases hd
    exact hQ

def cThrift_bestPayment_L19 (S : SS) : Nat → KS → Int32 → Int32 → Int32 → Int32 → Int32 → Int32 → Option (Int32 × KS)
  | 0, _, _, _, _, _, _, _ => none
  | n + 1, K, a1, a2, a3, a4, a5, a6 =>
    if a4 ≤ a6 then
      some (a6, K)
    else
      (cThrift_paying_r S K a6 a1 a2 a3).bind fun p4 =>
      if p4.1 ≤ a5 then
        some (a6, p4.2)
      else
        cThrift_bestPayment_L19 S  n p4.2 a1 a2 a3 a4 a5 (a6 + 1)
theorem t_cThrift_bestPayment_L19 {l : Launch} {G : aG} {d : Nat} {Q : Option Value → aHeap → Prop} {sl : Nat} {sx : Nat → Int32} {S : SS} {T : TS} {X : XS} {M : SS} : ∀ (n : Nat), ∀ (K : KS) (a1 : Int32) (a2 : Int32) (a3 : Int32) (a4 : Int32) (a5 : Int32) (a6 : Int32) (p : Int32 × KS), cThrift_bestPayment_L19 S n K a1 a2 a3 a4 a5 a6 = some p → Q (some (.int p.1)) (LH (old0 sl sx) S p.2 T X M) → aAt l G (d + 41) 0 0 157 19 [(0, .ref 143), (1, .int a1), (2, .int a2), (3, .int a3), (4, .int a4), (5, .int a5), (6, .int a6)] [] 0 0 (LH (old0 sl sx) S K T X M) Q := by
  intro n
  induction n with
  | zero =>
    intro K a1 a2 a3 a4 a5 a6 p hd hQ
    rw [cThrift_bestPayment_L19] at hd
    cases hd
  | succ n ih =>
    intro K a1 a2 a3 a4 a5 a6 p hd hQ
    rw [cThrift_bestPayment_L19] at hd
    refine s_iload f_157_19 rfl ?_
    refine s_iload f_157_21 rfl ?_
    refine s_icmp_ge 46 f_157_23 (by decide) (fun c3 => ?_) (fun c3 => ?_)
    · replace hd := ite_p c3 hd
      refine s_iload f_157_46 rfl ?_
      refine s_ireturn f_157_48 rfl rfl ?_
      cases hd
      exact hQ
    · replace hd := ite_n c3 hd
      refine s_aload_n f_157_26 rfl ?_
      refine s_iload f_157_27 rfl ?_
      refine s_iload_n f_157_29 rfl ?_
      refine s_iload_n f_157_30 rfl ?_
      refine s_iload_n f_157_31 rfl ?_
      replace hd := obind hd
      obtain ⟨p4, e4, hd⟩ := hd
      refine L_virt (As := [.int a6, .int a1, .int a2, .int a3]) f_157_32 ca_11_37 rfl rfl (obL (by decide)) (by decide) (Nat.le_of_ble_eq_true rfl) ?_
      refine t_cThrift_paying_r e4 ?_
      refine s_iload f_157_35 rfl ?_
      refine s_icmp_le 46 f_157_37 (by decide) (fun c5 => ?_) (fun c5 => ?_)
      · replace hd := ite_p c5 hd
        refine s_iload f_157_46 rfl ?_
        refine s_ireturn f_157_48 rfl rfl ?_
        cases hd
        exact hQ
      · replace hd := ite_n c5 hd
        refine k_iinc (w := 1) f_157_40 rfl (by decide) (by decide) ?_
        refine s_goto 19 f_157_43 (by decide) ?_
        refine aAt.sub [(0, .ref 143), (1, .int a1), (2, .int a2), (3, .int a3), (4, .int a4), (5, .int a5), (6, .int (a6 + 1))] rfl ?_
        exact ih _ _ _ _ _ _ _  _ hd hQ
def cThrift_bestPayment (S : SS) (K : KS) (a1 : Int32) (a2 : Int32) (a3 : Int32) : Option (Int32 × KS) :=
  (cThrift_mostPayment a1 a2).bind fun p1 =>
  (cThrift_leastHunger_r S K a1 a2 a3).bind fun p2 =>
  cThrift_bestPayment_L19 S FU p2.2 a1 a2 a3 p1 p2.1 (0 : Int32)
theorem t_cThrift_bestPayment {l : Launch} {G : aG} {d : Nat} {Q : Option Value → aHeap → Prop} {sl : Nat} {sx : Nat → Int32} {S : SS} {K : KS} {T : TS} {X : XS} {M : SS} {a1 : Int32} {a2 : Int32} {a3 : Int32} {p : Int32 × KS} (hd : cThrift_bestPayment S K a1 a2 a3 = some p) (hQ : Q (some (.int p.1)) (LH (old0 sl sx) S p.2 T X M)) : aCall l G (d + 41) 0 0 157 [.ref 143, .int a1, .int a2, .int a3] (LH (old0 sl sx) S K T X M) Q := by
  refine aCall.of (by decide) (Nat.le_of_ble_eq_true rfl) ?_
  refine aAt.sub [(0, .ref 143), (1, .int a1), (2, .int a2), (3, .int a3)] rfl ?_
  unfold cThrift_bestPayment at hd
  refine s_iload_n f_157_0 rfl ?_
  refine s_iload_n f_157_1 rfl ?_
  replace hd := obind hd
  obtain ⟨p1, e1, hd⟩ := hd
  refine L_stat (As := [.int a1, .int a2]) f_157_2 ca_11_33 rfl rfl (Nat.le_of_ble_eq_true rfl) ?_
  refine t_cThrift_mostPayment e1 ?_
  refine s_istore f_157_5 (by decide) ?_
  refine s_aload_n f_157_7 rfl ?_
  refine s_iload_n f_157_8 rfl ?_
  refine s_iload_n f_157_9 rfl ?_
  refine s_iload_n f_157_10 rfl ?_
  replace hd := obind hd
  obtain ⟨p2, e2, hd⟩ := hd
  refine L_virt (As := [.int a1, .int a2, .int a3]) f_157_11 ca_11_29 rfl rfl (obL (by decide)) (by decide) (Nat.le_of_ble_eq_true rfl) ?_
  refine t_cThrift_leastHunger_r e2 ?_
  refine s_istore f_157_14 (by decide) ?_
  refine k_iconst (v := 0) f_157_16 (by decide) ?_
  refine s_istore f_157_17 (by decide) ?_
  refine aAt.sub [(0, .ref 143), (1, .int a1), (2, .int a2), (3, .int a3), (4, .int p1), (5, .int p2.1), (6, .int (0 : Int32))] rfl ?_
  exact t_cThrift_bestPayment_L19 FU _ _ _ _ _ _ _  _ hd hQ

def cD_pays_J15 (S : SS) (K : KS) : Option (Int32 × SS × KS) :=
  (cD_found S (-100001 : Int32)).bind fun p3 =>
  some (p3.1, p3.2, K)
theorem t_cD_pays_J15 {l : Launch} {G : aG} {d : Nat} {Q : Option Value → aHeap → Prop} {sl : Nat} {sx : Nat → Int32} {T : TS} {X : XS} {M : SS} : ∀ (S : SS) (K : KS) (p : Int32 × SS × KS), cD_pays_J15 S K = some p → Q (some (.int p.1)) (LH (old0 sl sx) p.2.1 p.2.2 T X M) → aAt l G (d + 42) 0 0 156 15 [(0, .ref 8)] [] 0 0 (LH (old0 sl sx) S K T X M) Q := by
  intro S K p hd hQ
  unfold cD_pays_J15 at hd
  refine s_aload_n f_156_15 rfl ?_
  refine s_ldc f_156_16 ko_0_83 ?_
  replace hd := obind hd
  obtain ⟨p3, e3, hd⟩ := hd
  refine L_virt (As := [.int (-100001 : Int32)]) f_156_18 ca_0_84 rfl rfl (obL (by decide)) (by decide) (Nat.le_of_ble_eq_true rfl) ?_
  refine t_cD_found e3 ?_
  refine s_ireturn f_156_21 rfl rfl ?_
  cases hd
  exact hQ
def cD_pays_J57 (S : SS) (K : KS) (a1 : Int32) (a2 : Int32) (a3 : Int32) (a5 : Int32) (a6 : Int32) : Option (Int32 × SS × KS) :=
  (cThrift_expect S K a6).bind fun p6 =>
  (cThrift_bestPayment p6.1 p6.2 (a1 + a5) a2 a3).bind fun p7 =>
  some (p7.1, p6.1, p7.2)
theorem t_cD_pays_J57 {l : Launch} {G : aG} {d : Nat} {Q : Option Value → aHeap → Prop} {sl : Nat} {sx : Nat → Int32} {T : TS} {X : XS} {M : SS} : ∀ (S : SS) (K : KS) (a1 : Int32) (a2 : Int32) (a3 : Int32) (a5 : Int32) (a6 : Int32) (p : Int32 × SS × KS), cD_pays_J57 S K a1 a2 a3 a5 a6 = some p → Q (some (.int p.1)) (LH (old0 sl sx) p.2.1 p.2.2 T X M) → aAt l G (d + 42) 0 0 156 57 [(0, .ref 8), (1, .int a1), (2, .int a2), (3, .int a3), (5, .int a5), (6, .int a6)] [] 0 0 (LH (old0 sl sx) S K T X M) Q := by
  intro S K a1 a2 a3 a5 a6 p hd hQ
  unfold cD_pays_J57 at hd
  refine s_aload_n f_156_57 rfl ?_
  refine L_getR f_156_58 fd_0_47 (obL (by decide)) (by decide) (by decide : rf 8 5 = 143) ?_
  refine s_iload f_156_61 rfl ?_
  replace hd := obind hd
  obtain ⟨p6, e6, hd⟩ := hd
  refine L_virt (As := [.int a6]) f_156_63 ca_0_339 rfl rfl (obL (by decide)) (by decide) (Nat.le_of_ble_eq_true rfl) ?_
  refine t_cThrift_expect e6 ?_
  refine s_aload_n f_156_66 rfl ?_
  refine L_getR f_156_67 fd_0_47 (obL (by decide)) (by decide) (by decide : rf 8 5 = 143) ?_
  refine s_iload_n f_156_70 rfl ?_
  refine s_iload f_156_71 rfl ?_
  refine s_iadd f_156_73 ?_
  refine s_iload_n f_156_74 rfl ?_
  refine s_iload_n f_156_75 rfl ?_
  replace hd := obind hd
  obtain ⟨p7, e7, hd⟩ := hd
  refine L_virt (As := [.int (a1 + a5), .int a2, .int a3]) f_156_76 ca_0_347 rfl rfl (obL (by decide)) (by decide) (Nat.le_of_ble_eq_true rfl) ?_
  refine t_cThrift_bestPayment e7 ?_
  refine s_ireturn f_156_79 rfl rfl ?_
  cases hd
  exact hQ
def cD_pays (S : SS) (K : KS) (a1 : Int32) (a2 : Int32) (a3 : Int32) (a4 : Int32) (a5 : Int32) : Option (Int32 × SS × KS) :=
  (cD_mayLast a1 a2 a3 a4).bind fun p1 =>
  if p1 = true then
    if a3 = 0 then
      cD_pays_J15 S K
    else
      if a5 = (a4 / (100 : Int32)) then
        cD_pays_J57 S K a1 a2 a3 a5 (a4 / (100 : Int32))
      else
        if a5 = (a4 - a4 / (100 : Int32) * (100 : Int32)) then
          cD_pays_J57 S K a1 a2 a3 a5 (a4 / (100 : Int32))
        else
          (cD_found S (-100006 : Int32)).bind fun p9 =>
          some (p9.1, p9.2, K)
  else
    cD_pays_J15 S K
theorem t_cD_pays {l : Launch} {G : aG} {d : Nat} {Q : Option Value → aHeap → Prop} {sl : Nat} {sx : Nat → Int32} {S : SS} {K : KS} {T : TS} {X : XS} {M : SS} {a1 : Int32} {a2 : Int32} {a3 : Int32} {a4 : Int32} {a5 : Int32} {p : Int32 × SS × KS} (hd : cD_pays S K a1 a2 a3 a4 a5 = some p) (hQ : Q (some (.int p.1)) (LH (old0 sl sx) p.2.1 p.2.2 T X M)) : aCall l G (d + 42) 0 0 156 [.ref 8, .int a1, .int a2, .int a3, .int a4, .int a5] (LH (old0 sl sx) S K T X M) Q := by
  refine aCall.of (by decide) (Nat.le_of_ble_eq_true rfl) ?_
  refine aAt.sub [(0, .ref 8), (1, .int a1), (2, .int a2), (3, .int a3), (4, .int a4), (5, .int a5)] rfl ?_
  unfold cD_pays at hd
  refine s_iload_n f_156_0 rfl ?_
  refine s_iload_n f_156_1 rfl ?_
  refine s_iload_n f_156_2 rfl ?_
  refine s_iload f_156_3 rfl ?_
  replace hd := obind hd
  obtain ⟨p1, e1, hd⟩ := hd
  refine L_stat (As := [.int a1, .int a2, .int a3, .int a4]) f_156_5 ca_0_335 rfl rfl (Nat.le_of_ble_eq_true rfl) ?_
  refine t_cD_mayLast e1 ?_
  refine z_if_eq 15 f_156_8 (by decide) (fun c2 => ?_) (fun c2 => ?_)
  · replace hd := ite_n c2 hd
    refine aAt.sub [(0, .ref 8)] rfl ?_
    exact t_cD_pays_J15 _ _  _ hd hQ
  · replace hd := ite_p c2 hd
    refine s_iload_n f_156_11 rfl ?_
    refine s_if_ne 22 f_156_12 (by decide) (fun c4 => ?_) (fun c4 => ?_)
    · replace hd := ite_n c4 hd
      refine s_iload f_156_22 rfl ?_
      refine k_bipush (v := 100) f_156_24 (by decide) ?_
      refine s_idiv f_156_26 (by decide) ?_
      refine s_istore f_156_27 (by decide) ?_
      refine s_iload f_156_29 rfl ?_
      refine k_bipush (v := 100) f_156_31 (by decide) ?_
      refine s_irem f_156_33 (by decide) ?_
      refine s_istore f_156_34 (by decide) ?_
      refine s_iload f_156_36 rfl ?_
      refine s_iload f_156_38 rfl ?_
      refine s_icmp_eq 57 f_156_40 (by decide) (fun c5 => ?_) (fun c5 => ?_)
      · replace hd := ite_p c5 hd
        refine aAt.sub [(0, .ref 8), (1, .int a1), (2, .int a2), (3, .int a3), (5, .int a5), (6, .int (a4 / (100 : Int32)))] rfl ?_
        exact t_cD_pays_J57 _ _ _ _ _ _ _  _ hd hQ
      · replace hd := ite_n c5 hd
        refine s_iload f_156_43 rfl ?_
        refine s_iload f_156_45 rfl ?_
        refine s_icmp_eq 57 f_156_47 (by decide) (fun c8 => ?_) (fun c8 => ?_)
        · replace hd := ite_p c8 hd
          refine aAt.sub [(0, .ref 8), (1, .int a1), (2, .int a2), (3, .int a3), (5, .int a5), (6, .int (a4 / (100 : Int32)))] rfl ?_
          exact t_cD_pays_J57 _ _ _ _ _ _ _  _ hd hQ
        · replace hd := ite_n c8 hd
          refine s_aload_n f_156_50 rfl ?_
          refine s_ldc f_156_51 ko_0_182 ?_
          replace hd := obind hd
          obtain ⟨p9, e9, hd⟩ := hd
          refine L_virt (As := [.int (-100006 : Int32)]) f_156_53 ca_0_84 rfl rfl (obL (by decide)) (by decide) (Nat.le_of_ble_eq_true rfl) ?_
          refine t_cD_found e9 ?_
          refine s_ireturn f_156_56 rfl rfl ?_
          cases hd
          exact hQ
    · replace hd := ite_p c4 hd
      refine aAt.sub [(0, .ref 8)] rfl ?_
      exact t_cD_pays_J15 _ _  _ hd hQ

def cThrift_check_L12 (S : SS) : Nat → Int32 → Nat → Int32 → Int32 → Int32 → Int32 → Option (Int32)
  | 0, _, _, _, _, _, _ => none
  | n + 1, a3, a4, a5, a6, a7, a8 =>
    if (S a4 2) ≤ (a8 + (1 : Int32)) then
      if (a7 + ((2 : Int32) * a6)) ≤ a3 then
        some (-1 : Int32)
      else
        some (S a4 2)
    else
      if inb a8 20 then
        (cD_isHarvest (S (a4 + 1) (ix a8))).bind fun p4 =>
        if p4 = true then
          if inb (a8 + (1 : Int32)) 20 then
            (cThrift_mostPayment (a5 + (S (a4 + 1) (ix a8))) a6).bind fun p7 =>
            (cD_within (S (a4 + 1) (ix (a8 + (1 : Int32)))) (0 : Int32) p7).bind fun p8 =>
            if p8 = true then
              (cThrift_hungerWith ((a5 + (S (a4 + 1) (ix a8))) - (S (a4 + 1) (ix (a8 + (1 : Int32)))))).bind fun p10 =>
              (cThrift_keptOf ((a5 + (S (a4 + 1) (ix a8))) - (S (a4 + 1) (ix (a8 + (1 : Int32)))))).bind fun p11 =>
              cThrift_check_L12 S  n a3 a4 p11 (a6 - (S (a4 + 1) (ix (a8 + (1 : Int32))))) (a7 + p10) (a8 + 2)
            else
              some (a8 + (1 : Int32))
          else none
        else
          some a8
      else none
theorem t_cThrift_check_L12 {l : Launch} {G : aG} {d : Nat} {Q : Option Value → aHeap → Prop} {sl : Nat} {sx : Nat → Int32} {S : SS} {K : KS} {T : TS} {X : XS} {M : SS} : ∀ (n : Nat), ∀ (a3 : Int32) (a4 : Nat) (a5 : Int32) (a6 : Int32) (a7 : Int32) (a8 : Int32) (_ : 146 ≤ a4 ∧ a4 < 154 ∧ a4 % 2 = 0) (p : Int32), cThrift_check_L12 S n a3 a4 a5 a6 a7 a8 = some p → Q (some (.int p)) (LH (old0 sl sx) S K T X M) → aAt l G (d + 2) 0 0 159 12 [(3, .int a3), (4, .ref a4), (5, .int a5), (6, .int a6), (7, .int a7), (8, .int a8)] [] 0 0 (LH (old0 sl sx) S K T X M) Q := by
  intro n
  induction n with
  | zero =>
    intro a3 a4 a5 a6 a7 a8 ha4 p hd hQ
    rw [cThrift_check_L12] at hd
    cases hd
  | succ n ih =>
    intro a3 a4 a5 a6 a7 a8 ha4 p hd hQ
    rw [cThrift_check_L12] at hd
    refine s_iload f_159_12 rfl ?_
    refine k_iconst (v := 1) f_159_14 (by decide) ?_
    refine s_iadd f_159_15 ?_
    refine s_aload f_159_16 rfl ?_
    refine C_getI f_159_18 fd_11_56 (ocs ha4) (scs1 ha4 (by decide)) ?_
    refine s_icmp_ge 121 f_159_21 (by decide) (fun c1 => ?_) (fun c1 => ?_)
    · replace hd := ite_p c1 hd
      refine s_iload f_159_121 rfl ?_
      refine k_iconst (v := 2) f_159_123 (by decide) ?_
      refine s_iload f_159_124 rfl ?_
      refine s_imul f_159_126 ?_
      refine s_iadd f_159_127 ?_
      refine s_iload_n f_159_128 rfl ?_
      refine s_icmp_le 140 f_159_129 (by decide) (fun c2 => ?_) (fun c2 => ?_)
      · replace hd := ite_p c2 hd
        refine k_iconst (v := (-1)) f_159_140 (by decide) ?_
        refine s_ireturn f_159_141 rfl rfl ?_
        cases hd
        exact hQ
      · replace hd := ite_n c2 hd
        refine s_aload f_159_132 rfl ?_
        refine C_getI f_159_134 fd_11_56 (ocs ha4) (scs1 ha4 (by decide)) ?_
        refine s_goto 141 f_159_137 (by decide) ?_
        refine s_ireturn f_159_141 rfl rfl ?_
        cases hd
        exact hQ
    · replace hd := ite_n c1 hd
      refine s_aload f_159_24 rfl ?_
      refine L_getR f_159_26 fd_11_61 (ocs ha4).1 (scs0 ha4) (rfs0 ha4) ?_
      refine s_iload f_159_29 rfl ?_
      replace hd := gd hd
      obtain ⟨g3, hd⟩ := hd
      refine C_iaload (q := (ix a8)) f_159_31 (ocsn ha4) (lns ha4) (by decide) rfl g3 ?_
      refine s_istore f_159_32 (by decide) ?_
      refine s_iload f_159_34 rfl ?_
      replace hd := obind hd
      obtain ⟨p4, e4, hd⟩ := hd
      refine L_statN (As := [.int (S (a4 + 1) (ix a8))]) f_159_36 ca_11_65 rfl rfl (Nat.le_of_ble_eq_true rfl) ?_
      refine t_cD_isHarvest e4 ?_
      refine z_if_ne 45 f_159_39 (by decide) (fun c5 => ?_) (fun c5 => ?_)
      · replace hd := ite_p c5 hd
        refine s_aload f_159_45 rfl ?_
        refine L_getR f_159_47 fd_11_61 (ocs ha4).1 (scs0 ha4) (rfs0 ha4) ?_
        refine s_iload f_159_50 rfl ?_
        refine k_iconst (v := 1) f_159_52 (by decide) ?_
        refine s_iadd f_159_53 ?_
        replace hd := gd hd
        obtain ⟨g6, hd⟩ := hd
        refine C_iaload (q := (ix (a8 + (1 : Int32)))) f_159_54 (ocsn ha4) (lns ha4) (by decide) rfl g6 ?_
        refine s_istore f_159_55 (by decide) ?_
        refine s_iload f_159_57 rfl ?_
        refine k_iconst (v := 0) f_159_59 (by decide) ?_
        refine s_iload f_159_60 rfl ?_
        refine s_iload f_159_62 rfl ?_
        refine s_iadd f_159_64 ?_
        refine s_iload f_159_65 rfl ?_
        replace hd := obind hd
        obtain ⟨p7, e7, hd⟩ := hd
        refine L_stat (As := [.int (a5 + (S (a4 + 1) (ix a8))), .int a6]) f_159_67 ca_11_33 rfl rfl (Nat.le_of_ble_eq_true rfl) ?_
        refine t_cThrift_mostPayment e7 ?_
        replace hd := obind hd
        obtain ⟨p8, e8, hd⟩ := hd
        refine L_statN (As := [.int (S (a4 + 1) (ix (a8 + (1 : Int32)))), .int (0 : Int32), .int p7]) f_159_70 ca_11_25 rfl rfl (Nat.le_of_ble_eq_true rfl) ?_
        refine t_cD_within e8 ?_
        refine z_if_ne 81 f_159_73 (by decide) (fun c9 => ?_) (fun c9 => ?_)
        · replace hd := ite_p c9 hd
          refine s_iload f_159_81 rfl ?_
          refine s_iload f_159_83 rfl ?_
          refine s_iadd f_159_85 ?_
          refine s_iload f_159_86 rfl ?_
          refine s_isub f_159_88 ?_
          refine s_istore f_159_89 (by decide) ?_
          refine s_iload f_159_91 rfl ?_
          refine s_iload f_159_93 rfl ?_
          replace hd := obind hd
          obtain ⟨p10, e10, hd⟩ := hd
          refine L_stat (As := [.int ((a5 + (S (a4 + 1) (ix a8))) - (S (a4 + 1) (ix (a8 + (1 : Int32)))))]) f_159_95 ca_11_46 rfl rfl (Nat.le_of_ble_eq_true rfl) ?_
          refine t_cThrift_hungerWith e10 ?_
          refine s_iadd f_159_98 ?_
          refine s_istore f_159_99 (by decide) ?_
          refine s_iload f_159_101 rfl ?_
          replace hd := obind hd
          obtain ⟨p11, e11, hd⟩ := hd
          refine L_stat (As := [.int ((a5 + (S (a4 + 1) (ix a8))) - (S (a4 + 1) (ix (a8 + (1 : Int32)))))]) f_159_103 ca_11_50 rfl rfl (Nat.le_of_ble_eq_true rfl) ?_
          refine t_cThrift_keptOf e11 ?_
          refine s_istore f_159_106 (by decide) ?_
          refine s_iload f_159_108 rfl ?_
          refine s_iload f_159_110 rfl ?_
          refine s_isub f_159_112 ?_
          refine s_istore f_159_113 (by decide) ?_
          refine k_iinc (w := 2) f_159_115 rfl (by decide) (by decide) ?_
          refine s_goto 12 f_159_118 (by decide) ?_
          refine aAt.sub [(3, .int a3), (4, .ref a4), (5, .int p11), (6, .int (a6 - (S (a4 + 1) (ix (a8 + (1 : Int32)))))), (7, .int (a7 + p10)), (8, .int (a8 + 2))] rfl ?_
          exact ih _ _ _ _ _ _ ha4 _ hd hQ
        · replace hd := ite_n c9 hd
          refine s_iload f_159_76 rfl ?_
          refine k_iconst (v := 1) f_159_78 (by decide) ?_
          refine s_iadd f_159_79 ?_
          refine s_ireturn f_159_80 rfl rfl ?_
          cases hd
          exact hQ
      · replace hd := ite_n c5 hd
        refine s_iload f_159_42 rfl ?_
        refine s_ireturn f_159_44 rfl rfl ?_
        cases hd
        exact hQ
def cThrift_check (S : SS) (a1 : Int32) (a2 : Int32) (a3 : Int32) (a4 : Nat) : Option (Int32) :=
  cThrift_check_L12 S FU a3 a4 a1 a2 (0 : Int32) (0 : Int32)
theorem t_cThrift_check {l : Launch} {G : aG} {d : Nat} {Q : Option Value → aHeap → Prop} {sl : Nat} {sx : Nat → Int32} {S : SS} {K : KS} {T : TS} {X : XS} {M : SS} {a1 : Int32} {a2 : Int32} {a3 : Int32} {a4 : Nat} (ha4 : 146 ≤ a4 ∧ a4 < 154 ∧ a4 % 2 = 0) {p : Int32} (hd : cThrift_check S a1 a2 a3 a4 = some p) (hQ : Q (some (.int p)) (LH (old0 sl sx) S K T X M)) : aCall l G (d + 2) 0 0 159 [.ref 143, .int a1, .int a2, .int a3, .ref a4] (LH (old0 sl sx) S K T X M) Q := by
  refine aCall.of (by decide) (Nat.le_of_ble_eq_true rfl) ?_
  refine aAt.sub [(0, .ref 143), (1, .int a1), (2, .int a2), (3, .int a3), (4, .ref a4)] rfl ?_
  unfold cThrift_check at hd
  refine s_iload_n f_159_0 rfl ?_
  refine s_istore f_159_1 (by decide) ?_
  refine s_iload_n f_159_3 rfl ?_
  refine s_istore f_159_4 (by decide) ?_
  refine k_iconst (v := 0) f_159_6 (by decide) ?_
  refine s_istore f_159_7 (by decide) ?_
  refine k_iconst (v := 0) f_159_9 (by decide) ?_
  refine s_istore f_159_10 (by decide) ?_
  refine aAt.sub [(3, .int a3), (4, .ref a4), (5, .int a1), (6, .int a2), (7, .int (0 : Int32)), (8, .int (0 : Int32))] rfl ?_
  exact t_cThrift_check_L12 FU _ _ _ _ _ _ ha4 _ hd hQ

def cD_proves_J33 (S : SS) : Option (Int32 × SS) :=
  (cD_found S (-100001 : Int32)).bind fun p3 =>
  some (p3.1, p3.2)
theorem t_cD_proves_J33 {l : Launch} {G : aG} {d : Nat} {Q : Option Value → aHeap → Prop} {sl : Nat} {sx : Nat → Int32} {K : KS} {T : TS} {X : XS} {M : SS} : ∀ (S : SS) (p : Int32 × SS), cD_proves_J33 S = some p → Q (some (.int p.1)) (LH (old0 sl sx) p.2 K T X M) → aAt l G (d + 3) 0 0 158 33 [(0, .ref 8)] [] 0 0 (LH (old0 sl sx) S K T X M) Q := by
  intro S p hd hQ
  unfold cD_proves_J33 at hd
  refine s_aload_n f_158_33 rfl ?_
  refine s_ldc f_158_34 ko_0_83 ?_
  replace hd := obind hd
  obtain ⟨p3, e3, hd⟩ := hd
  refine L_virt (As := [.int (-100001 : Int32)]) f_158_36 ca_0_84 rfl rfl (obL (by decide)) (by decide) (Nat.le_of_ble_eq_true rfl) ?_
  refine t_cD_found e3 ?_
  refine s_ireturn f_158_39 rfl rfl ?_
  cases hd
  exact hQ
def cD_proves (S : SS) (a1 : Int32) (a2 : Int32) (a3 : Int32) (a4 : Int32) : Option (Int32 × SS) :=
  (cD_isPurse a1).bind fun p1 =>
  if p1 = true then
    (cD_isPurse a2).bind fun p4 =>
    if p4 = true then
      (cD_within a3 (0 : Int32) (999 : Int32)).bind fun p6 =>
      if p6 = true then
        (cD_isSheet a4).bind fun p8 =>
        if p8 = true then
          if inb a4 4 then
            (cSheet_isMissing S (146 + 2 * (ix a4))).bind fun p11 =>
            if p11 = true then
              (cD_found S (-100002 : Int32)).bind fun p14 =>
              some (p14.1, p14.2)
            else
              (cThrift_check S a1 a2 a3 (146 + 2 * (ix a4))).bind fun p13 =>
              some (p13, S)
          else none
        else
          cD_proves_J33 S
      else
        cD_proves_J33 S
    else
      cD_proves_J33 S
  else
    cD_proves_J33 S
theorem t_cD_proves {l : Launch} {G : aG} {d : Nat} {Q : Option Value → aHeap → Prop} {sl : Nat} {sx : Nat → Int32} {S : SS} {K : KS} {T : TS} {X : XS} {M : SS} {a1 : Int32} {a2 : Int32} {a3 : Int32} {a4 : Int32} {p : Int32 × SS} (hd : cD_proves S a1 a2 a3 a4 = some p) (hQ : Q (some (.int p.1)) (LH (old0 sl sx) p.2 K T X M)) : aCall l G (d + 3) 0 0 158 [.ref 8, .int a1, .int a2, .int a3, .int a4] (LH (old0 sl sx) S K T X M) Q := by
  refine aCall.of (by decide) (Nat.le_of_ble_eq_true rfl) ?_
  refine aAt.sub [(0, .ref 8), (1, .int a1), (2, .int a2), (3, .int a3), (4, .int a4)] rfl ?_
  unfold cD_proves at hd
  refine s_iload_n f_158_0 rfl ?_
  replace hd := obind hd
  obtain ⟨p1, e1, hd⟩ := hd
  refine L_stat (As := [.int a1]) f_158_1 ca_0_350 rfl rfl (Nat.le_of_ble_eq_true rfl) ?_
  refine t_cD_isPurse e1 ?_
  refine z_if_eq 33 f_158_4 (by decide) (fun c2 => ?_) (fun c2 => ?_)
  · replace hd := ite_n c2 hd
    refine aAt.sub [(0, .ref 8)] rfl ?_
    exact t_cD_proves_J33 _  _ hd hQ
  · replace hd := ite_p c2 hd
    refine s_iload_n f_158_7 rfl ?_
    replace hd := obind hd
    obtain ⟨p4, e4, hd⟩ := hd
    refine L_stat (As := [.int a2]) f_158_8 ca_0_350 rfl rfl (Nat.le_of_ble_eq_true rfl) ?_
    refine t_cD_isPurse e4 ?_
    refine z_if_eq 33 f_158_11 (by decide) (fun c5 => ?_) (fun c5 => ?_)
    · replace hd := ite_n c5 hd
      refine aAt.sub [(0, .ref 8)] rfl ?_
      exact t_cD_proves_J33 _  _ hd hQ
    · replace hd := ite_p c5 hd
      refine s_iload_n f_158_14 rfl ?_
      refine k_iconst (v := 0) f_158_15 (by decide) ?_
      refine k_sipush (v := 999) f_158_16 (by decide) ?_
      replace hd := obind hd
      obtain ⟨p6, e6, hd⟩ := hd
      refine L_stat (As := [.int a3, .int (0 : Int32), .int (999 : Int32)]) f_158_19 ca_0_75 rfl rfl (Nat.le_of_ble_eq_true rfl) ?_
      refine t_cD_within e6 ?_
      refine z_if_eq 33 f_158_22 (by decide) (fun c7 => ?_) (fun c7 => ?_)
      · replace hd := ite_n c7 hd
        refine aAt.sub [(0, .ref 8)] rfl ?_
        exact t_cD_proves_J33 _  _ hd hQ
      · replace hd := ite_p c7 hd
        refine s_iload f_158_25 rfl ?_
        replace hd := obind hd
        obtain ⟨p8, e8, hd⟩ := hd
        refine L_stat (As := [.int a4]) f_158_27 ca_0_322 rfl rfl (Nat.le_of_ble_eq_true rfl) ?_
        refine t_cD_isSheet e8 ?_
        refine z_if_ne 40 f_158_30 (by decide) (fun c9 => ?_) (fun c9 => ?_)
        · replace hd := ite_p c9 hd
          refine s_aload_n f_158_40 rfl ?_
          refine L_getR f_158_41 fd_0_53 (obL (by decide)) (by decide) (by decide : rf 8 6 = 145) ?_
          refine s_iload f_158_44 rfl ?_
          replace hd := gd hd
          obtain ⟨g10, hd⟩ := hd
          refine L_aaload (ak := 35) (q := (ix a4)) f_158_46 (obL (by decide)) (by decide) (inb_nI g10) (inb_lt g10) (Nat.le_of_ble_eq_true rfl) rfl rfl ?_
          replace hd := obind hd
          obtain ⟨p11, e11, hd⟩ := hd
          refine L_virt (As := []) f_158_47 ca_0_325 rfl rfl (ocs (shP g10)).1 (by decide) (Nat.le_of_ble_eq_true rfl) ?_
          refine t_cSheet_isMissing (shP g10) e11 ?_
          refine z_if_eq 60 f_158_50 (by decide) (fun c12 => ?_) (fun c12 => ?_)
          · replace hd := ite_n c12 hd
            refine s_aload_n f_158_60 rfl ?_
            refine L_getR f_158_61 fd_0_47 (obL (by decide)) (by decide) (by decide : rf 8 5 = 143) ?_
            refine s_iload_n f_158_64 rfl ?_
            refine s_iload_n f_158_65 rfl ?_
            refine s_iload_n f_158_66 rfl ?_
            refine s_aload_n f_158_67 rfl ?_
            refine L_getR f_158_68 fd_0_53 (obL (by decide)) (by decide) (by decide : rf 8 6 = 145) ?_
            refine s_iload f_158_71 rfl ?_
            refine L_aaload (ak := 35) (q := (ix a4)) f_158_73 (obL (by decide)) (by decide) (inb_nI g10) (inb_lt g10) (Nat.le_of_ble_eq_true rfl) rfl rfl ?_
            replace hd := obind hd
            obtain ⟨p13, e13, hd⟩ := hd
            refine L_virt (As := [.int a1, .int a2, .int a3, .ref (146 + 2 * (ix a4))]) f_158_74 ca_0_353 rfl rfl (obL (by decide)) (by decide) (Nat.le_of_ble_eq_true rfl) ?_
            refine t_cThrift_check (shP g10) e13 ?_
            refine s_ireturn f_158_77 rfl rfl ?_
            cases hd
            exact hQ
          · replace hd := ite_p c12 hd
            refine s_aload_n f_158_53 rfl ?_
            refine s_ldc f_158_54 ko_0_184 ?_
            replace hd := obind hd
            obtain ⟨p14, e14, hd⟩ := hd
            refine L_virt (As := [.int (-100002 : Int32)]) f_158_56 ca_0_84 rfl rfl (obL (by decide)) (by decide) (Nat.le_of_ble_eq_true rfl) ?_
            refine t_cD_found e14 ?_
            refine s_ireturn f_158_59 rfl rfl ?_
            cases hd
            exact hQ
        · replace hd := ite_n c9 hd
          refine aAt.sub [(0, .ref 8)] rfl ?_
          exact t_cD_proves_J33 _  _ hd hQ

def cSheet_begin (S : SS) (a0 : Nat) (a1 : Int32) (a2 : Int32) : Option (SS) :=
  (cFill 20 (up (up S a0 1 a1) a0 2 a2) (a0 + 1) (0 : Int32)).bind fun p1 =>
  some p1
theorem t_cSheet_begin {l : Launch} {G : aG} {d : Nat} {Q : Option Value → aHeap → Prop} {sl : Nat} {sx : Nat → Int32} {S : SS} {K : KS} {T : TS} {X : XS} {M : SS} {a0 : Nat} {a1 : Int32} {a2 : Int32} (ha0 : 146 ≤ a0 ∧ a0 < 154 ∧ a0 % 2 = 0) {p : SS} (hd : cSheet_begin S a0 a1 a2 = some p) (hQ : Q none (LH (old0 sl sx) p K T X M)) : aCall l G (d + 1) 0 0 161 [.ref a0, .int a1, .int a2] (LH (old0 sl sx) S K T X M) Q := by
  refine aCall.of (by decide) (Nat.le_of_ble_eq_true rfl) ?_
  refine aAt.sub [(0, .ref a0), (1, .int a1), (2, .int a2)] rfl ?_
  unfold cSheet_begin at hd
  refine s_aload_n f_161_0 rfl ?_
  refine s_iload_n f_161_1 rfl ?_
  refine C_putI f_161_2 fd_9_13 (ocs ha0) (scs1 ha0 (by decide)) (Or.inl rfl) (by decide) ?_
  refine s_aload_n f_161_5 rfl ?_
  refine s_iload_n f_161_6 rfl ?_
  refine C_putI f_161_7 fd_9_17 (ocs ha0) (scs1 ha0 (by decide)) (Or.inl rfl) (by decide) ?_
  refine s_aload_n f_161_10 rfl ?_
  refine L_getR f_161_11 fd_9_9 (ocs ha0).1 (scs0 ha0) (rfs0 ha0) ?_
  refine k_iconst (v := 0) f_161_14 (by decide) ?_
  replace hd := obind hd
  obtain ⟨p1, e1, hd⟩ := hd
  refine L_stat (As := [.ref (a0 + 1), .int (0 : Int32)]) f_161_15 ca_9_20 rfl rfl (Nat.le_of_ble_eq_true rfl) ?_
  refine t_cFill (ocsn ha0) (lns ha0) (Nat.le_of_ble_eq_true rfl) e1 ?_
  refine s_return f_161_18 rfl ?_
  cases hd
  exact hQ

def cD_sheet_J29 (S : SS) : Option (Int32 × SS) :=
  (cD_found S (-100001 : Int32)).bind fun p3 =>
  some (p3.1, p3.2)
theorem t_cD_sheet_J29 {l : Launch} {G : aG} {d : Nat} {Q : Option Value → aHeap → Prop} {sl : Nat} {sx : Nat → Int32} {K : KS} {T : TS} {X : XS} {M : SS} : ∀ (S : SS) (p : Int32 × SS), cD_sheet_J29 S = some p → Q (some (.int p.1)) (LH (old0 sl sx) p.2 K T X M) → aAt l G (d + 2) 0 0 160 29 [(0, .ref 8)] [] 0 0 (LH (old0 sl sx) S K T X M) Q := by
  intro S p hd hQ
  unfold cD_sheet_J29 at hd
  refine s_aload_n f_160_29 rfl ?_
  refine s_ldc f_160_30 ko_0_83 ?_
  replace hd := obind hd
  obtain ⟨p3, e3, hd⟩ := hd
  refine L_virt (As := [.int (-100001 : Int32)]) f_160_32 ca_0_84 rfl rfl (obL (by decide)) (by decide) (Nat.le_of_ble_eq_true rfl) ?_
  refine t_cD_found e3 ?_
  refine s_ireturn f_160_35 rfl rfl ?_
  cases hd
  exact hQ
def cD_sheet_J76 (S : SS) (a1 : Int32) (w0 : Nat) (w1 : Int32) (w2 : Int32) : Option (Int32 × SS) :=
  (cSheet_begin S w0 w1 w2).bind fun p9 =>
  if inb a1 4 then
    some ((p9 (146 + 2 * (ix a1)) 2), p9)
  else none
theorem t_cD_sheet_J76 {l : Launch} {G : aG} {d : Nat} {Q : Option Value → aHeap → Prop} {sl : Nat} {sx : Nat → Int32} {K : KS} {T : TS} {X : XS} {M : SS} : ∀ (S : SS) (a1 : Int32) (w0 : Nat) (w1 : Int32) (w2 : Int32) (_ : 146 ≤ w0 ∧ w0 < 154 ∧ w0 % 2 = 0) (p : Int32 × SS), cD_sheet_J76 S a1 w0 w1 w2 = some p → Q (some (.int p.1)) (LH (old0 sl sx) p.2 K T X M) → aAt l G (d + 2) 0 0 160 76 [(0, .ref 8), (1, .int a1)] [.int w2, .int w1, .ref w0] 0 0 (LH (old0 sl sx) S K T X M) Q := by
  intro S a1 w0 w1 w2 hw0 p hd hQ
  unfold cD_sheet_J76 at hd
  replace hd := obind hd
  obtain ⟨p9, e9, hd⟩ := hd
  refine L_virt (As := [.int w1, .int w2]) f_160_76 ca_0_357 rfl rfl (ocs hw0).1 (by decide) (Nat.le_of_ble_eq_true rfl) ?_
  refine t_cSheet_begin hw0 e9 ?_
  refine s_aload_n f_160_79 rfl ?_
  refine L_getR f_160_80 fd_0_53 (obL (by decide)) (by decide) (by decide : rf 8 6 = 145) ?_
  refine s_iload_n f_160_83 rfl ?_
  replace hd := gd hd
  obtain ⟨g10, hd⟩ := hd
  refine L_aaload (ak := 35) (q := (ix a1)) f_160_84 (obL (by decide)) (by decide) (inb_nI g10) (inb_lt g10) (Nat.le_of_ble_eq_true rfl) rfl rfl ?_
  refine C_getI f_160_85 fd_0_328 (ocs (shP g10)) (scs1 (shP g10) (by decide)) ?_
  refine s_ireturn f_160_88 rfl rfl ?_
  cases hd
  exact hQ
def cD_sheet_J36 (S : SS) (a1 : Int32) (a2 : Int32) (a3 : Int32) : Option (Int32 × SS) :=
  if 0 ≤ a3 then
    if a3 ≤ (20 : Int32) then
      if inb a1 4 then
        if a2 = 0 then
          cD_sheet_J76 S a1 (146 + 2 * (ix a1)) a2 (0 : Int32)
        else
          cD_sheet_J76 S a1 (146 + 2 * (ix a1)) a2 a3
      else none
    else
      (cD_found S (-100001 : Int32)).bind fun p11 =>
      some (p11.1, p11.2)
  else
    (cD_found S (-100003 : Int32)).bind fun p12 =>
    some (p12.1, p12.2)
theorem t_cD_sheet_J36 {l : Launch} {G : aG} {d : Nat} {Q : Option Value → aHeap → Prop} {sl : Nat} {sx : Nat → Int32} {K : KS} {T : TS} {X : XS} {M : SS} : ∀ (S : SS) (a1 : Int32) (a2 : Int32) (a3 : Int32) (p : Int32 × SS), cD_sheet_J36 S a1 a2 a3 = some p → Q (some (.int p.1)) (LH (old0 sl sx) p.2 K T X M) → aAt l G (d + 2) 0 0 160 36 [(0, .ref 8), (1, .int a1), (2, .int a2), (3, .int a3)] [] 0 0 (LH (old0 sl sx) S K T X M) Q := by
  intro S a1 a2 a3 p hd hQ
  unfold cD_sheet_J36 at hd
  refine s_iload_n f_160_36 rfl ?_
  refine s_if_ge 47 f_160_37 (by decide) (fun c5 => ?_) (fun c5 => ?_)
  · replace hd := ite_p c5 hd
    refine s_iload_n f_160_47 rfl ?_
    refine k_bipush (v := 20) f_160_48 (by decide) ?_
    refine s_icmp_le 60 f_160_50 (by decide) (fun c6 => ?_) (fun c6 => ?_)
    · replace hd := ite_p c6 hd
      refine s_aload_n f_160_60 rfl ?_
      refine L_getR f_160_61 fd_0_53 (obL (by decide)) (by decide) (by decide : rf 8 6 = 145) ?_
      refine s_iload_n f_160_64 rfl ?_
      replace hd := gd hd
      obtain ⟨g7, hd⟩ := hd
      refine L_aaload (ak := 35) (q := (ix a1)) f_160_65 (obL (by decide)) (by decide) (inb_nI g7) (inb_lt g7) (Nat.le_of_ble_eq_true rfl) rfl rfl ?_
      refine s_iload_n f_160_66 rfl ?_
      refine s_iload_n f_160_67 rfl ?_
      refine s_if_ne 75 f_160_68 (by decide) (fun c8 => ?_) (fun c8 => ?_)
      · replace hd := ite_n c8 hd
        refine s_iload_n f_160_75 rfl ?_
        refine aAt.sub [(0, .ref 8), (1, .int a1)] rfl ?_
        exact t_cD_sheet_J76 _ _ _ _ _ (shP g7) _ hd hQ
      · replace hd := ite_p c8 hd
        refine k_iconst (v := 0) f_160_71 (by decide) ?_
        refine s_goto 76 f_160_72 (by decide) ?_
        refine aAt.sub [(0, .ref 8), (1, .int a1)] rfl ?_
        exact t_cD_sheet_J76 _ _ _ _ _ (shP g7) _ hd hQ
    · replace hd := ite_n c6 hd
      refine s_aload_n f_160_53 rfl ?_
      refine s_ldc f_160_54 ko_0_83 ?_
      replace hd := obind hd
      obtain ⟨p11, e11, hd⟩ := hd
      refine L_virt (As := [.int (-100001 : Int32)]) f_160_56 ca_0_84 rfl rfl (obL (by decide)) (by decide) (Nat.le_of_ble_eq_true rfl) ?_
      refine t_cD_found e11 ?_
      refine s_ireturn f_160_59 rfl rfl ?_
      cases hd
      exact hQ
  · replace hd := ite_n c5 hd
    refine s_aload_n f_160_40 rfl ?_
    refine s_ldc f_160_41 ko_0_183 ?_
    replace hd := obind hd
    obtain ⟨p12, e12, hd⟩ := hd
    refine L_virt (As := [.int (-100003 : Int32)]) f_160_43 ca_0_84 rfl rfl (obL (by decide)) (by decide) (Nat.le_of_ble_eq_true rfl) ?_
    refine t_cD_found e12 ?_
    refine s_ireturn f_160_46 rfl rfl ?_
    cases hd
    exact hQ
def cD_sheet (S : SS) (a1 : Int32) (a2 : Int32) (a3 : Int32) : Option (Int32 × SS) :=
  (cD_isSheet a1).bind fun p1 =>
  if p1 = true then
    if a2 = 0 then
      cD_sheet_J36 S a1 a2 a3
    else
      if a2 = (8 : Int32) then
        cD_sheet_J36 S a1 a2 a3
      else
        if a2 = (16 : Int32) then
          cD_sheet_J36 S a1 a2 a3
        else
          if a2 = (32 : Int32) then
            cD_sheet_J36 S a1 a2 a3
          else
            cD_sheet_J29 S
  else
    cD_sheet_J29 S
theorem t_cD_sheet {l : Launch} {G : aG} {d : Nat} {Q : Option Value → aHeap → Prop} {sl : Nat} {sx : Nat → Int32} {S : SS} {K : KS} {T : TS} {X : XS} {M : SS} {a1 : Int32} {a2 : Int32} {a3 : Int32} {p : Int32 × SS} (hd : cD_sheet S a1 a2 a3 = some p) (hQ : Q (some (.int p.1)) (LH (old0 sl sx) p.2 K T X M)) : aCall l G (d + 2) 0 0 160 [.ref 8, .int a1, .int a2, .int a3] (LH (old0 sl sx) S K T X M) Q := by
  refine aCall.of (by decide) (Nat.le_of_ble_eq_true rfl) ?_
  refine aAt.sub [(0, .ref 8), (1, .int a1), (2, .int a2), (3, .int a3)] rfl ?_
  unfold cD_sheet at hd
  refine s_iload_n f_160_0 rfl ?_
  replace hd := obind hd
  obtain ⟨p1, e1, hd⟩ := hd
  refine L_stat (As := [.int a1]) f_160_1 ca_0_322 rfl rfl (Nat.le_of_ble_eq_true rfl) ?_
  refine t_cD_isSheet e1 ?_
  refine z_if_eq 29 f_160_4 (by decide) (fun c2 => ?_) (fun c2 => ?_)
  · replace hd := ite_n c2 hd
    refine aAt.sub [(0, .ref 8)] rfl ?_
    exact t_cD_sheet_J29 _  _ hd hQ
  · replace hd := ite_p c2 hd
    refine s_iload_n f_160_7 rfl ?_
    refine s_if_eq 36 f_160_8 (by decide) (fun c4 => ?_) (fun c4 => ?_)
    · replace hd := ite_p c4 hd
      refine aAt.sub [(0, .ref 8), (1, .int a1), (2, .int a2), (3, .int a3)] rfl ?_
      exact t_cD_sheet_J36 _ _ _ _  _ hd hQ
    · replace hd := ite_n c4 hd
      refine s_iload_n f_160_11 rfl ?_
      refine k_bipush (v := 8) f_160_12 (by decide) ?_
      refine s_icmp_eq 36 f_160_14 (by decide) (fun c13 => ?_) (fun c13 => ?_)
      · replace hd := ite_p c13 hd
        refine aAt.sub [(0, .ref 8), (1, .int a1), (2, .int a2), (3, .int a3)] rfl ?_
        exact t_cD_sheet_J36 _ _ _ _  _ hd hQ
      · replace hd := ite_n c13 hd
        refine s_iload_n f_160_17 rfl ?_
        refine k_bipush (v := 16) f_160_18 (by decide) ?_
        refine s_icmp_eq 36 f_160_20 (by decide) (fun c14 => ?_) (fun c14 => ?_)
        · replace hd := ite_p c14 hd
          refine aAt.sub [(0, .ref 8), (1, .int a1), (2, .int a2), (3, .int a3)] rfl ?_
          exact t_cD_sheet_J36 _ _ _ _  _ hd hQ
        · replace hd := ite_n c14 hd
          refine s_iload_n f_160_23 rfl ?_
          refine k_bipush (v := 32) f_160_24 (by decide) ?_
          refine s_icmp_eq 36 f_160_26 (by decide) (fun c15 => ?_) (fun c15 => ?_)
          · replace hd := ite_p c15 hd
            refine aAt.sub [(0, .ref 8), (1, .int a1), (2, .int a2), (3, .int a3)] rfl ?_
            exact t_cD_sheet_J36 _ _ _ _  _ hd hQ
          · replace hd := ite_n c15 hd
            refine aAt.sub [(0, .ref 8)] rfl ?_
            exact t_cD_sheet_J29 _  _ hd hQ

def cSheet_write_J34 (S : SS) (w0 : Nat) (w1 : Int32) (w2 : Int32) : Option (SS) :=
  if inb w1 20 then
    some (up S (w0 + 1) (ix w1) w2)
  else none
theorem t_cSheet_write_J34 {l : Launch} {G : aG} {d : Nat} {Q : Option Value → aHeap → Prop} {sl : Nat} {sx : Nat → Int32} {K : KS} {T : TS} {X : XS} {M : SS} : ∀ (S : SS) (w0 : Nat) (w1 : Int32) (w2 : Int32) (_ : 146 ≤ w0 ∧ w0 < 154 ∧ w0 % 2 = 0) (p : SS), cSheet_write_J34 S w0 w1 w2 = some p → Q none (LH (old0 sl sx) p K T X M) → aAt l G d 0 0 163 34 [] [.int w2, .int w1, .ref (w0 + 1)] 0 0 (LH (old0 sl sx) S K T X M) Q := by
  intro S w0 w1 w2 hw0 p hd hQ
  unfold cSheet_write_J34 at hd
  replace hd := gd hd
  obtain ⟨g3, hd⟩ := hd
  refine C_iastore (q := (ix w1)) f_163_34 (ocsn hw0) (lns hw0) (by decide) rfl g3 ?_
  refine s_return f_163_35 rfl ?_
  cases hd
  exact hQ
def cSheet_write (S : SS) (a0 : Nat) (a1 : Int32) (a2 : Int32) : Option (SS) :=
  if (S a0 1) = (8 : Int32) then
    cSheet_write_J34 S a0 a1 (a2.toInt8.toInt32)
  else
    if (S a0 1) = (16 : Int32) then
      cSheet_write_J34 S a0 a1 (a2.toInt16.toInt32)
    else
      cSheet_write_J34 S a0 a1 a2
theorem t_cSheet_write {l : Launch} {G : aG} {d : Nat} {Q : Option Value → aHeap → Prop} {sl : Nat} {sx : Nat → Int32} {S : SS} {K : KS} {T : TS} {X : XS} {M : SS} {a0 : Nat} {a1 : Int32} {a2 : Int32} (ha0 : 146 ≤ a0 ∧ a0 < 154 ∧ a0 % 2 = 0) {p : SS} (hd : cSheet_write S a0 a1 a2 = some p) (hQ : Q none (LH (old0 sl sx) p K T X M)) : aCall l G d 0 0 163 [.ref a0, .int a1, .int a2] (LH (old0 sl sx) S K T X M) Q := by
  refine aCall.of (by decide) (Nat.le_of_ble_eq_true rfl) ?_
  refine aAt.sub [(0, .ref a0), (1, .int a1), (2, .int a2)] rfl ?_
  unfold cSheet_write at hd
  refine s_aload_n f_163_0 rfl ?_
  refine L_getR f_163_1 fd_9_9 (ocs ha0).1 (scs0 ha0) (rfs0 ha0) ?_
  refine s_iload_n f_163_4 rfl ?_
  refine s_aload_n f_163_5 rfl ?_
  refine C_getI f_163_6 fd_9_13 (ocs ha0) (scs1 ha0 (by decide)) ?_
  refine k_bipush (v := 8) f_163_9 (by decide) ?_
  refine s_icmp_ne 19 f_163_11 (by decide) (fun c1 => ?_) (fun c1 => ?_)
  · replace hd := ite_n c1 hd
    refine s_aload_n f_163_19 rfl ?_
    refine C_getI f_163_20 fd_9_13 (ocs ha0) (scs1 ha0 (by decide)) ?_
    refine k_bipush (v := 16) f_163_23 (by decide) ?_
    refine s_icmp_ne 33 f_163_25 (by decide) (fun c2 => ?_) (fun c2 => ?_)
    · replace hd := ite_n c2 hd
      refine s_iload_n f_163_33 rfl ?_
      refine aAt.sub [] rfl ?_
      exact t_cSheet_write_J34 _ _ _ _ ha0 _ hd hQ
    · replace hd := ite_p c2 hd
      refine s_iload_n f_163_28 rfl ?_
      refine s_i2s f_163_29 ?_
      refine s_goto 34 f_163_30 (by decide) ?_
      refine aAt.sub [] rfl ?_
      exact t_cSheet_write_J34 _ _ _ _ ha0 _ hd hQ
  · replace hd := ite_p c1 hd
    refine s_iload_n f_163_14 rfl ?_
    refine s_i2b f_163_15 ?_
    refine s_goto 34 f_163_16 (by decide) ?_
    refine aAt.sub [] rfl ?_
    exact t_cSheet_write_J34 _ _ _ _ ha0 _ hd hQ

def cD_put (S : SS) (a1 : Int32) (a2 : Int32) (a3 : Int32) : Option (Int32 × SS) :=
  (cD_isSheet a1).bind fun p1 =>
  if p1 = true then
    if inb a1 4 then
      (cSheet_isMissing S (146 + 2 * (ix a1))).bind fun p4 =>
      if p4 = true then
        (cD_found S (-100002 : Int32)).bind fun p10 =>
        some (p10.1, p10.2)
      else
        (cD_within a2 (0 : Int32) ((S (146 + 2 * (ix a1)) 2) - (1 : Int32))).bind fun p6 =>
        if p6 = true then
          (cSheet_write S (146 + 2 * (ix a1)) a2 a3).bind fun p8 =>
          some ((0 : Int32), p8)
        else
          (cD_found S (-100001 : Int32)).bind fun p9 =>
          some (p9.1, p9.2)
    else none
  else
    (cD_found S (-100001 : Int32)).bind fun p11 =>
    some (p11.1, p11.2)
theorem t_cD_put {l : Launch} {G : aG} {d : Nat} {Q : Option Value → aHeap → Prop} {sl : Nat} {sx : Nat → Int32} {S : SS} {K : KS} {T : TS} {X : XS} {M : SS} {a1 : Int32} {a2 : Int32} {a3 : Int32} {p : Int32 × SS} (hd : cD_put S a1 a2 a3 = some p) (hQ : Q (some (.int p.1)) (LH (old0 sl sx) p.2 K T X M)) : aCall l G (d + 2) 0 0 162 [.ref 8, .int a1, .int a2, .int a3] (LH (old0 sl sx) S K T X M) Q := by
  refine aCall.of (by decide) (Nat.le_of_ble_eq_true rfl) ?_
  refine aAt.sub [(0, .ref 8), (1, .int a1), (2, .int a2), (3, .int a3)] rfl ?_
  unfold cD_put at hd
  refine s_iload_n f_162_0 rfl ?_
  replace hd := obind hd
  obtain ⟨p1, e1, hd⟩ := hd
  refine L_stat (As := [.int a1]) f_162_1 ca_0_322 rfl rfl (Nat.le_of_ble_eq_true rfl) ?_
  refine t_cD_isSheet e1 ?_
  refine z_if_ne 14 f_162_4 (by decide) (fun c2 => ?_) (fun c2 => ?_)
  · replace hd := ite_p c2 hd
    refine s_aload_n f_162_14 rfl ?_
    refine L_getR f_162_15 fd_0_53 (obL (by decide)) (by decide) (by decide : rf 8 6 = 145) ?_
    refine s_iload_n f_162_18 rfl ?_
    replace hd := gd hd
    obtain ⟨g3, hd⟩ := hd
    refine L_aaload (ak := 35) (q := (ix a1)) f_162_19 (obL (by decide)) (by decide) (inb_nI g3) (inb_lt g3) (Nat.le_of_ble_eq_true rfl) rfl rfl ?_
    replace hd := obind hd
    obtain ⟨p4, e4, hd⟩ := hd
    refine L_virt (As := []) f_162_20 ca_0_325 rfl rfl (ocs (shP g3)).1 (by decide) (Nat.le_of_ble_eq_true rfl) ?_
    refine t_cSheet_isMissing (shP g3) e4 ?_
    refine z_if_eq 33 f_162_23 (by decide) (fun c5 => ?_) (fun c5 => ?_)
    · replace hd := ite_n c5 hd
      refine s_iload_n f_162_33 rfl ?_
      refine k_iconst (v := 0) f_162_34 (by decide) ?_
      refine s_aload_n f_162_35 rfl ?_
      refine L_getR f_162_36 fd_0_53 (obL (by decide)) (by decide) (by decide : rf 8 6 = 145) ?_
      refine s_iload_n f_162_39 rfl ?_
      refine L_aaload (ak := 35) (q := (ix a1)) f_162_40 (obL (by decide)) (by decide) (inb_nI g3) (inb_lt g3) (Nat.le_of_ble_eq_true rfl) rfl rfl ?_
      refine C_getI f_162_41 fd_0_328 (ocs (shP g3)) (scs1 (shP g3) (by decide)) ?_
      refine k_iconst (v := 1) f_162_44 (by decide) ?_
      refine s_isub f_162_45 ?_
      replace hd := obind hd
      obtain ⟨p6, e6, hd⟩ := hd
      refine L_stat (As := [.int a2, .int (0 : Int32), .int ((S (146 + 2 * (ix a1)) 2) - (1 : Int32))]) f_162_46 ca_0_75 rfl rfl (Nat.le_of_ble_eq_true rfl) ?_
      refine t_cD_within e6 ?_
      refine z_if_ne 59 f_162_49 (by decide) (fun c7 => ?_) (fun c7 => ?_)
      · replace hd := ite_p c7 hd
        refine s_aload_n f_162_59 rfl ?_
        refine L_getR f_162_60 fd_0_53 (obL (by decide)) (by decide) (by decide : rf 8 6 = 145) ?_
        refine s_iload_n f_162_63 rfl ?_
        refine L_aaload (ak := 35) (q := (ix a1)) f_162_64 (obL (by decide)) (by decide) (inb_nI g3) (inb_lt g3) (Nat.le_of_ble_eq_true rfl) rfl rfl ?_
        refine s_iload_n f_162_65 rfl ?_
        refine s_iload_n f_162_66 rfl ?_
        replace hd := obind hd
        obtain ⟨p8, e8, hd⟩ := hd
        refine L_virt (As := [.int a2, .int a3]) f_162_67 ca_0_360 rfl rfl (ocs (shP g3)).1 (by decide) (Nat.le_of_ble_eq_true rfl) ?_
        refine t_cSheet_write (shP g3) e8 ?_
        refine k_iconst (v := 0) f_162_70 (by decide) ?_
        refine s_ireturn f_162_71 rfl rfl ?_
        cases hd
        exact hQ
      · replace hd := ite_n c7 hd
        refine s_aload_n f_162_52 rfl ?_
        refine s_ldc f_162_53 ko_0_83 ?_
        replace hd := obind hd
        obtain ⟨p9, e9, hd⟩ := hd
        refine L_virt (As := [.int (-100001 : Int32)]) f_162_55 ca_0_84 rfl rfl (obL (by decide)) (by decide) (Nat.le_of_ble_eq_true rfl) ?_
        refine t_cD_found e9 ?_
        refine s_ireturn f_162_58 rfl rfl ?_
        cases hd
        exact hQ
    · replace hd := ite_p c5 hd
      refine s_aload_n f_162_26 rfl ?_
      refine s_ldc f_162_27 ko_0_184 ?_
      replace hd := obind hd
      obtain ⟨p10, e10, hd⟩ := hd
      refine L_virt (As := [.int (-100002 : Int32)]) f_162_29 ca_0_84 rfl rfl (obL (by decide)) (by decide) (Nat.le_of_ble_eq_true rfl) ?_
      refine t_cD_found e10 ?_
      refine s_ireturn f_162_32 rfl rfl ?_
      cases hd
      exact hQ
  · replace hd := ite_n c2 hd
    refine s_aload_n f_162_7 rfl ?_
    refine s_ldc f_162_8 ko_0_83 ?_
    replace hd := obind hd
    obtain ⟨p11, e11, hd⟩ := hd
    refine L_virt (As := [.int (-100001 : Int32)]) f_162_10 ca_0_84 rfl rfl (obL (by decide)) (by decide) (Nat.le_of_ble_eq_true rfl) ?_
    refine t_cD_found e11 ?_
    refine s_ireturn f_162_13 rfl rfl ?_
    cases hd
    exact hQ

def cSheet_hasRow (S : SS) (a0 : Nat) (a1 : Int32) (a2 : Int32) : Option (Bool) :=
  if a1 < 0 then
    some false
  else
    if a2 < 0 then
      some false
    else
      if (S a0 2) < a2 then
        some false
      else
        if ((S a0 2) - a2) < a1 then
          some false
        else
          some true
theorem t_cSheet_hasRow {l : Launch} {G : aG} {d : Nat} {Q : Option Value → aHeap → Prop} {sl : Nat} {sx : Nat → Int32} {S : SS} {K : KS} {T : TS} {X : XS} {M : SS} {a0 : Nat} {a1 : Int32} {a2 : Int32} (ha0 : 146 ≤ a0 ∧ a0 < 154 ∧ a0 % 2 = 0) {p : Bool} (hd : cSheet_hasRow S a0 a1 a2 = some p) (hQ : Q (some (.int (b2i p))) (LH (old0 sl sx) S K T X M)) : aCall l G d 0 0 165 [.ref a0, .int a1, .int a2] (LH (old0 sl sx) S K T X M) Q := by
  refine aCall.of (by decide) (Nat.le_of_ble_eq_true rfl) ?_
  refine aAt.sub [(0, .ref a0), (1, .int a1), (2, .int a2)] rfl ?_
  unfold cSheet_hasRow at hd
  refine s_iload_n f_165_0 rfl ?_
  refine s_if_lt 30 f_165_1 (by decide) (fun c1 => ?_) (fun c1 => ?_)
  · replace hd := ite_p c1 hd
    refine k_iconst (v := 0) f_165_30 (by decide) ?_
    refine s_iretB (b := false) f_165_31 rfl ?_
    cases hd
    exact hQ
  · replace hd := ite_n c1 hd
    refine s_iload_n f_165_4 rfl ?_
    refine s_if_lt 30 f_165_5 (by decide) (fun c2 => ?_) (fun c2 => ?_)
    · replace hd := ite_p c2 hd
      refine k_iconst (v := 0) f_165_30 (by decide) ?_
      refine s_iretB (b := false) f_165_31 rfl ?_
      cases hd
      exact hQ
    · replace hd := ite_n c2 hd
      refine s_iload_n f_165_8 rfl ?_
      refine s_aload_n f_165_9 rfl ?_
      refine C_getI f_165_10 fd_9_17 (ocs ha0) (scs1 ha0 (by decide)) ?_
      refine s_icmp_gt 30 f_165_13 (by decide) (fun c3 => ?_) (fun c3 => ?_)
      · replace hd := ite_p c3 hd
        refine k_iconst (v := 0) f_165_30 (by decide) ?_
        refine s_iretB (b := false) f_165_31 rfl ?_
        cases hd
        exact hQ
      · replace hd := ite_n c3 hd
        refine s_iload_n f_165_16 rfl ?_
        refine s_aload_n f_165_17 rfl ?_
        refine C_getI f_165_18 fd_9_17 (ocs ha0) (scs1 ha0 (by decide)) ?_
        refine s_iload_n f_165_21 rfl ?_
        refine s_isub f_165_22 ?_
        refine s_icmp_gt 30 f_165_23 (by decide) (fun c4 => ?_) (fun c4 => ?_)
        · replace hd := ite_p c4 hd
          refine k_iconst (v := 0) f_165_30 (by decide) ?_
          refine s_iretB (b := false) f_165_31 rfl ?_
          cases hd
          exact hQ
        · replace hd := ite_n c4 hd
          refine k_iconst (v := 1) f_165_26 (by decide) ?_
          refine s_goto 31 f_165_27 (by decide) ?_
          refine s_iretB (b := true) f_165_31 rfl ?_
          cases hd
          exact hQ

def cD_copy_J14 (S : SS) : Option (Int32 × SS) :=
  (cD_found S (-100001 : Int32)).bind fun p3 =>
  some (p3.1, p3.2)
theorem t_cD_copy_J14 {l : Launch} {G : aG} {d : Nat} {Q : Option Value → aHeap → Prop} {sl : Nat} {sx : Nat → Int32} {K : KS} {T : TS} {X : XS} {M : SS} : ∀ (S : SS) (p : Int32 × SS), cD_copy_J14 S = some p → Q (some (.int p.1)) (LH (old0 sl sx) p.2 K T X M) → aAt l G (d + 2) 0 0 164 14 [(0, .ref 8)] [] 0 0 (LH (old0 sl sx) S K T X M) Q := by
  intro S p hd hQ
  unfold cD_copy_J14 at hd
  refine s_aload_n f_164_14 rfl ?_
  refine s_ldc f_164_15 ko_0_83 ?_
  replace hd := obind hd
  obtain ⟨p3, e3, hd⟩ := hd
  refine L_virt (As := [.int (-100001 : Int32)]) f_164_17 ca_0_84 rfl rfl (obL (by decide)) (by decide) (Nat.le_of_ble_eq_true rfl) ?_
  refine t_cD_found e3 ?_
  refine s_ireturn f_164_20 rfl rfl ?_
  cases hd
  exact hQ
def cD_copy_J45 (S : SS) : Option (Int32 × SS) :=
  (cD_found S (-100002 : Int32)).bind fun p9 =>
  some (p9.1, p9.2)
theorem t_cD_copy_J45 {l : Launch} {G : aG} {d : Nat} {Q : Option Value → aHeap → Prop} {sl : Nat} {sx : Nat → Int32} {K : KS} {T : TS} {X : XS} {M : SS} : ∀ (S : SS) (p : Int32 × SS), cD_copy_J45 S = some p → Q (some (.int p.1)) (LH (old0 sl sx) p.2 K T X M) → aAt l G (d + 2) 0 0 164 45 [(0, .ref 8)] [] 0 0 (LH (old0 sl sx) S K T X M) Q := by
  intro S p hd hQ
  unfold cD_copy_J45 at hd
  refine s_aload_n f_164_45 rfl ?_
  refine s_ldc f_164_46 ko_0_184 ?_
  replace hd := obind hd
  obtain ⟨p9, e9, hd⟩ := hd
  refine L_virt (As := [.int (-100002 : Int32)]) f_164_48 ca_0_84 rfl rfl (obL (by decide)) (by decide) (Nat.le_of_ble_eq_true rfl) ?_
  refine t_cD_found e9 ?_
  refine s_ireturn f_164_51 rfl rfl ?_
  cases hd
  exact hQ
def cD_copy_J111 (S : SS) : Option (Int32 × SS) :=
  (cD_found S (-100001 : Int32)).bind fun p16 =>
  some (p16.1, p16.2)
theorem t_cD_copy_J111 {l : Launch} {G : aG} {d : Nat} {Q : Option Value → aHeap → Prop} {sl : Nat} {sx : Nat → Int32} {K : KS} {T : TS} {X : XS} {M : SS} : ∀ (S : SS) (p : Int32 × SS), cD_copy_J111 S = some p → Q (some (.int p.1)) (LH (old0 sl sx) p.2 K T X M) → aAt l G (d + 2) 0 0 164 111 [(0, .ref 8)] [] 0 0 (LH (old0 sl sx) S K T X M) Q := by
  intro S p hd hQ
  unfold cD_copy_J111 at hd
  refine s_aload_n f_164_111 rfl ?_
  refine s_ldc f_164_112 ko_0_83 ?_
  replace hd := obind hd
  obtain ⟨p16, e16, hd⟩ := hd
  refine L_virt (As := [.int (-100001 : Int32)]) f_164_114 ca_0_84 rfl rfl (obL (by decide)) (by decide) (Nat.le_of_ble_eq_true rfl) ?_
  refine t_cD_found e16 ?_
  refine s_ireturn f_164_117 rfl rfl ?_
  cases hd
  exact hQ
def cD_copy (S : SS) (a1 : Int32) (a2 : Int32) (a3 : Int32) (a4 : Int32) (a5 : Int32) : Option (Int32 × SS) :=
  (cD_isSheet a1).bind fun p1 =>
  if p1 = true then
    (cD_isSheet a3).bind fun p4 =>
    if p4 = true then
      if inb a1 4 then
        (cSheet_isMissing S (146 + 2 * (ix a1))).bind fun p7 =>
        if p7 = true then
          cD_copy_J45 S
        else
          if inb a3 4 then
            (cSheet_isMissing S (146 + 2 * (ix a3))).bind fun p11 =>
            if p11 = true then
              cD_copy_J45 S
            else
              if (S (146 + 2 * (ix a1)) 1) = (S (146 + 2 * (ix a3)) 1) then
                (cSheet_hasRow S (146 + 2 * (ix a1)) a2 a5).bind fun p14 =>
                if p14 = true then
                  (cSheet_hasRow S (146 + 2 * (ix a3)) a4 a5).bind fun p17 =>
                  if p17 = true then
                    if cpOk 20 20 a2 a4 a5 then
                      some (a5, (cpS S ((146 + 2 * (ix a1)) + 1) a2 ((146 + 2 * (ix a3)) + 1) a4 a5))
                    else none
                  else
                    cD_copy_J111 S
                else
                  cD_copy_J111 S
              else
                (cD_found S (-100004 : Int32)).bind fun p20 =>
                some (p20.1, p20.2)
          else none
      else none
    else
      cD_copy_J14 S
  else
    cD_copy_J14 S
theorem t_cD_copy {l : Launch} {G : aG} {d : Nat} {Q : Option Value → aHeap → Prop} {sl : Nat} {sx : Nat → Int32} {S : SS} {K : KS} {T : TS} {X : XS} {M : SS} {a1 : Int32} {a2 : Int32} {a3 : Int32} {a4 : Int32} {a5 : Int32} {p : Int32 × SS} (hd : cD_copy S a1 a2 a3 a4 a5 = some p) (hQ : Q (some (.int p.1)) (LH (old0 sl sx) p.2 K T X M)) : aCall l G (d + 2) 0 0 164 [.ref 8, .int a1, .int a2, .int a3, .int a4, .int a5] (LH (old0 sl sx) S K T X M) Q := by
  refine aCall.of (by decide) (Nat.le_of_ble_eq_true rfl) ?_
  refine aAt.sub [(0, .ref 8), (1, .int a1), (2, .int a2), (3, .int a3), (4, .int a4), (5, .int a5)] rfl ?_
  unfold cD_copy at hd
  refine s_iload_n f_164_0 rfl ?_
  replace hd := obind hd
  obtain ⟨p1, e1, hd⟩ := hd
  refine L_stat (As := [.int a1]) f_164_1 ca_0_322 rfl rfl (Nat.le_of_ble_eq_true rfl) ?_
  refine t_cD_isSheet e1 ?_
  refine z_if_eq 14 f_164_4 (by decide) (fun c2 => ?_) (fun c2 => ?_)
  · replace hd := ite_n c2 hd
    refine aAt.sub [(0, .ref 8)] rfl ?_
    exact t_cD_copy_J14 _  _ hd hQ
  · replace hd := ite_p c2 hd
    refine s_iload_n f_164_7 rfl ?_
    replace hd := obind hd
    obtain ⟨p4, e4, hd⟩ := hd
    refine L_stat (As := [.int a3]) f_164_8 ca_0_322 rfl rfl (Nat.le_of_ble_eq_true rfl) ?_
    refine t_cD_isSheet e4 ?_
    refine z_if_ne 21 f_164_11 (by decide) (fun c5 => ?_) (fun c5 => ?_)
    · replace hd := ite_p c5 hd
      refine s_aload_n f_164_21 rfl ?_
      refine L_getR f_164_22 fd_0_53 (obL (by decide)) (by decide) (by decide : rf 8 6 = 145) ?_
      refine s_iload_n f_164_25 rfl ?_
      replace hd := gd hd
      obtain ⟨g6, hd⟩ := hd
      refine L_aaload (ak := 35) (q := (ix a1)) f_164_26 (obL (by decide)) (by decide) (inb_nI g6) (inb_lt g6) (Nat.le_of_ble_eq_true rfl) rfl rfl ?_
      replace hd := obind hd
      obtain ⟨p7, e7, hd⟩ := hd
      refine L_virt (As := []) f_164_27 ca_0_325 rfl rfl (ocs (shP g6)).1 (by decide) (Nat.le_of_ble_eq_true rfl) ?_
      refine t_cSheet_isMissing (shP g6) e7 ?_
      refine z_if_ne 45 f_164_30 (by decide) (fun c8 => ?_) (fun c8 => ?_)
      · replace hd := ite_p c8 hd
        refine aAt.sub [(0, .ref 8)] rfl ?_
        exact t_cD_copy_J45 _  _ hd hQ
      · replace hd := ite_n c8 hd
        refine s_aload_n f_164_33 rfl ?_
        refine L_getR f_164_34 fd_0_53 (obL (by decide)) (by decide) (by decide : rf 8 6 = 145) ?_
        refine s_iload_n f_164_37 rfl ?_
        replace hd := gd hd
        obtain ⟨g10, hd⟩ := hd
        refine L_aaload (ak := 35) (q := (ix a3)) f_164_38 (obL (by decide)) (by decide) (inb_nI g10) (inb_lt g10) (Nat.le_of_ble_eq_true rfl) rfl rfl ?_
        replace hd := obind hd
        obtain ⟨p11, e11, hd⟩ := hd
        refine L_virt (As := []) f_164_39 ca_0_325 rfl rfl (ocs (shP g10)).1 (by decide) (Nat.le_of_ble_eq_true rfl) ?_
        refine t_cSheet_isMissing (shP g10) e11 ?_
        refine z_if_eq 52 f_164_42 (by decide) (fun c12 => ?_) (fun c12 => ?_)
        · replace hd := ite_n c12 hd
          refine s_aload_n f_164_52 rfl ?_
          refine L_getR f_164_53 fd_0_53 (obL (by decide)) (by decide) (by decide : rf 8 6 = 145) ?_
          refine s_iload_n f_164_56 rfl ?_
          refine L_aaload (ak := 35) (q := (ix a1)) f_164_57 (obL (by decide)) (by decide) (inb_nI g6) (inb_lt g6) (Nat.le_of_ble_eq_true rfl) rfl rfl ?_
          refine C_getI f_164_58 fd_0_363 (ocs (shP g6)) (scs1 (shP g6) (by decide)) ?_
          refine s_aload_n f_164_61 rfl ?_
          refine L_getR f_164_62 fd_0_53 (obL (by decide)) (by decide) (by decide : rf 8 6 = 145) ?_
          refine s_iload_n f_164_65 rfl ?_
          refine L_aaload (ak := 35) (q := (ix a3)) f_164_66 (obL (by decide)) (by decide) (inb_nI g10) (inb_lt g10) (Nat.le_of_ble_eq_true rfl) rfl rfl ?_
          refine C_getI f_164_67 fd_0_363 (ocs (shP g10)) (scs1 (shP g10) (by decide)) ?_
          refine s_icmp_eq 80 f_164_70 (by decide) (fun c13 => ?_) (fun c13 => ?_)
          · replace hd := ite_p c13 hd
            refine s_aload_n f_164_80 rfl ?_
            refine L_getR f_164_81 fd_0_53 (obL (by decide)) (by decide) (by decide : rf 8 6 = 145) ?_
            refine s_iload_n f_164_84 rfl ?_
            refine L_aaload (ak := 35) (q := (ix a1)) f_164_85 (obL (by decide)) (by decide) (inb_nI g6) (inb_lt g6) (Nat.le_of_ble_eq_true rfl) rfl rfl ?_
            refine s_iload_n f_164_86 rfl ?_
            refine s_iload f_164_87 rfl ?_
            replace hd := obind hd
            obtain ⟨p14, e14, hd⟩ := hd
            refine L_virt (As := [.int a2, .int a5]) f_164_89 ca_0_366 rfl rfl (ocs (shP g6)).1 (by decide) (Nat.le_of_ble_eq_true rfl) ?_
            refine t_cSheet_hasRow (shP g6) e14 ?_
            refine z_if_eq 111 f_164_92 (by decide) (fun c15 => ?_) (fun c15 => ?_)
            · replace hd := ite_n c15 hd
              refine aAt.sub [(0, .ref 8)] rfl ?_
              exact t_cD_copy_J111 _  _ hd hQ
            · replace hd := ite_p c15 hd
              refine s_aload_n f_164_95 rfl ?_
              refine L_getR f_164_96 fd_0_53 (obL (by decide)) (by decide) (by decide : rf 8 6 = 145) ?_
              refine s_iload_n f_164_99 rfl ?_
              refine L_aaload (ak := 35) (q := (ix a3)) f_164_100 (obL (by decide)) (by decide) (inb_nI g10) (inb_lt g10) (Nat.le_of_ble_eq_true rfl) rfl rfl ?_
              refine s_iload f_164_101 rfl ?_
              refine s_iload f_164_103 rfl ?_
              replace hd := obind hd
              obtain ⟨p17, e17, hd⟩ := hd
              refine L_virt (As := [.int a4, .int a5]) f_164_105 ca_0_366 rfl rfl (ocs (shP g10)).1 (by decide) (Nat.le_of_ble_eq_true rfl) ?_
              refine t_cSheet_hasRow (shP g10) e17 ?_
              refine z_if_ne 118 f_164_108 (by decide) (fun c18 => ?_) (fun c18 => ?_)
              · replace hd := ite_p c18 hd
                refine s_aload_n f_164_118 rfl ?_
                refine L_getR f_164_119 fd_0_53 (obL (by decide)) (by decide) (by decide : rf 8 6 = 145) ?_
                refine s_iload_n f_164_122 rfl ?_
                refine L_aaload (ak := 35) (q := (ix a1)) f_164_123 (obL (by decide)) (by decide) (inb_nI g6) (inb_lt g6) (Nat.le_of_ble_eq_true rfl) rfl rfl ?_
                refine L_getR f_164_124 fd_0_329 (ocs (shP g6)).1 (scs0 (shP g6)) (rfs0 (shP g6)) ?_
                refine s_iload_n f_164_127 rfl ?_
                refine s_aload_n f_164_128 rfl ?_
                refine L_getR f_164_129 fd_0_53 (obL (by decide)) (by decide) (by decide : rf 8 6 = 145) ?_
                refine s_iload_n f_164_132 rfl ?_
                refine L_aaload (ak := 35) (q := (ix a3)) f_164_133 (obL (by decide)) (by decide) (inb_nI g10) (inb_lt g10) (Nat.le_of_ble_eq_true rfl) rfl rfl ?_
                refine L_getR f_164_134 fd_0_329 (ocs (shP g10)).1 (scs0 (shP g10)) (rfs0 (shP g10)) ?_
                refine s_iload f_164_137 rfl ?_
                refine s_iload f_164_139 rfl ?_
                replace hd := gd hd
                obtain ⟨g19, hd⟩ := hd
                refine C_acopy f_164_141 ca_0_369 (ocsn (shP g6)) (ocsn (shP g10)) (lns (shP g6)) (lns (shP g10)) g19 (Nat.le_of_ble_eq_true rfl) ?_
                refine s_iload f_164_144 rfl ?_
                refine s_ireturn f_164_146 rfl rfl ?_
                cases hd
                exact hQ
              · replace hd := ite_n c18 hd
                refine aAt.sub [(0, .ref 8)] rfl ?_
                exact t_cD_copy_J111 _  _ hd hQ
          · replace hd := ite_n c13 hd
            refine s_aload_n f_164_73 rfl ?_
            refine s_ldc f_164_74 ko_0_216 ?_
            replace hd := obind hd
            obtain ⟨p20, e20, hd⟩ := hd
            refine L_virt (As := [.int (-100004 : Int32)]) f_164_76 ca_0_84 rfl rfl (obL (by decide)) (by decide) (Nat.le_of_ble_eq_true rfl) ?_
            refine t_cD_found e20 ?_
            refine s_ireturn f_164_79 rfl rfl ?_
            cases hd
            exact hQ
        · replace hd := ite_p c12 hd
          refine aAt.sub [(0, .ref 8)] rfl ?_
          exact t_cD_copy_J45 _  _ hd hQ
    · replace hd := ite_n c5 hd
      refine aAt.sub [(0, .ref 8)] rfl ?_
      exact t_cD_copy_J14 _  _ hd hQ

def cPaper_become (S : SS) (a0 : Nat) (a1 : Nat) : Option (SS) :=
  (cPaper_begin S a0 (S a1 0) (S a1 1) (S a1 2) (S a1 3) (S a1 5) (S a1 6)).bind fun p1 =>
  some (up (up (up (up p1 a0 4 (p1 a1 4)) a0 7 ((up p1 a0 4 (p1 a1 4)) a1 7)) a0 8 ((up (up p1 a0 4 (p1 a1 4)) a0 7 ((up p1 a0 4 (p1 a1 4)) a1 7)) a1 8)) a0 9 ((up (up (up p1 a0 4 (p1 a1 4)) a0 7 ((up p1 a0 4 (p1 a1 4)) a1 7)) a0 8 ((up (up p1 a0 4 (p1 a1 4)) a0 7 ((up p1 a0 4 (p1 a1 4)) a1 7)) a1 8)) a1 9))
theorem t_cPaper_become {l : Launch} {G : aG} {d : Nat} {Q : Option Value → aHeap → Prop} {sl : Nat} {sx : Nat → Int32} {S : SS} {K : KS} {T : TS} {X : XS} {M : SS} {a0 : Nat} {a1 : Nat} (ha0 : oc X.2 a0 5) (ha1 : oc X.2 a1 5) {p : SS} (hd : cPaper_become S a0 a1 = some p) (hQ : Q none (LH (old0 sl sx) p K T X M)) : aCall l G (d + 1) 0 0 170 [.ref a0, .ref a1] (LH (old0 sl sx) S K T X M) Q := by
  refine aCall.of (by decide) (Nat.le_of_ble_eq_true rfl) ?_
  refine aAt.sub [(0, .ref a0), (1, .ref a1)] rfl ?_
  unfold cPaper_become at hd
  refine s_aload_n f_170_0 rfl ?_
  refine s_aload_n f_170_1 rfl ?_
  refine C_getI f_170_2 fd_5_9 ha1 (sck0 (k := X.2) ha1.1 (by decide)) ?_
  refine s_aload_n f_170_5 rfl ?_
  refine C_getI f_170_6 fd_5_15 ha1 (sck0 (k := X.2) ha1.1 (by decide)) ?_
  refine s_aload_n f_170_9 rfl ?_
  refine C_getI f_170_10 fd_5_18 ha1 (sck0 (k := X.2) ha1.1 (by decide)) ?_
  refine s_aload_n f_170_13 rfl ?_
  refine C_getI f_170_14 fd_5_21 ha1 (sck0 (k := X.2) ha1.1 (by decide)) ?_
  refine s_aload_n f_170_17 rfl ?_
  refine C_getI f_170_18 fd_5_27 ha1 (sck0 (k := X.2) ha1.1 (by decide)) ?_
  refine s_aload_n f_170_21 rfl ?_
  refine C_getI f_170_22 fd_5_30 ha1 (sck0 (k := X.2) ha1.1 (by decide)) ?_
  replace hd := obind hd
  obtain ⟨p1, e1, hd⟩ := hd
  refine L_virt (As := [.int (S a1 0), .int (S a1 1), .int (S a1 2), .int (S a1 3), .int (S a1 5), .int (S a1 6)]) f_170_25 ca_5_42 rfl rfl ha0.1 (by decide) (Nat.le_of_ble_eq_true rfl) ?_
  refine t_cPaper_begin ha0 e1 ?_
  refine s_aload_n f_170_28 rfl ?_
  refine s_aload_n f_170_29 rfl ?_
  refine C_getI f_170_30 fd_5_24 ha1 (sck0 (k := X.2) ha1.1 (by decide)) ?_
  refine C_putI f_170_33 fd_5_24 ha0 (sck0 (k := X.2) ha0.1 (by decide)) (Or.inl rfl) (by decide) ?_
  refine s_aload_n f_170_36 rfl ?_
  refine s_aload_n f_170_37 rfl ?_
  refine C_getI f_170_38 fd_5_33 ha1 (sck0 (k := X.2) ha1.1 (by decide)) ?_
  refine C_putI f_170_41 fd_5_33 ha0 (sck0 (k := X.2) ha0.1 (by decide)) (Or.inl rfl) (by decide) ?_
  refine s_aload_n f_170_44 rfl ?_
  refine s_aload_n f_170_45 rfl ?_
  refine C_getI f_170_46 fd_5_36 ha1 (sck0 (k := X.2) ha1.1 (by decide)) ?_
  refine C_putI f_170_49 fd_5_36 ha0 (sck0 (k := X.2) ha0.1 (by decide)) (Or.inl rfl) (by decide) ?_
  refine s_aload_n f_170_52 rfl ?_
  refine s_aload_n f_170_53 rfl ?_
  refine C_getI f_170_54 fd_5_39 ha1 (sck0 (k := X.2) ha1.1 (by decide)) ?_
  refine C_putI f_170_57 fd_5_39 ha0 (sck0 (k := X.2) ha0.1 (by decide)) (Or.inl rfl) (by decide) ?_
  refine s_return f_170_60 rfl ?_
  cases hd
  exact hQ

def cField_become (S : SS) (a0 : Nat) (a1 : Nat) : Option (SS) :=
  if (S a1 3) = 0 ∨ (S a1 3) = 1 then
    (cField_begin S a0 (S a1 0) (S a1 1) (decide ((S a1 3) = 1))).bind fun p2 =>
    some (up p2 a0 2 (p2 a1 2))
  else none
theorem t_cField_become {l : Launch} {G : aG} {d : Nat} {Q : Option Value → aHeap → Prop} {sl : Nat} {sx : Nat → Int32} {S : SS} {K : KS} {T : TS} {X : XS} {M : SS} {a0 : Nat} {a1 : Nat} (ha0 : oc X.2 a0 2) (ha1 : oc X.2 a1 2) {p : SS} (hd : cField_become S a0 a1 = some p) (hQ : Q none (LH (old0 sl sx) p K T X M)) : aCall l G (d + 1) 0 0 169 [.ref a0, .ref a1] (LH (old0 sl sx) S K T X M) Q := by
  refine aCall.of (by decide) (Nat.le_of_ble_eq_true rfl) ?_
  refine aAt.sub [(0, .ref a0), (1, .ref a1)] rfl ?_
  unfold cField_become at hd
  refine s_aload_n f_169_0 rfl ?_
  refine s_aload_n f_169_1 rfl ?_
  refine C_getI f_169_2 fd_2_7 ha1 (sck0 (k := X.2) ha1.1 (by decide)) ?_
  refine s_aload_n f_169_5 rfl ?_
  refine C_getI f_169_6 fd_2_13 ha1 (sck0 (k := X.2) ha1.1 (by decide)) ?_
  refine s_aload_n f_169_9 rfl ?_
  refine C_getI f_169_10 fd_2_19 ha1 (sck0 (k := X.2) ha1.1 (by decide)) ?_
  replace hd := gd hd
  obtain ⟨g1, hd⟩ := hd
  refine aAt.stk [.int (b2i (decide ((S a1 3) = 1))), .int (S a1 1), .int (S a1 0), .ref a0] (by rw [← z01 g1] <;> rfl) ?_
  replace hd := obind hd
  obtain ⟨p2, e2, hd⟩ := hd
  refine L_virt (As := [.int (S a1 0), .int (S a1 1), .int (b2i (decide ((S a1 3) = 1)))]) f_169_13 ca_2_23 rfl rfl ha0.1 (by decide) (Nat.le_of_ble_eq_true rfl) ?_
  refine t_cField_begin ha0 e2 ?_
  refine s_aload_n f_169_16 rfl ?_
  refine s_aload_n f_169_17 rfl ?_
  refine C_getI f_169_18 fd_2_16 ha1 (sck0 (k := X.2) ha1.1 (by decide)) ?_
  refine C_putI f_169_21 fd_2_16 ha0 (sck0 (k := X.2) ha0.1 (by decide)) (Or.inl rfl) (by decide) ?_
  refine s_return f_169_24 rfl ?_
  cases hd
  exact hQ

def cPerson_become (S : SS) (a0 : Nat) (a1 : Nat) : Option (SS) :=
  (cPerson_begin S a0 (S a1 0) (S a1 1) (S a1 2) (S a1 3)).bind fun p1 =>
  if ((up (up (up (up p1 a0 4 (p1 a1 4)) a0 5 ((up p1 a0 4 (p1 a1 4)) a1 5)) a0 6 ((up (up p1 a0 4 (p1 a1 4)) a0 5 ((up p1 a0 4 (p1 a1 4)) a1 5)) a1 6)) a0 7 ((up (up (up p1 a0 4 (p1 a1 4)) a0 5 ((up p1 a0 4 (p1 a1 4)) a1 5)) a0 6 ((up (up p1 a0 4 (p1 a1 4)) a0 5 ((up p1 a0 4 (p1 a1 4)) a1 5)) a1 6)) a1 7)) a1 8) = 0 ∨ ((up (up (up (up p1 a0 4 (p1 a1 4)) a0 5 ((up p1 a0 4 (p1 a1 4)) a1 5)) a0 6 ((up (up p1 a0 4 (p1 a1 4)) a0 5 ((up p1 a0 4 (p1 a1 4)) a1 5)) a1 6)) a0 7 ((up (up (up p1 a0 4 (p1 a1 4)) a0 5 ((up p1 a0 4 (p1 a1 4)) a1 5)) a0 6 ((up (up p1 a0 4 (p1 a1 4)) a0 5 ((up p1 a0 4 (p1 a1 4)) a1 5)) a1 6)) a1 7)) a1 8) = 1 then
    if ((up (up (up (up (up p1 a0 4 (p1 a1 4)) a0 5 ((up p1 a0 4 (p1 a1 4)) a1 5)) a0 6 ((up (up p1 a0 4 (p1 a1 4)) a0 5 ((up p1 a0 4 (p1 a1 4)) a1 5)) a1 6)) a0 7 ((up (up (up p1 a0 4 (p1 a1 4)) a0 5 ((up p1 a0 4 (p1 a1 4)) a1 5)) a0 6 ((up (up p1 a0 4 (p1 a1 4)) a0 5 ((up p1 a0 4 (p1 a1 4)) a1 5)) a1 6)) a1 7)) a0 8 ((up (up (up (up p1 a0 4 (p1 a1 4)) a0 5 ((up p1 a0 4 (p1 a1 4)) a1 5)) a0 6 ((up (up p1 a0 4 (p1 a1 4)) a0 5 ((up p1 a0 4 (p1 a1 4)) a1 5)) a1 6)) a0 7 ((up (up (up p1 a0 4 (p1 a1 4)) a0 5 ((up p1 a0 4 (p1 a1 4)) a1 5)) a0 6 ((up (up p1 a0 4 (p1 a1 4)) a0 5 ((up p1 a0 4 (p1 a1 4)) a1 5)) a1 6)) a1 7)) a1 8)) a1 9) = 0 ∨ ((up (up (up (up (up p1 a0 4 (p1 a1 4)) a0 5 ((up p1 a0 4 (p1 a1 4)) a1 5)) a0 6 ((up (up p1 a0 4 (p1 a1 4)) a0 5 ((up p1 a0 4 (p1 a1 4)) a1 5)) a1 6)) a0 7 ((up (up (up p1 a0 4 (p1 a1 4)) a0 5 ((up p1 a0 4 (p1 a1 4)) a1 5)) a0 6 ((up (up p1 a0 4 (p1 a1 4)) a0 5 ((up p1 a0 4 (p1 a1 4)) a1 5)) a1 6)) a1 7)) a0 8 ((up (up (up (up p1 a0 4 (p1 a1 4)) a0 5 ((up p1 a0 4 (p1 a1 4)) a1 5)) a0 6 ((up (up p1 a0 4 (p1 a1 4)) a0 5 ((up p1 a0 4 (p1 a1 4)) a1 5)) a1 6)) a0 7 ((up (up (up p1 a0 4 (p1 a1 4)) a0 5 ((up p1 a0 4 (p1 a1 4)) a1 5)) a0 6 ((up (up p1 a0 4 (p1 a1 4)) a0 5 ((up p1 a0 4 (p1 a1 4)) a1 5)) a1 6)) a1 7)) a1 8)) a1 9) = 1 then
      some (up (up (up (up (up (up p1 a0 4 (p1 a1 4)) a0 5 ((up p1 a0 4 (p1 a1 4)) a1 5)) a0 6 ((up (up p1 a0 4 (p1 a1 4)) a0 5 ((up p1 a0 4 (p1 a1 4)) a1 5)) a1 6)) a0 7 ((up (up (up p1 a0 4 (p1 a1 4)) a0 5 ((up p1 a0 4 (p1 a1 4)) a1 5)) a0 6 ((up (up p1 a0 4 (p1 a1 4)) a0 5 ((up p1 a0 4 (p1 a1 4)) a1 5)) a1 6)) a1 7)) a0 8 ((up (up (up (up p1 a0 4 (p1 a1 4)) a0 5 ((up p1 a0 4 (p1 a1 4)) a1 5)) a0 6 ((up (up p1 a0 4 (p1 a1 4)) a0 5 ((up p1 a0 4 (p1 a1 4)) a1 5)) a1 6)) a0 7 ((up (up (up p1 a0 4 (p1 a1 4)) a0 5 ((up p1 a0 4 (p1 a1 4)) a1 5)) a0 6 ((up (up p1 a0 4 (p1 a1 4)) a0 5 ((up p1 a0 4 (p1 a1 4)) a1 5)) a1 6)) a1 7)) a1 8)) a0 9 ((up (up (up (up (up p1 a0 4 (p1 a1 4)) a0 5 ((up p1 a0 4 (p1 a1 4)) a1 5)) a0 6 ((up (up p1 a0 4 (p1 a1 4)) a0 5 ((up p1 a0 4 (p1 a1 4)) a1 5)) a1 6)) a0 7 ((up (up (up p1 a0 4 (p1 a1 4)) a0 5 ((up p1 a0 4 (p1 a1 4)) a1 5)) a0 6 ((up (up p1 a0 4 (p1 a1 4)) a0 5 ((up p1 a0 4 (p1 a1 4)) a1 5)) a1 6)) a1 7)) a0 8 ((up (up (up (up p1 a0 4 (p1 a1 4)) a0 5 ((up p1 a0 4 (p1 a1 4)) a1 5)) a0 6 ((up (up p1 a0 4 (p1 a1 4)) a0 5 ((up p1 a0 4 (p1 a1 4)) a1 5)) a1 6)) a0 7 ((up (up (up p1 a0 4 (p1 a1 4)) a0 5 ((up p1 a0 4 (p1 a1 4)) a1 5)) a0 6 ((up (up p1 a0 4 (p1 a1 4)) a0 5 ((up p1 a0 4 (p1 a1 4)) a1 5)) a1 6)) a1 7)) a1 8)) a1 9))
    else none
  else none
theorem t_cPerson_become {l : Launch} {G : aG} {d : Nat} {Q : Option Value → aHeap → Prop} {sl : Nat} {sx : Nat → Int32} {S : SS} {K : KS} {T : TS} {X : XS} {M : SS} {a0 : Nat} {a1 : Nat} (ha0 : oc X.2 a0 6) (ha1 : oc X.2 a1 6) {p : SS} (hd : cPerson_become S a0 a1 = some p) (hQ : Q none (LH (old0 sl sx) p K T X M)) : aCall l G (d + 1) 0 0 168 [.ref a0, .ref a1] (LH (old0 sl sx) S K T X M) Q := by
  refine aCall.of (by decide) (Nat.le_of_ble_eq_true rfl) ?_
  refine aAt.sub [(0, .ref a0), (1, .ref a1)] rfl ?_
  unfold cPerson_become at hd
  refine s_aload_n f_168_0 rfl ?_
  refine s_aload_n f_168_1 rfl ?_
  refine C_getI f_168_2 fd_6_7 ha1 (sck0 (k := X.2) ha1.1 (by decide)) ?_
  refine s_aload_n f_168_5 rfl ?_
  refine C_getI f_168_6 fd_6_13 ha1 (sck0 (k := X.2) ha1.1 (by decide)) ?_
  refine s_aload_n f_168_9 rfl ?_
  refine C_getI f_168_10 fd_6_16 ha1 (sck0 (k := X.2) ha1.1 (by decide)) ?_
  refine s_aload_n f_168_13 rfl ?_
  refine C_getI f_168_14 fd_6_19 ha1 (sck0 (k := X.2) ha1.1 (by decide)) ?_
  replace hd := obind hd
  obtain ⟨p1, e1, hd⟩ := hd
  refine L_virt (As := [.int (S a1 0), .int (S a1 1), .int (S a1 2), .int (S a1 3)]) f_168_17 ca_6_41 rfl rfl ha0.1 (by decide) (Nat.le_of_ble_eq_true rfl) ?_
  refine t_cPerson_begin ha0 e1 ?_
  refine s_aload_n f_168_20 rfl ?_
  refine s_aload_n f_168_21 rfl ?_
  refine C_getI f_168_22 fd_6_22 ha1 (sck0 (k := X.2) ha1.1 (by decide)) ?_
  refine C_putI f_168_25 fd_6_22 ha0 (sck0 (k := X.2) ha0.1 (by decide)) (Or.inl rfl) (by decide) ?_
  refine s_aload_n f_168_28 rfl ?_
  refine s_aload_n f_168_29 rfl ?_
  refine C_getI f_168_30 fd_6_25 ha1 (sck0 (k := X.2) ha1.1 (by decide)) ?_
  refine C_putI f_168_33 fd_6_25 ha0 (sck0 (k := X.2) ha0.1 (by decide)) (Or.inl rfl) (by decide) ?_
  refine s_aload_n f_168_36 rfl ?_
  refine s_aload_n f_168_37 rfl ?_
  refine C_getI f_168_38 fd_6_28 ha1 (sck0 (k := X.2) ha1.1 (by decide)) ?_
  refine C_putI f_168_41 fd_6_28 ha0 (sck0 (k := X.2) ha0.1 (by decide)) (Or.inl rfl) (by decide) ?_
  refine s_aload_n f_168_44 rfl ?_
  refine s_aload_n f_168_45 rfl ?_
  refine C_getI f_168_46 fd_6_31 ha1 (sck0 (k := X.2) ha1.1 (by decide)) ?_
  refine C_putI f_168_49 fd_6_31 ha0 (sck0 (k := X.2) ha0.1 (by decide)) (Or.inl rfl) (by decide) ?_
  refine s_aload_n f_168_52 rfl ?_
  refine s_aload_n f_168_53 rfl ?_
  refine C_getI f_168_54 fd_6_34 ha1 (sck0 (k := X.2) ha1.1 (by decide)) ?_
  replace hd := gd hd
  obtain ⟨g2, hd⟩ := hd
  refine C_putI f_168_57 fd_6_34 ha0 (sck0 (k := X.2) ha0.1 (by decide)) (Or.inr ⟨rfl, g2⟩) (by decide) ?_
  refine s_aload_n f_168_60 rfl ?_
  refine s_aload_n f_168_61 rfl ?_
  refine C_getI f_168_62 fd_6_38 ha1 (sck0 (k := X.2) ha1.1 (by decide)) ?_
  replace hd := gd hd
  obtain ⟨g3, hd⟩ := hd
  refine C_putI f_168_65 fd_6_38 ha0 (sck0 (k := X.2) ha0.1 (by decide)) (Or.inr ⟨rfl, g3⟩) (by decide) ?_
  refine s_return f_168_68 rfl ?_
  cases hd
  exact hQ

def cLand_become_k_L217 (X : XS) : Nat → SS → TS → Int32 → Option (SS × TS)
  | 0, _, _, _ => none
  | n + 1, S, T, a2 =>
    if (5 : Int32) ≤ a2 then
      some (S, T)
    else
      if inb a2 5 then
        if (T 14 (ix a2)) = 0 ∨ tok X (T 14 (ix a2)) then
          cLand_become_k_L217 X  n S (upTT T 76 (ix a2) (T 14 (ix a2))) (a2 + 1)
        else none
      else none
theorem t_cLand_become_k_L217 {l : Launch} {G : aG} {d : Nat} {Q : Option Value → aHeap → Prop} {sl : Nat} {sx : Nat → Int32} {K : KS} {X : XS} {M : SS} : ∀ (n : Nat), ∀ (S : SS) (T : TS) (a2 : Int32) (p : SS × TS), cLand_become_k_L217 X n S T a2 = some p → Q none (LH (old0 sl sx) p.1 K p.2 X M) → aAt l G (d + 2) 0 0 167 217 [(0, .ref 71), (1, .ref 9), (2, .int a2)] [] 0 0 (LH (old0 sl sx) S K T X M) Q := by
  intro n
  induction n with
  | zero =>
    intro S T a2 p hd hQ
    rw [cLand_become_k_L217] at hd
    cases hd
  | succ n ih =>
    intro S T a2 p hd hQ
    rw [cLand_become_k_L217] at hd
    refine s_iload_n f_167_217 rfl ?_
    refine k_iconst (v := 5) f_167_218 (by decide) ?_
    refine s_icmp_ge 240 f_167_219 (by decide) (fun c6 => ?_) (fun c6 => ?_)
    · replace hd := ite_p c6 hd
      refine s_return f_167_240 rfl ?_
      cases hd
      exact hQ
    · replace hd := ite_n c6 hd
      refine s_aload_n f_167_222 rfl ?_
      refine L_getR f_167_223 fd_3_37 (obL (by decide)) (by decide) (by decide : rf 71 4 = 76) ?_
      refine s_iload_n f_167_226 rfl ?_
      refine s_aload_n f_167_227 rfl ?_
      refine L_getR f_167_228 fd_3_37 (obL (by decide)) (by decide) (by decide : rf 9 4 = 14) ?_
      refine s_iload_n f_167_231 rfl ?_
      replace hd := gd hd
      obtain ⟨g7, hd⟩ := hd
      refine C_aaloadT (n := 5) (q := (ix a2)) f_167_232 (ocl (by decide)) (rfl : ln X.1 14 = 5) (Nat.le_of_ble_eq_true rfl) rfl rfl g7 ?_
      replace hd := gd hd
      obtain ⟨g8, hd⟩ := hd
      refine C_aastore (n := 5) (q := (ix a2)) (t := (T 14 (ix a2))) f_167_233 (ocl (by decide)) (rfl : ln X.1 76 = 5) (Nat.le_of_ble_eq_true rfl) rfl rfl g7 g8 ?_
      refine k_iinc (w := 1) f_167_234 rfl (by decide) (by decide) ?_
      refine s_goto 217 f_167_237 (by decide) ?_
      refine aAt.sub [(0, .ref 71), (1, .ref 9), (2, .int (a2 + 1))] rfl ?_
      exact ih _ _ _  _ hd hQ
def cLand_become_k_L165 (X : XS) : Nat → SS → TS → Int32 → Option (SS × TS)
  | 0, _, _, _ => none
  | n + 1, S, T, a2 =>
    if (S 71 10) ≤ a2 then
      cLand_become_k_L217 X FU S T (0 : Int32)
    else
      if inb a2 12 then
        (cLaw_begin S T (121 + (ix a2)) (T (59 + (ix a2)) 0) (S (59 + (ix a2)) 1) (S (59 + (ix a2)) 2)).bind fun p10 =>
        cLand_become_k_L165 X  n p10.1 p10.2 (a2 + 1)
      else none
theorem t_cLand_become_k_L165 {l : Launch} {G : aG} {d : Nat} {Q : Option Value → aHeap → Prop} {sl : Nat} {sx : Nat → Int32} {K : KS} {X : XS} {M : SS} : ∀ (n : Nat), ∀ (S : SS) (T : TS) (a2 : Int32) (p : SS × TS), cLand_become_k_L165 X n S T a2 = some p → Q none (LH (old0 sl sx) p.1 K p.2 X M) → aAt l G (d + 2) 0 0 167 165 [(0, .ref 71), (1, .ref 9), (2, .int a2)] [] 0 0 (LH (old0 sl sx) S K T X M) Q := by
  intro n
  induction n with
  | zero =>
    intro S T a2 p hd hQ
    rw [cLand_become_k_L165] at hd
    cases hd
  | succ n ih =>
    intro S T a2 p hd hQ
    rw [cLand_become_k_L165] at hd
    refine s_iload_n f_167_165 rfl ?_
    refine s_aload_n f_167_166 rfl ?_
    refine C_getI f_167_167 fd_3_58 (ocl (by decide)) (by decide) ?_
    refine s_icmp_ge 215 f_167_170 (by decide) (fun c5 => ?_) (fun c5 => ?_)
    · replace hd := ite_p c5 hd
      refine k_iconst (v := 0) f_167_215 (by decide) ?_
      refine s_istore_n f_167_216 (by decide) ?_
      refine aAt.sub [(0, .ref 71), (1, .ref 9), (2, .int (0 : Int32))] rfl ?_
      exact t_cLand_become_k_L217 FU _ _ _  _ hd hQ
    · replace hd := ite_n c5 hd
      refine s_aload_n f_167_173 rfl ?_
      refine L_getR f_167_174 fd_3_31 (obL (by decide)) (by decide) (by decide : rf 71 3 = 75) ?_
      refine s_iload_n f_167_177 rfl ?_
      replace hd := gd hd
      obtain ⟨g9, hd⟩ := hd
      refine L_aaload (ak := 33) (q := (ix a2)) f_167_178 (obL (by decide)) (by decide) (inb_nI g9) (inb_lt g9) (Nat.le_of_ble_eq_true rfl) (scLr' (inb_lt g9)) (rfL' (inb_lt g9)) ?_
      refine s_aload_n f_167_179 rfl ?_
      refine L_getR f_167_180 fd_3_31 (obL (by decide)) (by decide) (by decide : rf 9 3 = 13) ?_
      refine s_iload_n f_167_183 rfl ?_
      refine L_aaload (ak := 33) (q := (ix a2)) f_167_184 (obL (by decide)) (by decide) (inb_nI g9) (inb_lt g9) (Nat.le_of_ble_eq_true rfl) (scLr (inb_lt g9)) (rfL (inb_lt g9)) ?_
      refine C_getT f_167_185 fd_3_90 (ocL_ g9) (scl0 (k := X.2) (ocL_ g9).1) ?_
      refine s_aload_n f_167_188 rfl ?_
      refine L_getR f_167_189 fd_3_31 (obL (by decide)) (by decide) (by decide : rf 9 3 = 13) ?_
      refine s_iload_n f_167_192 rfl ?_
      refine L_aaload (ak := 33) (q := (ix a2)) f_167_193 (obL (by decide)) (by decide) (inb_nI g9) (inb_lt g9) (Nat.le_of_ble_eq_true rfl) (scLr (inb_lt g9)) (rfL (inb_lt g9)) ?_
      refine C_getI f_167_194 fd_3_94 (ocL_ g9) (scl1 (k := X.2) (ocL_ g9).1 (by decide)) ?_
      refine s_aload_n f_167_197 rfl ?_
      refine L_getR f_167_198 fd_3_31 (obL (by decide)) (by decide) (by decide : rf 9 3 = 13) ?_
      refine s_iload_n f_167_201 rfl ?_
      refine L_aaload (ak := 33) (q := (ix a2)) f_167_202 (obL (by decide)) (by decide) (inb_nI g9) (inb_lt g9) (Nat.le_of_ble_eq_true rfl) (scLr (inb_lt g9)) (rfL (inb_lt g9)) ?_
      refine C_getI f_167_203 fd_3_97 (ocL_ g9) (scl1 (k := X.2) (ocL_ g9).1 (by decide)) ?_
      replace hd := obind hd
      obtain ⟨p10, e10, hd⟩ := hd
      refine L_virt (As := [tv (T (59 + (ix a2)) 0), .int (S (59 + (ix a2)) 1), .int (S (59 + (ix a2)) 2)]) f_167_206 ca_3_100 rfl rfl (ocL_' g9).1 (by decide) (Nat.le_of_ble_eq_true rfl) ?_
      refine t_cLaw_begin (ocL_' g9) e10 ?_
      refine k_iinc (w := 1) f_167_209 rfl (by decide) (by decide) ?_
      refine s_goto 165 f_167_212 (by decide) ?_
      refine aAt.sub [(0, .ref 71), (1, .ref 9), (2, .int (a2 + 1))] rfl ?_
      exact ih _ _ _  _ hd hQ
def cLand_become_k_L134 (X : XS) : Nat → SS → TS → Int32 → Option (SS × TS)
  | 0, _, _, _ => none
  | n + 1, S, T, a2 =>
    if (S 71 9) ≤ a2 then
      cLand_become_k_L165 X FU S T (0 : Int32)
    else
      if inb a2 20 then
        (cPaper_become S (101 + (ix a2)) (39 + (ix a2))).bind fun p12 =>
        cLand_become_k_L134 X  n p12 T (a2 + 1)
      else none
theorem t_cLand_become_k_L134 {l : Launch} {G : aG} {d : Nat} {Q : Option Value → aHeap → Prop} {sl : Nat} {sx : Nat → Int32} {K : KS} {X : XS} {M : SS} : ∀ (n : Nat), ∀ (S : SS) (T : TS) (a2 : Int32) (p : SS × TS), cLand_become_k_L134 X n S T a2 = some p → Q none (LH (old0 sl sx) p.1 K p.2 X M) → aAt l G (d + 2) 0 0 167 134 [(0, .ref 71), (1, .ref 9), (2, .int a2)] [] 0 0 (LH (old0 sl sx) S K T X M) Q := by
  intro n
  induction n with
  | zero =>
    intro S T a2 p hd hQ
    rw [cLand_become_k_L134] at hd
    cases hd
  | succ n ih =>
    intro S T a2 p hd hQ
    rw [cLand_become_k_L134] at hd
    refine s_iload_n f_167_134 rfl ?_
    refine s_aload_n f_167_135 rfl ?_
    refine C_getI f_167_136 fd_3_55 (ocl (by decide)) (by decide) ?_
    refine s_icmp_ge 163 f_167_139 (by decide) (fun c4 => ?_) (fun c4 => ?_)
    · replace hd := ite_p c4 hd
      refine k_iconst (v := 0) f_167_163 (by decide) ?_
      refine s_istore_n f_167_164 (by decide) ?_
      refine aAt.sub [(0, .ref 71), (1, .ref 9), (2, .int (0 : Int32))] rfl ?_
      exact t_cLand_become_k_L165 FU _ _ _  _ hd hQ
    · replace hd := ite_n c4 hd
      refine s_aload_n f_167_142 rfl ?_
      refine L_getR f_167_143 fd_3_25 (obL (by decide)) (by decide) (by decide : rf 71 2 = 74) ?_
      refine s_iload_n f_167_146 rfl ?_
      replace hd := gd hd
      obtain ⟨g11, hd⟩ := hd
      refine L_aaload (ak := 32) (q := (ix a2)) f_167_147 (obL (by decide)) (by decide) (inb_nI g11) (inb_lt g11) (Nat.le_of_ble_eq_true rfl) (scAr' (inb_lt g11)) (rfA' (inb_lt g11)) ?_
      refine s_aload_n f_167_148 rfl ?_
      refine L_getR f_167_149 fd_3_25 (obL (by decide)) (by decide) (by decide : rf 9 2 = 12) ?_
      refine s_iload_n f_167_152 rfl ?_
      refine L_aaload (ak := 32) (q := (ix a2)) f_167_153 (obL (by decide)) (by decide) (inb_nI g11) (inb_lt g11) (Nat.le_of_ble_eq_true rfl) (scAr (inb_lt g11)) (rfA (inb_lt g11)) ?_
      replace hd := obind hd
      obtain ⟨p12, e12, hd⟩ := hd
      refine L_virt (As := [.ref (39 + (ix a2))]) f_167_154 ca_3_87 rfl rfl (ocA' g11).1 (by decide) (Nat.le_of_ble_eq_true rfl) ?_
      refine t_cPaper_become (ocA' g11) (ocA g11) e12 ?_
      refine k_iinc (w := 1) f_167_157 rfl (by decide) (by decide) ?_
      refine s_goto 134 f_167_160 (by decide) ?_
      refine aAt.sub [(0, .ref 71), (1, .ref 9), (2, .int (a2 + 1))] rfl ?_
      exact ih _ _ _  _ hd hQ
def cLand_become_k_L103 (X : XS) : Nat → SS → TS → Int32 → Option (SS × TS)
  | 0, _, _, _ => none
  | n + 1, S, T, a2 =>
    if (S 71 8) ≤ a2 then
      cLand_become_k_L134 X FU S T (0 : Int32)
    else
      if inb a2 8 then
        (cField_become S (93 + (ix a2)) (31 + (ix a2))).bind fun p14 =>
        cLand_become_k_L103 X  n p14 T (a2 + 1)
      else none
theorem t_cLand_become_k_L103 {l : Launch} {G : aG} {d : Nat} {Q : Option Value → aHeap → Prop} {sl : Nat} {sx : Nat → Int32} {K : KS} {X : XS} {M : SS} : ∀ (n : Nat), ∀ (S : SS) (T : TS) (a2 : Int32) (p : SS × TS), cLand_become_k_L103 X n S T a2 = some p → Q none (LH (old0 sl sx) p.1 K p.2 X M) → aAt l G (d + 2) 0 0 167 103 [(0, .ref 71), (1, .ref 9), (2, .int a2)] [] 0 0 (LH (old0 sl sx) S K T X M) Q := by
  intro n
  induction n with
  | zero =>
    intro S T a2 p hd hQ
    rw [cLand_become_k_L103] at hd
    cases hd
  | succ n ih =>
    intro S T a2 p hd hQ
    rw [cLand_become_k_L103] at hd
    refine s_iload_n f_167_103 rfl ?_
    refine s_aload_n f_167_104 rfl ?_
    refine C_getI f_167_105 fd_3_52 (ocl (by decide)) (by decide) ?_
    refine s_icmp_ge 132 f_167_108 (by decide) (fun c3 => ?_) (fun c3 => ?_)
    · replace hd := ite_p c3 hd
      refine k_iconst (v := 0) f_167_132 (by decide) ?_
      refine s_istore_n f_167_133 (by decide) ?_
      refine aAt.sub [(0, .ref 71), (1, .ref 9), (2, .int (0 : Int32))] rfl ?_
      exact t_cLand_become_k_L134 FU _ _ _  _ hd hQ
    · replace hd := ite_n c3 hd
      refine s_aload_n f_167_111 rfl ?_
      refine L_getR f_167_112 fd_3_19 (obL (by decide)) (by decide) (by decide : rf 71 1 = 73) ?_
      refine s_iload_n f_167_115 rfl ?_
      replace hd := gd hd
      obtain ⟨g13, hd⟩ := hd
      refine L_aaload (ak := 31) (q := (ix a2)) f_167_116 (obL (by decide)) (by decide) (inb_nI g13) (inb_lt g13) (Nat.le_of_ble_eq_true rfl) (scFr' (inb_lt g13)) (rfF' (inb_lt g13)) ?_
      refine s_aload_n f_167_117 rfl ?_
      refine L_getR f_167_118 fd_3_19 (obL (by decide)) (by decide) (by decide : rf 9 1 = 11) ?_
      refine s_iload_n f_167_121 rfl ?_
      refine L_aaload (ak := 31) (q := (ix a2)) f_167_122 (obL (by decide)) (by decide) (inb_nI g13) (inb_lt g13) (Nat.le_of_ble_eq_true rfl) (scFr (inb_lt g13)) (rfF (inb_lt g13)) ?_
      replace hd := obind hd
      obtain ⟨p14, e14, hd⟩ := hd
      refine L_virt (As := [.ref (31 + (ix a2))]) f_167_123 ca_3_84 rfl rfl (ocF' g13).1 (by decide) (Nat.le_of_ble_eq_true rfl) ?_
      refine t_cField_become (ocF' g13) (ocF g13) e14 ?_
      refine k_iinc (w := 1) f_167_126 rfl (by decide) (by decide) ?_
      refine s_goto 103 f_167_129 (by decide) ?_
      refine aAt.sub [(0, .ref 71), (1, .ref 9), (2, .int (a2 + 1))] rfl ?_
      exact ih _ _ _  _ hd hQ
def cLand_become_k_L72 (X : XS) : Nat → SS → TS → Int32 → Option (SS × TS)
  | 0, _, _, _ => none
  | n + 1, S, T, a2 =>
    if (S 71 7) ≤ a2 then
      cLand_become_k_L103 X FU S T (0 : Int32)
    else
      if inb a2 14 then
        (cPerson_become S (79 + (ix a2)) (17 + (ix a2))).bind fun p16 =>
        cLand_become_k_L72 X  n p16 T (a2 + 1)
      else none
theorem t_cLand_become_k_L72 {l : Launch} {G : aG} {d : Nat} {Q : Option Value → aHeap → Prop} {sl : Nat} {sx : Nat → Int32} {K : KS} {X : XS} {M : SS} : ∀ (n : Nat), ∀ (S : SS) (T : TS) (a2 : Int32) (p : SS × TS), cLand_become_k_L72 X n S T a2 = some p → Q none (LH (old0 sl sx) p.1 K p.2 X M) → aAt l G (d + 2) 0 0 167 72 [(0, .ref 71), (1, .ref 9), (2, .int a2)] [] 0 0 (LH (old0 sl sx) S K T X M) Q := by
  intro n
  induction n with
  | zero =>
    intro S T a2 p hd hQ
    rw [cLand_become_k_L72] at hd
    cases hd
  | succ n ih =>
    intro S T a2 p hd hQ
    rw [cLand_become_k_L72] at hd
    refine s_iload_n f_167_72 rfl ?_
    refine s_aload_n f_167_73 rfl ?_
    refine C_getI f_167_74 fd_3_48 (ocl (by decide)) (by decide) ?_
    refine s_icmp_ge 101 f_167_77 (by decide) (fun c2 => ?_) (fun c2 => ?_)
    · replace hd := ite_p c2 hd
      refine k_iconst (v := 0) f_167_101 (by decide) ?_
      refine s_istore_n f_167_102 (by decide) ?_
      refine aAt.sub [(0, .ref 71), (1, .ref 9), (2, .int (0 : Int32))] rfl ?_
      exact t_cLand_become_k_L103 FU _ _ _  _ hd hQ
    · replace hd := ite_n c2 hd
      refine s_aload_n f_167_80 rfl ?_
      refine L_getR f_167_81 fd_3_11 (obL (by decide)) (by decide) (by decide : rf 71 0 = 72) ?_
      refine s_iload_n f_167_84 rfl ?_
      replace hd := gd hd
      obtain ⟨g15, hd⟩ := hd
      refine L_aaload (ak := 30) (q := (ix a2)) f_167_85 (obL (by decide)) (by decide) (inb_nI g15) (inb_lt g15) (Nat.le_of_ble_eq_true rfl) (scPr' (inb_lt g15)) (rfP' (inb_lt g15)) ?_
      refine s_aload_n f_167_86 rfl ?_
      refine L_getR f_167_87 fd_3_11 (obL (by decide)) (by decide) (by decide : rf 9 0 = 10) ?_
      refine s_iload_n f_167_90 rfl ?_
      refine L_aaload (ak := 30) (q := (ix a2)) f_167_91 (obL (by decide)) (by decide) (inb_nI g15) (inb_lt g15) (Nat.le_of_ble_eq_true rfl) (scPr (inb_lt g15)) (rfP (inb_lt g15)) ?_
      replace hd := obind hd
      obtain ⟨p16, e16, hd⟩ := hd
      refine L_virt (As := [.ref (17 + (ix a2))]) f_167_92 ca_3_80 rfl rfl (ocP' g15).1 (by decide) (Nat.le_of_ble_eq_true rfl) ?_
      refine t_cPerson_become (ocP' g15) (ocP g15) e16 ?_
      refine k_iinc (w := 1) f_167_95 rfl (by decide) (by decide) ?_
      refine s_goto 72 f_167_98 (by decide) ?_
      refine aAt.sub [(0, .ref 71), (1, .ref 9), (2, .int (a2 + 1))] rfl ?_
      exact ih _ _ _  _ hd hQ
def cLand_become_k (S : SS) (T : TS) (X : XS) : Option (SS × TS) :=
  if cpOk 2 2 (0 : Int32) (0 : Int32) (2 : Int32) then
    cLand_become_k_L72 X FU (cpS (up (up (up (up (up (up (up S 71 7 (S 9 7)) 71 8 ((up S 71 7 (S 9 7)) 9 8)) 71 9 ((up (up S 71 7 (S 9 7)) 71 8 ((up S 71 7 (S 9 7)) 9 8)) 9 9)) 71 10 ((up (up (up S 71 7 (S 9 7)) 71 8 ((up S 71 7 (S 9 7)) 9 8)) 71 9 ((up (up S 71 7 (S 9 7)) 71 8 ((up S 71 7 (S 9 7)) 9 8)) 9 9)) 9 10)) 71 11 ((up (up (up (up S 71 7 (S 9 7)) 71 8 ((up S 71 7 (S 9 7)) 9 8)) 71 9 ((up (up S 71 7 (S 9 7)) 71 8 ((up S 71 7 (S 9 7)) 9 8)) 9 9)) 71 10 ((up (up (up S 71 7 (S 9 7)) 71 8 ((up S 71 7 (S 9 7)) 9 8)) 71 9 ((up (up S 71 7 (S 9 7)) 71 8 ((up S 71 7 (S 9 7)) 9 8)) 9 9)) 9 10)) 9 11)) 71 12 ((up (up (up (up (up S 71 7 (S 9 7)) 71 8 ((up S 71 7 (S 9 7)) 9 8)) 71 9 ((up (up S 71 7 (S 9 7)) 71 8 ((up S 71 7 (S 9 7)) 9 8)) 9 9)) 71 10 ((up (up (up S 71 7 (S 9 7)) 71 8 ((up S 71 7 (S 9 7)) 9 8)) 71 9 ((up (up S 71 7 (S 9 7)) 71 8 ((up S 71 7 (S 9 7)) 9 8)) 9 9)) 9 10)) 71 11 ((up (up (up (up S 71 7 (S 9 7)) 71 8 ((up S 71 7 (S 9 7)) 9 8)) 71 9 ((up (up S 71 7 (S 9 7)) 71 8 ((up S 71 7 (S 9 7)) 9 8)) 9 9)) 71 10 ((up (up (up S 71 7 (S 9 7)) 71 8 ((up S 71 7 (S 9 7)) 9 8)) 71 9 ((up (up S 71 7 (S 9 7)) 71 8 ((up S 71 7 (S 9 7)) 9 8)) 9 9)) 9 10)) 9 11)) 9 12)) 71 13 ((up (up (up (up (up (up S 71 7 (S 9 7)) 71 8 ((up S 71 7 (S 9 7)) 9 8)) 71 9 ((up (up S 71 7 (S 9 7)) 71 8 ((up S 71 7 (S 9 7)) 9 8)) 9 9)) 71 10 ((up (up (up S 71 7 (S 9 7)) 71 8 ((up S 71 7 (S 9 7)) 9 8)) 71 9 ((up (up S 71 7 (S 9 7)) 71 8 ((up S 71 7 (S 9 7)) 9 8)) 9 9)) 9 10)) 71 11 ((up (up (up (up S 71 7 (S 9 7)) 71 8 ((up S 71 7 (S 9 7)) 9 8)) 71 9 ((up (up S 71 7 (S 9 7)) 71 8 ((up S 71 7 (S 9 7)) 9 8)) 9 9)) 71 10 ((up (up (up S 71 7 (S 9 7)) 71 8 ((up S 71 7 (S 9 7)) 9 8)) 71 9 ((up (up S 71 7 (S 9 7)) 71 8 ((up S 71 7 (S 9 7)) 9 8)) 9 9)) 9 10)) 9 11)) 71 12 ((up (up (up (up (up S 71 7 (S 9 7)) 71 8 ((up S 71 7 (S 9 7)) 9 8)) 71 9 ((up (up S 71 7 (S 9 7)) 71 8 ((up S 71 7 (S 9 7)) 9 8)) 9 9)) 71 10 ((up (up (up S 71 7 (S 9 7)) 71 8 ((up S 71 7 (S 9 7)) 9 8)) 71 9 ((up (up S 71 7 (S 9 7)) 71 8 ((up S 71 7 (S 9 7)) 9 8)) 9 9)) 9 10)) 71 11 ((up (up (up (up S 71 7 (S 9 7)) 71 8 ((up S 71 7 (S 9 7)) 9 8)) 71 9 ((up (up S 71 7 (S 9 7)) 71 8 ((up S 71 7 (S 9 7)) 9 8)) 9 9)) 71 10 ((up (up (up S 71 7 (S 9 7)) 71 8 ((up S 71 7 (S 9 7)) 9 8)) 71 9 ((up (up S 71 7 (S 9 7)) 71 8 ((up S 71 7 (S 9 7)) 9 8)) 9 9)) 9 10)) 9 11)) 9 12)) 9 13)) 15 (0 : Int32) 77 (0 : Int32) (2 : Int32)) T (0 : Int32)
  else none
theorem t_cLand_become_k {l : Launch} {G : aG} {d : Nat} {Q : Option Value → aHeap → Prop} {sl : Nat} {sx : Nat → Int32} {S : SS} {K : KS} {T : TS} {X : XS} {M : SS} {p : SS × TS} (hd : cLand_become_k S T X = some p) (hQ : Q none (LH (old0 sl sx) p.1 K p.2 X M)) : aCall l G (d + 2) 0 0 167 [.ref 71, .ref 9] (LH (old0 sl sx) S K T X M) Q := by
  refine aCall.of (by decide) (Nat.le_of_ble_eq_true rfl) ?_
  refine aAt.sub [(0, .ref 71), (1, .ref 9)] rfl ?_
  unfold cLand_become_k at hd
  refine s_aload_n f_167_0 rfl ?_
  refine s_aload_n f_167_1 rfl ?_
  refine C_getI f_167_2 fd_3_48 (ocl (by decide)) (by decide) ?_
  refine C_putI f_167_5 fd_3_48 (ocl (by decide)) (by decide) (Or.inl rfl) (by decide) ?_
  refine s_aload_n f_167_8 rfl ?_
  refine s_aload_n f_167_9 rfl ?_
  refine C_getI f_167_10 fd_3_52 (ocl (by decide)) (by decide) ?_
  refine C_putI f_167_13 fd_3_52 (ocl (by decide)) (by decide) (Or.inl rfl) (by decide) ?_
  refine s_aload_n f_167_16 rfl ?_
  refine s_aload_n f_167_17 rfl ?_
  refine C_getI f_167_18 fd_3_55 (ocl (by decide)) (by decide) ?_
  refine C_putI f_167_21 fd_3_55 (ocl (by decide)) (by decide) (Or.inl rfl) (by decide) ?_
  refine s_aload_n f_167_24 rfl ?_
  refine s_aload_n f_167_25 rfl ?_
  refine C_getI f_167_26 fd_3_58 (ocl (by decide)) (by decide) ?_
  refine C_putI f_167_29 fd_3_58 (ocl (by decide)) (by decide) (Or.inl rfl) (by decide) ?_
  refine s_aload_n f_167_32 rfl ?_
  refine s_aload_n f_167_33 rfl ?_
  refine C_getI f_167_34 fd_3_61 (ocl (by decide)) (by decide) ?_
  refine C_putI f_167_37 fd_3_61 (ocl (by decide)) (by decide) (Or.inl rfl) (by decide) ?_
  refine s_aload_n f_167_40 rfl ?_
  refine s_aload_n f_167_41 rfl ?_
  refine C_getI f_167_42 fd_3_64 (ocl (by decide)) (by decide) ?_
  refine C_putI f_167_45 fd_3_64 (ocl (by decide)) (by decide) (Or.inl rfl) (by decide) ?_
  refine s_aload_n f_167_48 rfl ?_
  refine s_aload_n f_167_49 rfl ?_
  refine C_getI f_167_50 fd_3_67 (ocl (by decide)) (by decide) ?_
  refine C_putI f_167_53 fd_3_67 (ocl (by decide)) (by decide) (Or.inl rfl) (by decide) ?_
  refine s_aload_n f_167_56 rfl ?_
  refine L_getR f_167_57 fd_3_41 (obL (by decide)) (by decide) (by decide : rf 9 5 = 15) ?_
  refine k_iconst (v := 0) f_167_60 (by decide) ?_
  refine s_aload_n f_167_61 rfl ?_
  refine L_getR f_167_62 fd_3_41 (obL (by decide)) (by decide) (by decide : rf 71 5 = 77) ?_
  refine k_iconst (v := 0) f_167_65 (by decide) ?_
  refine k_iconst (v := 2) f_167_66 (by decide) ?_
  replace hd := gd hd
  obtain ⟨g1, hd⟩ := hd
  refine C_acopy f_167_67 ca_3_74 (ocl (by decide)) (ocl (by decide)) rfl rfl g1 (Nat.le_of_ble_eq_true rfl) ?_
  refine k_iconst (v := 0) f_167_70 (by decide) ?_
  refine s_istore_n f_167_71 (by decide) ?_
  refine aAt.sub [(0, .ref 71), (1, .ref 9), (2, .int (0 : Int32))] rfl ?_
  exact t_cLand_become_k_L72 FU _ _ _  _ hd hQ

def cD_image (S : SS) (T : TS) (X : XS) : Option (Int32 × SS × TS) :=
  (cLand_become_k S T X).bind fun p1 =>
  some (((up p1.1 8 7 (1 : Int32)) 9 11), (up p1.1 8 7 (1 : Int32)), p1.2)
theorem t_cD_image {l : Launch} {G : aG} {d : Nat} {Q : Option Value → aHeap → Prop} {sl : Nat} {sx : Nat → Int32} {S : SS} {K : KS} {T : TS} {X : XS} {M : SS} {p : Int32 × SS × TS} (hd : cD_image S T X = some p) (hQ : Q (some (.int p.1)) (LH (old0 sl sx) p.2.1 K p.2.2 X M)) : aCall l G (d + 3) 0 0 166 [.ref 8] (LH (old0 sl sx) S K T X M) Q := by
  refine aCall.of (by decide) (Nat.le_of_ble_eq_true rfl) ?_
  refine aAt.sub [(0, .ref 8)] rfl ?_
  unfold cD_image at hd
  refine s_aload_n f_166_0 rfl ?_
  refine L_getR f_166_1 fd_0_16 (obL (by decide)) (by decide) (by decide : rf 8 1 = 71) ?_
  refine s_aload_n f_166_4 rfl ?_
  refine L_getR f_166_5 fd_0_10 (obL (by decide)) (by decide) (by decide : rf 8 0 = 9) ?_
  replace hd := obind hd
  obtain ⟨p1, e1, hd⟩ := hd
  refine L_virt (As := [.ref 9]) f_166_8 ca_0_375 rfl rfl (obL (by decide)) (by decide) (Nat.le_of_ble_eq_true rfl) ?_
  refine t_cLand_become_k e1 ?_
  refine s_aload_n f_166_11 rfl ?_
  refine k_iconst (v := 1) f_166_12 (by decide) ?_
  refine C_putI f_166_13 fd_0_57 (ocl (by decide)) (by decide) (Or.inr ⟨rfl, by decide⟩) (by decide) ?_
  refine s_aload_n f_166_16 rfl ?_
  refine L_getR f_166_17 fd_0_10 (obL (by decide)) (by decide) (by decide : rf 8 0 = 9) ?_
  refine C_getI f_166_20 fd_0_66 (ocl (by decide)) (by decide) ?_
  refine s_ireturn f_166_23 rfl rfl ?_
  cases hd
  exact hQ

def cLand_become_L217 (X : XS) : Nat → SS → TS → Int32 → Option (SS × TS)
  | 0, _, _, _ => none
  | n + 1, S, T, a2 =>
    if (5 : Int32) ≤ a2 then
      some (S, T)
    else
      if inb a2 5 then
        if (T 76 (ix a2)) = 0 ∨ tok X (T 76 (ix a2)) then
          cLand_become_L217 X  n S (upTT T 14 (ix a2) (T 76 (ix a2))) (a2 + 1)
        else none
      else none
theorem t_cLand_become_L217 {l : Launch} {G : aG} {d : Nat} {Q : Option Value → aHeap → Prop} {sl : Nat} {sx : Nat → Int32} {K : KS} {X : XS} {M : SS} : ∀ (n : Nat), ∀ (S : SS) (T : TS) (a2 : Int32) (p : SS × TS), cLand_become_L217 X n S T a2 = some p → Q none (LH (old0 sl sx) p.1 K p.2 X M) → aAt l G (d + 2) 0 0 167 217 [(0, .ref 9), (1, .ref 71), (2, .int a2)] [] 0 0 (LH (old0 sl sx) S K T X M) Q := by
  intro n
  induction n with
  | zero =>
    intro S T a2 p hd hQ
    rw [cLand_become_L217] at hd
    cases hd
  | succ n ih =>
    intro S T a2 p hd hQ
    rw [cLand_become_L217] at hd
    refine s_iload_n f_167_217 rfl ?_
    refine k_iconst (v := 5) f_167_218 (by decide) ?_
    refine s_icmp_ge 240 f_167_219 (by decide) (fun c6 => ?_) (fun c6 => ?_)
    · replace hd := ite_p c6 hd
      refine s_return f_167_240 rfl ?_
      cases hd
      exact hQ
    · replace hd := ite_n c6 hd
      refine s_aload_n f_167_222 rfl ?_
      refine L_getR f_167_223 fd_3_37 (obL (by decide)) (by decide) (by decide : rf 9 4 = 14) ?_
      refine s_iload_n f_167_226 rfl ?_
      refine s_aload_n f_167_227 rfl ?_
      refine L_getR f_167_228 fd_3_37 (obL (by decide)) (by decide) (by decide : rf 71 4 = 76) ?_
      refine s_iload_n f_167_231 rfl ?_
      replace hd := gd hd
      obtain ⟨g7, hd⟩ := hd
      refine C_aaloadT (n := 5) (q := (ix a2)) f_167_232 (ocl (by decide)) (rfl : ln X.1 76 = 5) (Nat.le_of_ble_eq_true rfl) rfl rfl g7 ?_
      replace hd := gd hd
      obtain ⟨g8, hd⟩ := hd
      refine C_aastore (n := 5) (q := (ix a2)) (t := (T 76 (ix a2))) f_167_233 (ocl (by decide)) (rfl : ln X.1 14 = 5) (Nat.le_of_ble_eq_true rfl) rfl rfl g7 g8 ?_
      refine k_iinc (w := 1) f_167_234 rfl (by decide) (by decide) ?_
      refine s_goto 217 f_167_237 (by decide) ?_
      refine aAt.sub [(0, .ref 9), (1, .ref 71), (2, .int (a2 + 1))] rfl ?_
      exact ih _ _ _  _ hd hQ
def cLand_become_L165 (X : XS) : Nat → SS → TS → Int32 → Option (SS × TS)
  | 0, _, _, _ => none
  | n + 1, S, T, a2 =>
    if (S 9 10) ≤ a2 then
      cLand_become_L217 X FU S T (0 : Int32)
    else
      if inb a2 12 then
        (cLaw_begin S T (59 + (ix a2)) (T (121 + (ix a2)) 0) (S (121 + (ix a2)) 1) (S (121 + (ix a2)) 2)).bind fun p10 =>
        cLand_become_L165 X  n p10.1 p10.2 (a2 + 1)
      else none
theorem t_cLand_become_L165 {l : Launch} {G : aG} {d : Nat} {Q : Option Value → aHeap → Prop} {sl : Nat} {sx : Nat → Int32} {K : KS} {X : XS} {M : SS} : ∀ (n : Nat), ∀ (S : SS) (T : TS) (a2 : Int32) (p : SS × TS), cLand_become_L165 X n S T a2 = some p → Q none (LH (old0 sl sx) p.1 K p.2 X M) → aAt l G (d + 2) 0 0 167 165 [(0, .ref 9), (1, .ref 71), (2, .int a2)] [] 0 0 (LH (old0 sl sx) S K T X M) Q := by
  intro n
  induction n with
  | zero =>
    intro S T a2 p hd hQ
    rw [cLand_become_L165] at hd
    cases hd
  | succ n ih =>
    intro S T a2 p hd hQ
    rw [cLand_become_L165] at hd
    refine s_iload_n f_167_165 rfl ?_
    refine s_aload_n f_167_166 rfl ?_
    refine C_getI f_167_167 fd_3_58 (ocl (by decide)) (by decide) ?_
    refine s_icmp_ge 215 f_167_170 (by decide) (fun c5 => ?_) (fun c5 => ?_)
    · replace hd := ite_p c5 hd
      refine k_iconst (v := 0) f_167_215 (by decide) ?_
      refine s_istore_n f_167_216 (by decide) ?_
      refine aAt.sub [(0, .ref 9), (1, .ref 71), (2, .int (0 : Int32))] rfl ?_
      exact t_cLand_become_L217 FU _ _ _  _ hd hQ
    · replace hd := ite_n c5 hd
      refine s_aload_n f_167_173 rfl ?_
      refine L_getR f_167_174 fd_3_31 (obL (by decide)) (by decide) (by decide : rf 9 3 = 13) ?_
      refine s_iload_n f_167_177 rfl ?_
      replace hd := gd hd
      obtain ⟨g9, hd⟩ := hd
      refine L_aaload (ak := 33) (q := (ix a2)) f_167_178 (obL (by decide)) (by decide) (inb_nI g9) (inb_lt g9) (Nat.le_of_ble_eq_true rfl) (scLr (inb_lt g9)) (rfL (inb_lt g9)) ?_
      refine s_aload_n f_167_179 rfl ?_
      refine L_getR f_167_180 fd_3_31 (obL (by decide)) (by decide) (by decide : rf 71 3 = 75) ?_
      refine s_iload_n f_167_183 rfl ?_
      refine L_aaload (ak := 33) (q := (ix a2)) f_167_184 (obL (by decide)) (by decide) (inb_nI g9) (inb_lt g9) (Nat.le_of_ble_eq_true rfl) (scLr' (inb_lt g9)) (rfL' (inb_lt g9)) ?_
      refine C_getT f_167_185 fd_3_90 (ocL_' g9) (scl0 (k := X.2) (ocL_' g9).1) ?_
      refine s_aload_n f_167_188 rfl ?_
      refine L_getR f_167_189 fd_3_31 (obL (by decide)) (by decide) (by decide : rf 71 3 = 75) ?_
      refine s_iload_n f_167_192 rfl ?_
      refine L_aaload (ak := 33) (q := (ix a2)) f_167_193 (obL (by decide)) (by decide) (inb_nI g9) (inb_lt g9) (Nat.le_of_ble_eq_true rfl) (scLr' (inb_lt g9)) (rfL' (inb_lt g9)) ?_
      refine C_getI f_167_194 fd_3_94 (ocL_' g9) (scl1 (k := X.2) (ocL_' g9).1 (by decide)) ?_
      refine s_aload_n f_167_197 rfl ?_
      refine L_getR f_167_198 fd_3_31 (obL (by decide)) (by decide) (by decide : rf 71 3 = 75) ?_
      refine s_iload_n f_167_201 rfl ?_
      refine L_aaload (ak := 33) (q := (ix a2)) f_167_202 (obL (by decide)) (by decide) (inb_nI g9) (inb_lt g9) (Nat.le_of_ble_eq_true rfl) (scLr' (inb_lt g9)) (rfL' (inb_lt g9)) ?_
      refine C_getI f_167_203 fd_3_97 (ocL_' g9) (scl1 (k := X.2) (ocL_' g9).1 (by decide)) ?_
      replace hd := obind hd
      obtain ⟨p10, e10, hd⟩ := hd
      refine L_virt (As := [tv (T (121 + (ix a2)) 0), .int (S (121 + (ix a2)) 1), .int (S (121 + (ix a2)) 2)]) f_167_206 ca_3_100 rfl rfl (ocL_ g9).1 (by decide) (Nat.le_of_ble_eq_true rfl) ?_
      refine t_cLaw_begin (ocL_ g9) e10 ?_
      refine k_iinc (w := 1) f_167_209 rfl (by decide) (by decide) ?_
      refine s_goto 165 f_167_212 (by decide) ?_
      refine aAt.sub [(0, .ref 9), (1, .ref 71), (2, .int (a2 + 1))] rfl ?_
      exact ih _ _ _  _ hd hQ
def cLand_become_L134 (X : XS) : Nat → SS → TS → Int32 → Option (SS × TS)
  | 0, _, _, _ => none
  | n + 1, S, T, a2 =>
    if (S 9 9) ≤ a2 then
      cLand_become_L165 X FU S T (0 : Int32)
    else
      if inb a2 20 then
        (cPaper_become S (39 + (ix a2)) (101 + (ix a2))).bind fun p12 =>
        cLand_become_L134 X  n p12 T (a2 + 1)
      else none
theorem t_cLand_become_L134 {l : Launch} {G : aG} {d : Nat} {Q : Option Value → aHeap → Prop} {sl : Nat} {sx : Nat → Int32} {K : KS} {X : XS} {M : SS} : ∀ (n : Nat), ∀ (S : SS) (T : TS) (a2 : Int32) (p : SS × TS), cLand_become_L134 X n S T a2 = some p → Q none (LH (old0 sl sx) p.1 K p.2 X M) → aAt l G (d + 2) 0 0 167 134 [(0, .ref 9), (1, .ref 71), (2, .int a2)] [] 0 0 (LH (old0 sl sx) S K T X M) Q := by
  intro n
  induction n with
  | zero =>
    intro S T a2 p hd hQ
    rw [cLand_become_L134] at hd
    cases hd
  | succ n ih =>
    intro S T a2 p hd hQ
    rw [cLand_become_L134] at hd
    refine s_iload_n f_167_134 rfl ?_
    refine s_aload_n f_167_135 rfl ?_
    refine C_getI f_167_136 fd_3_55 (ocl (by decide)) (by decide) ?_
    refine s_icmp_ge 163 f_167_139 (by decide) (fun c4 => ?_) (fun c4 => ?_)
    · replace hd := ite_p c4 hd
      refine k_iconst (v := 0) f_167_163 (by decide) ?_
      refine s_istore_n f_167_164 (by decide) ?_
      refine aAt.sub [(0, .ref 9), (1, .ref 71), (2, .int (0 : Int32))] rfl ?_
      exact t_cLand_become_L165 FU _ _ _  _ hd hQ
    · replace hd := ite_n c4 hd
      refine s_aload_n f_167_142 rfl ?_
      refine L_getR f_167_143 fd_3_25 (obL (by decide)) (by decide) (by decide : rf 9 2 = 12) ?_
      refine s_iload_n f_167_146 rfl ?_
      replace hd := gd hd
      obtain ⟨g11, hd⟩ := hd
      refine L_aaload (ak := 32) (q := (ix a2)) f_167_147 (obL (by decide)) (by decide) (inb_nI g11) (inb_lt g11) (Nat.le_of_ble_eq_true rfl) (scAr (inb_lt g11)) (rfA (inb_lt g11)) ?_
      refine s_aload_n f_167_148 rfl ?_
      refine L_getR f_167_149 fd_3_25 (obL (by decide)) (by decide) (by decide : rf 71 2 = 74) ?_
      refine s_iload_n f_167_152 rfl ?_
      refine L_aaload (ak := 32) (q := (ix a2)) f_167_153 (obL (by decide)) (by decide) (inb_nI g11) (inb_lt g11) (Nat.le_of_ble_eq_true rfl) (scAr' (inb_lt g11)) (rfA' (inb_lt g11)) ?_
      replace hd := obind hd
      obtain ⟨p12, e12, hd⟩ := hd
      refine L_virt (As := [.ref (101 + (ix a2))]) f_167_154 ca_3_87 rfl rfl (ocA g11).1 (by decide) (Nat.le_of_ble_eq_true rfl) ?_
      refine t_cPaper_become (ocA g11) (ocA' g11) e12 ?_
      refine k_iinc (w := 1) f_167_157 rfl (by decide) (by decide) ?_
      refine s_goto 134 f_167_160 (by decide) ?_
      refine aAt.sub [(0, .ref 9), (1, .ref 71), (2, .int (a2 + 1))] rfl ?_
      exact ih _ _ _  _ hd hQ
def cLand_become_L103 (X : XS) : Nat → SS → TS → Int32 → Option (SS × TS)
  | 0, _, _, _ => none
  | n + 1, S, T, a2 =>
    if (S 9 8) ≤ a2 then
      cLand_become_L134 X FU S T (0 : Int32)
    else
      if inb a2 8 then
        (cField_become S (31 + (ix a2)) (93 + (ix a2))).bind fun p14 =>
        cLand_become_L103 X  n p14 T (a2 + 1)
      else none
theorem t_cLand_become_L103 {l : Launch} {G : aG} {d : Nat} {Q : Option Value → aHeap → Prop} {sl : Nat} {sx : Nat → Int32} {K : KS} {X : XS} {M : SS} : ∀ (n : Nat), ∀ (S : SS) (T : TS) (a2 : Int32) (p : SS × TS), cLand_become_L103 X n S T a2 = some p → Q none (LH (old0 sl sx) p.1 K p.2 X M) → aAt l G (d + 2) 0 0 167 103 [(0, .ref 9), (1, .ref 71), (2, .int a2)] [] 0 0 (LH (old0 sl sx) S K T X M) Q := by
  intro n
  induction n with
  | zero =>
    intro S T a2 p hd hQ
    rw [cLand_become_L103] at hd
    cases hd
  | succ n ih =>
    intro S T a2 p hd hQ
    rw [cLand_become_L103] at hd
    refine s_iload_n f_167_103 rfl ?_
    refine s_aload_n f_167_104 rfl ?_
    refine C_getI f_167_105 fd_3_52 (ocl (by decide)) (by decide) ?_
    refine s_icmp_ge 132 f_167_108 (by decide) (fun c3 => ?_) (fun c3 => ?_)
    · replace hd := ite_p c3 hd
      refine k_iconst (v := 0) f_167_132 (by decide) ?_
      refine s_istore_n f_167_133 (by decide) ?_
      refine aAt.sub [(0, .ref 9), (1, .ref 71), (2, .int (0 : Int32))] rfl ?_
      exact t_cLand_become_L134 FU _ _ _  _ hd hQ
    · replace hd := ite_n c3 hd
      refine s_aload_n f_167_111 rfl ?_
      refine L_getR f_167_112 fd_3_19 (obL (by decide)) (by decide) (by decide : rf 9 1 = 11) ?_
      refine s_iload_n f_167_115 rfl ?_
      replace hd := gd hd
      obtain ⟨g13, hd⟩ := hd
      refine L_aaload (ak := 31) (q := (ix a2)) f_167_116 (obL (by decide)) (by decide) (inb_nI g13) (inb_lt g13) (Nat.le_of_ble_eq_true rfl) (scFr (inb_lt g13)) (rfF (inb_lt g13)) ?_
      refine s_aload_n f_167_117 rfl ?_
      refine L_getR f_167_118 fd_3_19 (obL (by decide)) (by decide) (by decide : rf 71 1 = 73) ?_
      refine s_iload_n f_167_121 rfl ?_
      refine L_aaload (ak := 31) (q := (ix a2)) f_167_122 (obL (by decide)) (by decide) (inb_nI g13) (inb_lt g13) (Nat.le_of_ble_eq_true rfl) (scFr' (inb_lt g13)) (rfF' (inb_lt g13)) ?_
      replace hd := obind hd
      obtain ⟨p14, e14, hd⟩ := hd
      refine L_virt (As := [.ref (93 + (ix a2))]) f_167_123 ca_3_84 rfl rfl (ocF g13).1 (by decide) (Nat.le_of_ble_eq_true rfl) ?_
      refine t_cField_become (ocF g13) (ocF' g13) e14 ?_
      refine k_iinc (w := 1) f_167_126 rfl (by decide) (by decide) ?_
      refine s_goto 103 f_167_129 (by decide) ?_
      refine aAt.sub [(0, .ref 9), (1, .ref 71), (2, .int (a2 + 1))] rfl ?_
      exact ih _ _ _  _ hd hQ
def cLand_become_L72 (X : XS) : Nat → SS → TS → Int32 → Option (SS × TS)
  | 0, _, _, _ => none
  | n + 1, S, T, a2 =>
    if (S 9 7) ≤ a2 then
      cLand_become_L103 X FU S T (0 : Int32)
    else
      if inb a2 14 then
        (cPerson_become S (17 + (ix a2)) (79 + (ix a2))).bind fun p16 =>
        cLand_become_L72 X  n p16 T (a2 + 1)
      else none
theorem t_cLand_become_L72 {l : Launch} {G : aG} {d : Nat} {Q : Option Value → aHeap → Prop} {sl : Nat} {sx : Nat → Int32} {K : KS} {X : XS} {M : SS} : ∀ (n : Nat), ∀ (S : SS) (T : TS) (a2 : Int32) (p : SS × TS), cLand_become_L72 X n S T a2 = some p → Q none (LH (old0 sl sx) p.1 K p.2 X M) → aAt l G (d + 2) 0 0 167 72 [(0, .ref 9), (1, .ref 71), (2, .int a2)] [] 0 0 (LH (old0 sl sx) S K T X M) Q := by
  intro n
  induction n with
  | zero =>
    intro S T a2 p hd hQ
    rw [cLand_become_L72] at hd
    cases hd
  | succ n ih =>
    intro S T a2 p hd hQ
    rw [cLand_become_L72] at hd
    refine s_iload_n f_167_72 rfl ?_
    refine s_aload_n f_167_73 rfl ?_
    refine C_getI f_167_74 fd_3_48 (ocl (by decide)) (by decide) ?_
    refine s_icmp_ge 101 f_167_77 (by decide) (fun c2 => ?_) (fun c2 => ?_)
    · replace hd := ite_p c2 hd
      refine k_iconst (v := 0) f_167_101 (by decide) ?_
      refine s_istore_n f_167_102 (by decide) ?_
      refine aAt.sub [(0, .ref 9), (1, .ref 71), (2, .int (0 : Int32))] rfl ?_
      exact t_cLand_become_L103 FU _ _ _  _ hd hQ
    · replace hd := ite_n c2 hd
      refine s_aload_n f_167_80 rfl ?_
      refine L_getR f_167_81 fd_3_11 (obL (by decide)) (by decide) (by decide : rf 9 0 = 10) ?_
      refine s_iload_n f_167_84 rfl ?_
      replace hd := gd hd
      obtain ⟨g15, hd⟩ := hd
      refine L_aaload (ak := 30) (q := (ix a2)) f_167_85 (obL (by decide)) (by decide) (inb_nI g15) (inb_lt g15) (Nat.le_of_ble_eq_true rfl) (scPr (inb_lt g15)) (rfP (inb_lt g15)) ?_
      refine s_aload_n f_167_86 rfl ?_
      refine L_getR f_167_87 fd_3_11 (obL (by decide)) (by decide) (by decide : rf 71 0 = 72) ?_
      refine s_iload_n f_167_90 rfl ?_
      refine L_aaload (ak := 30) (q := (ix a2)) f_167_91 (obL (by decide)) (by decide) (inb_nI g15) (inb_lt g15) (Nat.le_of_ble_eq_true rfl) (scPr' (inb_lt g15)) (rfP' (inb_lt g15)) ?_
      replace hd := obind hd
      obtain ⟨p16, e16, hd⟩ := hd
      refine L_virt (As := [.ref (79 + (ix a2))]) f_167_92 ca_3_80 rfl rfl (ocP g15).1 (by decide) (Nat.le_of_ble_eq_true rfl) ?_
      refine t_cPerson_become (ocP g15) (ocP' g15) e16 ?_
      refine k_iinc (w := 1) f_167_95 rfl (by decide) (by decide) ?_
      refine s_goto 72 f_167_98 (by decide) ?_
      refine aAt.sub [(0, .ref 9), (1, .ref 71), (2, .int (a2 + 1))] rfl ?_
      exact ih _ _ _  _ hd hQ
def cLand_become (S : SS) (T : TS) (X : XS) : Option (SS × TS) :=
  if cpOk 2 2 (0 : Int32) (0 : Int32) (2 : Int32) then
    cLand_become_L72 X FU (cpS (up (up (up (up (up (up (up S 9 7 (S 71 7)) 9 8 ((up S 9 7 (S 71 7)) 71 8)) 9 9 ((up (up S 9 7 (S 71 7)) 9 8 ((up S 9 7 (S 71 7)) 71 8)) 71 9)) 9 10 ((up (up (up S 9 7 (S 71 7)) 9 8 ((up S 9 7 (S 71 7)) 71 8)) 9 9 ((up (up S 9 7 (S 71 7)) 9 8 ((up S 9 7 (S 71 7)) 71 8)) 71 9)) 71 10)) 9 11 ((up (up (up (up S 9 7 (S 71 7)) 9 8 ((up S 9 7 (S 71 7)) 71 8)) 9 9 ((up (up S 9 7 (S 71 7)) 9 8 ((up S 9 7 (S 71 7)) 71 8)) 71 9)) 9 10 ((up (up (up S 9 7 (S 71 7)) 9 8 ((up S 9 7 (S 71 7)) 71 8)) 9 9 ((up (up S 9 7 (S 71 7)) 9 8 ((up S 9 7 (S 71 7)) 71 8)) 71 9)) 71 10)) 71 11)) 9 12 ((up (up (up (up (up S 9 7 (S 71 7)) 9 8 ((up S 9 7 (S 71 7)) 71 8)) 9 9 ((up (up S 9 7 (S 71 7)) 9 8 ((up S 9 7 (S 71 7)) 71 8)) 71 9)) 9 10 ((up (up (up S 9 7 (S 71 7)) 9 8 ((up S 9 7 (S 71 7)) 71 8)) 9 9 ((up (up S 9 7 (S 71 7)) 9 8 ((up S 9 7 (S 71 7)) 71 8)) 71 9)) 71 10)) 9 11 ((up (up (up (up S 9 7 (S 71 7)) 9 8 ((up S 9 7 (S 71 7)) 71 8)) 9 9 ((up (up S 9 7 (S 71 7)) 9 8 ((up S 9 7 (S 71 7)) 71 8)) 71 9)) 9 10 ((up (up (up S 9 7 (S 71 7)) 9 8 ((up S 9 7 (S 71 7)) 71 8)) 9 9 ((up (up S 9 7 (S 71 7)) 9 8 ((up S 9 7 (S 71 7)) 71 8)) 71 9)) 71 10)) 71 11)) 71 12)) 9 13 ((up (up (up (up (up (up S 9 7 (S 71 7)) 9 8 ((up S 9 7 (S 71 7)) 71 8)) 9 9 ((up (up S 9 7 (S 71 7)) 9 8 ((up S 9 7 (S 71 7)) 71 8)) 71 9)) 9 10 ((up (up (up S 9 7 (S 71 7)) 9 8 ((up S 9 7 (S 71 7)) 71 8)) 9 9 ((up (up S 9 7 (S 71 7)) 9 8 ((up S 9 7 (S 71 7)) 71 8)) 71 9)) 71 10)) 9 11 ((up (up (up (up S 9 7 (S 71 7)) 9 8 ((up S 9 7 (S 71 7)) 71 8)) 9 9 ((up (up S 9 7 (S 71 7)) 9 8 ((up S 9 7 (S 71 7)) 71 8)) 71 9)) 9 10 ((up (up (up S 9 7 (S 71 7)) 9 8 ((up S 9 7 (S 71 7)) 71 8)) 9 9 ((up (up S 9 7 (S 71 7)) 9 8 ((up S 9 7 (S 71 7)) 71 8)) 71 9)) 71 10)) 71 11)) 9 12 ((up (up (up (up (up S 9 7 (S 71 7)) 9 8 ((up S 9 7 (S 71 7)) 71 8)) 9 9 ((up (up S 9 7 (S 71 7)) 9 8 ((up S 9 7 (S 71 7)) 71 8)) 71 9)) 9 10 ((up (up (up S 9 7 (S 71 7)) 9 8 ((up S 9 7 (S 71 7)) 71 8)) 9 9 ((up (up S 9 7 (S 71 7)) 9 8 ((up S 9 7 (S 71 7)) 71 8)) 71 9)) 71 10)) 9 11 ((up (up (up (up S 9 7 (S 71 7)) 9 8 ((up S 9 7 (S 71 7)) 71 8)) 9 9 ((up (up S 9 7 (S 71 7)) 9 8 ((up S 9 7 (S 71 7)) 71 8)) 71 9)) 9 10 ((up (up (up S 9 7 (S 71 7)) 9 8 ((up S 9 7 (S 71 7)) 71 8)) 9 9 ((up (up S 9 7 (S 71 7)) 9 8 ((up S 9 7 (S 71 7)) 71 8)) 71 9)) 71 10)) 71 11)) 71 12)) 71 13)) 77 (0 : Int32) 15 (0 : Int32) (2 : Int32)) T (0 : Int32)
  else none
theorem t_cLand_become {l : Launch} {G : aG} {d : Nat} {Q : Option Value → aHeap → Prop} {sl : Nat} {sx : Nat → Int32} {S : SS} {K : KS} {T : TS} {X : XS} {M : SS} {p : SS × TS} (hd : cLand_become S T X = some p) (hQ : Q none (LH (old0 sl sx) p.1 K p.2 X M)) : aCall l G (d + 2) 0 0 167 [.ref 9, .ref 71] (LH (old0 sl sx) S K T X M) Q := by
  refine aCall.of (by decide) (Nat.le_of_ble_eq_true rfl) ?_
  refine aAt.sub [(0, .ref 9), (1, .ref 71)] rfl ?_
  unfold cLand_become at hd
  refine s_aload_n f_167_0 rfl ?_
  refine s_aload_n f_167_1 rfl ?_
  refine C_getI f_167_2 fd_3_48 (ocl (by decide)) (by decide) ?_
  refine C_putI f_167_5 fd_3_48 (ocl (by decide)) (by decide) (Or.inl rfl) (by decide) ?_
  refine s_aload_n f_167_8 rfl ?_
  refine s_aload_n f_167_9 rfl ?_
  refine C_getI f_167_10 fd_3_52 (ocl (by decide)) (by decide) ?_
  refine C_putI f_167_13 fd_3_52 (ocl (by decide)) (by decide) (Or.inl rfl) (by decide) ?_
  refine s_aload_n f_167_16 rfl ?_
  refine s_aload_n f_167_17 rfl ?_
  refine C_getI f_167_18 fd_3_55 (ocl (by decide)) (by decide) ?_
  refine C_putI f_167_21 fd_3_55 (ocl (by decide)) (by decide) (Or.inl rfl) (by decide) ?_
  refine s_aload_n f_167_24 rfl ?_
  refine s_aload_n f_167_25 rfl ?_
  refine C_getI f_167_26 fd_3_58 (ocl (by decide)) (by decide) ?_
  refine C_putI f_167_29 fd_3_58 (ocl (by decide)) (by decide) (Or.inl rfl) (by decide) ?_
  refine s_aload_n f_167_32 rfl ?_
  refine s_aload_n f_167_33 rfl ?_
  refine C_getI f_167_34 fd_3_61 (ocl (by decide)) (by decide) ?_
  refine C_putI f_167_37 fd_3_61 (ocl (by decide)) (by decide) (Or.inl rfl) (by decide) ?_
  refine s_aload_n f_167_40 rfl ?_
  refine s_aload_n f_167_41 rfl ?_
  refine C_getI f_167_42 fd_3_64 (ocl (by decide)) (by decide) ?_
  refine C_putI f_167_45 fd_3_64 (ocl (by decide)) (by decide) (Or.inl rfl) (by decide) ?_
  refine s_aload_n f_167_48 rfl ?_
  refine s_aload_n f_167_49 rfl ?_
  refine C_getI f_167_50 fd_3_67 (ocl (by decide)) (by decide) ?_
  refine C_putI f_167_53 fd_3_67 (ocl (by decide)) (by decide) (Or.inl rfl) (by decide) ?_
  refine s_aload_n f_167_56 rfl ?_
  refine L_getR f_167_57 fd_3_41 (obL (by decide)) (by decide) (by decide : rf 71 5 = 77) ?_
  refine k_iconst (v := 0) f_167_60 (by decide) ?_
  refine s_aload_n f_167_61 rfl ?_
  refine L_getR f_167_62 fd_3_41 (obL (by decide)) (by decide) (by decide : rf 9 5 = 15) ?_
  refine k_iconst (v := 0) f_167_65 (by decide) ?_
  refine k_iconst (v := 2) f_167_66 (by decide) ?_
  replace hd := gd hd
  obtain ⟨g1, hd⟩ := hd
  refine C_acopy f_167_67 ca_3_74 (ocl (by decide)) (ocl (by decide)) rfl rfl g1 (Nat.le_of_ble_eq_true rfl) ?_
  refine k_iconst (v := 0) f_167_70 (by decide) ?_
  refine s_istore_n f_167_71 (by decide) ?_
  refine aAt.sub [(0, .ref 9), (1, .ref 71), (2, .int (0 : Int32))] rfl ?_
  exact t_cLand_become_L72 FU _ _ _  _ hd hQ

def cD_restore (S : SS) (T : TS) (X : XS) : Option (Int32 × SS × TS) :=
  if (S 8 7) = 0 then
    (cD_found S (-100006 : Int32)).bind fun p3 =>
    some (p3.1, p3.2, T)
  else
    (cLand_become S T X).bind fun p2 =>
    some ((p2.1 9 11), p2.1, p2.2)
theorem t_cD_restore {l : Launch} {G : aG} {d : Nat} {Q : Option Value → aHeap → Prop} {sl : Nat} {sx : Nat → Int32} {S : SS} {K : KS} {T : TS} {X : XS} {M : SS} {p : Int32 × SS × TS} (hd : cD_restore S T X = some p) (hQ : Q (some (.int p.1)) (LH (old0 sl sx) p.2.1 K p.2.2 X M)) : aCall l G (d + 3) 0 0 171 [.ref 8] (LH (old0 sl sx) S K T X M) Q := by
  refine aCall.of (by decide) (Nat.le_of_ble_eq_true rfl) ?_
  refine aAt.sub [(0, .ref 8)] rfl ?_
  unfold cD_restore at hd
  refine s_aload_n f_171_0 rfl ?_
  refine C_getI f_171_1 fd_0_57 (ocl (by decide)) (by decide) ?_
  refine s_if_ne 14 f_171_4 (by decide) (fun c1 => ?_) (fun c1 => ?_)
  · replace hd := ite_n c1 hd
    refine s_aload_n f_171_14 rfl ?_
    refine L_getR f_171_15 fd_0_10 (obL (by decide)) (by decide) (by decide : rf 8 0 = 9) ?_
    refine s_aload_n f_171_18 rfl ?_
    refine L_getR f_171_19 fd_0_16 (obL (by decide)) (by decide) (by decide : rf 8 1 = 71) ?_
    replace hd := obind hd
    obtain ⟨p2, e2, hd⟩ := hd
    refine L_virt (As := [.ref 71]) f_171_22 ca_0_375 rfl rfl (obL (by decide)) (by decide) (Nat.le_of_ble_eq_true rfl) ?_
    refine t_cLand_become e2 ?_
    refine s_aload_n f_171_25 rfl ?_
    refine L_getR f_171_26 fd_0_10 (obL (by decide)) (by decide) (by decide : rf 8 0 = 9) ?_
    refine C_getI f_171_29 fd_0_66 (ocl (by decide)) (by decide) ?_
    refine s_ireturn f_171_32 rfl rfl ?_
    cases hd
    exact hQ
  · replace hd := ite_p c1 hd
    refine s_aload_n f_171_7 rfl ?_
    refine s_ldc f_171_8 ko_0_182 ?_
    replace hd := obind hd
    obtain ⟨p3, e3, hd⟩ := hd
    refine L_virt (As := [.int (-100006 : Int32)]) f_171_10 ca_0_84 rfl rfl (obL (by decide)) (by decide) (Nat.le_of_ble_eq_true rfl) ?_
    refine t_cD_found e3 ?_
    refine s_ireturn f_171_13 rfl rfl ?_
    cases hd
    exact hQ

def cLand_livingCount_J30 (S : SS) (k4 : Int32 → Int32 → Option (Int32)) (a2 : Int32) (w0 : Int32) (w1 : Bool) : Option (Int32) :=
  (cD_bit w1).bind fun p5 =>
  k4 (w0 + p5) (a2 + 1)
theorem t_cLand_livingCount_J30 {l : Launch} {G : aG} {d : Nat} {Q : Option Value → aHeap → Prop} {sl : Nat} {sx : Nat → Int32} {S : SS} {K : KS} {T : TS} {X : XS} {M : SS} {k4 : Int32 → Int32 → Option (Int32)} (hk4 : ∀ (a1 : Int32) (a2 : Int32) (p : Int32), k4 a1 a2 = some p → Q (some (.int p)) (LH (old0 sl sx) S K T X M) → aAt l G (d + 1) 0 0 173 4 [(0, .ref 9), (1, .int a1), (2, .int a2)] [] 0 0 (LH (old0 sl sx) S K T X M) Q) : ∀ (a2 : Int32) (w0 : Int32) (w1 : Bool) (p : Int32), cLand_livingCount_J30 S k4 a2 w0 w1 = some p → Q (some (.int p)) (LH (old0 sl sx) S K T X M) → aAt l G (d + 1) 0 0 173 30 [(0, .ref 9), (2, .int a2)] [.int (b2i w1), .int w0] 0 0 (LH (old0 sl sx) S K T X M) Q := by
  intro a2 w0 w1 p hd hQ
  unfold cLand_livingCount_J30 at hd
  replace hd := obind hd
  obtain ⟨p5, e5, hd⟩ := hd
  refine L_statN (As := [.int (b2i w1)]) f_173_30 ca_3_127 rfl rfl (Nat.le_of_ble_eq_true rfl) ?_
  refine t_cD_bit e5 ?_
  refine s_iadd f_173_33 ?_
  refine s_istore_n f_173_34 (by decide) ?_
  refine k_iinc (w := 1) f_173_35 rfl (by decide) (by decide) ?_
  refine s_goto 4 f_173_38 (by decide) ?_
  refine aAt.sub [(0, .ref 9), (1, .int (w0 + p5)), (2, .int (a2 + 1))] rfl ?_
  exact hk4 _ _  _ hd hQ
def cLand_livingCount_L4 (S : SS) : Nat → Int32 → Int32 → Option (Int32)
  | 0, _, _ => none
  | n + 1, a1, a2 =>
    if (S 9 7) ≤ a2 then
      some a1
    else
      if inb a2 14 then
        (cPerson_isDead S (17 + (ix a2))).bind fun p3 =>
        if p3 = true then
          cLand_livingCount_J30 S (cLand_livingCount_L4 S  n) a2 a1 false
        else
          cLand_livingCount_J30 S (cLand_livingCount_L4 S  n) a2 a1 true
      else none
theorem t_cLand_livingCount_L4 {l : Launch} {G : aG} {d : Nat} {Q : Option Value → aHeap → Prop} {sl : Nat} {sx : Nat → Int32} {S : SS} {K : KS} {T : TS} {X : XS} {M : SS} : ∀ (n : Nat), ∀ (a1 : Int32) (a2 : Int32) (p : Int32), cLand_livingCount_L4 S n a1 a2 = some p → Q (some (.int p)) (LH (old0 sl sx) S K T X M) → aAt l G (d + 1) 0 0 173 4 [(0, .ref 9), (1, .int a1), (2, .int a2)] [] 0 0 (LH (old0 sl sx) S K T X M) Q := by
  intro n
  induction n with
  | zero =>
    intro a1 a2 p hd hQ
    rw [cLand_livingCount_L4] at hd
    cases hd
  | succ n ih =>
    intro a1 a2 p hd hQ
    rw [cLand_livingCount_L4] at hd
    refine s_iload_n f_173_4 rfl ?_
    refine s_aload_n f_173_5 rfl ?_
    refine C_getI f_173_6 fd_3_48 (ocl (by decide)) (by decide) ?_
    refine s_icmp_ge 41 f_173_9 (by decide) (fun c1 => ?_) (fun c1 => ?_)
    · replace hd := ite_p c1 hd
      refine s_iload_n f_173_41 rfl ?_
      refine s_ireturn f_173_42 rfl rfl ?_
      cases hd
      exact hQ
    · replace hd := ite_n c1 hd
      refine s_iload_n f_173_12 rfl ?_
      refine s_aload_n f_173_13 rfl ?_
      refine L_getR f_173_14 fd_3_11 (obL (by decide)) (by decide) (by decide : rf 9 0 = 10) ?_
      refine s_iload_n f_173_17 rfl ?_
      replace hd := gd hd
      obtain ⟨g2, hd⟩ := hd
      refine L_aaload (ak := 30) (q := (ix a2)) f_173_18 (obL (by decide)) (by decide) (inb_nI g2) (inb_lt g2) (Nat.le_of_ble_eq_true rfl) (scPr (inb_lt g2)) (rfP (inb_lt g2)) ?_
      replace hd := obind hd
      obtain ⟨p3, e3, hd⟩ := hd
      refine L_virt (As := []) f_173_19 ca_3_116 rfl rfl (ocP g2).1 (by decide) (Nat.le_of_ble_eq_true rfl) ?_
      refine t_cPerson_isDead (ocP g2) e3 ?_
      refine z_if_ne 29 f_173_22 (by decide) (fun c4 => ?_) (fun c4 => ?_)
      · replace hd := ite_p c4 hd
        refine k_iconst (v := 0) f_173_29 (by decide) ?_
        refine aAt.sub [(0, .ref 9), (2, .int a2)] rfl ?_
        exact t_cLand_livingCount_J30 ih _ _ _  _ hd hQ
      · replace hd := ite_n c4 hd
        refine k_iconst (v := 1) f_173_25 (by decide) ?_
        refine s_goto 30 f_173_26 (by decide) ?_
        refine aAt.sub [(0, .ref 9), (2, .int a2)] rfl ?_
        exact t_cLand_livingCount_J30 ih _ _ _  _ hd hQ
def cLand_livingCount (S : SS) : Option (Int32) :=
  cLand_livingCount_L4 S FU (0 : Int32) (0 : Int32)
theorem t_cLand_livingCount {l : Launch} {G : aG} {d : Nat} {Q : Option Value → aHeap → Prop} {sl : Nat} {sx : Nat → Int32} {S : SS} {K : KS} {T : TS} {X : XS} {M : SS} {p : Int32} (hd : cLand_livingCount S = some p) (hQ : Q (some (.int p)) (LH (old0 sl sx) S K T X M)) : aCall l G (d + 1) 0 0 173 [.ref 9] (LH (old0 sl sx) S K T X M) Q := by
  refine aCall.of (by decide) (Nat.le_of_ble_eq_true rfl) ?_
  refine aAt.sub [(0, .ref 9)] rfl ?_
  unfold cLand_livingCount at hd
  refine k_iconst (v := 0) f_173_0 (by decide) ?_
  refine s_istore_n f_173_1 (by decide) ?_
  refine k_iconst (v := 0) f_173_2 (by decide) ?_
  refine s_istore_n f_173_3 (by decide) ?_
  refine aAt.sub [(0, .ref 9), (1, .int (0 : Int32)), (2, .int (0 : Int32))] rfl ?_
  exact t_cLand_livingCount_L4 FU _ _  _ hd hQ

def cLand_openCount_J30 (S : SS) (k4 : Int32 → Int32 → Option (Int32)) (a2 : Int32) (w0 : Int32) (w1 : Bool) : Option (Int32) :=
  (cD_bit w1).bind fun p4 =>
  k4 (w0 + p4) (a2 + 1)
theorem t_cLand_openCount_J30 {l : Launch} {G : aG} {d : Nat} {Q : Option Value → aHeap → Prop} {sl : Nat} {sx : Nat → Int32} {S : SS} {K : KS} {T : TS} {X : XS} {M : SS} {k4 : Int32 → Int32 → Option (Int32)} (hk4 : ∀ (a1 : Int32) (a2 : Int32) (p : Int32), k4 a1 a2 = some p → Q (some (.int p)) (LH (old0 sl sx) S K T X M) → aAt l G (d + 1) 0 0 174 4 [(0, .ref 9), (1, .int a1), (2, .int a2)] [] 0 0 (LH (old0 sl sx) S K T X M) Q) : ∀ (a2 : Int32) (w0 : Int32) (w1 : Bool) (p : Int32), cLand_openCount_J30 S k4 a2 w0 w1 = some p → Q (some (.int p)) (LH (old0 sl sx) S K T X M) → aAt l G (d + 1) 0 0 174 30 [(0, .ref 9), (2, .int a2)] [.int (b2i w1), .int w0] 0 0 (LH (old0 sl sx) S K T X M) Q := by
  intro a2 w0 w1 p hd hQ
  unfold cLand_openCount_J30 at hd
  replace hd := obind hd
  obtain ⟨p4, e4, hd⟩ := hd
  refine L_statN (As := [.int (b2i w1)]) f_174_30 ca_3_127 rfl rfl (Nat.le_of_ble_eq_true rfl) ?_
  refine t_cD_bit e4 ?_
  refine s_iadd f_174_33 ?_
  refine s_istore_n f_174_34 (by decide) ?_
  refine k_iinc (w := 1) f_174_35 rfl (by decide) (by decide) ?_
  refine s_goto 4 f_174_38 (by decide) ?_
  refine aAt.sub [(0, .ref 9), (1, .int (w0 + p4)), (2, .int (a2 + 1))] rfl ?_
  exact hk4 _ _  _ hd hQ
def cLand_openCount_L4 (S : SS) : Nat → Int32 → Int32 → Option (Int32)
  | 0, _, _ => none
  | n + 1, a1, a2 =>
    if (S 9 9) ≤ a2 then
      some a1
    else
      if inb a2 20 then
        if (S (39 + (ix a2)) 9) = 0 then
          cLand_openCount_J30 S (cLand_openCount_L4 S  n) a2 a1 true
        else
          cLand_openCount_J30 S (cLand_openCount_L4 S  n) a2 a1 false
      else none
theorem t_cLand_openCount_L4 {l : Launch} {G : aG} {d : Nat} {Q : Option Value → aHeap → Prop} {sl : Nat} {sx : Nat → Int32} {S : SS} {K : KS} {T : TS} {X : XS} {M : SS} : ∀ (n : Nat), ∀ (a1 : Int32) (a2 : Int32) (p : Int32), cLand_openCount_L4 S n a1 a2 = some p → Q (some (.int p)) (LH (old0 sl sx) S K T X M) → aAt l G (d + 1) 0 0 174 4 [(0, .ref 9), (1, .int a1), (2, .int a2)] [] 0 0 (LH (old0 sl sx) S K T X M) Q := by
  intro n
  induction n with
  | zero =>
    intro a1 a2 p hd hQ
    rw [cLand_openCount_L4] at hd
    cases hd
  | succ n ih =>
    intro a1 a2 p hd hQ
    rw [cLand_openCount_L4] at hd
    refine s_iload_n f_174_4 rfl ?_
    refine s_aload_n f_174_5 rfl ?_
    refine C_getI f_174_6 fd_3_55 (ocl (by decide)) (by decide) ?_
    refine s_icmp_ge 41 f_174_9 (by decide) (fun c1 => ?_) (fun c1 => ?_)
    · replace hd := ite_p c1 hd
      refine s_iload_n f_174_41 rfl ?_
      refine s_ireturn f_174_42 rfl rfl ?_
      cases hd
      exact hQ
    · replace hd := ite_n c1 hd
      refine s_iload_n f_174_12 rfl ?_
      refine s_aload_n f_174_13 rfl ?_
      refine L_getR f_174_14 fd_3_25 (obL (by decide)) (by decide) (by decide : rf 9 2 = 12) ?_
      refine s_iload_n f_174_17 rfl ?_
      replace hd := gd hd
      obtain ⟨g2, hd⟩ := hd
      refine L_aaload (ak := 32) (q := (ix a2)) f_174_18 (obL (by decide)) (by decide) (inb_nI g2) (inb_lt g2) (Nat.le_of_ble_eq_true rfl) (scAr (inb_lt g2)) (rfA (inb_lt g2)) ?_
      refine C_getI f_174_19 fd_3_167 (ocA g2) (sck0 (k := X.2) (ocA g2).1 (by decide)) ?_
      refine s_if_ne 29 f_174_22 (by decide) (fun c3 => ?_) (fun c3 => ?_)
      · replace hd := ite_n c3 hd
        refine k_iconst (v := 0) f_174_29 (by decide) ?_
        refine aAt.sub [(0, .ref 9), (2, .int a2)] rfl ?_
        exact t_cLand_openCount_J30 ih _ _ _  _ hd hQ
      · replace hd := ite_p c3 hd
        refine k_iconst (v := 1) f_174_25 (by decide) ?_
        refine s_goto 30 f_174_26 (by decide) ?_
        refine aAt.sub [(0, .ref 9), (2, .int a2)] rfl ?_
        exact t_cLand_openCount_J30 ih _ _ _  _ hd hQ
def cLand_openCount (S : SS) : Option (Int32) :=
  cLand_openCount_L4 S FU (0 : Int32) (0 : Int32)
theorem t_cLand_openCount {l : Launch} {G : aG} {d : Nat} {Q : Option Value → aHeap → Prop} {sl : Nat} {sx : Nat → Int32} {S : SS} {K : KS} {T : TS} {X : XS} {M : SS} {p : Int32} (hd : cLand_openCount S = some p) (hQ : Q (some (.int p)) (LH (old0 sl sx) S K T X M)) : aCall l G (d + 1) 0 0 174 [.ref 9] (LH (old0 sl sx) S K T X M) Q := by
  refine aCall.of (by decide) (Nat.le_of_ble_eq_true rfl) ?_
  refine aAt.sub [(0, .ref 9)] rfl ?_
  unfold cLand_openCount at hd
  refine k_iconst (v := 0) f_174_0 (by decide) ?_
  refine s_istore_n f_174_1 (by decide) ?_
  refine k_iconst (v := 0) f_174_2 (by decide) ?_
  refine s_istore_n f_174_3 (by decide) ?_
  refine aAt.sub [(0, .ref 9), (1, .int (0 : Int32)), (2, .int (0 : Int32))] rfl ?_
  exact t_cLand_openCount_L4 FU _ _  _ hd hQ

def cLand_allStores_L4 (S : SS) : Nat → Int32 → Int32 → Option (Int32)
  | 0, _, _ => none
  | n + 1, a1, a2 =>
    if (S 9 7) ≤ a2 then
      some a1
    else
      if inb a2 14 then
        cLand_allStores_L4 S  n (a1 + (S (17 + (ix a2)) 3)) (a2 + 1)
      else none
theorem t_cLand_allStores_L4 {l : Launch} {G : aG} {d : Nat} {Q : Option Value → aHeap → Prop} {sl : Nat} {sx : Nat → Int32} {S : SS} {K : KS} {T : TS} {X : XS} {M : SS} : ∀ (n : Nat), ∀ (a1 : Int32) (a2 : Int32) (p : Int32), cLand_allStores_L4 S n a1 a2 = some p → Q (some (.int p)) (LH (old0 sl sx) S K T X M) → aAt l G d 0 0 175 4 [(0, .ref 9), (1, .int a1), (2, .int a2)] [] 0 0 (LH (old0 sl sx) S K T X M) Q := by
  intro n
  induction n with
  | zero =>
    intro a1 a2 p hd hQ
    rw [cLand_allStores_L4] at hd
    cases hd
  | succ n ih =>
    intro a1 a2 p hd hQ
    rw [cLand_allStores_L4] at hd
    refine s_iload_n f_175_4 rfl ?_
    refine s_aload_n f_175_5 rfl ?_
    refine C_getI f_175_6 fd_3_48 (ocl (by decide)) (by decide) ?_
    refine s_icmp_ge 30 f_175_9 (by decide) (fun c1 => ?_) (fun c1 => ?_)
    · replace hd := ite_p c1 hd
      refine s_iload_n f_175_30 rfl ?_
      refine s_ireturn f_175_31 rfl rfl ?_
      cases hd
      exact hQ
    · replace hd := ite_n c1 hd
      refine s_iload_n f_175_12 rfl ?_
      refine s_aload_n f_175_13 rfl ?_
      refine L_getR f_175_14 fd_3_11 (obL (by decide)) (by decide) (by decide : rf 9 0 = 10) ?_
      refine s_iload_n f_175_17 rfl ?_
      replace hd := gd hd
      obtain ⟨g2, hd⟩ := hd
      refine L_aaload (ak := 30) (q := (ix a2)) f_175_18 (obL (by decide)) (by decide) (inb_nI g2) (inb_lt g2) (Nat.le_of_ble_eq_true rfl) (scPr (inb_lt g2)) (rfP (inb_lt g2)) ?_
      refine C_getI f_175_19 fd_3_131 (ocP g2) (sck0 (k := X.2) (ocP g2).1 (by decide)) ?_
      refine s_iadd f_175_22 ?_
      refine s_istore_n f_175_23 (by decide) ?_
      refine k_iinc (w := 1) f_175_24 rfl (by decide) (by decide) ?_
      refine s_goto 4 f_175_27 (by decide) ?_
      refine aAt.sub [(0, .ref 9), (1, .int (a1 + (S (17 + (ix a2)) 3))), (2, .int (a2 + 1))] rfl ?_
      exact ih _ _  _ hd hQ
def cLand_allStores (S : SS) : Option (Int32) :=
  cLand_allStores_L4 S FU (0 : Int32) (0 : Int32)
theorem t_cLand_allStores {l : Launch} {G : aG} {d : Nat} {Q : Option Value → aHeap → Prop} {sl : Nat} {sx : Nat → Int32} {S : SS} {K : KS} {T : TS} {X : XS} {M : SS} {p : Int32} (hd : cLand_allStores S = some p) (hQ : Q (some (.int p)) (LH (old0 sl sx) S K T X M)) : aCall l G d 0 0 175 [.ref 9] (LH (old0 sl sx) S K T X M) Q := by
  refine aCall.of (by decide) (Nat.le_of_ble_eq_true rfl) ?_
  refine aAt.sub [(0, .ref 9)] rfl ?_
  unfold cLand_allStores at hd
  refine k_iconst (v := 0) f_175_0 (by decide) ?_
  refine s_istore_n f_175_1 (by decide) ?_
  refine k_iconst (v := 0) f_175_2 (by decide) ?_
  refine s_istore_n f_175_3 (by decide) ?_
  refine aAt.sub [(0, .ref 9), (1, .int (0 : Int32)), (2, .int (0 : Int32))] rfl ?_
  exact t_cLand_allStores_L4 FU _ _  _ hd hQ

def cD_count (S : SS) (a1 : Int32) : Option (Int32 × SS) :=
  if a1 = 0 then
    (cLand_livingCount S).bind fun p2 =>
    some (p2, S)
  else
    if a1 = 1 then
      some ((S 9 8), S)
    else
      if a1 = 2 then
        some ((S 9 9), S)
      else
        if a1 = 3 then
          (cLand_openCount S).bind fun p6 =>
          some (p6, S)
        else
          if a1 = 4 then
            some ((S 9 11), S)
          else
            if a1 = 5 then
              (cLand_allStores S).bind fun p9 =>
              some (p9, S)
            else
              if a1 = 6 then
                some ((S 9 12), S)
              else
                if a1 = 7 then
                  some ((S 9 13), S)
                else
                  if a1 = 8 then
                    some ((S 8 8), S)
                  else
                    (cD_found S (-100001 : Int32)).bind fun p13 =>
                    some (p13.1, p13.2)
theorem t_cD_count {l : Launch} {G : aG} {d : Nat} {Q : Option Value → aHeap → Prop} {sl : Nat} {sx : Nat → Int32} {S : SS} {K : KS} {T : TS} {X : XS} {M : SS} {a1 : Int32} {p : Int32 × SS} (hd : cD_count S a1 = some p) (hQ : Q (some (.int p.1)) (LH (old0 sl sx) p.2 K T X M)) : aCall l G (d + 2) 0 0 172 [.ref 8, .int a1] (LH (old0 sl sx) S K T X M) Q := by
  refine aCall.of (by decide) (Nat.le_of_ble_eq_true rfl) ?_
  refine aAt.sub [(0, .ref 8), (1, .int a1)] rfl ?_
  unfold cD_count at hd
  refine s_iload_n f_172_0 rfl ?_
  by_cases c1 : a1 = 0
  · replace hd := ite_p c1 hd
    refine s_tabJ (off := 51) (0 : Int32) 52 c1 f_172_1 (by decide) (by decide) (by decide) (by decide) ?_
    refine s_aload_n f_172_52 rfl ?_
    refine L_getR f_172_53 fd_0_10 (obL (by decide)) (by decide) (by decide : rf 8 0 = 9) ?_
    replace hd := obind hd
    obtain ⟨p2, e2, hd⟩ := hd
    refine L_virt (As := []) f_172_56 ca_0_378 rfl rfl (obL (by decide)) (by decide) (Nat.le_of_ble_eq_true rfl) ?_
    refine t_cLand_livingCount e2 ?_
    refine s_ireturn f_172_59 rfl rfl ?_
    cases hd
    exact hQ
  replace hd := ite_n c1 hd
  by_cases c3 : a1 = 1
  · replace hd := ite_p c3 hd
    refine s_tabJ (off := 59) (1 : Int32) 60 c3 f_172_1 (by decide) (by decide) (by decide) (by decide) ?_
    refine s_aload_n f_172_60 rfl ?_
    refine L_getR f_172_61 fd_0_10 (obL (by decide)) (by decide) (by decide : rf 8 0 = 9) ?_
    refine C_getI f_172_64 fd_0_147 (ocl (by decide)) (by decide) ?_
    refine s_ireturn f_172_67 rfl rfl ?_
    cases hd
    exact hQ
  replace hd := ite_n c3 hd
  by_cases c4 : a1 = 2
  · replace hd := ite_p c4 hd
    refine s_tabJ (off := 67) (2 : Int32) 68 c4 f_172_1 (by decide) (by decide) (by decide) (by decide) ?_
    refine s_aload_n f_172_68 rfl ?_
    refine L_getR f_172_69 fd_0_10 (obL (by decide)) (by decide) (by decide : rf 8 0 = 9) ?_
    refine C_getI f_172_72 fd_0_188 (ocl (by decide)) (by decide) ?_
    refine s_ireturn f_172_75 rfl rfl ?_
    cases hd
    exact hQ
  replace hd := ite_n c4 hd
  by_cases c5 : a1 = 3
  · replace hd := ite_p c5 hd
    refine s_tabJ (off := 75) (3 : Int32) 76 c5 f_172_1 (by decide) (by decide) (by decide) (by decide) ?_
    refine s_aload_n f_172_76 rfl ?_
    refine L_getR f_172_77 fd_0_10 (obL (by decide)) (by decide) (by decide : rf 8 0 = 9) ?_
    replace hd := obind hd
    obtain ⟨p6, e6, hd⟩ := hd
    refine L_virt (As := []) f_172_80 ca_0_381 rfl rfl (obL (by decide)) (by decide) (Nat.le_of_ble_eq_true rfl) ?_
    refine t_cLand_openCount e6 ?_
    refine s_ireturn f_172_83 rfl rfl ?_
    cases hd
    exact hQ
  replace hd := ite_n c5 hd
  by_cases c7 : a1 = 4
  · replace hd := ite_p c7 hd
    refine s_tabJ (off := 83) (4 : Int32) 84 c7 f_172_1 (by decide) (by decide) (by decide) (by decide) ?_
    refine s_aload_n f_172_84 rfl ?_
    refine L_getR f_172_85 fd_0_10 (obL (by decide)) (by decide) (by decide : rf 8 0 = 9) ?_
    refine C_getI f_172_88 fd_0_66 (ocl (by decide)) (by decide) ?_
    refine s_ireturn f_172_91 rfl rfl ?_
    cases hd
    exact hQ
  replace hd := ite_n c7 hd
  by_cases c8 : a1 = 5
  · replace hd := ite_p c8 hd
    refine s_tabJ (off := 91) (5 : Int32) 92 c8 f_172_1 (by decide) (by decide) (by decide) (by decide) ?_
    refine s_aload_n f_172_92 rfl ?_
    refine L_getR f_172_93 fd_0_10 (obL (by decide)) (by decide) (by decide : rf 8 0 = 9) ?_
    replace hd := obind hd
    obtain ⟨p9, e9, hd⟩ := hd
    refine L_virt (As := []) f_172_96 ca_0_384 rfl rfl (obL (by decide)) (by decide) (Nat.le_of_ble_eq_true rfl) ?_
    refine t_cLand_allStores e9 ?_
    refine s_ireturn f_172_99 rfl rfl ?_
    cases hd
    exact hQ
  replace hd := ite_n c8 hd
  by_cases c10 : a1 = 6
  · replace hd := ite_p c10 hd
    refine s_tabJ (off := 99) (6 : Int32) 100 c10 f_172_1 (by decide) (by decide) (by decide) (by decide) ?_
    refine s_aload_n f_172_100 rfl ?_
    refine L_getR f_172_101 fd_0_10 (obL (by decide)) (by decide) (by decide : rf 8 0 = 9) ?_
    refine C_getI f_172_104 fd_0_387 (ocl (by decide)) (by decide) ?_
    refine s_ireturn f_172_107 rfl rfl ?_
    cases hd
    exact hQ
  replace hd := ite_n c10 hd
  by_cases c11 : a1 = 7
  · replace hd := ite_p c11 hd
    refine s_tabJ (off := 107) (7 : Int32) 108 c11 f_172_1 (by decide) (by decide) (by decide) (by decide) ?_
    refine s_aload_n f_172_108 rfl ?_
    refine L_getR f_172_109 fd_0_10 (obL (by decide)) (by decide) (by decide : rf 8 0 = 9) ?_
    refine C_getI f_172_112 fd_0_123 (ocl (by decide)) (by decide) ?_
    refine s_ireturn f_172_115 rfl rfl ?_
    cases hd
    exact hQ
  replace hd := ite_n c11 hd
  by_cases c12 : a1 = 8
  · replace hd := ite_p c12 hd
    refine s_tabJ (off := 115) (8 : Int32) 116 c12 f_172_1 (by decide) (by decide) (by decide) (by decide) ?_
    refine s_aload_n f_172_116 rfl ?_
    refine C_getI f_172_117 fd_0_61 (ocl (by decide)) (by decide) ?_
    refine s_ireturn f_172_120 rfl rfl ?_
    cases hd
    exact hQ
  replace hd := ite_n c12 hd
  refine s_tableOut 121 f_172_1 (sw_out (lo := 0) (n := 8) (by decide) (by decide) (fun j hj e => by
    have : j = 0 ∨ j = 1 ∨ j = 2 ∨ j = 3 ∨ j = 4 ∨ j = 5 ∨ j = 6 ∨ j = 7 ∨ j = 8 := by omega
    rcases this with rfl | rfl | rfl | rfl | rfl | rfl | rfl | rfl | rfl
    · exact c1 (e.trans (by decide))
    · exact c3 (e.trans (by decide))
    · exact c4 (e.trans (by decide))
    · exact c5 (e.trans (by decide))
    · exact c7 (e.trans (by decide))
    · exact c8 (e.trans (by decide))
    · exact c10 (e.trans (by decide))
    · exact c11 (e.trans (by decide))
    · exact c12 (e.trans (by decide)))) (by decide) ?_
  refine s_aload_n f_172_121 rfl ?_
  refine s_ldc f_172_122 ko_0_83 ?_
  replace hd := obind hd
  obtain ⟨p13, e13, hd⟩ := hd
  refine L_virt (As := [.int (-100001 : Int32)]) f_172_124 ca_0_84 rfl rfl (obL (by decide)) (by decide) (Nat.le_of_ble_eq_true rfl) ?_
  refine t_cD_found e13 ?_
  refine s_ireturn f_172_127 rfl rfl ?_
  cases hd
  exact hQ
