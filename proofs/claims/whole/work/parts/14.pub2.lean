theorem ca_3_116 : cal 3 116 = some (3, 116, 0, 20, 0) := by decide +kernel
theorem ca_3_134 : cal 3 134 = some (3, 134, 6, 0, 2) := by decide +kernel
theorem f_16_0 : decode (mB 16) 0 = .ok (.aload_n 0, 1) := by decide +kernel
theorem f_16_1 : decode (mB 16) 1 = .ok (.iload_n 1, 1) := by decide +kernel
theorem f_16_2 : decode (mB 16) 2 = .ok (.putfield 7, 3) := by decide +kernel
theorem f_16_5 : decode (mB 16) 5 = .ok (.aload_n 0, 1) := by decide +kernel
theorem f_16_6 : decode (mB 16) 6 = .ok (.iload_n 2, 1) := by decide +kernel
theorem f_16_7 : decode (mB 16) 7 = .ok (.putfield 13, 3) := by decide +kernel
theorem f_16_10 : decode (mB 16) 10 = .ok (.aload_n 0, 1) := by decide +kernel
theorem f_16_11 : decode (mB 16) 11 = .ok (.iload_n 3, 1) := by decide +kernel
theorem f_16_12 : decode (mB 16) 12 = .ok (.putfield 16, 3) := by decide +kernel
theorem f_16_15 : decode (mB 16) 15 = .ok (.aload_n 0, 1) := by decide +kernel
theorem f_16_16 : decode (mB 16) 16 = .ok (.iload 4, 2) := by decide +kernel
theorem f_16_18 : decode (mB 16) 18 = .ok (.putfield 19, 3) := by decide +kernel
theorem f_16_21 : decode (mB 16) 21 = .ok (.aload_n 0, 1) := by decide +kernel
theorem f_16_22 : decode (mB 16) 22 = .ok (.iconst (-1), 1) := by decide +kernel
theorem f_16_23 : decode (mB 16) 23 = .ok (.putfield 22, 3) := by decide +kernel
theorem f_16_26 : decode (mB 16) 26 = .ok (.aload_n 0, 1) := by decide +kernel
theorem f_16_27 : decode (mB 16) 27 = .ok (.iconst 3, 1) := by decide +kernel
theorem f_16_28 : decode (mB 16) 28 = .ok (.putfield 25, 3) := by decide +kernel
theorem f_16_31 : decode (mB 16) 31 = .ok (.aload_n 0, 1) := by decide +kernel
theorem f_16_32 : decode (mB 16) 32 = .ok (.iconst (-1), 1) := by decide +kernel
theorem f_16_33 : decode (mB 16) 33 = .ok (.putfield 28, 3) := by decide +kernel
theorem f_16_36 : decode (mB 16) 36 = .ok (.aload_n 0, 1) := by decide +kernel
theorem f_16_37 : decode (mB 16) 37 = .ok (.iconst 0, 1) := by decide +kernel
theorem f_16_38 : decode (mB 16) 38 = .ok (.putfield 31, 3) := by decide +kernel
theorem f_16_41 : decode (mB 16) 41 = .ok (.aload_n 0, 1) := by decide +kernel
theorem f_16_42 : decode (mB 16) 42 = .ok (.iconst 0, 1) := by decide +kernel
theorem f_16_43 : decode (mB 16) 43 = .ok (.putfield 34, 3) := by decide +kernel
theorem f_16_46 : decode (mB 16) 46 = .ok (.aload_n 0, 1) := by decide +kernel
theorem f_16_47 : decode (mB 16) 47 = .ok (.iconst 0, 1) := by decide +kernel
theorem f_16_48 : decode (mB 16) 48 = .ok (.putfield 38, 3) := by decide +kernel
theorem f_16_51 : decode (mB 16) 51 = .ok (.return_, 1) := by decide +kernel
theorem f_29_0 : decode (mB 29) 0 = .ok (.aload_n 0, 1) := by decide +kernel
theorem f_29_1 : decode (mB 29) 1 = .ok (.iload_n 1, 1) := by decide +kernel
theorem f_29_2 : decode (mB 29) 2 = .ok (.putfield 7, 3) := by decide +kernel
theorem f_29_5 : decode (mB 29) 5 = .ok (.aload_n 0, 1) := by decide +kernel
theorem f_29_6 : decode (mB 29) 6 = .ok (.iload_n 2, 1) := by decide +kernel
theorem f_29_7 : decode (mB 29) 7 = .ok (.putfield 13, 3) := by decide +kernel
theorem f_29_10 : decode (mB 29) 10 = .ok (.aload_n 0, 1) := by decide +kernel
theorem f_29_11 : decode (mB 29) 11 = .ok (.iload_n 1, 1) := by decide +kernel
theorem f_29_12 : decode (mB 29) 12 = .ok (.putfield 16, 3) := by decide +kernel
theorem f_29_15 : decode (mB 29) 15 = .ok (.aload_n 0, 1) := by decide +kernel
theorem f_29_16 : decode (mB 29) 16 = .ok (.iload_n 3, 1) := by decide +kernel
theorem f_29_17 : decode (mB 29) 17 = .ok (.putfield 19, 3) := by decide +kernel
theorem f_29_20 : decode (mB 29) 20 = .ok (.return_, 1) := by decide +kernel
theorem f_42_0 : decode (mB 42) 0 = .ok (.aload_n 0, 1) := by decide +kernel
theorem f_42_1 : decode (mB 42) 1 = .ok (.iload_n 1, 1) := by decide +kernel
theorem f_42_2 : decode (mB 42) 2 = .ok (.putfield 9, 3) := by decide +kernel
theorem f_42_5 : decode (mB 42) 5 = .ok (.aload_n 0, 1) := by decide +kernel
theorem f_42_6 : decode (mB 42) 6 = .ok (.iload_n 2, 1) := by decide +kernel
theorem f_42_7 : decode (mB 42) 7 = .ok (.putfield 15, 3) := by decide +kernel
theorem f_42_10 : decode (mB 42) 10 = .ok (.aload_n 0, 1) := by decide +kernel
theorem f_42_11 : decode (mB 42) 11 = .ok (.iload_n 3, 1) := by decide +kernel
theorem f_42_12 : decode (mB 42) 12 = .ok (.putfield 18, 3) := by decide +kernel
theorem f_42_15 : decode (mB 42) 15 = .ok (.aload_n 0, 1) := by decide +kernel
theorem f_42_16 : decode (mB 42) 16 = .ok (.iload 4, 2) := by decide +kernel
theorem f_42_18 : decode (mB 42) 18 = .ok (.putfield 21, 3) := by decide +kernel
theorem f_42_21 : decode (mB 42) 21 = .ok (.aload_n 0, 1) := by decide +kernel
theorem f_42_22 : decode (mB 42) 22 = .ok (.iconst 0, 1) := by decide +kernel
theorem f_42_23 : decode (mB 42) 23 = .ok (.putfield 24, 3) := by decide +kernel
theorem f_42_26 : decode (mB 42) 26 = .ok (.aload_n 0, 1) := by decide +kernel
theorem f_42_27 : decode (mB 42) 27 = .ok (.iload 5, 2) := by decide +kernel
theorem f_42_29 : decode (mB 42) 29 = .ok (.putfield 27, 3) := by decide +kernel
theorem f_42_32 : decode (mB 42) 32 = .ok (.aload_n 0, 1) := by decide +kernel
theorem f_42_33 : decode (mB 42) 33 = .ok (.iload 6, 2) := by decide +kernel
theorem f_42_35 : decode (mB 42) 35 = .ok (.putfield 30, 3) := by decide +kernel
theorem f_42_38 : decode (mB 42) 38 = .ok (.aload_n 0, 1) := by decide +kernel
theorem f_42_39 : decode (mB 42) 39 = .ok (.iconst (-1), 1) := by decide +kernel
theorem f_42_40 : decode (mB 42) 40 = .ok (.putfield 33, 3) := by decide +kernel
theorem f_42_43 : decode (mB 42) 43 = .ok (.aload_n 0, 1) := by decide +kernel
theorem f_42_44 : decode (mB 42) 44 = .ok (.iconst 2, 1) := by decide +kernel
theorem f_42_45 : decode (mB 42) 45 = .ok (.putfield 36, 3) := by decide +kernel
theorem f_42_48 : decode (mB 42) 48 = .ok (.aload_n 0, 1) := by decide +kernel
theorem f_42_49 : decode (mB 42) 49 = .ok (.iconst 0, 1) := by decide +kernel
theorem f_42_50 : decode (mB 42) 50 = .ok (.putfield 39, 3) := by decide +kernel
theorem f_42_53 : decode (mB 42) 53 = .ok (.return_, 1) := by decide +kernel
theorem f_51_0 : decode (mB 51) 0 = .ok (.aload_n 0, 1) := by decide +kernel
theorem f_51_1 : decode (mB 51) 1 = .ok (.getfield 11, 3) := by decide +kernel
theorem f_51_4 : decode (mB 51) 4 = .ok (.iload_n 1, 1) := by decide +kernel
theorem f_51_5 : decode (mB 51) 5 = .ok (.aaload, 1) := by decide +kernel
theorem f_51_6 : decode (mB 51) 6 = .ok (.astore_n 3, 1) := by decide +kernel
theorem f_51_7 : decode (mB 51) 7 = .ok (.aload_n 3, 1) := by decide +kernel
theorem f_51_8 : decode (mB 51) 8 = .ok (.invokevirtual 116, 3) := by decide +kernel
theorem f_51_11 : decode (mB 51) 11 = .ok (.ifCond .eq 7, 3) := by decide +kernel
theorem f_51_14 : decode (mB 51) 14 = .ok (.iconst 0, 1) := by decide +kernel
theorem f_51_15 : decode (mB 51) 15 = .ok (.goto 11, 3) := by decide +kernel
theorem f_51_18 : decode (mB 51) 18 = .ok (.sipush 9999, 3) := by decide +kernel
theorem f_51_21 : decode (mB 51) 21 = .ok (.aload_n 3, 1) := by decide +kernel
theorem f_51_22 : decode (mB 51) 22 = .ok (.getfield 131, 3) := by decide +kernel
theorem f_51_25 : decode (mB 51) 25 = .ok (.isub, 1) := by decide +kernel
theorem f_51_26 : decode (mB 51) 26 = .ok (.istore 4, 2) := by decide +kernel
theorem f_51_28 : decode (mB 51) 28 = .ok (.iload 4, 2) := by decide +kernel
theorem f_51_30 : decode (mB 51) 30 = .ok (.iload_n 2, 1) := by decide +kernel
theorem f_51_31 : decode (mB 51) 31 = .ok (.invokestatic 134, 3) := by decide +kernel
theorem f_51_34 : decode (mB 51) 34 = .ok (.istore 5, 2) := by decide +kernel
theorem f_51_36 : decode (mB 51) 36 = .ok (.aload_n 3, 1) := by decide +kernel
theorem f_51_37 : decode (mB 51) 37 = .ok (.dup, 1) := by decide +kernel
theorem f_51_38 : decode (mB 51) 38 = .ok (.getfield 131, 3) := by decide +kernel
theorem f_51_41 : decode (mB 51) 41 = .ok (.iload 5, 2) := by decide +kernel
theorem f_51_43 : decode (mB 51) 43 = .ok (.iadd, 1) := by decide +kernel
theorem f_51_44 : decode (mB 51) 44 = .ok (.putfield 131, 3) := by decide +kernel
theorem f_51_47 : decode (mB 51) 47 = .ok (.aload_n 0, 1) := by decide +kernel
theorem f_51_48 : decode (mB 51) 48 = .ok (.dup, 1) := by decide +kernel
theorem f_51_49 : decode (mB 51) 49 = .ok (.getfield 67, 3) := by decide +kernel
theorem f_51_52 : decode (mB 51) 52 = .ok (.iload_n 2, 1) := by decide +kernel
theorem f_51_53 : decode (mB 51) 53 = .ok (.iload 5, 2) := by decide +kernel
theorem f_51_55 : decode (mB 51) 55 = .ok (.isub, 1) := by decide +kernel
theorem f_51_56 : decode (mB 51) 56 = .ok (.iadd, 1) := by decide +kernel
theorem f_51_57 : decode (mB 51) 57 = .ok (.putfield 67, 3) := by decide +kernel
theorem f_51_60 : decode (mB 51) 60 = .ok (.return_, 1) := by decide +kernel
theorem f_213_0 : decode (mB 213) 0 = .ok (.aload_n 0, 1) := by decide +kernel
theorem f_213_1 : decode (mB 213) 1 = .ok (.iload_n 1, 1) := by decide +kernel
theorem f_213_2 : decode (mB 213) 2 = .ok (.invokevirtual 91, 3) := by decide +kernel
theorem f_213_5 : decode (mB 213) 5 = .ok (.ifCond .eq 17, 3) := by decide +kernel
theorem f_213_8 : decode (mB 213) 8 = .ok (.sipush 9999, 3) := by decide +kernel
theorem f_213_11 : decode (mB 213) 11 = .ok (.aload_n 0, 1) := by decide +kernel
theorem f_213_12 : decode (mB 213) 12 = .ok (.iload_n 1, 1) := by decide +kernel
theorem f_213_13 : decode (mB 213) 13 = .ok (.bipush 6, 2) := by decide +kernel
theorem f_213_15 : decode (mB 213) 15 = .ok (.invokevirtual 73, 3) := by decide +kernel
theorem f_213_18 : decode (mB 213) 18 = .ok (.isub, 1) := by decide +kernel
theorem f_213_19 : decode (mB 213) 19 = .ok (.goto 4, 3) := by decide +kernel
theorem f_213_22 : decode (mB 213) 22 = .ok (.iconst 0, 1) := by decide +kernel
theorem f_213_23 : decode (mB 213) 23 = .ok (.istore_n 3, 1) := by decide +kernel
theorem f_213_24 : decode (mB 213) 24 = .ok (.iload_n 2, 1) := by decide +kernel
theorem f_213_25 : decode (mB 213) 25 = .ok (.iload_n 3, 1) := by decide +kernel
theorem f_213_26 : decode (mB 213) 26 = .ok (.if_icmp .ge 7, 3) := by decide +kernel
theorem f_213_29 : decode (mB 213) 29 = .ok (.iload_n 2, 1) := by decide +kernel
theorem f_213_30 : decode (mB 213) 30 = .ok (.goto 4, 3) := by decide +kernel
theorem f_213_33 : decode (mB 213) 33 = .ok (.iload_n 3, 1) := by decide +kernel
theorem f_213_34 : decode (mB 213) 34 = .ok (.istore 4, 2) := by decide +kernel
theorem f_213_36 : decode (mB 213) 36 = .ok (.aload_n 0, 1) := by decide +kernel
theorem f_213_37 : decode (mB 213) 37 = .ok (.iload_n 1, 1) := by decide +kernel
theorem f_213_38 : decode (mB 213) 38 = .ok (.bipush 6, 2) := by decide +kernel
theorem f_213_40 : decode (mB 213) 40 = .ok (.aload_n 0, 1) := by decide +kernel
theorem f_213_41 : decode (mB 213) 41 = .ok (.iload_n 1, 1) := by decide +kernel
theorem f_213_42 : decode (mB 213) 42 = .ok (.bipush 6, 2) := by decide +kernel
theorem f_213_44 : decode (mB 213) 44 = .ok (.invokevirtual 73, 3) := by decide +kernel
theorem f_213_47 : decode (mB 213) 47 = .ok (.iload 4, 2) := by decide +kernel
theorem f_213_49 : decode (mB 213) 49 = .ok (.iadd, 1) := by decide +kernel
theorem f_213_50 : decode (mB 213) 50 = .ok (.invokevirtual 83, 3) := by decide +kernel
theorem f_213_53 : decode (mB 213) 53 = .ok (.aload_n 0, 1) := by decide +kernel
theorem f_213_54 : decode (mB 213) 54 = .ok (.getfield 7, 3) := by decide +kernel
theorem f_213_57 : decode (mB 213) 57 = .ok (.bipush 6, 2) := by decide +kernel
theorem f_213_59 : decode (mB 213) 59 = .ok (.dup2, 1) := by decide +kernel
theorem f_213_60 : decode (mB 213) 60 = .ok (.iaload, 1) := by decide +kernel
theorem f_213_61 : decode (mB 213) 61 = .ok (.iload_n 2, 1) := by decide +kernel
theorem f_213_62 : decode (mB 213) 62 = .ok (.iload 4, 2) := by decide +kernel
theorem f_213_64 : decode (mB 213) 64 = .ok (.isub, 1) := by decide +kernel
theorem f_213_65 : decode (mB 213) 65 = .ok (.iadd, 1) := by decide +kernel
theorem f_213_66 : decode (mB 213) 66 = .ok (.iastore, 1) := by decide +kernel
theorem f_213_67 : decode (mB 213) 67 = .ok (.return_, 1) := by decide +kernel
theorem fd_2_7 : fld 2 7 = some (2, 7, 2, 0) := by decide +kernel
theorem fd_2_13 : fld 2 13 = some (2, 13, 2, 1) := by decide +kernel
theorem fd_2_16 : fld 2 16 = some (2, 16, 2, 2) := by decide +kernel
theorem fd_2_19 : fld 2 19 = some (2, 19, 2, 3) := by decide +kernel
theorem fd_3_11 : fld 3 11 = some (3, 11, 3, 0) := by decide +kernel
theorem fd_3_67 : fld 3 67 = some (3, 67, 3, 13) := by decide +kernel
theorem fd_3_131 : fld 3 131 = some (3, 131, 6, 3) := by decide +kernel
theorem fd_5_9 : fld 5 9 = some (5, 9, 5, 0) := by decide +kernel
theorem fd_5_15 : fld 5 15 = some (5, 15, 5, 1) := by decide +kernel
theorem fd_5_18 : fld 5 18 = some (5, 18, 5, 2) := by decide +kernel
theorem fd_5_27 : fld 5 27 = some (5, 27, 5, 5) := by decide +kernel
theorem fd_5_30 : fld 5 30 = some (5, 30, 5, 6) := by decide +kernel
theorem fd_5_33 : fld 5 33 = some (5, 33, 5, 7) := by decide +kernel
theorem fd_5_36 : fld 5 36 = some (5, 36, 5, 8) := by decide +kernel
theorem fd_6_7 : fld 6 7 = some (6, 7, 6, 0) := by decide +kernel
theorem fd_6_19 : fld 6 19 = some (6, 19, 6, 3) := by decide +kernel
theorem fd_6_25 : fld 6 25 = some (6, 25, 6, 5) := by decide +kernel
theorem fd_6_31 : fld 6 31 = some (6, 31, 6, 7) := by decide +kernel
theorem fd_6_34 : fld 6 34 = some (6, 34, 6, 8) := by decide +kernel
theorem fd_6_38 : fld 6 38 = some (6, 38, 6, 9) := by decide +kernel
theorem c_Pbegin {l : Launch} {G : aG} {d : Nat} {Q : Option Value → aHeap → Prop} {o : Nat → aCell} {k : Nat} {S : Nat → Nat → Int32} {K : Nat → Int64} {T : Nat → Nat → Value} {tl : Nat → Nat} {i : Nat} {v0 v1 v2 v3 : Int32} (hi : i < 14) (hQ : Q none (lay o k (up (up (up (up (up (up (up (up (up (up S (17 + i) 0 v0) (17 + i) 1 v1) (17 + i) 2 v2) (17 + i) 3 v3) (17 + i) 4 (-1 : Int32)) (17 + i) 5 (3 : Int32)) (17 + i) 6 (-1 : Int32)) (17 + i) 7 (0 : Int32)) (17 + i) 8 (0 : Int32)) (17 + i) 9 (0 : Int32)) K T tl)) : aCall l G d 0 0 16 [.ref (17 + i), .int v0, .int v1, .int v2, .int v3] (lay o k S K T tl) Q := by
  refine aCall.of (by decide) (Nat.le_of_ble_eq_true rfl) ?_
  refine aAt.sub [(0, .ref (17 + i)), (1, .int v0), (2, .int v1), (3, .int v2), (4, .int v3)] rfl ?_
  refine s_aload_n f_16_0 rfl ?_
  refine s_iload_n f_16_1 rfl ?_
  refine L_putI f_16_2 fd_6_7 (obP hi) (scP hi) (Or.inl rfl) (by decide) ?_
  refine s_aload_n f_16_5 rfl ?_
  refine s_iload_n f_16_6 rfl ?_
  refine L_putI f_16_7 fd_6_13 (obP hi) (scP hi) (Or.inl rfl) (by decide) ?_
  refine s_aload_n f_16_10 rfl ?_
  refine s_iload_n f_16_11 rfl ?_
  refine L_putI f_16_12 fd_6_16 (obP hi) (scP hi) (Or.inl rfl) (by decide) ?_
  refine s_aload_n f_16_15 rfl ?_
  refine s_iload f_16_16 rfl ?_
  refine L_putI f_16_18 fd_6_19 (obP hi) (scP hi) (Or.inl rfl) (by decide) ?_
  refine s_aload_n f_16_21 rfl ?_
  refine k_iconst (v := (-1)) f_16_22 (by decide) ?_
  refine L_putI f_16_23 fd_6_22 (obP hi) (scP hi) (Or.inl rfl) (by decide) ?_
  refine s_aload_n f_16_26 rfl ?_
  refine k_iconst (v := 3) f_16_27 (by decide) ?_
  refine L_putI f_16_28 fd_6_25 (obP hi) (scP hi) (Or.inl rfl) (by decide) ?_
  refine s_aload_n f_16_31 rfl ?_
  refine k_iconst (v := (-1)) f_16_32 (by decide) ?_
  refine L_putI f_16_33 fd_6_28 (obP hi) (scP hi) (Or.inl rfl) (by decide) ?_
  refine s_aload_n f_16_36 rfl ?_
  refine k_iconst (v := 0) f_16_37 (by decide) ?_
  refine L_putI f_16_38 fd_6_31 (obP hi) (scP hi) (Or.inl rfl) (by decide) ?_
  refine s_aload_n f_16_41 rfl ?_
  refine k_iconst (v := 0) f_16_42 (by decide) ?_
  refine L_putI f_16_43 fd_6_34 (obP hi) (scP hi) (Or.inr ⟨rfl, (by decide)⟩) (by decide) ?_
  refine s_aload_n f_16_46 rfl ?_
  refine k_iconst (v := 0) f_16_47 (by decide) ?_
  refine L_putI f_16_48 fd_6_38 (obP hi) (scP hi) (Or.inr ⟨rfl, (by decide)⟩) (by decide) ?_
  refine s_return f_16_51 rfl ?_
  exact hQ
theorem c_Fbegin {l : Launch} {G : aG} {d : Nat} {Q : Option Value → aHeap → Prop} {o : Nat → aCell} {k : Nat} {S : Nat → Nat → Int32} {K : Nat → Int64} {T : Nat → Nat → Value} {tl : Nat → Nat} {i : Nat} {v0 v1 w0 : Int32} (hi : i < 8) (hw0 : w0 = 0 ∨ w0 = 1) (hQ : Q none (lay o k (up (up (up (up S (31 + i) 0 v0) (31 + i) 1 v1) (31 + i) 2 v0) (31 + i) 3 w0) K T tl)) : aCall l G d 0 0 29 [.ref (31 + i), .int v0, .int v1, .int w0] (lay o k S K T tl) Q := by
  refine aCall.of (by decide) (Nat.le_of_ble_eq_true rfl) ?_
  refine aAt.sub [(0, .ref (31 + i)), (1, .int v0), (2, .int v1), (3, .int w0)] rfl ?_
  refine s_aload_n f_29_0 rfl ?_
  refine s_iload_n f_29_1 rfl ?_
  refine L_putI f_29_2 fd_2_7 (obF hi) (scF hi) (Or.inl rfl) (by decide) ?_
  refine s_aload_n f_29_5 rfl ?_
  refine s_iload_n f_29_6 rfl ?_
  refine L_putI f_29_7 fd_2_13 (obF hi) (scF hi) (Or.inl rfl) (by decide) ?_
  refine s_aload_n f_29_10 rfl ?_
  refine s_iload_n f_29_11 rfl ?_
  refine L_putI f_29_12 fd_2_16 (obF hi) (scF hi) (Or.inl rfl) (by decide) ?_
  refine s_aload_n f_29_15 rfl ?_
  refine s_iload_n f_29_16 rfl ?_
  refine L_putI f_29_17 fd_2_19 (obF hi) (scF hi) (Or.inr ⟨rfl, hw0⟩) (by decide) ?_
  refine s_return f_29_20 rfl ?_
  exact hQ
theorem c_Abegin {l : Launch} {G : aG} {d : Nat} {Q : Option Value → aHeap → Prop} {o : Nat → aCell} {k : Nat} {S : Nat → Nat → Int32} {K : Nat → Int64} {T : Nat → Nat → Value} {tl : Nat → Nat} {i : Nat} {v0 v1 v2 v3 v4 v5 : Int32} (hi : i < 20) (hQ : Q none (lay o k (up (up (up (up (up (up (up (up (up (up S (39 + i) 0 v0) (39 + i) 1 v1) (39 + i) 2 v2) (39 + i) 3 v3) (39 + i) 4 (0 : Int32)) (39 + i) 5 v4) (39 + i) 6 v5) (39 + i) 7 (-1 : Int32)) (39 + i) 8 (2 : Int32)) (39 + i) 9 (0 : Int32)) K T tl)) : aCall l G d 0 0 42 [.ref (39 + i), .int v0, .int v1, .int v2, .int v3, .int v4, .int v5] (lay o k S K T tl) Q := by
  refine aCall.of (by decide) (Nat.le_of_ble_eq_true rfl) ?_
  refine aAt.sub [(0, .ref (39 + i)), (1, .int v0), (2, .int v1), (3, .int v2), (4, .int v3), (5, .int v4), (6, .int v5)] rfl ?_
  refine s_aload_n f_42_0 rfl ?_
  refine s_iload_n f_42_1 rfl ?_
  refine L_putI f_42_2 fd_5_9 (obA hi) (scA_ hi) (Or.inl rfl) (by decide) ?_
  refine s_aload_n f_42_5 rfl ?_
  refine s_iload_n f_42_6 rfl ?_
  refine L_putI f_42_7 fd_5_15 (obA hi) (scA_ hi) (Or.inl rfl) (by decide) ?_
  refine s_aload_n f_42_10 rfl ?_
  refine s_iload_n f_42_11 rfl ?_
  refine L_putI f_42_12 fd_5_18 (obA hi) (scA_ hi) (Or.inl rfl) (by decide) ?_
  refine s_aload_n f_42_15 rfl ?_
  refine s_iload f_42_16 rfl ?_
  refine L_putI f_42_18 fd_5_21 (obA hi) (scA_ hi) (Or.inl rfl) (by decide) ?_
  refine s_aload_n f_42_21 rfl ?_
  refine k_iconst (v := 0) f_42_22 (by decide) ?_
  refine L_putI f_42_23 fd_5_24 (obA hi) (scA_ hi) (Or.inl rfl) (by decide) ?_
  refine s_aload_n f_42_26 rfl ?_
  refine s_iload f_42_27 rfl ?_
  refine L_putI f_42_29 fd_5_27 (obA hi) (scA_ hi) (Or.inl rfl) (by decide) ?_
  refine s_aload_n f_42_32 rfl ?_
  refine s_iload f_42_33 rfl ?_
  refine L_putI f_42_35 fd_5_30 (obA hi) (scA_ hi) (Or.inl rfl) (by decide) ?_
  refine s_aload_n f_42_38 rfl ?_
  refine k_iconst (v := (-1)) f_42_39 (by decide) ?_
  refine L_putI f_42_40 fd_5_33 (obA hi) (scA_ hi) (Or.inl rfl) (by decide) ?_
  refine s_aload_n f_42_43 rfl ?_
  refine k_iconst (v := 2) f_42_44 (by decide) ?_
  refine L_putI f_42_45 fd_5_36 (obA hi) (scA_ hi) (Or.inl rfl) (by decide) ?_
  refine s_aload_n f_42_48 rfl ?_
  refine k_iconst (v := 0) f_42_49 (by decide) ?_
  refine L_putI f_42_50 fd_5_39 (obA hi) (scA_ hi) (Or.inl rfl) (by decide) ?_
  refine s_return f_42_53 rfl ?_
  exact hQ
theorem c_bring {l : Launch} {G : aG} {d : Nat} {Q : Option Value → aHeap → Prop} {o : Nat → aCell} {k : Nat} {S : Nat → Nat → Int32} {K : Nat → Int64} {T : Nat → Nat → Value} {tl : Nat → Nat} {p : Nat} {m : Int32} (hb0 : p < 14) (hQ : Q none (lay o k (up (up S (17 + p) 3 ((S (17 + p) 3) + (if m < (if 0 ≤ S (17 + p) 4 then (0 : Int32) else ((9999 : Int32) - (S (17 + p) 3))) then m else (if 0 ≤ S (17 + p) 4 then (0 : Int32) else ((9999 : Int32) - (S (17 + p) 3)))))) 9 13 (((up S (17 + p) 3 ((S (17 + p) 3) + (if m < (if 0 ≤ S (17 + p) 4 then (0 : Int32) else ((9999 : Int32) - (S (17 + p) 3))) then m else (if 0 ≤ S (17 + p) 4 then (0 : Int32) else ((9999 : Int32) - (S (17 + p) 3)))))) 9 13) + (m - (if m < (if 0 ≤ S (17 + p) 4 then (0 : Int32) else ((9999 : Int32) - (S (17 + p) 3))) then m else (if 0 ≤ S (17 + p) 4 then (0 : Int32) else ((9999 : Int32) - (S (17 + p) 3))))))) K T tl)) : aCall l G (d + 1) 0 0 51 [.ref 9, .int (nI p), .int m] (lay o k S K T tl) Q := by
  refine aCall.of (by decide) (Nat.le_of_ble_eq_true rfl) ?_
  refine aAt.sub [(0, .ref 9), (1, .int (nI p)), (2, .int m)] rfl ?_
  refine s_aload_n f_51_0 rfl ?_
  refine L_getR f_51_1 fd_3_11 (obL (by decide)) (by decide) (by decide : rf 9 0 = 10) ?_
  refine s_iload_n f_51_4 rfl ?_
  refine L_aaload (ak := 30) (q := p) f_51_5 (obL (by decide)) (by decide) rfl hb0 (Nat.le_of_ble_eq_true rfl) (scPr hb0) (rfP hb0) ?_
  refine s_astore_n f_51_6 (by decide) ?_
  refine s_aload_n f_51_7 rfl ?_
  refine L_virt (As := []) f_51_8 ca_3_116 rfl rfl (obP hb0) (by decide) (Nat.le_of_ble_eq_true rfl) ?_
  refine c_isDead hb0 ?_
  suffices KK : aAt l G (d + 1) 0 0 51 26 [(0, .ref 9), (1, .int (nI p)), (2, .int m), (3, .ref (17 + p))] (.int (if 0 ≤ S (17 + p) 4 then (0 : Int32) else ((9999 : Int32) - (S (17 + p) 3))) :: []) 0 0 (lay o k S K T tl) Q by
    refine aAt.sub [(0, .ref 9), (1, .int (nI p)), (2, .int m), (3, .ref (17 + p))] rfl ?_
    refine s_if_eq 18 f_51_11 (by decide) (fun c_11 => ?_) (fun c_11 => ?_)
    · replace c_11 := bI_0.mp c_11
      refine k_sipush (v := 9999) f_51_18 (by decide) ?_
      refine s_aload_n f_51_21 rfl ?_
      refine L_getI f_51_22 fd_3_131 (obP hb0) (scP hb0) ?_
      refine s_isub f_51_25 ?_
      rw [if_neg c_11] at KK
      exact KK
    · replace c_11 := bI_1.mp c_11
      refine k_iconst (v := 0) f_51_14 (by decide) ?_
      refine s_goto 26 f_51_15 (by decide) ?_
      rw [if_pos c_11] at KK
      exact KK
  refine s_istore f_51_26 (by decide) ?_
  refine s_iload f_51_28 rfl ?_
  refine s_iload_n f_51_30 rfl ?_
  refine s_min f_51_31 ca_3_134 (Nat.le_of_ble_eq_true rfl) ?_
  refine s_istore f_51_34 (by decide) ?_
  refine s_aload_n f_51_36 rfl ?_
  refine s_dup f_51_37 rfl ?_
  refine L_getI f_51_38 fd_3_131 (obP hb0) (scP hb0) ?_
  refine s_iload f_51_41 rfl ?_
  refine s_iadd f_51_43 ?_
  refine L_putI f_51_44 fd_3_131 (obP hb0) (scP hb0) (Or.inl rfl) (by decide) ?_
  refine s_aload_n f_51_47 rfl ?_
  refine s_dup f_51_48 rfl ?_
  refine L_getI f_51_49 fd_3_67 (obL (by decide)) (by decide) ?_
  refine s_iload_n f_51_52 rfl ?_
  refine s_iload f_51_53 rfl ?_
  refine s_isub f_51_55 ?_
  refine s_iadd f_51_56 ?_
  refine L_putI f_51_57 fd_3_67 (obL (by decide)) (by decide) (Or.inl rfl) (by decide) ?_
  refine s_return f_51_60 rfl ?_
  exact hQ
theorem c_stores {l : Launch} {G : aG} {d : Nat} {Q : Option Value → aHeap → Prop} {o : Nat → aCell} {k : Nat} {S : Nat → Nat → Int32} {K : Nat → Int64} {T : Nat → Nat → Value} {tl : Nat → Nat} {p : Nat} {m : Int32} (hb0 : p ≤ 13) (hQ : Q none (lay o k (up (up S 155 (10 + 10 * p + 6) ((S 155 (10 + 10 * p + 6)) + (if (if S 155 (10 + 10 * p + 3) < 0 then ((9999 : Int32) - (S 155 (10 + 10 * p + 6))) else (0 : Int32)) ≤ m then (if S 155 (10 + 10 * p + 3) < 0 then ((9999 : Int32) - (S 155 (10 + 10 * p + 6))) else (0 : Int32)) else m))) 155 6 (((up S 155 (10 + 10 * p + 6) ((S 155 (10 + 10 * p + 6)) + (if (if S 155 (10 + 10 * p + 3) < 0 then ((9999 : Int32) - (S 155 (10 + 10 * p + 6))) else (0 : Int32)) ≤ m then (if S 155 (10 + 10 * p + 3) < 0 then ((9999 : Int32) - (S 155 (10 + 10 * p + 6))) else (0 : Int32)) else m))) 155 6) + (m - (if (if S 155 (10 + 10 * p + 3) < 0 then ((9999 : Int32) - (S 155 (10 + 10 * p + 6))) else (0 : Int32)) ≤ m then (if S 155 (10 + 10 * p + 3) < 0 then ((9999 : Int32) - (S 155 (10 + 10 * p + 6))) else (0 : Int32)) else m)))) K T tl)) : aCall l G (d + 2) 0 0 213 [.ref 154, .int (nI p), .int m] (lay o k S K T tl) Q := by
  refine aCall.of (by decide) (Nat.le_of_ble_eq_true rfl) ?_
  refine aAt.sub [(0, .ref 154), (1, .int (nI p)), (2, .int m)] rfl ?_
  refine s_aload_n f_213_0 rfl ?_
  refine s_iload_n f_213_1 rfl ?_
  refine L_virt (As := [.int (nI p)]) f_213_2 ca_12_91 rfl rfl (obL (by decide)) (by decide) (Nat.le_of_ble_eq_true rfl) ?_
  refine c_lives0 (p := p) (by omega) ?_
  suffices KK : aAt l G (d + 2) 0 0 213 23 [(0, .ref 154), (1, .int (nI p)), (2, .int m)] (.int (if S 155 (10 + 10 * p + 3) < 0 then ((9999 : Int32) - (S 155 (10 + 10 * p + 6))) else (0 : Int32)) :: []) 0 0 (lay o k S K T tl) Q by
    refine aAt.sub [(0, .ref 154), (1, .int (nI p)), (2, .int m)] rfl ?_
    refine s_if_eq 22 f_213_5 (by decide) (fun c_5 => ?_) (fun c_5 => ?_)
    · replace c_5 := bI_0.mp c_5
      refine k_iconst (v := 0) f_213_22 (by decide) ?_
      rw [if_neg c_5] at KK
      exact KK
    · replace c_5 := bI_1.mp c_5
      refine k_sipush (v := 9999) f_213_8 (by decide) ?_
      refine s_aload_n f_213_11 rfl ?_
      refine s_iload_n f_213_12 rfl ?_
      refine k_bipush (v := 6) f_213_13 (by decide) ?_
      refine L_virt (As := [.int (nI p), .int (6 : Int32)]) f_213_15 ca_12_73 rfl rfl (obL (by decide)) (by decide) (Nat.le_of_ble_eq_true rfl) ?_
      refine c_own (p := p) (w := 6) (by omega) (by decide) ?_
      refine s_isub f_213_18 ?_
      refine s_goto 23 f_213_19 (by decide) ?_
      rw [if_pos c_5] at KK
      exact KK
  refine s_istore_n f_213_23 (by decide) ?_
  refine s_iload_n f_213_24 rfl ?_
  refine s_iload_n f_213_25 rfl ?_
  suffices KK : aAt l G (d + 2) 0 0 213 34 [(0, .ref 154), (1, .int (nI p)), (2, .int m), (3, .int (if S 155 (10 + 10 * p + 3) < 0 then ((9999 : Int32) - (S 155 (10 + 10 * p + 6))) else (0 : Int32)))] (.int (if (if S 155 (10 + 10 * p + 3) < 0 then ((9999 : Int32) - (S 155 (10 + 10 * p + 6))) else (0 : Int32)) ≤ m then (if S 155 (10 + 10 * p + 3) < 0 then ((9999 : Int32) - (S 155 (10 + 10 * p + 6))) else (0 : Int32)) else m) :: []) 0 0 (lay o k S K T tl) Q by
    refine aAt.sub [(0, .ref 154), (1, .int (nI p)), (2, .int m), (3, .int (if S 155 (10 + 10 * p + 3) < 0 then ((9999 : Int32) - (S 155 (10 + 10 * p + 6))) else (0 : Int32)))] rfl ?_
    refine s_icmp_ge 33 f_213_26 (by decide) (fun c_26 => ?_) (fun c_26 => ?_)
    · refine s_iload_n f_213_33 rfl ?_
      rw [if_pos c_26] at KK
      exact KK
    · refine s_iload_n f_213_29 rfl ?_
      refine s_goto 34 f_213_30 (by decide) ?_
      rw [if_neg c_26] at KK
      exact KK
  refine s_istore f_213_34 (by decide) ?_
  refine s_aload_n f_213_36 rfl ?_
  refine s_iload_n f_213_37 rfl ?_
  refine k_bipush (v := 6) f_213_38 (by decide) ?_
  refine s_aload_n f_213_40 rfl ?_
  refine s_iload_n f_213_41 rfl ?_
  refine k_bipush (v := 6) f_213_42 (by decide) ?_
  refine L_virt (As := [.int (nI p), .int (6 : Int32)]) f_213_44 ca_12_73 rfl rfl (obL (by decide)) (by decide) (Nat.le_of_ble_eq_true rfl) ?_
  refine c_own (p := p) (w := 6) (by omega) (by decide) ?_
  refine s_iload f_213_47 rfl ?_
  refine s_iadd f_213_49 ?_
  refine L_virt (As := [.int (nI p), .int (6 : Int32), .int ((S 155 (10 + 10 * p + 6)) + (if (if S 155 (10 + 10 * p + 3) < 0 then ((9999 : Int32) - (S 155 (10 + 10 * p + 6))) else (0 : Int32)) ≤ m then (if S 155 (10 + 10 * p + 3) < 0 then ((9999 : Int32) - (S 155 (10 + 10 * p + 6))) else (0 : Int32)) else m))]) f_213_50 ca_12_83 rfl rfl (obL (by decide)) (by decide) (Nat.le_of_ble_eq_true rfl) ?_
  refine c_makes (p := p) (w := 6) (by omega) (by decide) ?_
  refine s_aload_n f_213_53 rfl ?_
  refine L_getR f_213_54 fd_12_7 (obL (by decide)) (by decide) (by decide : rf 154 0 = 155) ?_
  refine k_bipush (v := 6) f_213_57 (by decide) ?_
  refine s_dup2 f_213_59 rfl rfl ?_
  refine L_iaload (q := 6) f_213_60 (obL (by decide)) rfl (Nat.le_of_ble_eq_true rfl) (Nat.le_of_ble_eq_true rfl) rfl ?_
  refine s_iload_n f_213_61 rfl ?_
  refine s_iload f_213_62 rfl ?_
  refine s_isub f_213_64 ?_
  refine s_iadd f_213_65 ?_
  refine L_iastore (q := 6) f_213_66 (obL (by decide)) rfl (Nat.le_of_ble_eq_true rfl) (Nat.le_of_ble_eq_true rfl) rfl ?_
  refine s_return f_213_67 rfl ?_
  exact hQ
