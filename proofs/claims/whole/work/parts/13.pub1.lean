theorem ca_0_84 : cal 0 84 = some (0, 84, 0, 15, 1) := by decide +kernel
theorem ca_0_102 : cal 0 102 = some (0, 102, 0, 14, 1) := by decide +kernel
theorem ca_0_115 : cal 0 115 = some (0, 115, 0, 20, 0) := by decide +kernel
theorem ca_12_78 : cal 12 78 = some (12, 78, 0, 179, 1) := by decide +kernel
theorem ca_12_83 : cal 12 83 = some (12, 83, 0, 180, 3) := by decide +kernel
theorem ca_12_87 : cal 12 87 = some (12, 87, 0, 182, 1) := by decide +kernel
theorem ca_12_91 : cal 12 91 = some (12, 91, 0, 186, 1) := by decide +kernel
theorem f_18_0 : decode (mB 18) 0 = .ok (.aload_n 0, 1) := by decide +kernel
theorem f_18_1 : decode (mB 18) 1 = .ok (.getfield 10, 3) := by decide +kernel
theorem f_18_4 : decode (mB 18) 4 = .ok (.iload_n 1, 1) := by decide +kernel
theorem f_18_5 : decode (mB 18) 5 = .ok (.invokevirtual 102, 3) := by decide +kernel
theorem f_18_8 : decode (mB 18) 8 = .ok (.ifCond .eq 13, 3) := by decide +kernel
theorem f_18_11 : decode (mB 18) 11 = .ok (.iload_n 2, 1) := by decide +kernel
theorem f_18_12 : decode (mB 18) 12 = .ok (.iconst 0, 1) := by decide +kernel
theorem f_18_13 : decode (mB 18) 13 = .ok (.bipush 50, 2) := by decide +kernel
theorem f_18_15 : decode (mB 18) 15 = .ok (.invokestatic 75, 3) := by decide +kernel
theorem f_18_18 : decode (mB 18) 18 = .ok (.ifCond .ne 10, 3) := by decide +kernel
theorem f_18_21 : decode (mB 18) 21 = .ok (.aload_n 0, 1) := by decide +kernel
theorem f_18_22 : decode (mB 18) 22 = .ok (.ldc 83, 2) := by decide +kernel
theorem f_18_24 : decode (mB 18) 24 = .ok (.invokevirtual 84, 3) := by decide +kernel
theorem f_18_27 : decode (mB 18) 27 = .ok (.ireturn, 1) := by decide +kernel
theorem f_18_28 : decode (mB 18) 28 = .ok (.aload_n 0, 1) := by decide +kernel
theorem f_18_29 : decode (mB 18) 29 = .ok (.getfield 10, 3) := by decide +kernel
theorem f_18_32 : decode (mB 18) 32 = .ok (.getfield 92, 3) := by decide +kernel
theorem f_18_35 : decode (mB 18) 35 = .ok (.iload_n 1, 1) := by decide +kernel
theorem f_18_36 : decode (mB 18) 36 = .ok (.aaload, 1) := by decide +kernel
theorem f_18_37 : decode (mB 18) 37 = .ok (.getfield 112, 3) := by decide +kernel
theorem f_18_40 : decode (mB 18) 40 = .ok (.istore_n 3, 1) := by decide +kernel
theorem f_18_41 : decode (mB 18) 41 = .ok (.aload_n 0, 1) := by decide +kernel
theorem f_18_42 : decode (mB 18) 42 = .ok (.getfield 10, 3) := by decide +kernel
theorem f_18_45 : decode (mB 18) 45 = .ok (.getfield 92, 3) := by decide +kernel
theorem f_18_48 : decode (mB 18) 48 = .ok (.iload_n 1, 1) := by decide +kernel
theorem f_18_49 : decode (mB 18) 49 = .ok (.aaload, 1) := by decide +kernel
theorem f_18_50 : decode (mB 18) 50 = .ok (.iload_n 2, 1) := by decide +kernel
theorem f_18_51 : decode (mB 18) 51 = .ok (.putfield 112, 3) := by decide +kernel
theorem f_18_54 : decode (mB 18) 54 = .ok (.iload_n 3, 1) := by decide +kernel
theorem f_18_55 : decode (mB 18) 55 = .ok (.ireturn, 1) := by decide +kernel
theorem f_19_0 : decode (mB 19) 0 = .ok (.aload_n 0, 1) := by decide +kernel
theorem f_19_1 : decode (mB 19) 1 = .ok (.getfield 10, 3) := by decide +kernel
theorem f_19_4 : decode (mB 19) 4 = .ok (.iload_n 1, 1) := by decide +kernel
theorem f_19_5 : decode (mB 19) 5 = .ok (.invokevirtual 102, 3) := by decide +kernel
theorem f_19_8 : decode (mB 19) 8 = .ok (.ifCond .ne 10, 3) := by decide +kernel
theorem f_19_11 : decode (mB 19) 11 = .ok (.aload_n 0, 1) := by decide +kernel
theorem f_19_12 : decode (mB 19) 12 = .ok (.ldc 83, 2) := by decide +kernel
theorem f_19_14 : decode (mB 19) 14 = .ok (.invokevirtual 84, 3) := by decide +kernel
theorem f_19_17 : decode (mB 19) 17 = .ok (.ireturn, 1) := by decide +kernel
theorem f_19_18 : decode (mB 19) 18 = .ok (.aload_n 0, 1) := by decide +kernel
theorem f_19_19 : decode (mB 19) 19 = .ok (.getfield 10, 3) := by decide +kernel
theorem f_19_22 : decode (mB 19) 22 = .ok (.getfield 92, 3) := by decide +kernel
theorem f_19_25 : decode (mB 19) 25 = .ok (.iload_n 1, 1) := by decide +kernel
theorem f_19_26 : decode (mB 19) 26 = .ok (.aaload, 1) := by decide +kernel
theorem f_19_27 : decode (mB 19) 27 = .ok (.astore_n 2, 1) := by decide +kernel
theorem f_19_28 : decode (mB 19) 28 = .ok (.aload_n 2, 1) := by decide +kernel
theorem f_19_29 : decode (mB 19) 29 = .ok (.invokevirtual 115, 3) := by decide +kernel
theorem f_19_32 : decode (mB 19) 32 = .ok (.ifCond .eq 10, 3) := by decide +kernel
theorem f_19_35 : decode (mB 19) 35 = .ok (.aload_n 0, 1) := by decide +kernel
theorem f_19_36 : decode (mB 19) 36 = .ok (.ldc 119, 2) := by decide +kernel
theorem f_19_38 : decode (mB 19) 38 = .ok (.invokevirtual 84, 3) := by decide +kernel
theorem f_19_41 : decode (mB 19) 41 = .ok (.ireturn, 1) := by decide +kernel
theorem f_19_42 : decode (mB 19) 42 = .ok (.aload_n 2, 1) := by decide +kernel
theorem f_19_43 : decode (mB 19) 43 = .ok (.getfield 120, 3) := by decide +kernel
theorem f_19_46 : decode (mB 19) 46 = .ok (.istore_n 3, 1) := by decide +kernel
theorem f_19_47 : decode (mB 19) 47 = .ok (.aload_n 0, 1) := by decide +kernel
theorem f_19_48 : decode (mB 19) 48 = .ok (.getfield 10, 3) := by decide +kernel
theorem f_19_51 : decode (mB 19) 51 = .ok (.dup, 1) := by decide +kernel
theorem f_19_52 : decode (mB 19) 52 = .ok (.getfield 123, 3) := by decide +kernel
theorem f_19_55 : decode (mB 19) 55 = .ok (.iload_n 3, 1) := by decide +kernel
theorem f_19_56 : decode (mB 19) 56 = .ok (.iadd, 1) := by decide +kernel
theorem f_19_57 : decode (mB 19) 57 = .ok (.putfield 123, 3) := by decide +kernel
theorem f_19_60 : decode (mB 19) 60 = .ok (.aload_n 2, 1) := by decide +kernel
theorem f_19_61 : decode (mB 19) 61 = .ok (.iconst 0, 1) := by decide +kernel
theorem f_19_62 : decode (mB 19) 62 = .ok (.putfield 120, 3) := by decide +kernel
theorem f_19_65 : decode (mB 19) 65 = .ok (.aload_n 2, 1) := by decide +kernel
theorem f_19_66 : decode (mB 19) 66 = .ok (.aload_n 0, 1) := by decide +kernel
theorem f_19_67 : decode (mB 19) 67 = .ok (.getfield 10, 3) := by decide +kernel
theorem f_19_70 : decode (mB 19) 70 = .ok (.getfield 66, 3) := by decide +kernel
theorem f_19_73 : decode (mB 19) 73 = .ok (.putfield 126, 3) := by decide +kernel
theorem f_19_76 : decode (mB 19) 76 = .ok (.iload_n 3, 1) := by decide +kernel
theorem f_19_77 : decode (mB 19) 77 = .ok (.ireturn, 1) := by decide +kernel
theorem f_183_0 : decode (mB 183) 0 = .ok (.aload_n 0, 1) := by decide +kernel
theorem f_183_1 : decode (mB 183) 1 = .ok (.iload_n 1, 1) := by decide +kernel
theorem f_183_2 : decode (mB 183) 2 = .ok (.invokevirtual 87, 3) := by decide +kernel
theorem f_183_5 : decode (mB 183) 5 = .ok (.ifCond .eq 13, 3) := by decide +kernel
theorem f_183_8 : decode (mB 183) 8 = .ok (.iload_n 2, 1) := by decide +kernel
theorem f_183_9 : decode (mB 183) 9 = .ok (.iconst 0, 1) := by decide +kernel
theorem f_183_10 : decode (mB 183) 10 = .ok (.bipush 50, 2) := by decide +kernel
theorem f_183_12 : decode (mB 183) 12 = .ok (.invokestatic 69, 3) := by decide +kernel
theorem f_183_15 : decode (mB 183) 15 = .ok (.ifCond .ne 10, 3) := by decide +kernel
theorem f_183_18 : decode (mB 183) 18 = .ok (.aload_n 0, 1) := by decide +kernel
theorem f_183_19 : decode (mB 183) 19 = .ok (.ldc 77, 2) := by decide +kernel
theorem f_183_21 : decode (mB 183) 21 = .ok (.invokevirtual 78, 3) := by decide +kernel
theorem f_183_24 : decode (mB 183) 24 = .ok (.ireturn, 1) := by decide +kernel
theorem f_183_25 : decode (mB 183) 25 = .ok (.aload_n 0, 1) := by decide +kernel
theorem f_183_26 : decode (mB 183) 26 = .ok (.iload_n 1, 1) := by decide +kernel
theorem f_183_27 : decode (mB 183) 27 = .ok (.bipush 7, 2) := by decide +kernel
theorem f_183_29 : decode (mB 183) 29 = .ok (.invokevirtual 73, 3) := by decide +kernel
theorem f_183_32 : decode (mB 183) 32 = .ok (.istore_n 3, 1) := by decide +kernel
theorem f_183_33 : decode (mB 183) 33 = .ok (.aload_n 0, 1) := by decide +kernel
theorem f_183_34 : decode (mB 183) 34 = .ok (.iload_n 1, 1) := by decide +kernel
theorem f_183_35 : decode (mB 183) 35 = .ok (.bipush 7, 2) := by decide +kernel
theorem f_183_37 : decode (mB 183) 37 = .ok (.iload_n 2, 1) := by decide +kernel
theorem f_183_38 : decode (mB 183) 38 = .ok (.invokevirtual 83, 3) := by decide +kernel
theorem f_183_41 : decode (mB 183) 41 = .ok (.iload_n 3, 1) := by decide +kernel
theorem f_183_42 : decode (mB 183) 42 = .ok (.ireturn, 1) := by decide +kernel
theorem f_185_0 : decode (mB 185) 0 = .ok (.aload_n 0, 1) := by decide +kernel
theorem f_185_1 : decode (mB 185) 1 = .ok (.iload_n 1, 1) := by decide +kernel
theorem f_185_2 : decode (mB 185) 2 = .ok (.invokevirtual 87, 3) := by decide +kernel
theorem f_185_5 : decode (mB 185) 5 = .ok (.ifCond .ne 10, 3) := by decide +kernel
theorem f_185_8 : decode (mB 185) 8 = .ok (.aload_n 0, 1) := by decide +kernel
theorem f_185_9 : decode (mB 185) 9 = .ok (.ldc 77, 2) := by decide +kernel
theorem f_185_11 : decode (mB 185) 11 = .ok (.invokevirtual 78, 3) := by decide +kernel
theorem f_185_14 : decode (mB 185) 14 = .ok (.ireturn, 1) := by decide +kernel
theorem f_185_15 : decode (mB 185) 15 = .ok (.aload_n 0, 1) := by decide +kernel
theorem f_185_16 : decode (mB 185) 16 = .ok (.iload_n 1, 1) := by decide +kernel
theorem f_185_17 : decode (mB 185) 17 = .ok (.invokevirtual 91, 3) := by decide +kernel
theorem f_185_20 : decode (mB 185) 20 = .ok (.ifCond .ne 10, 3) := by decide +kernel
theorem f_185_23 : decode (mB 185) 23 = .ok (.aload_n 0, 1) := by decide +kernel
theorem f_185_24 : decode (mB 185) 24 = .ok (.ldc 94, 2) := by decide +kernel
theorem f_185_26 : decode (mB 185) 26 = .ok (.invokevirtual 78, 3) := by decide +kernel
theorem f_185_29 : decode (mB 185) 29 = .ok (.ireturn, 1) := by decide +kernel
theorem f_185_30 : decode (mB 185) 30 = .ok (.aload_n 0, 1) := by decide +kernel
theorem f_185_31 : decode (mB 185) 31 = .ok (.iload_n 1, 1) := by decide +kernel
theorem f_185_32 : decode (mB 185) 32 = .ok (.bipush 6, 2) := by decide +kernel
theorem f_185_34 : decode (mB 185) 34 = .ok (.invokevirtual 73, 3) := by decide +kernel
theorem f_185_37 : decode (mB 185) 37 = .ok (.istore_n 2, 1) := by decide +kernel
theorem f_185_38 : decode (mB 185) 38 = .ok (.aload_n 0, 1) := by decide +kernel
theorem f_185_39 : decode (mB 185) 39 = .ok (.iload_n 1, 1) := by decide +kernel
theorem f_185_40 : decode (mB 185) 40 = .ok (.bipush 6, 2) := by decide +kernel
theorem f_185_42 : decode (mB 185) 42 = .ok (.iconst 0, 1) := by decide +kernel
theorem f_185_43 : decode (mB 185) 43 = .ok (.invokevirtual 83, 3) := by decide +kernel
theorem f_185_46 : decode (mB 185) 46 = .ok (.aload_n 0, 1) := by decide +kernel
theorem f_185_47 : decode (mB 185) 47 = .ok (.iload_n 1, 1) := by decide +kernel
theorem f_185_48 : decode (mB 185) 48 = .ok (.iconst 3, 1) := by decide +kernel
theorem f_185_49 : decode (mB 185) 49 = .ok (.aload_n 0, 1) := by decide +kernel
theorem f_185_50 : decode (mB 185) 50 = .ok (.getfield 7, 3) := by decide +kernel
theorem f_185_53 : decode (mB 185) 53 = .ok (.iconst 3, 1) := by decide +kernel
theorem f_185_54 : decode (mB 185) 54 = .ok (.iaload, 1) := by decide +kernel
theorem f_185_55 : decode (mB 185) 55 = .ok (.invokevirtual 83, 3) := by decide +kernel
theorem f_185_58 : decode (mB 185) 58 = .ok (.aload_n 0, 1) := by decide +kernel
theorem f_185_59 : decode (mB 185) 59 = .ok (.getfield 7, 3) := by decide +kernel
theorem f_185_62 : decode (mB 185) 62 = .ok (.bipush 6, 2) := by decide +kernel
theorem f_185_64 : decode (mB 185) 64 = .ok (.dup2, 1) := by decide +kernel
theorem f_185_65 : decode (mB 185) 65 = .ok (.iaload, 1) := by decide +kernel
theorem f_185_66 : decode (mB 185) 66 = .ok (.iload_n 2, 1) := by decide +kernel
theorem f_185_67 : decode (mB 185) 67 = .ok (.iadd, 1) := by decide +kernel
theorem f_185_68 : decode (mB 185) 68 = .ok (.iastore, 1) := by decide +kernel
theorem f_185_69 : decode (mB 185) 69 = .ok (.iload_n 2, 1) := by decide +kernel
theorem f_185_70 : decode (mB 185) 70 = .ok (.ireturn, 1) := by decide +kernel
theorem fd_0_10 : fld 0 10 = some (0, 10, 0, 0) := by decide +kernel
theorem fd_0_66 : fld 0 66 = some (0, 66, 3, 11) := by decide +kernel
theorem fd_0_92 : fld 0 92 = some (0, 92, 3, 0) := by decide +kernel
theorem fd_0_112 : fld 0 112 = some (0, 112, 6, 5) := by decide +kernel
theorem fd_0_120 : fld 0 120 = some (0, 120, 6, 3) := by decide +kernel
theorem fd_0_123 : fld 0 123 = some (0, 123, 3, 13) := by decide +kernel
theorem fd_0_126 : fld 0 126 = some (0, 126, 6, 4) := by decide +kernel
theorem ko_0_83 : kon 0 83 = some (0, 83, (-100001)) := by decide +kernel
theorem ko_0_119 : kon 0 119 = some (0, 119, (-100007)) := by decide +kernel
theorem ko_12_77 : kon 12 77 = some (12, 77, (-100001)) := by decide +kernel
theorem ko_12_94 : kon 12 94 = some (12, 94, (-100007)) := by decide +kernel
theorem d_fear {l : Launch} {G : aG} {d : Nat} {Q : Option Value → aHeap → Prop} {o : Nat → aCell} {k : Nat} {S : Nat → Nat → Int32} {K : Nat → Int64} {T : Nat → Nat → Value} {tl : Nat → Nat} {np : Nat} {p v : Int32} (hnpm : np ≤ 14) (hnp9 : S 9 7 = nI np) 
    (q0 : ¬ ((0 : Int32) ≤ p ∧ p ≤ (S 9 7 - 1)) → Q (some (.int (-100001 : Int32))) (lay o k (up S 8 8 (S 8 8 + 1)) K T tl))
    (q1 : ∀ i_p : Nat, i_p < np → p = nI i_p → ∀ i_v : Nat, i_v ≤ 50 → v = nI i_v → Q (some (.int (S (17 + i_p) 5))) (lay o k (up S (17 + i_p) 5 (nI i_v)) K T tl))
    (q2 : ∀ i_p : Nat, i_p < np → p = nI i_p → ¬ ((0 : Int32) ≤ v ∧ v ≤ (50 : Int32)) → Q (some (.int (-100001 : Int32))) (lay o k (up S 8 8 (S 8 8 + 1)) K T tl)) : aCall l G (d + 2) 0 0 18 [.ref 8, .int p, .int v] (lay o k S K T tl) Q := by
  refine aCall.of (by decide) (Nat.le_of_ble_eq_true rfl) ?_
  refine aAt.sub [(0, .ref 8), (1, .int p), (2, .int v)] rfl ?_
  refine s_aload_n f_18_0 rfl ?_
  refine L_getR f_18_1 fd_0_10 (obL (by decide)) (by decide) (by decide : rf 8 0 = 9) ?_
  refine s_iload_n f_18_4 rfl ?_
  refine L_virt (As := [.int p]) f_18_5 ca_0_102 rfl rfl (obL (by decide)) (by decide) (Nat.le_of_ble_eq_true rfl) ?_
  refine c_hasPerson ?_
  refine s_if_eq 21 f_18_8 (by decide) (fun c_8 => ?_) (fun c_8 => ?_)
  · replace c_8 := bI_0.mp c_8
    refine s_aload_n f_18_21 rfl ?_
    refine s_ldc f_18_22 ko_0_83 ?_
    refine L_virt (As := [.int (-100001 : Int32)]) f_18_24 ca_0_84 rfl rfl (obL (by decide)) (by decide) (Nat.le_of_ble_eq_true rfl) ?_
    refine c_found ?_
    refine s_ireturn f_18_27 rfl rfl ?_
    exact q0 c_8
  · replace c_8 := bI_1.mp c_8
    obtain ⟨i_p, h_p, e_p⟩ := ix_of hnp9 (by omega) c_8
    subst e_p
    refine s_iload_n f_18_11 rfl ?_
    refine k_iconst (v := 0) f_18_12 (by decide) ?_
    refine k_bipush (v := 50) f_18_13 (by decide) ?_
    refine L_stat (As := [.int v, .int (0 : Int32), .int (50 : Int32)]) f_18_15 ca_0_75 rfl rfl (Nat.le_of_ble_eq_true rfl) ?_
    refine c_within ?_
    refine s_if_ne 28 f_18_18 (by decide) (fun c_18 => ?_) (fun c_18 => ?_)
    · replace c_18 := bI_1.mp c_18
      obtain ⟨i_v, h_v, e_v⟩ := ix_ab (n := 50) rfl rfl c_18
      subst e_v
      refine s_aload_n f_18_28 rfl ?_
      refine L_getR f_18_29 fd_0_10 (obL (by decide)) (by decide) (by decide : rf 8 0 = 9) ?_
      refine L_getR f_18_32 fd_0_92 (obL (by decide)) (by decide) (by decide : rf 9 0 = 10) ?_
      refine s_iload_n f_18_35 rfl ?_
      refine L_aaload (ak := 30) (q := i_p) f_18_36 (obL (by decide)) (by decide) rfl (show i_p < 14 from by omega) (Nat.le_of_ble_eq_true rfl) (scPr (show i_p < 14 from by omega)) (rfP (show i_p < 14 from by omega)) ?_
      refine L_getI f_18_37 fd_0_112 (obP (show i_p < 14 from by omega)) (scP (show i_p < 14 from by omega)) ?_
      refine s_istore_n f_18_40 (by decide) ?_
      refine s_aload_n f_18_41 rfl ?_
      refine L_getR f_18_42 fd_0_10 (obL (by decide)) (by decide) (by decide : rf 8 0 = 9) ?_
      refine L_getR f_18_45 fd_0_92 (obL (by decide)) (by decide) (by decide : rf 9 0 = 10) ?_
      refine s_iload_n f_18_48 rfl ?_
      refine L_aaload (ak := 30) (q := i_p) f_18_49 (obL (by decide)) (by decide) rfl (show i_p < 14 from by omega) (Nat.le_of_ble_eq_true rfl) (scPr (show i_p < 14 from by omega)) (rfP (show i_p < 14 from by omega)) ?_
      refine s_iload_n f_18_50 rfl ?_
      refine L_putI f_18_51 fd_0_112 (obP (show i_p < 14 from by omega)) (scP (show i_p < 14 from by omega)) (Or.inl rfl) (by decide) ?_
      refine s_iload_n f_18_54 rfl ?_
      refine s_ireturn f_18_55 rfl rfl ?_
      exact q1 i_p h_p rfl i_v h_v rfl
    · replace c_18 := bI_0.mp c_18
      refine s_aload_n f_18_21 rfl ?_
      refine s_ldc f_18_22 ko_0_83 ?_
      refine L_virt (As := [.int (-100001 : Int32)]) f_18_24 ca_0_84 rfl rfl (obL (by decide)) (by decide) (Nat.le_of_ble_eq_true rfl) ?_
      refine c_found ?_
      refine s_ireturn f_18_27 rfl rfl ?_
      exact q2 i_p h_p rfl c_18
theorem m_fear {l : Launch} {G : aG} {d : Nat} {Q : Option Value → aHeap → Prop} {o : Nat → aCell} {k : Nat} {S : Nat → Nat → Int32} {K : Nat → Int64} {T : Nat → Nat → Value} {tl : Nat → Nat} {np : Nat} {p v : Int32} (hnpm : np ≤ 14) (hnp155 : S 155 0 = nI np) 
    (q0 : ¬ ((0 : Int32) ≤ p ∧ p ≤ (S 155 0 - 1)) → Q (some (.int (-100001 : Int32))) (lay o k (up S 154 3 (S 154 3 + 1)) K T tl))
    (q1 : ∀ i_p : Nat, i_p < np → p = nI i_p → ∀ i_v : Nat, i_v ≤ 50 → v = nI i_v → Q (some (.int (S 155 (10 + 10 * i_p + 7)))) (lay o k (up S 155 (10 + 10 * i_p + 7) (nI i_v)) K T tl))
    (q2 : ∀ i_p : Nat, i_p < np → p = nI i_p → ¬ ((0 : Int32) ≤ v ∧ v ≤ (50 : Int32)) → Q (some (.int (-100001 : Int32))) (lay o k (up S 154 3 (S 154 3 + 1)) K T tl)) : aCall l G (d + 2) 0 0 183 [.ref 154, .int p, .int v] (lay o k S K T tl) Q := by
  refine aCall.of (by decide) (Nat.le_of_ble_eq_true rfl) ?_
  refine aAt.sub [(0, .ref 154), (1, .int p), (2, .int v)] rfl ?_
  refine s_aload_n f_183_0 rfl ?_
  refine s_iload_n f_183_1 rfl ?_
  refine L_virt (As := [.int p]) f_183_2 ca_12_87 rfl rfl (obL (by decide)) (by decide) (Nat.le_of_ble_eq_true rfl) ?_
  refine c_isPerson ?_
  refine s_if_eq 18 f_183_5 (by decide) (fun c_5 => ?_) (fun c_5 => ?_)
  · replace c_5 := bI_0.mp c_5
    refine s_aload_n f_183_18 rfl ?_
    refine s_ldc f_183_19 ko_12_77 ?_
    refine L_virt (As := [.int (-100001 : Int32)]) f_183_21 ca_12_78 rfl rfl (obL (by decide)) (by decide) (Nat.le_of_ble_eq_true rfl) ?_
    refine c_finds ?_
    refine s_ireturn f_183_24 rfl rfl ?_
    exact q0 c_5
  · replace c_5 := bI_1.mp c_5
    obtain ⟨i_p, h_p, e_p⟩ := ix_of hnp155 (by omega) c_5
    subst e_p
    refine s_iload_n f_183_8 rfl ?_
    refine k_iconst (v := 0) f_183_9 (by decide) ?_
    refine k_bipush (v := 50) f_183_10 (by decide) ?_
    refine L_stat (As := [.int v, .int (0 : Int32), .int (50 : Int32)]) f_183_12 ca_12_69 rfl rfl (Nat.le_of_ble_eq_true rfl) ?_
    refine c_in ?_
    refine s_if_ne 25 f_183_15 (by decide) (fun c_15 => ?_) (fun c_15 => ?_)
    · replace c_15 := bI_1.mp c_15
      obtain ⟨i_v, h_v, e_v⟩ := ix_ab (n := 50) rfl rfl c_15
      subst e_v
      refine s_aload_n f_183_25 rfl ?_
      refine s_iload_n f_183_26 rfl ?_
      refine k_bipush (v := 7) f_183_27 (by decide) ?_
      refine L_virt (As := [.int (nI i_p), .int (7 : Int32)]) f_183_29 ca_12_73 rfl rfl (obL (by decide)) (by decide) (Nat.le_of_ble_eq_true rfl) ?_
      refine c_own (p := i_p) (w := 7) (by omega) (by decide) ?_
      refine s_istore_n f_183_32 (by decide) ?_
      refine s_aload_n f_183_33 rfl ?_
      refine s_iload_n f_183_34 rfl ?_
      refine k_bipush (v := 7) f_183_35 (by decide) ?_
      refine s_iload_n f_183_37 rfl ?_
      refine L_virt (As := [.int (nI i_p), .int (7 : Int32), .int (nI i_v)]) f_183_38 ca_12_83 rfl rfl (obL (by decide)) (by decide) (Nat.le_of_ble_eq_true rfl) ?_
      refine c_makes (p := i_p) (w := 7) (by omega) (by decide) ?_
      refine s_iload_n f_183_41 rfl ?_
      refine s_ireturn f_183_42 rfl rfl ?_
      exact q1 i_p h_p rfl i_v h_v rfl
    · replace c_15 := bI_0.mp c_15
      refine s_aload_n f_183_18 rfl ?_
      refine s_ldc f_183_19 ko_12_77 ?_
      refine L_virt (As := [.int (-100001 : Int32)]) f_183_21 ca_12_78 rfl rfl (obL (by decide)) (by decide) (Nat.le_of_ble_eq_true rfl) ?_
      refine c_finds ?_
      refine s_ireturn f_183_24 rfl rfl ?_
      exact q2 i_p h_p rfl c_15
theorem d_die {l : Launch} {G : aG} {d : Nat} {Q : Option Value → aHeap → Prop} {o : Nat → aCell} {k : Nat} {S : Nat → Nat → Int32} {K : Nat → Int64} {T : Nat → Nat → Value} {tl : Nat → Nat} {np : Nat} {p : Int32} (hnpm : np ≤ 14) (hnp9 : S 9 7 = nI np) 
    (q0 : ∀ i_p : Nat, i_p < np → p = nI i_p → ¬ (0 ≤ S (17 + i_p) 4) → Q (some (.int (S (17 + i_p) 3))) (lay o k (up (up (up S 9 13 ((S 9 13) + (S (17 + i_p) 3))) (17 + i_p) 3 (0 : Int32)) (17 + i_p) 4 ((up (up S 9 13 ((S 9 13) + (S (17 + i_p) 3))) (17 + i_p) 3 (0 : Int32)) 9 11)) K T tl))
    (q1 : ∀ i_p : Nat, i_p < np → p = nI i_p → (0 ≤ S (17 + i_p) 4) → Q (some (.int (-100007 : Int32))) (lay o k (up S 8 8 (S 8 8 + 1)) K T tl))
    (q2 : ¬ ((0 : Int32) ≤ p ∧ p ≤ (S 9 7 - 1)) → Q (some (.int (-100001 : Int32))) (lay o k (up S 8 8 (S 8 8 + 1)) K T tl)) : aCall l G (d + 2) 0 0 19 [.ref 8, .int p] (lay o k S K T tl) Q := by
  refine aCall.of (by decide) (Nat.le_of_ble_eq_true rfl) ?_
  refine aAt.sub [(0, .ref 8), (1, .int p)] rfl ?_
  refine s_aload_n f_19_0 rfl ?_
  refine L_getR f_19_1 fd_0_10 (obL (by decide)) (by decide) (by decide : rf 8 0 = 9) ?_
  refine s_iload_n f_19_4 rfl ?_
  refine L_virt (As := [.int p]) f_19_5 ca_0_102 rfl rfl (obL (by decide)) (by decide) (Nat.le_of_ble_eq_true rfl) ?_
  refine c_hasPerson ?_
  refine s_if_ne 18 f_19_8 (by decide) (fun c_8 => ?_) (fun c_8 => ?_)
  · replace c_8 := bI_1.mp c_8
    obtain ⟨i_p, h_p, e_p⟩ := ix_of hnp9 (by omega) c_8
    subst e_p
    refine s_aload_n f_19_18 rfl ?_
    refine L_getR f_19_19 fd_0_10 (obL (by decide)) (by decide) (by decide : rf 8 0 = 9) ?_
    refine L_getR f_19_22 fd_0_92 (obL (by decide)) (by decide) (by decide : rf 9 0 = 10) ?_
    refine s_iload_n f_19_25 rfl ?_
    refine L_aaload (ak := 30) (q := i_p) f_19_26 (obL (by decide)) (by decide) rfl (show i_p < 14 from by omega) (Nat.le_of_ble_eq_true rfl) (scPr (show i_p < 14 from by omega)) (rfP (show i_p < 14 from by omega)) ?_
    refine s_astore_n f_19_27 (by decide) ?_
    refine s_aload_n f_19_28 rfl ?_
    refine L_virt (As := []) f_19_29 ca_0_115 rfl rfl (obP (show i_p < 14 from by omega)) (by decide) (Nat.le_of_ble_eq_true rfl) ?_
    refine c_isDead (show i_p < 14 from by omega) ?_
    refine s_if_eq 42 f_19_32 (by decide) (fun c_32 => ?_) (fun c_32 => ?_)
    · replace c_32 := bI_0.mp c_32
      refine s_aload_n f_19_42 rfl ?_
      refine L_getI f_19_43 fd_0_120 (obP (show i_p < 14 from by omega)) (scP (show i_p < 14 from by omega)) ?_
      refine s_istore_n f_19_46 (by decide) ?_
      refine s_aload_n f_19_47 rfl ?_
      refine L_getR f_19_48 fd_0_10 (obL (by decide)) (by decide) (by decide : rf 8 0 = 9) ?_
      refine s_dup f_19_51 rfl ?_
      refine L_getI f_19_52 fd_0_123 (obL (by decide)) (by decide) ?_
      refine s_iload_n f_19_55 rfl ?_
      refine s_iadd f_19_56 ?_
      refine L_putI f_19_57 fd_0_123 (obL (by decide)) (by decide) (Or.inl rfl) (by decide) ?_
      refine s_aload_n f_19_60 rfl ?_
      refine k_iconst (v := 0) f_19_61 (by decide) ?_
      refine L_putI f_19_62 fd_0_120 (obP (show i_p < 14 from by omega)) (scP (show i_p < 14 from by omega)) (Or.inl rfl) (by decide) ?_
      refine s_aload_n f_19_65 rfl ?_
      refine s_aload_n f_19_66 rfl ?_
      refine L_getR f_19_67 fd_0_10 (obL (by decide)) (by decide) (by decide : rf 8 0 = 9) ?_
      refine L_getI f_19_70 fd_0_66 (obL (by decide)) (by decide) ?_
      refine L_putI f_19_73 fd_0_126 (obP (show i_p < 14 from by omega)) (scP (show i_p < 14 from by omega)) (Or.inl rfl) (by decide) ?_
      refine s_iload_n f_19_76 rfl ?_
      refine s_ireturn f_19_77 rfl rfl ?_
      exact q0 i_p h_p rfl c_32
    · replace c_32 := bI_1.mp c_32
      refine s_aload_n f_19_35 rfl ?_
      refine s_ldc f_19_36 ko_0_119 ?_
      refine L_virt (As := [.int (-100007 : Int32)]) f_19_38 ca_0_84 rfl rfl (obL (by decide)) (by decide) (Nat.le_of_ble_eq_true rfl) ?_
      refine c_found ?_
      refine s_ireturn f_19_41 rfl rfl ?_
      exact q1 i_p h_p rfl c_32
  · replace c_8 := bI_0.mp c_8
    refine s_aload_n f_19_11 rfl ?_
    refine s_ldc f_19_12 ko_0_83 ?_
    refine L_virt (As := [.int (-100001 : Int32)]) f_19_14 ca_0_84 rfl rfl (obL (by decide)) (by decide) (Nat.le_of_ble_eq_true rfl) ?_
    refine c_found ?_
    refine s_ireturn f_19_17 rfl rfl ?_
    exact q2 c_8
theorem m_die {l : Launch} {G : aG} {d : Nat} {Q : Option Value → aHeap → Prop} {o : Nat → aCell} {k : Nat} {S : Nat → Nat → Int32} {K : Nat → Int64} {T : Nat → Nat → Value} {tl : Nat → Nat} {np : Nat} {p : Int32} (hnpm : np ≤ 14) (hnp155 : S 155 0 = nI np) 
    (q0 : ∀ i_p : Nat, i_p < np → p = nI i_p → (S 155 (10 + 10 * i_p + 3) < 0) → Q (some (.int (S 155 (10 + 10 * i_p + 6)))) (lay o k (up (up (up S 155 (10 + 10 * i_p + 6) (0 : Int32)) 155 (10 + 10 * i_p + 3) ((up S 155 (10 + 10 * i_p + 6) (0 : Int32)) 155 3)) 155 6 (((up (up S 155 (10 + 10 * i_p + 6) (0 : Int32)) 155 (10 + 10 * i_p + 3) ((up S 155 (10 + 10 * i_p + 6) (0 : Int32)) 155 3)) 155 6) + (S 155 (10 + 10 * i_p + 6)))) K T tl))
    (q1 : ∀ i_p : Nat, i_p < np → p = nI i_p → ¬ (S 155 (10 + 10 * i_p + 3) < 0) → Q (some (.int (-100007 : Int32))) (lay o k (up S 154 3 (S 154 3 + 1)) K T tl))
    (q2 : ¬ ((0 : Int32) ≤ p ∧ p ≤ (S 155 0 - 1)) → Q (some (.int (-100001 : Int32))) (lay o k (up S 154 3 (S 154 3 + 1)) K T tl)) : aCall l G (d + 2) 0 0 185 [.ref 154, .int p] (lay o k S K T tl) Q := by
  refine aCall.of (by decide) (Nat.le_of_ble_eq_true rfl) ?_
  refine aAt.sub [(0, .ref 154), (1, .int p)] rfl ?_
  refine s_aload_n f_185_0 rfl ?_
  refine s_iload_n f_185_1 rfl ?_
  refine L_virt (As := [.int p]) f_185_2 ca_12_87 rfl rfl (obL (by decide)) (by decide) (Nat.le_of_ble_eq_true rfl) ?_
  refine c_isPerson ?_
  refine s_if_ne 15 f_185_5 (by decide) (fun c_5 => ?_) (fun c_5 => ?_)
  · replace c_5 := bI_1.mp c_5
    obtain ⟨i_p, h_p, e_p⟩ := ix_of hnp155 (by omega) c_5
    subst e_p
    refine s_aload_n f_185_15 rfl ?_
    refine s_iload_n f_185_16 rfl ?_
    refine L_virt (As := [.int (nI i_p)]) f_185_17 ca_12_91 rfl rfl (obL (by decide)) (by decide) (Nat.le_of_ble_eq_true rfl) ?_
    refine c_lives0 (p := i_p) (by omega) ?_
    refine s_if_ne 30 f_185_20 (by decide) (fun c_20 => ?_) (fun c_20 => ?_)
    · replace c_20 := bI_1.mp c_20
      refine s_aload_n f_185_30 rfl ?_
      refine s_iload_n f_185_31 rfl ?_
      refine k_bipush (v := 6) f_185_32 (by decide) ?_
      refine L_virt (As := [.int (nI i_p), .int (6 : Int32)]) f_185_34 ca_12_73 rfl rfl (obL (by decide)) (by decide) (Nat.le_of_ble_eq_true rfl) ?_
      refine c_own (p := i_p) (w := 6) (by omega) (by decide) ?_
      refine s_istore_n f_185_37 (by decide) ?_
      refine s_aload_n f_185_38 rfl ?_
      refine s_iload_n f_185_39 rfl ?_
      refine k_bipush (v := 6) f_185_40 (by decide) ?_
      refine k_iconst (v := 0) f_185_42 (by decide) ?_
      refine L_virt (As := [.int (nI i_p), .int (6 : Int32), .int (0 : Int32)]) f_185_43 ca_12_83 rfl rfl (obL (by decide)) (by decide) (Nat.le_of_ble_eq_true rfl) ?_
      refine c_makes (p := i_p) (w := 6) (by omega) (by decide) ?_
      refine s_aload_n f_185_46 rfl ?_
      refine s_iload_n f_185_47 rfl ?_
      refine k_iconst (v := 3) f_185_48 (by decide) ?_
      refine s_aload_n f_185_49 rfl ?_
      refine L_getR f_185_50 fd_12_7 (obL (by decide)) (by decide) (by decide : rf 154 0 = 155) ?_
      refine k_iconst (v := 3) f_185_53 (by decide) ?_
      refine L_iaload (q := 3) f_185_54 (obL (by decide)) rfl (Nat.le_of_ble_eq_true rfl) (Nat.le_of_ble_eq_true rfl) rfl ?_
      refine L_virt (As := [.int (nI i_p), .int (3 : Int32), .int ((up S 155 (10 + 10 * i_p + 6) (0 : Int32)) 155 3)]) f_185_55 ca_12_83 rfl rfl (obL (by decide)) (by decide) (Nat.le_of_ble_eq_true rfl) ?_
      refine c_makes (p := i_p) (w := 3) (by omega) (by decide) ?_
      refine s_aload_n f_185_58 rfl ?_
      refine L_getR f_185_59 fd_12_7 (obL (by decide)) (by decide) (by decide : rf 154 0 = 155) ?_
      refine k_bipush (v := 6) f_185_62 (by decide) ?_
      refine s_dup2 f_185_64 rfl rfl ?_
      refine L_iaload (q := 6) f_185_65 (obL (by decide)) rfl (Nat.le_of_ble_eq_true rfl) (Nat.le_of_ble_eq_true rfl) rfl ?_
      refine s_iload_n f_185_66 rfl ?_
      refine s_iadd f_185_67 ?_
      refine L_iastore (q := 6) f_185_68 (obL (by decide)) rfl (Nat.le_of_ble_eq_true rfl) (Nat.le_of_ble_eq_true rfl) rfl ?_
      refine s_iload_n f_185_69 rfl ?_
      refine s_ireturn f_185_70 rfl rfl ?_
      exact q0 i_p h_p rfl c_20
    · replace c_20 := bI_0.mp c_20
      refine s_aload_n f_185_23 rfl ?_
      refine s_ldc f_185_24 ko_12_94 ?_
      refine L_virt (As := [.int (-100007 : Int32)]) f_185_26 ca_12_78 rfl rfl (obL (by decide)) (by decide) (Nat.le_of_ble_eq_true rfl) ?_
      refine c_finds ?_
      refine s_ireturn f_185_29 rfl rfl ?_
      exact q1 i_p h_p rfl c_20
  · replace c_5 := bI_0.mp c_5
    refine s_aload_n f_185_8 rfl ?_
    refine s_ldc f_185_9 ko_12_77 ?_
    refine L_virt (As := [.int (-100001 : Int32)]) f_185_11 ca_12_78 rfl rfl (obL (by decide)) (by decide) (Nat.le_of_ble_eq_true rfl) ?_
    refine c_finds ?_
    refine s_ireturn f_185_14 rfl rfl ?_
    exact q2 c_5
