theorem ct_1_9 {l : Launch} {G : aG} {d : Nat} {Q : Option Value → aHeap → Prop} {sl : Nat} {sx : Nat → Int32} (hQ : Q none (lay0 (old0 sl sx) 71 61 Z0)) : aCall l G (d + 2) 61 483 1 [.ref 9] (lay0 (old0 sl sx) 10 0 Z0) Q := by
  refine aCall.of (by decide) (Nat.le_of_ble_eq_true rfl) ?_
  refine aAt.sub [(0, .ref 9)] rfl ?_
  refine s_aload_n f_1_0 rfl ?_
  refine s_objinit f_1_1 ca_3_3 (Nat.le_of_ble_eq_true rfl) ?_
  refine s_aload_n f_1_4 rfl ?_
  refine k_bipush (v := 14) f_1_5 (by decide) ?_
  refine P_anew (N := 10) (n := 14) (ak := 30) f_1_7 (by decide +kernel) (by decide) (by decide) rfl (by decide) (by decide) (by decide +kernel) (by decide) (by decide) (by decide) (by decide) ?_
  refine P_putR f_1_10 fd_3_11 (by decide) (by decide) (by decide) (by decide) (by decide +kernel) (Or.inr ⟨_, rfl⟩) (Or.inr ⟨rfl, rfl⟩) ?_
  refine s_aload_n f_1_13 rfl ?_
  refine k_bipush (v := 8) f_1_14 (by decide) ?_
  refine P_anew (N := 11) (n := 8) (ak := 31) f_1_16 (by decide +kernel) (by decide) (by decide) rfl (by decide) (by decide) (by decide +kernel) (by decide) (by decide) (by decide) (by decide) ?_
  refine P_putR f_1_19 fd_3_19 (by decide) (by decide) (by decide) (by decide) (by decide +kernel) (Or.inr ⟨_, rfl⟩) (Or.inr ⟨rfl, rfl⟩) ?_
  refine s_aload_n f_1_22 rfl ?_
  refine k_bipush (v := 20) f_1_23 (by decide) ?_
  refine P_anew (N := 12) (n := 20) (ak := 32) f_1_25 (by decide +kernel) (by decide) (by decide) rfl (by decide) (by decide) (by decide +kernel) (by decide) (by decide) (by decide) (by decide) ?_
  refine P_putR f_1_28 fd_3_25 (by decide) (by decide) (by decide) (by decide) (by decide +kernel) (Or.inr ⟨_, rfl⟩) (Or.inr ⟨rfl, rfl⟩) ?_
  refine s_aload_n f_1_31 rfl ?_
  refine k_bipush (v := 12) f_1_32 (by decide) ?_
  refine P_anew (N := 13) (n := 12) (ak := 33) f_1_34 (by decide +kernel) (by decide) (by decide) rfl (by decide) (by decide) (by decide +kernel) (by decide) (by decide) (by decide) (by decide) ?_
  refine P_putR f_1_37 fd_3_31 (by decide) (by decide) (by decide) (by decide) (by decide +kernel) (Or.inr ⟨_, rfl⟩) (Or.inr ⟨rfl, rfl⟩) ?_
  refine s_aload_n f_1_40 rfl ?_
  refine k_iconst (v := 5) f_1_41 (by decide) ?_
  refine P_anew (N := 14) (n := 5) (ak := 34) f_1_42 (by decide +kernel) (by decide) (by decide) rfl (by decide) (by decide) (by decide +kernel) (by decide) (by decide) (by decide) (by decide) ?_
  refine P_putR f_1_45 fd_3_37 (by decide) (by decide) (by decide) (by decide) (by decide +kernel) (Or.inr ⟨_, rfl⟩) (Or.inr ⟨rfl, rfl⟩) ?_
  refine s_aload_n f_1_48 rfl ?_
  refine k_iconst (v := 2) f_1_49 (by decide) ?_
  refine P_newarr (N := 15) (n := 2) f_1_50 (by decide) (by decide) (by decide) (by decide) (fun _ => rfl) (by decide) (by decide) (by decide) ?_
  refine P_putR f_1_52 fd_3_41 (by decide) (by decide) (by decide) (by decide) (by decide +kernel) (Or.inr ⟨_, rfl⟩) (Or.inr ⟨rfl, rfl⟩) ?_
  refine s_aload_n f_1_55 rfl ?_
  refine k_bipush (v := 14) f_1_56 (by decide) ?_
  refine P_newarr (N := 16) (n := 14) f_1_58 (by decide) (by decide) (by decide) (by decide) (fun _ => rfl) (by decide) (by decide) (by decide) ?_
  refine P_putR f_1_60 fd_3_45 (by decide) (by decide) (by decide) (by decide) (by decide +kernel) (Or.inr ⟨_, rfl⟩) (Or.inr ⟨rfl, rfl⟩) ?_
  refine s_aload_n f_1_63 rfl ?_
  refine k_iconst (v := 0) f_1_64 (by decide) ?_
  refine P_put0 f_1_65 fd_3_48 (by decide) (by decide) (by decide) rfl (Or.inl rfl) (Or.inr ⟨rfl, rfl⟩) ?_
  refine s_aload_n f_1_68 rfl ?_
  refine k_iconst (v := 0) f_1_69 (by decide) ?_
  refine P_put0 f_1_70 fd_3_52 (by decide) (by decide) (by decide) rfl (Or.inl rfl) (Or.inr ⟨rfl, rfl⟩) ?_
  refine s_aload_n f_1_73 rfl ?_
  refine k_iconst (v := 0) f_1_74 (by decide) ?_
  refine P_put0 f_1_75 fd_3_55 (by decide) (by decide) (by decide) rfl (Or.inl rfl) (Or.inr ⟨rfl, rfl⟩) ?_
  refine s_aload_n f_1_78 rfl ?_
  refine k_iconst (v := 0) f_1_79 (by decide) ?_
  refine P_put0 f_1_80 fd_3_58 (by decide) (by decide) (by decide) rfl (Or.inl rfl) (Or.inr ⟨rfl, rfl⟩) ?_
  refine s_aload_n f_1_83 rfl ?_
  refine k_iconst (v := 0) f_1_84 (by decide) ?_
  refine P_put0 f_1_85 fd_3_61 (by decide) (by decide) (by decide) rfl (Or.inl rfl) (Or.inr ⟨rfl, rfl⟩) ?_
  refine s_aload_n f_1_88 rfl ?_
  refine k_iconst (v := 0) f_1_89 (by decide) ?_
  refine P_put0 f_1_90 fd_3_64 (by decide) (by decide) (by decide) rfl (Or.inl rfl) (Or.inr ⟨rfl, rfl⟩) ?_
  refine s_aload_n f_1_93 rfl ?_
  refine k_iconst (v := 0) f_1_94 (by decide) ?_
  refine P_put0 f_1_95 fd_3_67 (by decide) (by decide) (by decide) rfl (Or.inl rfl) (Or.inr ⟨rfl, rfl⟩) ?_
  refine k_iconst (v := 0) f_1_98 (by decide) ?_
  refine s_istore_n f_1_99 (by decide) ?_
  refine aAt.sub [(0, .ref 9), (1, .int 0)] rfl ?_
  refine s_iload_n f_1_100 rfl ?_
  refine k_bipush (v := 14) f_1_101 (by decide) ?_
  refine s_icmp_ge 125 f_1_103 (by decide) (fun c => absurd c (by decide)) (fun _ => ?_)
  refine s_aload_n f_1_106 rfl ?_
  refine P_getR (q := 10) f_1_107 fd_3_11 (by decide) (by decide) (by decide) (by decide +kernel) ?_
  refine s_iload_n f_1_110 rfl ?_
  refine P_new (N := 17) (n := 10) f_1_111 nc_3_9 (by decide) ⟨_, rfl, rfl⟩ (by decide +kernel) (by decide) (by decide) ?_
  refine s_dup f_1_114 rfl ?_
  refine s_initN (mc' := 0) (ms' := 0) (As := []) f_1_115 ca_3_70 rfl rfl (Nat.le_of_ble_eq_true rfl) (by decide) (by decide) ?_
  refine t_ini2 ?_
  refine P_aast (q := 0) f_1_118 (by decide) (by decide) (by decide) (by decide) (by decide) (by decide +kernel) ?_
  refine k_iinc (w := 1) f_1_119 rfl (by decide) (by decide) ?_
  refine aAt.sub [(0, .ref 9), (1, .int 1)] rfl ?_
  refine s_goto 100 f_1_122 (by decide) ?_
  refine s_iload_n f_1_100 rfl ?_
  refine k_bipush (v := 14) f_1_101 (by decide) ?_
  refine s_icmp_ge 125 f_1_103 (by decide) (fun c => absurd c (by decide)) (fun _ => ?_)
  refine s_aload_n f_1_106 rfl ?_
  refine P_getR (q := 10) f_1_107 fd_3_11 (by decide) (by decide) (by decide) (by decide +kernel) ?_
  refine s_iload_n f_1_110 rfl ?_
  refine P_new (N := 18) (n := 10) f_1_111 nc_3_9 (by decide) ⟨_, rfl, rfl⟩ (by decide +kernel) (by decide) (by decide) ?_
  refine s_dup f_1_114 rfl ?_
  refine s_initN (mc' := 0) (ms' := 0) (As := []) f_1_115 ca_3_70 rfl rfl (Nat.le_of_ble_eq_true rfl) (by decide) (by decide) ?_
  refine t_ini2 ?_
  refine P_aast (q := 1) f_1_118 (by decide) (by decide) (by decide) (by decide) (by decide) (by decide +kernel) ?_
  refine k_iinc (w := 1) f_1_119 rfl (by decide) (by decide) ?_
  refine aAt.sub [(0, .ref 9), (1, .int 2)] rfl ?_
  refine s_goto 100 f_1_122 (by decide) ?_
  refine s_iload_n f_1_100 rfl ?_
  refine k_bipush (v := 14) f_1_101 (by decide) ?_
  refine s_icmp_ge 125 f_1_103 (by decide) (fun c => absurd c (by decide)) (fun _ => ?_)
  refine s_aload_n f_1_106 rfl ?_
  refine P_getR (q := 10) f_1_107 fd_3_11 (by decide) (by decide) (by decide) (by decide +kernel) ?_
  refine s_iload_n f_1_110 rfl ?_
  refine P_new (N := 19) (n := 10) f_1_111 nc_3_9 (by decide) ⟨_, rfl, rfl⟩ (by decide +kernel) (by decide) (by decide) ?_
  refine s_dup f_1_114 rfl ?_
  refine s_initN (mc' := 0) (ms' := 0) (As := []) f_1_115 ca_3_70 rfl rfl (Nat.le_of_ble_eq_true rfl) (by decide) (by decide) ?_
  refine t_ini2 ?_
  refine P_aast (q := 2) f_1_118 (by decide) (by decide) (by decide) (by decide) (by decide) (by decide +kernel) ?_
  refine k_iinc (w := 1) f_1_119 rfl (by decide) (by decide) ?_
  refine aAt.sub [(0, .ref 9), (1, .int 3)] rfl ?_
  refine s_goto 100 f_1_122 (by decide) ?_
  refine s_iload_n f_1_100 rfl ?_
  refine k_bipush (v := 14) f_1_101 (by decide) ?_
  refine s_icmp_ge 125 f_1_103 (by decide) (fun c => absurd c (by decide)) (fun _ => ?_)
  refine s_aload_n f_1_106 rfl ?_
  refine P_getR (q := 10) f_1_107 fd_3_11 (by decide) (by decide) (by decide) (by decide +kernel) ?_
  refine s_iload_n f_1_110 rfl ?_
  refine P_new (N := 20) (n := 10) f_1_111 nc_3_9 (by decide) ⟨_, rfl, rfl⟩ (by decide +kernel) (by decide) (by decide) ?_
  refine s_dup f_1_114 rfl ?_
  refine s_initN (mc' := 0) (ms' := 0) (As := []) f_1_115 ca_3_70 rfl rfl (Nat.le_of_ble_eq_true rfl) (by decide) (by decide) ?_
  refine t_ini2 ?_
  refine P_aast (q := 3) f_1_118 (by decide) (by decide) (by decide) (by decide) (by decide) (by decide +kernel) ?_
  refine k_iinc (w := 1) f_1_119 rfl (by decide) (by decide) ?_
  refine aAt.sub [(0, .ref 9), (1, .int 4)] rfl ?_
  refine s_goto 100 f_1_122 (by decide) ?_
  refine s_iload_n f_1_100 rfl ?_
  refine k_bipush (v := 14) f_1_101 (by decide) ?_
  refine s_icmp_ge 125 f_1_103 (by decide) (fun c => absurd c (by decide)) (fun _ => ?_)
  refine s_aload_n f_1_106 rfl ?_
  refine P_getR (q := 10) f_1_107 fd_3_11 (by decide) (by decide) (by decide) (by decide +kernel) ?_
  refine s_iload_n f_1_110 rfl ?_
  refine P_new (N := 21) (n := 10) f_1_111 nc_3_9 (by decide) ⟨_, rfl, rfl⟩ (by decide +kernel) (by decide) (by decide) ?_
  refine s_dup f_1_114 rfl ?_
  refine s_initN (mc' := 0) (ms' := 0) (As := []) f_1_115 ca_3_70 rfl rfl (Nat.le_of_ble_eq_true rfl) (by decide) (by decide) ?_
  refine t_ini2 ?_
  refine P_aast (q := 4) f_1_118 (by decide) (by decide) (by decide) (by decide) (by decide) (by decide +kernel) ?_
  refine k_iinc (w := 1) f_1_119 rfl (by decide) (by decide) ?_
  refine aAt.sub [(0, .ref 9), (1, .int 5)] rfl ?_
  refine s_goto 100 f_1_122 (by decide) ?_
  refine s_iload_n f_1_100 rfl ?_
  refine k_bipush (v := 14) f_1_101 (by decide) ?_
  refine s_icmp_ge 125 f_1_103 (by decide) (fun c => absurd c (by decide)) (fun _ => ?_)
  refine s_aload_n f_1_106 rfl ?_
  refine P_getR (q := 10) f_1_107 fd_3_11 (by decide) (by decide) (by decide) (by decide +kernel) ?_
  refine s_iload_n f_1_110 rfl ?_
  refine P_new (N := 22) (n := 10) f_1_111 nc_3_9 (by decide) ⟨_, rfl, rfl⟩ (by decide +kernel) (by decide) (by decide) ?_
  refine s_dup f_1_114 rfl ?_
  refine s_initN (mc' := 0) (ms' := 0) (As := []) f_1_115 ca_3_70 rfl rfl (Nat.le_of_ble_eq_true rfl) (by decide) (by decide) ?_
  refine t_ini2 ?_
  refine P_aast (q := 5) f_1_118 (by decide) (by decide) (by decide) (by decide) (by decide) (by decide +kernel) ?_
  refine k_iinc (w := 1) f_1_119 rfl (by decide) (by decide) ?_
  refine aAt.sub [(0, .ref 9), (1, .int 6)] rfl ?_
  refine s_goto 100 f_1_122 (by decide) ?_
  refine s_iload_n f_1_100 rfl ?_
  refine k_bipush (v := 14) f_1_101 (by decide) ?_
  refine s_icmp_ge 125 f_1_103 (by decide) (fun c => absurd c (by decide)) (fun _ => ?_)
  refine s_aload_n f_1_106 rfl ?_
  refine P_getR (q := 10) f_1_107 fd_3_11 (by decide) (by decide) (by decide) (by decide +kernel) ?_
  refine s_iload_n f_1_110 rfl ?_
  refine P_new (N := 23) (n := 10) f_1_111 nc_3_9 (by decide) ⟨_, rfl, rfl⟩ (by decide +kernel) (by decide) (by decide) ?_
  refine s_dup f_1_114 rfl ?_
  refine s_initN (mc' := 0) (ms' := 0) (As := []) f_1_115 ca_3_70 rfl rfl (Nat.le_of_ble_eq_true rfl) (by decide) (by decide) ?_
  refine t_ini2 ?_
  refine P_aast (q := 6) f_1_118 (by decide) (by decide) (by decide) (by decide) (by decide) (by decide +kernel) ?_
  refine k_iinc (w := 1) f_1_119 rfl (by decide) (by decide) ?_
  refine aAt.sub [(0, .ref 9), (1, .int 7)] rfl ?_
  refine s_goto 100 f_1_122 (by decide) ?_
  refine s_iload_n f_1_100 rfl ?_
  refine k_bipush (v := 14) f_1_101 (by decide) ?_
  refine s_icmp_ge 125 f_1_103 (by decide) (fun c => absurd c (by decide)) (fun _ => ?_)
  refine s_aload_n f_1_106 rfl ?_
  refine P_getR (q := 10) f_1_107 fd_3_11 (by decide) (by decide) (by decide) (by decide +kernel) ?_
  refine s_iload_n f_1_110 rfl ?_
  refine P_new (N := 24) (n := 10) f_1_111 nc_3_9 (by decide) ⟨_, rfl, rfl⟩ (by decide +kernel) (by decide) (by decide) ?_
  refine s_dup f_1_114 rfl ?_
  refine s_initN (mc' := 0) (ms' := 0) (As := []) f_1_115 ca_3_70 rfl rfl (Nat.le_of_ble_eq_true rfl) (by decide) (by decide) ?_
  refine t_ini2 ?_
  refine P_aast (q := 7) f_1_118 (by decide) (by decide) (by decide) (by decide) (by decide) (by decide +kernel) ?_
  refine k_iinc (w := 1) f_1_119 rfl (by decide) (by decide) ?_
  refine aAt.sub [(0, .ref 9), (1, .int 8)] rfl ?_
  refine s_goto 100 f_1_122 (by decide) ?_
  refine s_iload_n f_1_100 rfl ?_
  refine k_bipush (v := 14) f_1_101 (by decide) ?_
  refine s_icmp_ge 125 f_1_103 (by decide) (fun c => absurd c (by decide)) (fun _ => ?_)
  refine s_aload_n f_1_106 rfl ?_
  refine P_getR (q := 10) f_1_107 fd_3_11 (by decide) (by decide) (by decide) (by decide +kernel) ?_
  refine s_iload_n f_1_110 rfl ?_
  refine P_new (N := 25) (n := 10) f_1_111 nc_3_9 (by decide) ⟨_, rfl, rfl⟩ (by decide +kernel) (by decide) (by decide) ?_
  refine s_dup f_1_114 rfl ?_
  refine s_initN (mc' := 0) (ms' := 0) (As := []) f_1_115 ca_3_70 rfl rfl (Nat.le_of_ble_eq_true rfl) (by decide) (by decide) ?_
  refine t_ini2 ?_
  refine P_aast (q := 8) f_1_118 (by decide) (by decide) (by decide) (by decide) (by decide) (by decide +kernel) ?_
  refine k_iinc (w := 1) f_1_119 rfl (by decide) (by decide) ?_
  refine aAt.sub [(0, .ref 9), (1, .int 9)] rfl ?_
  refine s_goto 100 f_1_122 (by decide) ?_
  refine s_iload_n f_1_100 rfl ?_
  refine k_bipush (v := 14) f_1_101 (by decide) ?_
  refine s_icmp_ge 125 f_1_103 (by decide) (fun c => absurd c (by decide)) (fun _ => ?_)
  refine s_aload_n f_1_106 rfl ?_
  refine P_getR (q := 10) f_1_107 fd_3_11 (by decide) (by decide) (by decide) (by decide +kernel) ?_
  refine s_iload_n f_1_110 rfl ?_
  refine P_new (N := 26) (n := 10) f_1_111 nc_3_9 (by decide) ⟨_, rfl, rfl⟩ (by decide +kernel) (by decide) (by decide) ?_
  refine s_dup f_1_114 rfl ?_
  refine s_initN (mc' := 0) (ms' := 0) (As := []) f_1_115 ca_3_70 rfl rfl (Nat.le_of_ble_eq_true rfl) (by decide) (by decide) ?_
  refine t_ini2 ?_
  refine P_aast (q := 9) f_1_118 (by decide) (by decide) (by decide) (by decide) (by decide) (by decide +kernel) ?_
  refine k_iinc (w := 1) f_1_119 rfl (by decide) (by decide) ?_
  refine aAt.sub [(0, .ref 9), (1, .int 10)] rfl ?_
  refine s_goto 100 f_1_122 (by decide) ?_
  refine s_iload_n f_1_100 rfl ?_
  refine k_bipush (v := 14) f_1_101 (by decide) ?_
  refine s_icmp_ge 125 f_1_103 (by decide) (fun c => absurd c (by decide)) (fun _ => ?_)
  refine s_aload_n f_1_106 rfl ?_
  refine P_getR (q := 10) f_1_107 fd_3_11 (by decide) (by decide) (by decide) (by decide +kernel) ?_
  refine s_iload_n f_1_110 rfl ?_
  refine P_new (N := 27) (n := 10) f_1_111 nc_3_9 (by decide) ⟨_, rfl, rfl⟩ (by decide +kernel) (by decide) (by decide) ?_
  refine s_dup f_1_114 rfl ?_
  refine s_initN (mc' := 0) (ms' := 0) (As := []) f_1_115 ca_3_70 rfl rfl (Nat.le_of_ble_eq_true rfl) (by decide) (by decide) ?_
  refine t_ini2 ?_
  refine P_aast (q := 10) f_1_118 (by decide) (by decide) (by decide) (by decide) (by decide) (by decide +kernel) ?_
  refine k_iinc (w := 1) f_1_119 rfl (by decide) (by decide) ?_
  refine aAt.sub [(0, .ref 9), (1, .int 11)] rfl ?_
  refine s_goto 100 f_1_122 (by decide) ?_
  refine s_iload_n f_1_100 rfl ?_
  refine k_bipush (v := 14) f_1_101 (by decide) ?_
  refine s_icmp_ge 125 f_1_103 (by decide) (fun c => absurd c (by decide)) (fun _ => ?_)
  refine s_aload_n f_1_106 rfl ?_
  refine P_getR (q := 10) f_1_107 fd_3_11 (by decide) (by decide) (by decide) (by decide +kernel) ?_
  refine s_iload_n f_1_110 rfl ?_
  refine P_new (N := 28) (n := 10) f_1_111 nc_3_9 (by decide) ⟨_, rfl, rfl⟩ (by decide +kernel) (by decide) (by decide) ?_
  refine s_dup f_1_114 rfl ?_
  refine s_initN (mc' := 0) (ms' := 0) (As := []) f_1_115 ca_3_70 rfl rfl (Nat.le_of_ble_eq_true rfl) (by decide) (by decide) ?_
  refine t_ini2 ?_
  refine P_aast (q := 11) f_1_118 (by decide) (by decide) (by decide) (by decide) (by decide) (by decide +kernel) ?_
  refine k_iinc (w := 1) f_1_119 rfl (by decide) (by decide) ?_
  refine aAt.sub [(0, .ref 9), (1, .int 12)] rfl ?_
  refine s_goto 100 f_1_122 (by decide) ?_
  refine s_iload_n f_1_100 rfl ?_
  refine k_bipush (v := 14) f_1_101 (by decide) ?_
  refine s_icmp_ge 125 f_1_103 (by decide) (fun c => absurd c (by decide)) (fun _ => ?_)
  refine s_aload_n f_1_106 rfl ?_
  refine P_getR (q := 10) f_1_107 fd_3_11 (by decide) (by decide) (by decide) (by decide +kernel) ?_
  refine s_iload_n f_1_110 rfl ?_
  refine P_new (N := 29) (n := 10) f_1_111 nc_3_9 (by decide) ⟨_, rfl, rfl⟩ (by decide +kernel) (by decide) (by decide) ?_
  refine s_dup f_1_114 rfl ?_
  refine s_initN (mc' := 0) (ms' := 0) (As := []) f_1_115 ca_3_70 rfl rfl (Nat.le_of_ble_eq_true rfl) (by decide) (by decide) ?_
  refine t_ini2 ?_
  refine P_aast (q := 12) f_1_118 (by decide) (by decide) (by decide) (by decide) (by decide) (by decide +kernel) ?_
  refine k_iinc (w := 1) f_1_119 rfl (by decide) (by decide) ?_
  refine aAt.sub [(0, .ref 9), (1, .int 13)] rfl ?_
  refine s_goto 100 f_1_122 (by decide) ?_
  refine s_iload_n f_1_100 rfl ?_
  refine k_bipush (v := 14) f_1_101 (by decide) ?_
  refine s_icmp_ge 125 f_1_103 (by decide) (fun c => absurd c (by decide)) (fun _ => ?_)
  refine s_aload_n f_1_106 rfl ?_
  refine P_getR (q := 10) f_1_107 fd_3_11 (by decide) (by decide) (by decide) (by decide +kernel) ?_
  refine s_iload_n f_1_110 rfl ?_
  refine P_new (N := 30) (n := 10) f_1_111 nc_3_9 (by decide) ⟨_, rfl, rfl⟩ (by decide +kernel) (by decide) (by decide) ?_
  refine s_dup f_1_114 rfl ?_
  refine s_initN (mc' := 0) (ms' := 0) (As := []) f_1_115 ca_3_70 rfl rfl (Nat.le_of_ble_eq_true rfl) (by decide) (by decide) ?_
  refine t_ini2 ?_
  refine P_aast (q := 13) f_1_118 (by decide) (by decide) (by decide) (by decide) (by decide) (by decide +kernel) ?_
  refine k_iinc (w := 1) f_1_119 rfl (by decide) (by decide) ?_
  refine aAt.sub [(0, .ref 9), (1, .int 14)] rfl ?_
  refine s_goto 100 f_1_122 (by decide) ?_
  refine s_iload_n f_1_100 rfl ?_
  refine k_bipush (v := 14) f_1_101 (by decide) ?_
  refine s_icmp_ge 125 f_1_103 (by decide) (fun _ => ?_) (fun c => absurd (by decide) c)
  refine k_iconst (v := 0) f_1_125 (by decide) ?_
  refine s_istore_n f_1_126 (by decide) ?_
  refine aAt.sub [(0, .ref 9), (1, .int 0)] rfl ?_
  refine s_iload_n f_1_127 rfl ?_
  refine k_bipush (v := 8) f_1_128 (by decide) ?_
  refine s_icmp_ge 152 f_1_130 (by decide) (fun c => absurd c (by decide)) (fun _ => ?_)
  refine s_aload_n f_1_133 rfl ?_
  refine P_getR (q := 11) f_1_134 fd_3_19 (by decide) (by decide) (by decide) (by decide +kernel) ?_
  refine s_iload_n f_1_137 rfl ?_
  refine P_new (N := 31) (n := 4) f_1_138 nc_3_17 (by decide) ⟨_, rfl, rfl⟩ (by decide +kernel) (by decide) (by decide) ?_
  refine s_dup f_1_141 rfl ?_
  refine s_initN (mc' := 0) (ms' := 0) (As := []) f_1_142 ca_3_71 rfl rfl (Nat.le_of_ble_eq_true rfl) (by decide) (by decide) ?_
  refine t_ini3 ?_
  refine P_aast (q := 0) f_1_145 (by decide) (by decide) (by decide) (by decide) (by decide) (by decide +kernel) ?_
  refine k_iinc (w := 1) f_1_146 rfl (by decide) (by decide) ?_
  refine aAt.sub [(0, .ref 9), (1, .int 1)] rfl ?_
  refine s_goto 127 f_1_149 (by decide) ?_
  refine s_iload_n f_1_127 rfl ?_
  refine k_bipush (v := 8) f_1_128 (by decide) ?_
  refine s_icmp_ge 152 f_1_130 (by decide) (fun c => absurd c (by decide)) (fun _ => ?_)
  refine s_aload_n f_1_133 rfl ?_
  refine P_getR (q := 11) f_1_134 fd_3_19 (by decide) (by decide) (by decide) (by decide +kernel) ?_
  refine s_iload_n f_1_137 rfl ?_
  refine P_new (N := 32) (n := 4) f_1_138 nc_3_17 (by decide) ⟨_, rfl, rfl⟩ (by decide +kernel) (by decide) (by decide) ?_
  refine s_dup f_1_141 rfl ?_
  refine s_initN (mc' := 0) (ms' := 0) (As := []) f_1_142 ca_3_71 rfl rfl (Nat.le_of_ble_eq_true rfl) (by decide) (by decide) ?_
  refine t_ini3 ?_
  refine P_aast (q := 1) f_1_145 (by decide) (by decide) (by decide) (by decide) (by decide) (by decide +kernel) ?_
  refine k_iinc (w := 1) f_1_146 rfl (by decide) (by decide) ?_
  refine aAt.sub [(0, .ref 9), (1, .int 2)] rfl ?_
  refine s_goto 127 f_1_149 (by decide) ?_
  refine s_iload_n f_1_127 rfl ?_
  refine k_bipush (v := 8) f_1_128 (by decide) ?_
  refine s_icmp_ge 152 f_1_130 (by decide) (fun c => absurd c (by decide)) (fun _ => ?_)
  refine s_aload_n f_1_133 rfl ?_
  refine P_getR (q := 11) f_1_134 fd_3_19 (by decide) (by decide) (by decide) (by decide +kernel) ?_
  refine s_iload_n f_1_137 rfl ?_
  refine P_new (N := 33) (n := 4) f_1_138 nc_3_17 (by decide) ⟨_, rfl, rfl⟩ (by decide +kernel) (by decide) (by decide) ?_
  refine s_dup f_1_141 rfl ?_
  refine s_initN (mc' := 0) (ms' := 0) (As := []) f_1_142 ca_3_71 rfl rfl (Nat.le_of_ble_eq_true rfl) (by decide) (by decide) ?_
  refine t_ini3 ?_
  refine P_aast (q := 2) f_1_145 (by decide) (by decide) (by decide) (by decide) (by decide) (by decide +kernel) ?_
  refine k_iinc (w := 1) f_1_146 rfl (by decide) (by decide) ?_
  refine aAt.sub [(0, .ref 9), (1, .int 3)] rfl ?_
  refine s_goto 127 f_1_149 (by decide) ?_
  refine s_iload_n f_1_127 rfl ?_
  refine k_bipush (v := 8) f_1_128 (by decide) ?_
  refine s_icmp_ge 152 f_1_130 (by decide) (fun c => absurd c (by decide)) (fun _ => ?_)
  refine s_aload_n f_1_133 rfl ?_
  refine P_getR (q := 11) f_1_134 fd_3_19 (by decide) (by decide) (by decide) (by decide +kernel) ?_
  refine s_iload_n f_1_137 rfl ?_
  refine P_new (N := 34) (n := 4) f_1_138 nc_3_17 (by decide) ⟨_, rfl, rfl⟩ (by decide +kernel) (by decide) (by decide) ?_
  refine s_dup f_1_141 rfl ?_
  refine s_initN (mc' := 0) (ms' := 0) (As := []) f_1_142 ca_3_71 rfl rfl (Nat.le_of_ble_eq_true rfl) (by decide) (by decide) ?_
  refine t_ini3 ?_
  refine P_aast (q := 3) f_1_145 (by decide) (by decide) (by decide) (by decide) (by decide) (by decide +kernel) ?_
  refine k_iinc (w := 1) f_1_146 rfl (by decide) (by decide) ?_
  refine aAt.sub [(0, .ref 9), (1, .int 4)] rfl ?_
  refine s_goto 127 f_1_149 (by decide) ?_
  refine s_iload_n f_1_127 rfl ?_
  refine k_bipush (v := 8) f_1_128 (by decide) ?_
  refine s_icmp_ge 152 f_1_130 (by decide) (fun c => absurd c (by decide)) (fun _ => ?_)
  refine s_aload_n f_1_133 rfl ?_
  refine P_getR (q := 11) f_1_134 fd_3_19 (by decide) (by decide) (by decide) (by decide +kernel) ?_
  refine s_iload_n f_1_137 rfl ?_
  refine P_new (N := 35) (n := 4) f_1_138 nc_3_17 (by decide) ⟨_, rfl, rfl⟩ (by decide +kernel) (by decide) (by decide) ?_
  refine s_dup f_1_141 rfl ?_
  refine s_initN (mc' := 0) (ms' := 0) (As := []) f_1_142 ca_3_71 rfl rfl (Nat.le_of_ble_eq_true rfl) (by decide) (by decide) ?_
  refine t_ini3 ?_
  refine P_aast (q := 4) f_1_145 (by decide) (by decide) (by decide) (by decide) (by decide) (by decide +kernel) ?_
  refine k_iinc (w := 1) f_1_146 rfl (by decide) (by decide) ?_
  refine aAt.sub [(0, .ref 9), (1, .int 5)] rfl ?_
  refine s_goto 127 f_1_149 (by decide) ?_
  refine s_iload_n f_1_127 rfl ?_
  refine k_bipush (v := 8) f_1_128 (by decide) ?_
  refine s_icmp_ge 152 f_1_130 (by decide) (fun c => absurd c (by decide)) (fun _ => ?_)
  refine s_aload_n f_1_133 rfl ?_
  refine P_getR (q := 11) f_1_134 fd_3_19 (by decide) (by decide) (by decide) (by decide +kernel) ?_
  refine s_iload_n f_1_137 rfl ?_
  refine P_new (N := 36) (n := 4) f_1_138 nc_3_17 (by decide) ⟨_, rfl, rfl⟩ (by decide +kernel) (by decide) (by decide) ?_
  refine s_dup f_1_141 rfl ?_
  refine s_initN (mc' := 0) (ms' := 0) (As := []) f_1_142 ca_3_71 rfl rfl (Nat.le_of_ble_eq_true rfl) (by decide) (by decide) ?_
  refine t_ini3 ?_
  refine P_aast (q := 5) f_1_145 (by decide) (by decide) (by decide) (by decide) (by decide) (by decide +kernel) ?_
  refine k_iinc (w := 1) f_1_146 rfl (by decide) (by decide) ?_
  refine aAt.sub [(0, .ref 9), (1, .int 6)] rfl ?_
  refine s_goto 127 f_1_149 (by decide) ?_
  refine s_iload_n f_1_127 rfl ?_
  refine k_bipush (v := 8) f_1_128 (by decide) ?_
  refine s_icmp_ge 152 f_1_130 (by decide) (fun c => absurd c (by decide)) (fun _ => ?_)
  refine s_aload_n f_1_133 rfl ?_
  refine P_getR (q := 11) f_1_134 fd_3_19 (by decide) (by decide) (by decide) (by decide +kernel) ?_
  refine s_iload_n f_1_137 rfl ?_
  refine P_new (N := 37) (n := 4) f_1_138 nc_3_17 (by decide) ⟨_, rfl, rfl⟩ (by decide +kernel) (by decide) (by decide) ?_
  refine s_dup f_1_141 rfl ?_
  refine s_initN (mc' := 0) (ms' := 0) (As := []) f_1_142 ca_3_71 rfl rfl (Nat.le_of_ble_eq_true rfl) (by decide) (by decide) ?_
  refine t_ini3 ?_
  refine P_aast (q := 6) f_1_145 (by decide) (by decide) (by decide) (by decide) (by decide) (by decide +kernel) ?_
  refine k_iinc (w := 1) f_1_146 rfl (by decide) (by decide) ?_
  refine aAt.sub [(0, .ref 9), (1, .int 7)] rfl ?_
  refine s_goto 127 f_1_149 (by decide) ?_
  refine s_iload_n f_1_127 rfl ?_
  refine k_bipush (v := 8) f_1_128 (by decide) ?_
  refine s_icmp_ge 152 f_1_130 (by decide) (fun c => absurd c (by decide)) (fun _ => ?_)
  refine s_aload_n f_1_133 rfl ?_
  refine P_getR (q := 11) f_1_134 fd_3_19 (by decide) (by decide) (by decide) (by decide +kernel) ?_
  refine s_iload_n f_1_137 rfl ?_
  refine P_new (N := 38) (n := 4) f_1_138 nc_3_17 (by decide) ⟨_, rfl, rfl⟩ (by decide +kernel) (by decide) (by decide) ?_
  refine s_dup f_1_141 rfl ?_
  refine s_initN (mc' := 0) (ms' := 0) (As := []) f_1_142 ca_3_71 rfl rfl (Nat.le_of_ble_eq_true rfl) (by decide) (by decide) ?_
  refine t_ini3 ?_
  refine P_aast (q := 7) f_1_145 (by decide) (by decide) (by decide) (by decide) (by decide) (by decide +kernel) ?_
  refine k_iinc (w := 1) f_1_146 rfl (by decide) (by decide) ?_
  refine aAt.sub [(0, .ref 9), (1, .int 8)] rfl ?_
  refine s_goto 127 f_1_149 (by decide) ?_
  refine s_iload_n f_1_127 rfl ?_
  refine k_bipush (v := 8) f_1_128 (by decide) ?_
  refine s_icmp_ge 152 f_1_130 (by decide) (fun _ => ?_) (fun c => absurd (by decide) c)
  refine k_iconst (v := 0) f_1_152 (by decide) ?_
  refine s_istore_n f_1_153 (by decide) ?_
  refine aAt.sub [(0, .ref 9), (1, .int 0)] rfl ?_
  refine s_iload_n f_1_154 rfl ?_
  refine k_bipush (v := 20) f_1_155 (by decide) ?_
  refine s_icmp_ge 179 f_1_157 (by decide) (fun c => absurd c (by decide)) (fun _ => ?_)
  refine s_aload_n f_1_160 rfl ?_
  refine P_getR (q := 12) f_1_161 fd_3_25 (by decide) (by decide) (by decide) (by decide +kernel) ?_
  refine s_iload_n f_1_164 rfl ?_
  refine P_new (N := 39) (n := 10) f_1_165 nc_3_23 (by decide) ⟨_, rfl, rfl⟩ (by decide +kernel) (by decide) (by decide) ?_
  refine s_dup f_1_168 rfl ?_
  refine s_initN (mc' := 0) (ms' := 0) (As := []) f_1_169 ca_3_72 rfl rfl (Nat.le_of_ble_eq_true rfl) (by decide) (by decide) ?_
  refine t_ini4 ?_
  refine P_aast (q := 0) f_1_172 (by decide) (by decide) (by decide) (by decide) (by decide) (by decide +kernel) ?_
  refine k_iinc (w := 1) f_1_173 rfl (by decide) (by decide) ?_
  refine aAt.sub [(0, .ref 9), (1, .int 1)] rfl ?_
  refine s_goto 154 f_1_176 (by decide) ?_
  refine s_iload_n f_1_154 rfl ?_
  refine k_bipush (v := 20) f_1_155 (by decide) ?_
  refine s_icmp_ge 179 f_1_157 (by decide) (fun c => absurd c (by decide)) (fun _ => ?_)
  refine s_aload_n f_1_160 rfl ?_
  refine P_getR (q := 12) f_1_161 fd_3_25 (by decide) (by decide) (by decide) (by decide +kernel) ?_
  refine s_iload_n f_1_164 rfl ?_
  refine P_new (N := 40) (n := 10) f_1_165 nc_3_23 (by decide) ⟨_, rfl, rfl⟩ (by decide +kernel) (by decide) (by decide) ?_
  refine s_dup f_1_168 rfl ?_
  refine s_initN (mc' := 0) (ms' := 0) (As := []) f_1_169 ca_3_72 rfl rfl (Nat.le_of_ble_eq_true rfl) (by decide) (by decide) ?_
  refine t_ini4 ?_
  refine P_aast (q := 1) f_1_172 (by decide) (by decide) (by decide) (by decide) (by decide) (by decide +kernel) ?_
  refine k_iinc (w := 1) f_1_173 rfl (by decide) (by decide) ?_
  refine aAt.sub [(0, .ref 9), (1, .int 2)] rfl ?_
  refine s_goto 154 f_1_176 (by decide) ?_
  refine s_iload_n f_1_154 rfl ?_
  refine k_bipush (v := 20) f_1_155 (by decide) ?_
  refine s_icmp_ge 179 f_1_157 (by decide) (fun c => absurd c (by decide)) (fun _ => ?_)
  refine s_aload_n f_1_160 rfl ?_
  refine P_getR (q := 12) f_1_161 fd_3_25 (by decide) (by decide) (by decide) (by decide +kernel) ?_
  refine s_iload_n f_1_164 rfl ?_
  refine P_new (N := 41) (n := 10) f_1_165 nc_3_23 (by decide) ⟨_, rfl, rfl⟩ (by decide +kernel) (by decide) (by decide) ?_
  refine s_dup f_1_168 rfl ?_
  refine s_initN (mc' := 0) (ms' := 0) (As := []) f_1_169 ca_3_72 rfl rfl (Nat.le_of_ble_eq_true rfl) (by decide) (by decide) ?_
  refine t_ini4 ?_
  refine P_aast (q := 2) f_1_172 (by decide) (by decide) (by decide) (by decide) (by decide) (by decide +kernel) ?_
  refine k_iinc (w := 1) f_1_173 rfl (by decide) (by decide) ?_
  refine aAt.sub [(0, .ref 9), (1, .int 3)] rfl ?_
  refine s_goto 154 f_1_176 (by decide) ?_
  refine s_iload_n f_1_154 rfl ?_
  refine k_bipush (v := 20) f_1_155 (by decide) ?_
  refine s_icmp_ge 179 f_1_157 (by decide) (fun c => absurd c (by decide)) (fun _ => ?_)
  refine s_aload_n f_1_160 rfl ?_
  refine P_getR (q := 12) f_1_161 fd_3_25 (by decide) (by decide) (by decide) (by decide +kernel) ?_
  refine s_iload_n f_1_164 rfl ?_
  refine P_new (N := 42) (n := 10) f_1_165 nc_3_23 (by decide) ⟨_, rfl, rfl⟩ (by decide +kernel) (by decide) (by decide) ?_
  refine s_dup f_1_168 rfl ?_
  refine s_initN (mc' := 0) (ms' := 0) (As := []) f_1_169 ca_3_72 rfl rfl (Nat.le_of_ble_eq_true rfl) (by decide) (by decide) ?_
  refine t_ini4 ?_
  refine P_aast (q := 3) f_1_172 (by decide) (by decide) (by decide) (by decide) (by decide) (by decide +kernel) ?_
  refine k_iinc (w := 1) f_1_173 rfl (by decide) (by decide) ?_
  refine aAt.sub [(0, .ref 9), (1, .int 4)] rfl ?_
  refine s_goto 154 f_1_176 (by decide) ?_
  refine s_iload_n f_1_154 rfl ?_
  refine k_bipush (v := 20) f_1_155 (by decide) ?_
  refine s_icmp_ge 179 f_1_157 (by decide) (fun c => absurd c (by decide)) (fun _ => ?_)
  refine s_aload_n f_1_160 rfl ?_
  refine P_getR (q := 12) f_1_161 fd_3_25 (by decide) (by decide) (by decide) (by decide +kernel) ?_
  refine s_iload_n f_1_164 rfl ?_
  refine P_new (N := 43) (n := 10) f_1_165 nc_3_23 (by decide) ⟨_, rfl, rfl⟩ (by decide +kernel) (by decide) (by decide) ?_
  refine s_dup f_1_168 rfl ?_
  refine s_initN (mc' := 0) (ms' := 0) (As := []) f_1_169 ca_3_72 rfl rfl (Nat.le_of_ble_eq_true rfl) (by decide) (by decide) ?_
  refine t_ini4 ?_
  refine P_aast (q := 4) f_1_172 (by decide) (by decide) (by decide) (by decide) (by decide) (by decide +kernel) ?_
  refine k_iinc (w := 1) f_1_173 rfl (by decide) (by decide) ?_
  refine aAt.sub [(0, .ref 9), (1, .int 5)] rfl ?_
  refine s_goto 154 f_1_176 (by decide) ?_
  refine s_iload_n f_1_154 rfl ?_
  refine k_bipush (v := 20) f_1_155 (by decide) ?_
  refine s_icmp_ge 179 f_1_157 (by decide) (fun c => absurd c (by decide)) (fun _ => ?_)
  refine s_aload_n f_1_160 rfl ?_
  refine P_getR (q := 12) f_1_161 fd_3_25 (by decide) (by decide) (by decide) (by decide +kernel) ?_
  refine s_iload_n f_1_164 rfl ?_
  refine P_new (N := 44) (n := 10) f_1_165 nc_3_23 (by decide) ⟨_, rfl, rfl⟩ (by decide +kernel) (by decide) (by decide) ?_
  refine s_dup f_1_168 rfl ?_
  refine s_initN (mc' := 0) (ms' := 0) (As := []) f_1_169 ca_3_72 rfl rfl (Nat.le_of_ble_eq_true rfl) (by decide) (by decide) ?_
  refine t_ini4 ?_
  refine P_aast (q := 5) f_1_172 (by decide) (by decide) (by decide) (by decide) (by decide) (by decide +kernel) ?_
  refine k_iinc (w := 1) f_1_173 rfl (by decide) (by decide) ?_
  refine aAt.sub [(0, .ref 9), (1, .int 6)] rfl ?_
  refine s_goto 154 f_1_176 (by decide) ?_
  refine s_iload_n f_1_154 rfl ?_
  refine k_bipush (v := 20) f_1_155 (by decide) ?_
  refine s_icmp_ge 179 f_1_157 (by decide) (fun c => absurd c (by decide)) (fun _ => ?_)
  refine s_aload_n f_1_160 rfl ?_
  refine P_getR (q := 12) f_1_161 fd_3_25 (by decide) (by decide) (by decide) (by decide +kernel) ?_
  refine s_iload_n f_1_164 rfl ?_
  refine P_new (N := 45) (n := 10) f_1_165 nc_3_23 (by decide) ⟨_, rfl, rfl⟩ (by decide +kernel) (by decide) (by decide) ?_
  refine s_dup f_1_168 rfl ?_
  refine s_initN (mc' := 0) (ms' := 0) (As := []) f_1_169 ca_3_72 rfl rfl (Nat.le_of_ble_eq_true rfl) (by decide) (by decide) ?_
  refine t_ini4 ?_
  refine P_aast (q := 6) f_1_172 (by decide) (by decide) (by decide) (by decide) (by decide) (by decide +kernel) ?_
  refine k_iinc (w := 1) f_1_173 rfl (by decide) (by decide) ?_
  refine aAt.sub [(0, .ref 9), (1, .int 7)] rfl ?_
  refine s_goto 154 f_1_176 (by decide) ?_
  refine s_iload_n f_1_154 rfl ?_
  refine k_bipush (v := 20) f_1_155 (by decide) ?_
  refine s_icmp_ge 179 f_1_157 (by decide) (fun c => absurd c (by decide)) (fun _ => ?_)
  refine s_aload_n f_1_160 rfl ?_
  refine P_getR (q := 12) f_1_161 fd_3_25 (by decide) (by decide) (by decide) (by decide +kernel) ?_
  refine s_iload_n f_1_164 rfl ?_
  refine P_new (N := 46) (n := 10) f_1_165 nc_3_23 (by decide) ⟨_, rfl, rfl⟩ (by decide +kernel) (by decide) (by decide) ?_
  refine s_dup f_1_168 rfl ?_
  refine s_initN (mc' := 0) (ms' := 0) (As := []) f_1_169 ca_3_72 rfl rfl (Nat.le_of_ble_eq_true rfl) (by decide) (by decide) ?_
  refine t_ini4 ?_
  refine P_aast (q := 7) f_1_172 (by decide) (by decide) (by decide) (by decide) (by decide) (by decide +kernel) ?_
  refine k_iinc (w := 1) f_1_173 rfl (by decide) (by decide) ?_
  refine aAt.sub [(0, .ref 9), (1, .int 8)] rfl ?_
  refine s_goto 154 f_1_176 (by decide) ?_
  refine s_iload_n f_1_154 rfl ?_
  refine k_bipush (v := 20) f_1_155 (by decide) ?_
  refine s_icmp_ge 179 f_1_157 (by decide) (fun c => absurd c (by decide)) (fun _ => ?_)
  refine s_aload_n f_1_160 rfl ?_
  refine P_getR (q := 12) f_1_161 fd_3_25 (by decide) (by decide) (by decide) (by decide +kernel) ?_
  refine s_iload_n f_1_164 rfl ?_
  refine P_new (N := 47) (n := 10) f_1_165 nc_3_23 (by decide) ⟨_, rfl, rfl⟩ (by decide +kernel) (by decide) (by decide) ?_
  refine s_dup f_1_168 rfl ?_
  refine s_initN (mc' := 0) (ms' := 0) (As := []) f_1_169 ca_3_72 rfl rfl (Nat.le_of_ble_eq_true rfl) (by decide) (by decide) ?_
  refine t_ini4 ?_
  refine P_aast (q := 8) f_1_172 (by decide) (by decide) (by decide) (by decide) (by decide) (by decide +kernel) ?_
  refine k_iinc (w := 1) f_1_173 rfl (by decide) (by decide) ?_
  refine aAt.sub [(0, .ref 9), (1, .int 9)] rfl ?_
  refine s_goto 154 f_1_176 (by decide) ?_
  refine s_iload_n f_1_154 rfl ?_
  refine k_bipush (v := 20) f_1_155 (by decide) ?_
  refine s_icmp_ge 179 f_1_157 (by decide) (fun c => absurd c (by decide)) (fun _ => ?_)
  refine s_aload_n f_1_160 rfl ?_
  refine P_getR (q := 12) f_1_161 fd_3_25 (by decide) (by decide) (by decide) (by decide +kernel) ?_
  refine s_iload_n f_1_164 rfl ?_
  refine P_new (N := 48) (n := 10) f_1_165 nc_3_23 (by decide) ⟨_, rfl, rfl⟩ (by decide +kernel) (by decide) (by decide) ?_
  refine s_dup f_1_168 rfl ?_
  refine s_initN (mc' := 0) (ms' := 0) (As := []) f_1_169 ca_3_72 rfl rfl (Nat.le_of_ble_eq_true rfl) (by decide) (by decide) ?_
  refine t_ini4 ?_
  refine P_aast (q := 9) f_1_172 (by decide) (by decide) (by decide) (by decide) (by decide) (by decide +kernel) ?_
  refine k_iinc (w := 1) f_1_173 rfl (by decide) (by decide) ?_
  refine aAt.sub [(0, .ref 9), (1, .int 10)] rfl ?_
  refine s_goto 154 f_1_176 (by decide) ?_
  refine s_iload_n f_1_154 rfl ?_
  refine k_bipush (v := 20) f_1_155 (by decide) ?_
  refine s_icmp_ge 179 f_1_157 (by decide) (fun c => absurd c (by decide)) (fun _ => ?_)
  refine s_aload_n f_1_160 rfl ?_
  refine P_getR (q := 12) f_1_161 fd_3_25 (by decide) (by decide) (by decide) (by decide +kernel) ?_
  refine s_iload_n f_1_164 rfl ?_
  refine P_new (N := 49) (n := 10) f_1_165 nc_3_23 (by decide) ⟨_, rfl, rfl⟩ (by decide +kernel) (by decide) (by decide) ?_
  refine s_dup f_1_168 rfl ?_
  refine s_initN (mc' := 0) (ms' := 0) (As := []) f_1_169 ca_3_72 rfl rfl (Nat.le_of_ble_eq_true rfl) (by decide) (by decide) ?_
  refine t_ini4 ?_
  refine P_aast (q := 10) f_1_172 (by decide) (by decide) (by decide) (by decide) (by decide) (by decide +kernel) ?_
  refine k_iinc (w := 1) f_1_173 rfl (by decide) (by decide) ?_
  refine aAt.sub [(0, .ref 9), (1, .int 11)] rfl ?_
  refine s_goto 154 f_1_176 (by decide) ?_
  refine s_iload_n f_1_154 rfl ?_
  refine k_bipush (v := 20) f_1_155 (by decide) ?_
  refine s_icmp_ge 179 f_1_157 (by decide) (fun c => absurd c (by decide)) (fun _ => ?_)
  refine s_aload_n f_1_160 rfl ?_
  refine P_getR (q := 12) f_1_161 fd_3_25 (by decide) (by decide) (by decide) (by decide +kernel) ?_
  refine s_iload_n f_1_164 rfl ?_
  refine P_new (N := 50) (n := 10) f_1_165 nc_3_23 (by decide) ⟨_, rfl, rfl⟩ (by decide +kernel) (by decide) (by decide) ?_
  refine s_dup f_1_168 rfl ?_
  refine s_initN (mc' := 0) (ms' := 0) (As := []) f_1_169 ca_3_72 rfl rfl (Nat.le_of_ble_eq_true rfl) (by decide) (by decide) ?_
  refine t_ini4 ?_
  refine P_aast (q := 11) f_1_172 (by decide) (by decide) (by decide) (by decide) (by decide) (by decide +kernel) ?_
  refine k_iinc (w := 1) f_1_173 rfl (by decide) (by decide) ?_
  refine aAt.sub [(0, .ref 9), (1, .int 12)] rfl ?_
  refine s_goto 154 f_1_176 (by decide) ?_
  refine s_iload_n f_1_154 rfl ?_
  refine k_bipush (v := 20) f_1_155 (by decide) ?_
  refine s_icmp_ge 179 f_1_157 (by decide) (fun c => absurd c (by decide)) (fun _ => ?_)
  refine s_aload_n f_1_160 rfl ?_
  refine P_getR (q := 12) f_1_161 fd_3_25 (by decide) (by decide) (by decide) (by decide +kernel) ?_
  refine s_iload_n f_1_164 rfl ?_
  refine P_new (N := 51) (n := 10) f_1_165 nc_3_23 (by decide) ⟨_, rfl, rfl⟩ (by decide +kernel) (by decide) (by decide) ?_
  refine s_dup f_1_168 rfl ?_
  refine s_initN (mc' := 0) (ms' := 0) (As := []) f_1_169 ca_3_72 rfl rfl (Nat.le_of_ble_eq_true rfl) (by decide) (by decide) ?_
  refine t_ini4 ?_
  refine P_aast (q := 12) f_1_172 (by decide) (by decide) (by decide) (by decide) (by decide) (by decide +kernel) ?_
  refine k_iinc (w := 1) f_1_173 rfl (by decide) (by decide) ?_
  refine aAt.sub [(0, .ref 9), (1, .int 13)] rfl ?_
  refine s_goto 154 f_1_176 (by decide) ?_
  refine s_iload_n f_1_154 rfl ?_
  refine k_bipush (v := 20) f_1_155 (by decide) ?_
  refine s_icmp_ge 179 f_1_157 (by decide) (fun c => absurd c (by decide)) (fun _ => ?_)
  refine s_aload_n f_1_160 rfl ?_
  refine P_getR (q := 12) f_1_161 fd_3_25 (by decide) (by decide) (by decide) (by decide +kernel) ?_
  refine s_iload_n f_1_164 rfl ?_
  refine P_new (N := 52) (n := 10) f_1_165 nc_3_23 (by decide) ⟨_, rfl, rfl⟩ (by decide +kernel) (by decide) (by decide) ?_
  refine s_dup f_1_168 rfl ?_
  refine s_initN (mc' := 0) (ms' := 0) (As := []) f_1_169 ca_3_72 rfl rfl (Nat.le_of_ble_eq_true rfl) (by decide) (by decide) ?_
  refine t_ini4 ?_
  refine P_aast (q := 13) f_1_172 (by decide) (by decide) (by decide) (by decide) (by decide) (by decide +kernel) ?_
  refine k_iinc (w := 1) f_1_173 rfl (by decide) (by decide) ?_
  refine aAt.sub [(0, .ref 9), (1, .int 14)] rfl ?_
  refine s_goto 154 f_1_176 (by decide) ?_
  refine s_iload_n f_1_154 rfl ?_
  refine k_bipush (v := 20) f_1_155 (by decide) ?_
  refine s_icmp_ge 179 f_1_157 (by decide) (fun c => absurd c (by decide)) (fun _ => ?_)
  refine s_aload_n f_1_160 rfl ?_
  refine P_getR (q := 12) f_1_161 fd_3_25 (by decide) (by decide) (by decide) (by decide +kernel) ?_
  refine s_iload_n f_1_164 rfl ?_
  refine P_new (N := 53) (n := 10) f_1_165 nc_3_23 (by decide) ⟨_, rfl, rfl⟩ (by decide +kernel) (by decide) (by decide) ?_
  refine s_dup f_1_168 rfl ?_
  refine s_initN (mc' := 0) (ms' := 0) (As := []) f_1_169 ca_3_72 rfl rfl (Nat.le_of_ble_eq_true rfl) (by decide) (by decide) ?_
  refine t_ini4 ?_
  refine P_aast (q := 14) f_1_172 (by decide) (by decide) (by decide) (by decide) (by decide) (by decide +kernel) ?_
  refine k_iinc (w := 1) f_1_173 rfl (by decide) (by decide) ?_
  refine aAt.sub [(0, .ref 9), (1, .int 15)] rfl ?_
  refine s_goto 154 f_1_176 (by decide) ?_
  refine s_iload_n f_1_154 rfl ?_
  refine k_bipush (v := 20) f_1_155 (by decide) ?_
  refine s_icmp_ge 179 f_1_157 (by decide) (fun c => absurd c (by decide)) (fun _ => ?_)
  refine s_aload_n f_1_160 rfl ?_
  refine P_getR (q := 12) f_1_161 fd_3_25 (by decide) (by decide) (by decide) (by decide +kernel) ?_
  refine s_iload_n f_1_164 rfl ?_
  refine P_new (N := 54) (n := 10) f_1_165 nc_3_23 (by decide) ⟨_, rfl, rfl⟩ (by decide +kernel) (by decide) (by decide) ?_
  refine s_dup f_1_168 rfl ?_
  refine s_initN (mc' := 0) (ms' := 0) (As := []) f_1_169 ca_3_72 rfl rfl (Nat.le_of_ble_eq_true rfl) (by decide) (by decide) ?_
  refine t_ini4 ?_
  refine P_aast (q := 15) f_1_172 (by decide) (by decide) (by decide) (by decide) (by decide) (by decide +kernel) ?_
  refine k_iinc (w := 1) f_1_173 rfl (by decide) (by decide) ?_
  refine aAt.sub [(0, .ref 9), (1, .int 16)] rfl ?_
  refine s_goto 154 f_1_176 (by decide) ?_
  refine s_iload_n f_1_154 rfl ?_
  refine k_bipush (v := 20) f_1_155 (by decide) ?_
  refine s_icmp_ge 179 f_1_157 (by decide) (fun c => absurd c (by decide)) (fun _ => ?_)
  refine s_aload_n f_1_160 rfl ?_
  refine P_getR (q := 12) f_1_161 fd_3_25 (by decide) (by decide) (by decide) (by decide +kernel) ?_
  refine s_iload_n f_1_164 rfl ?_
  refine P_new (N := 55) (n := 10) f_1_165 nc_3_23 (by decide) ⟨_, rfl, rfl⟩ (by decide +kernel) (by decide) (by decide) ?_
  refine s_dup f_1_168 rfl ?_
  refine s_initN (mc' := 0) (ms' := 0) (As := []) f_1_169 ca_3_72 rfl rfl (Nat.le_of_ble_eq_true rfl) (by decide) (by decide) ?_
  refine t_ini4 ?_
  refine P_aast (q := 16) f_1_172 (by decide) (by decide) (by decide) (by decide) (by decide) (by decide +kernel) ?_
  refine k_iinc (w := 1) f_1_173 rfl (by decide) (by decide) ?_
  refine aAt.sub [(0, .ref 9), (1, .int 17)] rfl ?_
  refine s_goto 154 f_1_176 (by decide) ?_
  refine s_iload_n f_1_154 rfl ?_
  refine k_bipush (v := 20) f_1_155 (by decide) ?_
  refine s_icmp_ge 179 f_1_157 (by decide) (fun c => absurd c (by decide)) (fun _ => ?_)
  refine s_aload_n f_1_160 rfl ?_
  refine P_getR (q := 12) f_1_161 fd_3_25 (by decide) (by decide) (by decide) (by decide +kernel) ?_
  refine s_iload_n f_1_164 rfl ?_
  refine P_new (N := 56) (n := 10) f_1_165 nc_3_23 (by decide) ⟨_, rfl, rfl⟩ (by decide +kernel) (by decide) (by decide) ?_
  refine s_dup f_1_168 rfl ?_
  refine s_initN (mc' := 0) (ms' := 0) (As := []) f_1_169 ca_3_72 rfl rfl (Nat.le_of_ble_eq_true rfl) (by decide) (by decide) ?_
  refine t_ini4 ?_
  refine P_aast (q := 17) f_1_172 (by decide) (by decide) (by decide) (by decide) (by decide) (by decide +kernel) ?_
  refine k_iinc (w := 1) f_1_173 rfl (by decide) (by decide) ?_
  refine aAt.sub [(0, .ref 9), (1, .int 18)] rfl ?_
  refine s_goto 154 f_1_176 (by decide) ?_
  refine s_iload_n f_1_154 rfl ?_
  refine k_bipush (v := 20) f_1_155 (by decide) ?_
  refine s_icmp_ge 179 f_1_157 (by decide) (fun c => absurd c (by decide)) (fun _ => ?_)
  refine s_aload_n f_1_160 rfl ?_
  refine P_getR (q := 12) f_1_161 fd_3_25 (by decide) (by decide) (by decide) (by decide +kernel) ?_
  refine s_iload_n f_1_164 rfl ?_
  refine P_new (N := 57) (n := 10) f_1_165 nc_3_23 (by decide) ⟨_, rfl, rfl⟩ (by decide +kernel) (by decide) (by decide) ?_
  refine s_dup f_1_168 rfl ?_
  refine s_initN (mc' := 0) (ms' := 0) (As := []) f_1_169 ca_3_72 rfl rfl (Nat.le_of_ble_eq_true rfl) (by decide) (by decide) ?_
  refine t_ini4 ?_
  refine P_aast (q := 18) f_1_172 (by decide) (by decide) (by decide) (by decide) (by decide) (by decide +kernel) ?_
  refine k_iinc (w := 1) f_1_173 rfl (by decide) (by decide) ?_
  refine aAt.sub [(0, .ref 9), (1, .int 19)] rfl ?_
  refine s_goto 154 f_1_176 (by decide) ?_
  refine s_iload_n f_1_154 rfl ?_
  refine k_bipush (v := 20) f_1_155 (by decide) ?_
  refine s_icmp_ge 179 f_1_157 (by decide) (fun c => absurd c (by decide)) (fun _ => ?_)
  refine s_aload_n f_1_160 rfl ?_
  refine P_getR (q := 12) f_1_161 fd_3_25 (by decide) (by decide) (by decide) (by decide +kernel) ?_
  refine s_iload_n f_1_164 rfl ?_
  refine P_new (N := 58) (n := 10) f_1_165 nc_3_23 (by decide) ⟨_, rfl, rfl⟩ (by decide +kernel) (by decide) (by decide) ?_
  refine s_dup f_1_168 rfl ?_
  refine s_initN (mc' := 0) (ms' := 0) (As := []) f_1_169 ca_3_72 rfl rfl (Nat.le_of_ble_eq_true rfl) (by decide) (by decide) ?_
  refine t_ini4 ?_
  refine P_aast (q := 19) f_1_172 (by decide) (by decide) (by decide) (by decide) (by decide) (by decide +kernel) ?_
  refine k_iinc (w := 1) f_1_173 rfl (by decide) (by decide) ?_
  refine aAt.sub [(0, .ref 9), (1, .int 20)] rfl ?_
  refine s_goto 154 f_1_176 (by decide) ?_
  refine s_iload_n f_1_154 rfl ?_
  refine k_bipush (v := 20) f_1_155 (by decide) ?_
  refine s_icmp_ge 179 f_1_157 (by decide) (fun _ => ?_) (fun c => absurd (by decide) c)
  refine k_iconst (v := 0) f_1_179 (by decide) ?_
  refine s_istore_n f_1_180 (by decide) ?_
  refine aAt.sub [(0, .ref 9), (1, .int 0)] rfl ?_
  refine s_iload_n f_1_181 rfl ?_
  refine k_bipush (v := 12) f_1_182 (by decide) ?_
  refine s_icmp_ge 206 f_1_184 (by decide) (fun c => absurd c (by decide)) (fun _ => ?_)
  refine s_aload_n f_1_187 rfl ?_
  refine P_getR (q := 13) f_1_188 fd_3_31 (by decide) (by decide) (by decide) (by decide +kernel) ?_
  refine s_iload_n f_1_191 rfl ?_
  refine P_new (N := 59) (n := 3) f_1_192 nc_3_29 (by decide) ⟨_, rfl, rfl⟩ (by decide +kernel) (by decide) (by decide) ?_
  refine s_dup f_1_195 rfl ?_
  refine s_initN (mc' := 0) (ms' := 0) (As := []) f_1_196 ca_3_73 rfl rfl (Nat.le_of_ble_eq_true rfl) (by decide) (by decide) ?_
  refine t_ini5 (x := 59) (by decide) (by decide) (by decide) ?_
  refine P_aast (q := 0) f_1_199 (by decide) (by decide) (by decide) (by decide) (by decide) (by decide +kernel) ?_
  refine k_iinc (w := 1) f_1_200 rfl (by decide) (by decide) ?_
  refine aAt.sub [(0, .ref 9), (1, .int 1)] rfl ?_
  refine s_goto 181 f_1_203 (by decide) ?_
  refine s_iload_n f_1_181 rfl ?_
  refine k_bipush (v := 12) f_1_182 (by decide) ?_
  refine s_icmp_ge 206 f_1_184 (by decide) (fun c => absurd c (by decide)) (fun _ => ?_)
  refine s_aload_n f_1_187 rfl ?_
  refine P_getR (q := 13) f_1_188 fd_3_31 (by decide) (by decide) (by decide) (by decide +kernel) ?_
  refine s_iload_n f_1_191 rfl ?_
  refine P_new (N := 60) (n := 3) f_1_192 nc_3_29 (by decide) ⟨_, rfl, rfl⟩ (by decide +kernel) (by decide) (by decide) ?_
  refine s_dup f_1_195 rfl ?_
  refine s_initN (mc' := 0) (ms' := 0) (As := []) f_1_196 ca_3_73 rfl rfl (Nat.le_of_ble_eq_true rfl) (by decide) (by decide) ?_
  refine t_ini5 (x := 60) (by decide) (by decide) (by decide) ?_
  refine P_aast (q := 1) f_1_199 (by decide) (by decide) (by decide) (by decide) (by decide) (by decide +kernel) ?_
  refine k_iinc (w := 1) f_1_200 rfl (by decide) (by decide) ?_
  refine aAt.sub [(0, .ref 9), (1, .int 2)] rfl ?_
  refine s_goto 181 f_1_203 (by decide) ?_
  refine s_iload_n f_1_181 rfl ?_
  refine k_bipush (v := 12) f_1_182 (by decide) ?_
  refine s_icmp_ge 206 f_1_184 (by decide) (fun c => absurd c (by decide)) (fun _ => ?_)
  refine s_aload_n f_1_187 rfl ?_
  refine P_getR (q := 13) f_1_188 fd_3_31 (by decide) (by decide) (by decide) (by decide +kernel) ?_
  refine s_iload_n f_1_191 rfl ?_
  refine P_new (N := 61) (n := 3) f_1_192 nc_3_29 (by decide) ⟨_, rfl, rfl⟩ (by decide +kernel) (by decide) (by decide) ?_
  refine s_dup f_1_195 rfl ?_
  refine s_initN (mc' := 0) (ms' := 0) (As := []) f_1_196 ca_3_73 rfl rfl (Nat.le_of_ble_eq_true rfl) (by decide) (by decide) ?_
  refine t_ini5 (x := 61) (by decide) (by decide) (by decide) ?_
  refine P_aast (q := 2) f_1_199 (by decide) (by decide) (by decide) (by decide) (by decide) (by decide +kernel) ?_
  refine k_iinc (w := 1) f_1_200 rfl (by decide) (by decide) ?_
  refine aAt.sub [(0, .ref 9), (1, .int 3)] rfl ?_
  refine s_goto 181 f_1_203 (by decide) ?_
  refine s_iload_n f_1_181 rfl ?_
  refine k_bipush (v := 12) f_1_182 (by decide) ?_
  refine s_icmp_ge 206 f_1_184 (by decide) (fun c => absurd c (by decide)) (fun _ => ?_)
  refine s_aload_n f_1_187 rfl ?_
  refine P_getR (q := 13) f_1_188 fd_3_31 (by decide) (by decide) (by decide) (by decide +kernel) ?_
  refine s_iload_n f_1_191 rfl ?_
  refine P_new (N := 62) (n := 3) f_1_192 nc_3_29 (by decide) ⟨_, rfl, rfl⟩ (by decide +kernel) (by decide) (by decide) ?_
  refine s_dup f_1_195 rfl ?_
  refine s_initN (mc' := 0) (ms' := 0) (As := []) f_1_196 ca_3_73 rfl rfl (Nat.le_of_ble_eq_true rfl) (by decide) (by decide) ?_
  refine t_ini5 (x := 62) (by decide) (by decide) (by decide) ?_
  refine P_aast (q := 3) f_1_199 (by decide) (by decide) (by decide) (by decide) (by decide) (by decide +kernel) ?_
  refine k_iinc (w := 1) f_1_200 rfl (by decide) (by decide) ?_
  refine aAt.sub [(0, .ref 9), (1, .int 4)] rfl ?_
  refine s_goto 181 f_1_203 (by decide) ?_
  refine s_iload_n f_1_181 rfl ?_
  refine k_bipush (v := 12) f_1_182 (by decide) ?_
  refine s_icmp_ge 206 f_1_184 (by decide) (fun c => absurd c (by decide)) (fun _ => ?_)
  refine s_aload_n f_1_187 rfl ?_
  refine P_getR (q := 13) f_1_188 fd_3_31 (by decide) (by decide) (by decide) (by decide +kernel) ?_
  refine s_iload_n f_1_191 rfl ?_
  refine P_new (N := 63) (n := 3) f_1_192 nc_3_29 (by decide) ⟨_, rfl, rfl⟩ (by decide +kernel) (by decide) (by decide) ?_
  refine s_dup f_1_195 rfl ?_
  refine s_initN (mc' := 0) (ms' := 0) (As := []) f_1_196 ca_3_73 rfl rfl (Nat.le_of_ble_eq_true rfl) (by decide) (by decide) ?_
  refine t_ini5 (x := 63) (by decide) (by decide) (by decide) ?_
  refine P_aast (q := 4) f_1_199 (by decide) (by decide) (by decide) (by decide) (by decide) (by decide +kernel) ?_
  refine k_iinc (w := 1) f_1_200 rfl (by decide) (by decide) ?_
  refine aAt.sub [(0, .ref 9), (1, .int 5)] rfl ?_
  refine s_goto 181 f_1_203 (by decide) ?_
  refine s_iload_n f_1_181 rfl ?_
  refine k_bipush (v := 12) f_1_182 (by decide) ?_
  refine s_icmp_ge 206 f_1_184 (by decide) (fun c => absurd c (by decide)) (fun _ => ?_)
  refine s_aload_n f_1_187 rfl ?_
  refine P_getR (q := 13) f_1_188 fd_3_31 (by decide) (by decide) (by decide) (by decide +kernel) ?_
  refine s_iload_n f_1_191 rfl ?_
  refine P_new (N := 64) (n := 3) f_1_192 nc_3_29 (by decide) ⟨_, rfl, rfl⟩ (by decide +kernel) (by decide) (by decide) ?_
  refine s_dup f_1_195 rfl ?_
  refine s_initN (mc' := 0) (ms' := 0) (As := []) f_1_196 ca_3_73 rfl rfl (Nat.le_of_ble_eq_true rfl) (by decide) (by decide) ?_
  refine t_ini5 (x := 64) (by decide) (by decide) (by decide) ?_
  refine P_aast (q := 5) f_1_199 (by decide) (by decide) (by decide) (by decide) (by decide) (by decide +kernel) ?_
  refine k_iinc (w := 1) f_1_200 rfl (by decide) (by decide) ?_
  refine aAt.sub [(0, .ref 9), (1, .int 6)] rfl ?_
  refine s_goto 181 f_1_203 (by decide) ?_
  refine s_iload_n f_1_181 rfl ?_
  refine k_bipush (v := 12) f_1_182 (by decide) ?_
  refine s_icmp_ge 206 f_1_184 (by decide) (fun c => absurd c (by decide)) (fun _ => ?_)
  refine s_aload_n f_1_187 rfl ?_
  refine P_getR (q := 13) f_1_188 fd_3_31 (by decide) (by decide) (by decide) (by decide +kernel) ?_
  refine s_iload_n f_1_191 rfl ?_
  refine P_new (N := 65) (n := 3) f_1_192 nc_3_29 (by decide) ⟨_, rfl, rfl⟩ (by decide +kernel) (by decide) (by decide) ?_
  refine s_dup f_1_195 rfl ?_
  refine s_initN (mc' := 0) (ms' := 0) (As := []) f_1_196 ca_3_73 rfl rfl (Nat.le_of_ble_eq_true rfl) (by decide) (by decide) ?_
  refine t_ini5 (x := 65) (by decide) (by decide) (by decide) ?_
  refine P_aast (q := 6) f_1_199 (by decide) (by decide) (by decide) (by decide) (by decide) (by decide +kernel) ?_
  refine k_iinc (w := 1) f_1_200 rfl (by decide) (by decide) ?_
  refine aAt.sub [(0, .ref 9), (1, .int 7)] rfl ?_
  refine s_goto 181 f_1_203 (by decide) ?_
  refine s_iload_n f_1_181 rfl ?_
  refine k_bipush (v := 12) f_1_182 (by decide) ?_
  refine s_icmp_ge 206 f_1_184 (by decide) (fun c => absurd c (by decide)) (fun _ => ?_)
  refine s_aload_n f_1_187 rfl ?_
  refine P_getR (q := 13) f_1_188 fd_3_31 (by decide) (by decide) (by decide) (by decide +kernel) ?_
  refine s_iload_n f_1_191 rfl ?_
  refine P_new (N := 66) (n := 3) f_1_192 nc_3_29 (by decide) ⟨_, rfl, rfl⟩ (by decide +kernel) (by decide) (by decide) ?_
  refine s_dup f_1_195 rfl ?_
  refine s_initN (mc' := 0) (ms' := 0) (As := []) f_1_196 ca_3_73 rfl rfl (Nat.le_of_ble_eq_true rfl) (by decide) (by decide) ?_
  refine t_ini5 (x := 66) (by decide) (by decide) (by decide) ?_
  refine P_aast (q := 7) f_1_199 (by decide) (by decide) (by decide) (by decide) (by decide) (by decide +kernel) ?_
  refine k_iinc (w := 1) f_1_200 rfl (by decide) (by decide) ?_
  refine aAt.sub [(0, .ref 9), (1, .int 8)] rfl ?_
  refine s_goto 181 f_1_203 (by decide) ?_
  refine s_iload_n f_1_181 rfl ?_
  refine k_bipush (v := 12) f_1_182 (by decide) ?_
  refine s_icmp_ge 206 f_1_184 (by decide) (fun c => absurd c (by decide)) (fun _ => ?_)
  refine s_aload_n f_1_187 rfl ?_
  refine P_getR (q := 13) f_1_188 fd_3_31 (by decide) (by decide) (by decide) (by decide +kernel) ?_
  refine s_iload_n f_1_191 rfl ?_
  refine P_new (N := 67) (n := 3) f_1_192 nc_3_29 (by decide) ⟨_, rfl, rfl⟩ (by decide +kernel) (by decide) (by decide) ?_
  refine s_dup f_1_195 rfl ?_
  refine s_initN (mc' := 0) (ms' := 0) (As := []) f_1_196 ca_3_73 rfl rfl (Nat.le_of_ble_eq_true rfl) (by decide) (by decide) ?_
  refine t_ini5 (x := 67) (by decide) (by decide) (by decide) ?_
  refine P_aast (q := 8) f_1_199 (by decide) (by decide) (by decide) (by decide) (by decide) (by decide +kernel) ?_
  refine k_iinc (w := 1) f_1_200 rfl (by decide) (by decide) ?_
  refine aAt.sub [(0, .ref 9), (1, .int 9)] rfl ?_
  refine s_goto 181 f_1_203 (by decide) ?_
  refine s_iload_n f_1_181 rfl ?_
  refine k_bipush (v := 12) f_1_182 (by decide) ?_
  refine s_icmp_ge 206 f_1_184 (by decide) (fun c => absurd c (by decide)) (fun _ => ?_)
  refine s_aload_n f_1_187 rfl ?_
  refine P_getR (q := 13) f_1_188 fd_3_31 (by decide) (by decide) (by decide) (by decide +kernel) ?_
  refine s_iload_n f_1_191 rfl ?_
  refine P_new (N := 68) (n := 3) f_1_192 nc_3_29 (by decide) ⟨_, rfl, rfl⟩ (by decide +kernel) (by decide) (by decide) ?_
  refine s_dup f_1_195 rfl ?_
  refine s_initN (mc' := 0) (ms' := 0) (As := []) f_1_196 ca_3_73 rfl rfl (Nat.le_of_ble_eq_true rfl) (by decide) (by decide) ?_
  refine t_ini5 (x := 68) (by decide) (by decide) (by decide) ?_
  refine P_aast (q := 9) f_1_199 (by decide) (by decide) (by decide) (by decide) (by decide) (by decide +kernel) ?_
  refine k_iinc (w := 1) f_1_200 rfl (by decide) (by decide) ?_
  refine aAt.sub [(0, .ref 9), (1, .int 10)] rfl ?_
  refine s_goto 181 f_1_203 (by decide) ?_
  refine s_iload_n f_1_181 rfl ?_
  refine k_bipush (v := 12) f_1_182 (by decide) ?_
  refine s_icmp_ge 206 f_1_184 (by decide) (fun c => absurd c (by decide)) (fun _ => ?_)
  refine s_aload_n f_1_187 rfl ?_
  refine P_getR (q := 13) f_1_188 fd_3_31 (by decide) (by decide) (by decide) (by decide +kernel) ?_
  refine s_iload_n f_1_191 rfl ?_
  refine P_new (N := 69) (n := 3) f_1_192 nc_3_29 (by decide) ⟨_, rfl, rfl⟩ (by decide +kernel) (by decide) (by decide) ?_
  refine s_dup f_1_195 rfl ?_
  refine s_initN (mc' := 0) (ms' := 0) (As := []) f_1_196 ca_3_73 rfl rfl (Nat.le_of_ble_eq_true rfl) (by decide) (by decide) ?_
  refine t_ini5 (x := 69) (by decide) (by decide) (by decide) ?_
  refine P_aast (q := 10) f_1_199 (by decide) (by decide) (by decide) (by decide) (by decide) (by decide +kernel) ?_
  refine k_iinc (w := 1) f_1_200 rfl (by decide) (by decide) ?_
  refine aAt.sub [(0, .ref 9), (1, .int 11)] rfl ?_
  refine s_goto 181 f_1_203 (by decide) ?_
  refine s_iload_n f_1_181 rfl ?_
  refine k_bipush (v := 12) f_1_182 (by decide) ?_
  refine s_icmp_ge 206 f_1_184 (by decide) (fun c => absurd c (by decide)) (fun _ => ?_)
  refine s_aload_n f_1_187 rfl ?_
  refine P_getR (q := 13) f_1_188 fd_3_31 (by decide) (by decide) (by decide) (by decide +kernel) ?_
  refine s_iload_n f_1_191 rfl ?_
  refine P_new (N := 70) (n := 3) f_1_192 nc_3_29 (by decide) ⟨_, rfl, rfl⟩ (by decide +kernel) (by decide) (by decide) ?_
  refine s_dup f_1_195 rfl ?_
  refine s_initN (mc' := 0) (ms' := 0) (As := []) f_1_196 ca_3_73 rfl rfl (Nat.le_of_ble_eq_true rfl) (by decide) (by decide) ?_
  refine t_ini5 (x := 70) (by decide) (by decide) (by decide) ?_
  refine P_aast (q := 11) f_1_199 (by decide) (by decide) (by decide) (by decide) (by decide) (by decide +kernel) ?_
  refine k_iinc (w := 1) f_1_200 rfl (by decide) (by decide) ?_
  refine aAt.sub [(0, .ref 9), (1, .int 12)] rfl ?_
  refine s_goto 181 f_1_203 (by decide) ?_
  refine s_iload_n f_1_181 rfl ?_
  refine k_bipush (v := 12) f_1_182 (by decide) ?_
  refine s_icmp_ge 206 f_1_184 (by decide) (fun _ => ?_) (fun c => absurd (by decide) c)
  exact s_return f_1_206 rfl hQ

theorem ct_1_71 {l : Launch} {G : aG} {d : Nat} {Q : Option Value → aHeap → Prop} {sl : Nat} {sx : Nat → Int32} (hQ : Q none (lay0 (old0 sl sx) 133 123 Z0)) : aCall l G (d + 2) 61 483 1 [.ref 71] (lay0 (old0 sl sx) 72 62 Z0) Q := by
  refine aCall.of (by decide) (Nat.le_of_ble_eq_true rfl) ?_
  refine aAt.sub [(0, .ref 71)] rfl ?_
  refine s_aload_n f_1_0 rfl ?_
  refine s_objinit f_1_1 ca_3_3 (Nat.le_of_ble_eq_true rfl) ?_
  refine s_aload_n f_1_4 rfl ?_
  refine k_bipush (v := 14) f_1_5 (by decide) ?_
  refine P_anew (N := 72) (n := 14) (ak := 30) f_1_7 (by decide +kernel) (by decide) (by decide) rfl (by decide) (by decide) (by decide +kernel) (by decide) (by decide) (by decide) (by decide) ?_
  refine P_putR f_1_10 fd_3_11 (by decide) (by decide) (by decide) (by decide) (by decide +kernel) (Or.inr ⟨_, rfl⟩) (Or.inr ⟨rfl, rfl⟩) ?_
  refine s_aload_n f_1_13 rfl ?_
  refine k_bipush (v := 8) f_1_14 (by decide) ?_
  refine P_anew (N := 73) (n := 8) (ak := 31) f_1_16 (by decide +kernel) (by decide) (by decide) rfl (by decide) (by decide) (by decide +kernel) (by decide) (by decide) (by decide) (by decide) ?_
  refine P_putR f_1_19 fd_3_19 (by decide) (by decide) (by decide) (by decide) (by decide +kernel) (Or.inr ⟨_, rfl⟩) (Or.inr ⟨rfl, rfl⟩) ?_
  refine s_aload_n f_1_22 rfl ?_
  refine k_bipush (v := 20) f_1_23 (by decide) ?_
  refine P_anew (N := 74) (n := 20) (ak := 32) f_1_25 (by decide +kernel) (by decide) (by decide) rfl (by decide) (by decide) (by decide +kernel) (by decide) (by decide) (by decide) (by decide) ?_
  refine P_putR f_1_28 fd_3_25 (by decide) (by decide) (by decide) (by decide) (by decide +kernel) (Or.inr ⟨_, rfl⟩) (Or.inr ⟨rfl, rfl⟩) ?_
  refine s_aload_n f_1_31 rfl ?_
  refine k_bipush (v := 12) f_1_32 (by decide) ?_
  refine P_anew (N := 75) (n := 12) (ak := 33) f_1_34 (by decide +kernel) (by decide) (by decide) rfl (by decide) (by decide) (by decide +kernel) (by decide) (by decide) (by decide) (by decide) ?_
  refine P_putR f_1_37 fd_3_31 (by decide) (by decide) (by decide) (by decide) (by decide +kernel) (Or.inr ⟨_, rfl⟩) (Or.inr ⟨rfl, rfl⟩) ?_
  refine s_aload_n f_1_40 rfl ?_
  refine k_iconst (v := 5) f_1_41 (by decide) ?_
  refine P_anew (N := 76) (n := 5) (ak := 34) f_1_42 (by decide +kernel) (by decide) (by decide) rfl (by decide) (by decide) (by decide +kernel) (by decide) (by decide) (by decide) (by decide) ?_
  refine P_putR f_1_45 fd_3_37 (by decide) (by decide) (by decide) (by decide) (by decide +kernel) (Or.inr ⟨_, rfl⟩) (Or.inr ⟨rfl, rfl⟩) ?_
  refine s_aload_n f_1_48 rfl ?_
  refine k_iconst (v := 2) f_1_49 (by decide) ?_
  refine P_newarr (N := 77) (n := 2) f_1_50 (by decide) (by decide) (by decide) (by decide) (fun _ => rfl) (by decide) (by decide) (by decide) ?_
  refine P_putR f_1_52 fd_3_41 (by decide) (by decide) (by decide) (by decide) (by decide +kernel) (Or.inr ⟨_, rfl⟩) (Or.inr ⟨rfl, rfl⟩) ?_
  refine s_aload_n f_1_55 rfl ?_
  refine k_bipush (v := 14) f_1_56 (by decide) ?_
  refine P_newarr (N := 78) (n := 14) f_1_58 (by decide) (by decide) (by decide) (by decide) (fun _ => rfl) (by decide) (by decide) (by decide) ?_
  refine P_putR f_1_60 fd_3_45 (by decide) (by decide) (by decide) (by decide) (by decide +kernel) (Or.inr ⟨_, rfl⟩) (Or.inr ⟨rfl, rfl⟩) ?_
  refine s_aload_n f_1_63 rfl ?_
  refine k_iconst (v := 0) f_1_64 (by decide) ?_
  refine P_put0 f_1_65 fd_3_48 (by decide) (by decide) (by decide) rfl (Or.inl rfl) (Or.inr ⟨rfl, rfl⟩) ?_
  refine s_aload_n f_1_68 rfl ?_
  refine k_iconst (v := 0) f_1_69 (by decide) ?_
  refine P_put0 f_1_70 fd_3_52 (by decide) (by decide) (by decide) rfl (Or.inl rfl) (Or.inr ⟨rfl, rfl⟩) ?_
  refine s_aload_n f_1_73 rfl ?_
  refine k_iconst (v := 0) f_1_74 (by decide) ?_
  refine P_put0 f_1_75 fd_3_55 (by decide) (by decide) (by decide) rfl (Or.inl rfl) (Or.inr ⟨rfl, rfl⟩) ?_
  refine s_aload_n f_1_78 rfl ?_
  refine k_iconst (v := 0) f_1_79 (by decide) ?_
  refine P_put0 f_1_80 fd_3_58 (by decide) (by decide) (by decide) rfl (Or.inl rfl) (Or.inr ⟨rfl, rfl⟩) ?_
  refine s_aload_n f_1_83 rfl ?_
  refine k_iconst (v := 0) f_1_84 (by decide) ?_
  refine P_put0 f_1_85 fd_3_61 (by decide) (by decide) (by decide) rfl (Or.inl rfl) (Or.inr ⟨rfl, rfl⟩) ?_
  refine s_aload_n f_1_88 rfl ?_
  refine k_iconst (v := 0) f_1_89 (by decide) ?_
  refine P_put0 f_1_90 fd_3_64 (by decide) (by decide) (by decide) rfl (Or.inl rfl) (Or.inr ⟨rfl, rfl⟩) ?_
  refine s_aload_n f_1_93 rfl ?_
  refine k_iconst (v := 0) f_1_94 (by decide) ?_
  refine P_put0 f_1_95 fd_3_67 (by decide) (by decide) (by decide) rfl (Or.inl rfl) (Or.inr ⟨rfl, rfl⟩) ?_
  refine k_iconst (v := 0) f_1_98 (by decide) ?_
  refine s_istore_n f_1_99 (by decide) ?_
  refine aAt.sub [(0, .ref 71), (1, .int 0)] rfl ?_
  refine s_iload_n f_1_100 rfl ?_
  refine k_bipush (v := 14) f_1_101 (by decide) ?_
  refine s_icmp_ge 125 f_1_103 (by decide) (fun c => absurd c (by decide)) (fun _ => ?_)
  refine s_aload_n f_1_106 rfl ?_
  refine P_getR (q := 72) f_1_107 fd_3_11 (by decide) (by decide) (by decide) (by decide +kernel) ?_
  refine s_iload_n f_1_110 rfl ?_
  refine P_new (N := 79) (n := 10) f_1_111 nc_3_9 (by decide) ⟨_, rfl, rfl⟩ (by decide +kernel) (by decide) (by decide) ?_
  refine s_dup f_1_114 rfl ?_
  refine s_initN (mc' := 0) (ms' := 0) (As := []) f_1_115 ca_3_70 rfl rfl (Nat.le_of_ble_eq_true rfl) (by decide) (by decide) ?_
  refine t_ini2 ?_
  refine P_aast (q := 0) f_1_118 (by decide) (by decide) (by decide) (by decide) (by decide) (by decide +kernel) ?_
  refine k_iinc (w := 1) f_1_119 rfl (by decide) (by decide) ?_
  refine aAt.sub [(0, .ref 71), (1, .int 1)] rfl ?_
  refine s_goto 100 f_1_122 (by decide) ?_
  refine s_iload_n f_1_100 rfl ?_
  refine k_bipush (v := 14) f_1_101 (by decide) ?_
  refine s_icmp_ge 125 f_1_103 (by decide) (fun c => absurd c (by decide)) (fun _ => ?_)
  refine s_aload_n f_1_106 rfl ?_
  refine P_getR (q := 72) f_1_107 fd_3_11 (by decide) (by decide) (by decide) (by decide +kernel) ?_
  refine s_iload_n f_1_110 rfl ?_
  refine P_new (N := 80) (n := 10) f_1_111 nc_3_9 (by decide) ⟨_, rfl, rfl⟩ (by decide +kernel) (by decide) (by decide) ?_
  refine s_dup f_1_114 rfl ?_
  refine s_initN (mc' := 0) (ms' := 0) (As := []) f_1_115 ca_3_70 rfl rfl (Nat.le_of_ble_eq_true rfl) (by decide) (by decide) ?_
  refine t_ini2 ?_
  refine P_aast (q := 1) f_1_118 (by decide) (by decide) (by decide) (by decide) (by decide) (by decide +kernel) ?_
  refine k_iinc (w := 1) f_1_119 rfl (by decide) (by decide) ?_
  refine aAt.sub [(0, .ref 71), (1, .int 2)] rfl ?_
  refine s_goto 100 f_1_122 (by decide) ?_
  refine s_iload_n f_1_100 rfl ?_
  refine k_bipush (v := 14) f_1_101 (by decide) ?_
  refine s_icmp_ge 125 f_1_103 (by decide) (fun c => absurd c (by decide)) (fun _ => ?_)
  refine s_aload_n f_1_106 rfl ?_
  refine P_getR (q := 72) f_1_107 fd_3_11 (by decide) (by decide) (by decide) (by decide +kernel) ?_
  refine s_iload_n f_1_110 rfl ?_
  refine P_new (N := 81) (n := 10) f_1_111 nc_3_9 (by decide) ⟨_, rfl, rfl⟩ (by decide +kernel) (by decide) (by decide) ?_
  refine s_dup f_1_114 rfl ?_
  refine s_initN (mc' := 0) (ms' := 0) (As := []) f_1_115 ca_3_70 rfl rfl (Nat.le_of_ble_eq_true rfl) (by decide) (by decide) ?_
  refine t_ini2 ?_
  refine P_aast (q := 2) f_1_118 (by decide) (by decide) (by decide) (by decide) (by decide) (by decide +kernel) ?_
  refine k_iinc (w := 1) f_1_119 rfl (by decide) (by decide) ?_
  refine aAt.sub [(0, .ref 71), (1, .int 3)] rfl ?_
  refine s_goto 100 f_1_122 (by decide) ?_
  refine s_iload_n f_1_100 rfl ?_
  refine k_bipush (v := 14) f_1_101 (by decide) ?_
  refine s_icmp_ge 125 f_1_103 (by decide) (fun c => absurd c (by decide)) (fun _ => ?_)
  refine s_aload_n f_1_106 rfl ?_
  refine P_getR (q := 72) f_1_107 fd_3_11 (by decide) (by decide) (by decide) (by decide +kernel) ?_
  refine s_iload_n f_1_110 rfl ?_
  refine P_new (N := 82) (n := 10) f_1_111 nc_3_9 (by decide) ⟨_, rfl, rfl⟩ (by decide +kernel) (by decide) (by decide) ?_
  refine s_dup f_1_114 rfl ?_
  refine s_initN (mc' := 0) (ms' := 0) (As := []) f_1_115 ca_3_70 rfl rfl (Nat.le_of_ble_eq_true rfl) (by decide) (by decide) ?_
  refine t_ini2 ?_
  refine P_aast (q := 3) f_1_118 (by decide) (by decide) (by decide) (by decide) (by decide) (by decide +kernel) ?_
  refine k_iinc (w := 1) f_1_119 rfl (by decide) (by decide) ?_
  refine aAt.sub [(0, .ref 71), (1, .int 4)] rfl ?_
  refine s_goto 100 f_1_122 (by decide) ?_
  refine s_iload_n f_1_100 rfl ?_
  refine k_bipush (v := 14) f_1_101 (by decide) ?_
  refine s_icmp_ge 125 f_1_103 (by decide) (fun c => absurd c (by decide)) (fun _ => ?_)
  refine s_aload_n f_1_106 rfl ?_
  refine P_getR (q := 72) f_1_107 fd_3_11 (by decide) (by decide) (by decide) (by decide +kernel) ?_
  refine s_iload_n f_1_110 rfl ?_
  refine P_new (N := 83) (n := 10) f_1_111 nc_3_9 (by decide) ⟨_, rfl, rfl⟩ (by decide +kernel) (by decide) (by decide) ?_
  refine s_dup f_1_114 rfl ?_
  refine s_initN (mc' := 0) (ms' := 0) (As := []) f_1_115 ca_3_70 rfl rfl (Nat.le_of_ble_eq_true rfl) (by decide) (by decide) ?_
  refine t_ini2 ?_
  refine P_aast (q := 4) f_1_118 (by decide) (by decide) (by decide) (by decide) (by decide) (by decide +kernel) ?_
  refine k_iinc (w := 1) f_1_119 rfl (by decide) (by decide) ?_
  refine aAt.sub [(0, .ref 71), (1, .int 5)] rfl ?_
  refine s_goto 100 f_1_122 (by decide) ?_
  refine s_iload_n f_1_100 rfl ?_
  refine k_bipush (v := 14) f_1_101 (by decide) ?_
  refine s_icmp_ge 125 f_1_103 (by decide) (fun c => absurd c (by decide)) (fun _ => ?_)
  refine s_aload_n f_1_106 rfl ?_
  refine P_getR (q := 72) f_1_107 fd_3_11 (by decide) (by decide) (by decide) (by decide +kernel) ?_
  refine s_iload_n f_1_110 rfl ?_
  refine P_new (N := 84) (n := 10) f_1_111 nc_3_9 (by decide) ⟨_, rfl, rfl⟩ (by decide +kernel) (by decide) (by decide) ?_
  refine s_dup f_1_114 rfl ?_
  refine s_initN (mc' := 0) (ms' := 0) (As := []) f_1_115 ca_3_70 rfl rfl (Nat.le_of_ble_eq_true rfl) (by decide) (by decide) ?_
  refine t_ini2 ?_
  refine P_aast (q := 5) f_1_118 (by decide) (by decide) (by decide) (by decide) (by decide) (by decide +kernel) ?_
  refine k_iinc (w := 1) f_1_119 rfl (by decide) (by decide) ?_
  refine aAt.sub [(0, .ref 71), (1, .int 6)] rfl ?_
  refine s_goto 100 f_1_122 (by decide) ?_
  refine s_iload_n f_1_100 rfl ?_
  refine k_bipush (v := 14) f_1_101 (by decide) ?_
  refine s_icmp_ge 125 f_1_103 (by decide) (fun c => absurd c (by decide)) (fun _ => ?_)
  refine s_aload_n f_1_106 rfl ?_
  refine P_getR (q := 72) f_1_107 fd_3_11 (by decide) (by decide) (by decide) (by decide +kernel) ?_
  refine s_iload_n f_1_110 rfl ?_
  refine P_new (N := 85) (n := 10) f_1_111 nc_3_9 (by decide) ⟨_, rfl, rfl⟩ (by decide +kernel) (by decide) (by decide) ?_
  refine s_dup f_1_114 rfl ?_
  refine s_initN (mc' := 0) (ms' := 0) (As := []) f_1_115 ca_3_70 rfl rfl (Nat.le_of_ble_eq_true rfl) (by decide) (by decide) ?_
  refine t_ini2 ?_
  refine P_aast (q := 6) f_1_118 (by decide) (by decide) (by decide) (by decide) (by decide) (by decide +kernel) ?_
  refine k_iinc (w := 1) f_1_119 rfl (by decide) (by decide) ?_
  refine aAt.sub [(0, .ref 71), (1, .int 7)] rfl ?_
  refine s_goto 100 f_1_122 (by decide) ?_
  refine s_iload_n f_1_100 rfl ?_
  refine k_bipush (v := 14) f_1_101 (by decide) ?_
  refine s_icmp_ge 125 f_1_103 (by decide) (fun c => absurd c (by decide)) (fun _ => ?_)
  refine s_aload_n f_1_106 rfl ?_
  refine P_getR (q := 72) f_1_107 fd_3_11 (by decide) (by decide) (by decide) (by decide +kernel) ?_
  refine s_iload_n f_1_110 rfl ?_
  refine P_new (N := 86) (n := 10) f_1_111 nc_3_9 (by decide) ⟨_, rfl, rfl⟩ (by decide +kernel) (by decide) (by decide) ?_
  refine s_dup f_1_114 rfl ?_
  refine s_initN (mc' := 0) (ms' := 0) (As := []) f_1_115 ca_3_70 rfl rfl (Nat.le_of_ble_eq_true rfl) (by decide) (by decide) ?_
  refine t_ini2 ?_
  refine P_aast (q := 7) f_1_118 (by decide) (by decide) (by decide) (by decide) (by decide) (by decide +kernel) ?_
  refine k_iinc (w := 1) f_1_119 rfl (by decide) (by decide) ?_
  refine aAt.sub [(0, .ref 71), (1, .int 8)] rfl ?_
  refine s_goto 100 f_1_122 (by decide) ?_
  refine s_iload_n f_1_100 rfl ?_
  refine k_bipush (v := 14) f_1_101 (by decide) ?_
  refine s_icmp_ge 125 f_1_103 (by decide) (fun c => absurd c (by decide)) (fun _ => ?_)
  refine s_aload_n f_1_106 rfl ?_
  refine P_getR (q := 72) f_1_107 fd_3_11 (by decide) (by decide) (by decide) (by decide +kernel) ?_
  refine s_iload_n f_1_110 rfl ?_
  refine P_new (N := 87) (n := 10) f_1_111 nc_3_9 (by decide) ⟨_, rfl, rfl⟩ (by decide +kernel) (by decide) (by decide) ?_
  refine s_dup f_1_114 rfl ?_
  refine s_initN (mc' := 0) (ms' := 0) (As := []) f_1_115 ca_3_70 rfl rfl (Nat.le_of_ble_eq_true rfl) (by decide) (by decide) ?_
  refine t_ini2 ?_
  refine P_aast (q := 8) f_1_118 (by decide) (by decide) (by decide) (by decide) (by decide) (by decide +kernel) ?_
  refine k_iinc (w := 1) f_1_119 rfl (by decide) (by decide) ?_
  refine aAt.sub [(0, .ref 71), (1, .int 9)] rfl ?_
  refine s_goto 100 f_1_122 (by decide) ?_
  refine s_iload_n f_1_100 rfl ?_
  refine k_bipush (v := 14) f_1_101 (by decide) ?_
  refine s_icmp_ge 125 f_1_103 (by decide) (fun c => absurd c (by decide)) (fun _ => ?_)
  refine s_aload_n f_1_106 rfl ?_
  refine P_getR (q := 72) f_1_107 fd_3_11 (by decide) (by decide) (by decide) (by decide +kernel) ?_
  refine s_iload_n f_1_110 rfl ?_
  refine P_new (N := 88) (n := 10) f_1_111 nc_3_9 (by decide) ⟨_, rfl, rfl⟩ (by decide +kernel) (by decide) (by decide) ?_
  refine s_dup f_1_114 rfl ?_
  refine s_initN (mc' := 0) (ms' := 0) (As := []) f_1_115 ca_3_70 rfl rfl (Nat.le_of_ble_eq_true rfl) (by decide) (by decide) ?_
  refine t_ini2 ?_
  refine P_aast (q := 9) f_1_118 (by decide) (by decide) (by decide) (by decide) (by decide) (by decide +kernel) ?_
  refine k_iinc (w := 1) f_1_119 rfl (by decide) (by decide) ?_
  refine aAt.sub [(0, .ref 71), (1, .int 10)] rfl ?_
  refine s_goto 100 f_1_122 (by decide) ?_
  refine s_iload_n f_1_100 rfl ?_
  refine k_bipush (v := 14) f_1_101 (by decide) ?_
  refine s_icmp_ge 125 f_1_103 (by decide) (fun c => absurd c (by decide)) (fun _ => ?_)
  refine s_aload_n f_1_106 rfl ?_
  refine P_getR (q := 72) f_1_107 fd_3_11 (by decide) (by decide) (by decide) (by decide +kernel) ?_
  refine s_iload_n f_1_110 rfl ?_
  refine P_new (N := 89) (n := 10) f_1_111 nc_3_9 (by decide) ⟨_, rfl, rfl⟩ (by decide +kernel) (by decide) (by decide) ?_
  refine s_dup f_1_114 rfl ?_
  refine s_initN (mc' := 0) (ms' := 0) (As := []) f_1_115 ca_3_70 rfl rfl (Nat.le_of_ble_eq_true rfl) (by decide) (by decide) ?_
  refine t_ini2 ?_
  refine P_aast (q := 10) f_1_118 (by decide) (by decide) (by decide) (by decide) (by decide) (by decide +kernel) ?_
  refine k_iinc (w := 1) f_1_119 rfl (by decide) (by decide) ?_
  refine aAt.sub [(0, .ref 71), (1, .int 11)] rfl ?_
  refine s_goto 100 f_1_122 (by decide) ?_
  refine s_iload_n f_1_100 rfl ?_
  refine k_bipush (v := 14) f_1_101 (by decide) ?_
  refine s_icmp_ge 125 f_1_103 (by decide) (fun c => absurd c (by decide)) (fun _ => ?_)
  refine s_aload_n f_1_106 rfl ?_
  refine P_getR (q := 72) f_1_107 fd_3_11 (by decide) (by decide) (by decide) (by decide +kernel) ?_
  refine s_iload_n f_1_110 rfl ?_
  refine P_new (N := 90) (n := 10) f_1_111 nc_3_9 (by decide) ⟨_, rfl, rfl⟩ (by decide +kernel) (by decide) (by decide) ?_
  refine s_dup f_1_114 rfl ?_
  refine s_initN (mc' := 0) (ms' := 0) (As := []) f_1_115 ca_3_70 rfl rfl (Nat.le_of_ble_eq_true rfl) (by decide) (by decide) ?_
  refine t_ini2 ?_
  refine P_aast (q := 11) f_1_118 (by decide) (by decide) (by decide) (by decide) (by decide) (by decide +kernel) ?_
  refine k_iinc (w := 1) f_1_119 rfl (by decide) (by decide) ?_
  refine aAt.sub [(0, .ref 71), (1, .int 12)] rfl ?_
  refine s_goto 100 f_1_122 (by decide) ?_
  refine s_iload_n f_1_100 rfl ?_
  refine k_bipush (v := 14) f_1_101 (by decide) ?_
  refine s_icmp_ge 125 f_1_103 (by decide) (fun c => absurd c (by decide)) (fun _ => ?_)
  refine s_aload_n f_1_106 rfl ?_
  refine P_getR (q := 72) f_1_107 fd_3_11 (by decide) (by decide) (by decide) (by decide +kernel) ?_
  refine s_iload_n f_1_110 rfl ?_
  refine P_new (N := 91) (n := 10) f_1_111 nc_3_9 (by decide) ⟨_, rfl, rfl⟩ (by decide +kernel) (by decide) (by decide) ?_
  refine s_dup f_1_114 rfl ?_
  refine s_initN (mc' := 0) (ms' := 0) (As := []) f_1_115 ca_3_70 rfl rfl (Nat.le_of_ble_eq_true rfl) (by decide) (by decide) ?_
  refine t_ini2 ?_
  refine P_aast (q := 12) f_1_118 (by decide) (by decide) (by decide) (by decide) (by decide) (by decide +kernel) ?_
  refine k_iinc (w := 1) f_1_119 rfl (by decide) (by decide) ?_
  refine aAt.sub [(0, .ref 71), (1, .int 13)] rfl ?_
  refine s_goto 100 f_1_122 (by decide) ?_
  refine s_iload_n f_1_100 rfl ?_
  refine k_bipush (v := 14) f_1_101 (by decide) ?_
  refine s_icmp_ge 125 f_1_103 (by decide) (fun c => absurd c (by decide)) (fun _ => ?_)
  refine s_aload_n f_1_106 rfl ?_
  refine P_getR (q := 72) f_1_107 fd_3_11 (by decide) (by decide) (by decide) (by decide +kernel) ?_
  refine s_iload_n f_1_110 rfl ?_
  refine P_new (N := 92) (n := 10) f_1_111 nc_3_9 (by decide) ⟨_, rfl, rfl⟩ (by decide +kernel) (by decide) (by decide) ?_
  refine s_dup f_1_114 rfl ?_
  refine s_initN (mc' := 0) (ms' := 0) (As := []) f_1_115 ca_3_70 rfl rfl (Nat.le_of_ble_eq_true rfl) (by decide) (by decide) ?_
  refine t_ini2 ?_
  refine P_aast (q := 13) f_1_118 (by decide) (by decide) (by decide) (by decide) (by decide) (by decide +kernel) ?_
  refine k_iinc (w := 1) f_1_119 rfl (by decide) (by decide) ?_
  refine aAt.sub [(0, .ref 71), (1, .int 14)] rfl ?_
  refine s_goto 100 f_1_122 (by decide) ?_
  refine s_iload_n f_1_100 rfl ?_
  refine k_bipush (v := 14) f_1_101 (by decide) ?_
  refine s_icmp_ge 125 f_1_103 (by decide) (fun _ => ?_) (fun c => absurd (by decide) c)
  refine k_iconst (v := 0) f_1_125 (by decide) ?_
  refine s_istore_n f_1_126 (by decide) ?_
  refine aAt.sub [(0, .ref 71), (1, .int 0)] rfl ?_
  refine s_iload_n f_1_127 rfl ?_
  refine k_bipush (v := 8) f_1_128 (by decide) ?_
  refine s_icmp_ge 152 f_1_130 (by decide) (fun c => absurd c (by decide)) (fun _ => ?_)
  refine s_aload_n f_1_133 rfl ?_
  refine P_getR (q := 73) f_1_134 fd_3_19 (by decide) (by decide) (by decide) (by decide +kernel) ?_
  refine s_iload_n f_1_137 rfl ?_
  refine P_new (N := 93) (n := 4) f_1_138 nc_3_17 (by decide) ⟨_, rfl, rfl⟩ (by decide +kernel) (by decide) (by decide) ?_
  refine s_dup f_1_141 rfl ?_
  refine s_initN (mc' := 0) (ms' := 0) (As := []) f_1_142 ca_3_71 rfl rfl (Nat.le_of_ble_eq_true rfl) (by decide) (by decide) ?_
  refine t_ini3 ?_
  refine P_aast (q := 0) f_1_145 (by decide) (by decide) (by decide) (by decide) (by decide) (by decide +kernel) ?_
  refine k_iinc (w := 1) f_1_146 rfl (by decide) (by decide) ?_
  refine aAt.sub [(0, .ref 71), (1, .int 1)] rfl ?_
  refine s_goto 127 f_1_149 (by decide) ?_
  refine s_iload_n f_1_127 rfl ?_
  refine k_bipush (v := 8) f_1_128 (by decide) ?_
  refine s_icmp_ge 152 f_1_130 (by decide) (fun c => absurd c (by decide)) (fun _ => ?_)
  refine s_aload_n f_1_133 rfl ?_
  refine P_getR (q := 73) f_1_134 fd_3_19 (by decide) (by decide) (by decide) (by decide +kernel) ?_
  refine s_iload_n f_1_137 rfl ?_
  refine P_new (N := 94) (n := 4) f_1_138 nc_3_17 (by decide) ⟨_, rfl, rfl⟩ (by decide +kernel) (by decide) (by decide) ?_
  refine s_dup f_1_141 rfl ?_
  refine s_initN (mc' := 0) (ms' := 0) (As := []) f_1_142 ca_3_71 rfl rfl (Nat.le_of_ble_eq_true rfl) (by decide) (by decide) ?_
  refine t_ini3 ?_
  refine P_aast (q := 1) f_1_145 (by decide) (by decide) (by decide) (by decide) (by decide) (by decide +kernel) ?_
  refine k_iinc (w := 1) f_1_146 rfl (by decide) (by decide) ?_
  refine aAt.sub [(0, .ref 71), (1, .int 2)] rfl ?_
  refine s_goto 127 f_1_149 (by decide) ?_
  refine s_iload_n f_1_127 rfl ?_
  refine k_bipush (v := 8) f_1_128 (by decide) ?_
  refine s_icmp_ge 152 f_1_130 (by decide) (fun c => absurd c (by decide)) (fun _ => ?_)
  refine s_aload_n f_1_133 rfl ?_
  refine P_getR (q := 73) f_1_134 fd_3_19 (by decide) (by decide) (by decide) (by decide +kernel) ?_
  refine s_iload_n f_1_137 rfl ?_
  refine P_new (N := 95) (n := 4) f_1_138 nc_3_17 (by decide) ⟨_, rfl, rfl⟩ (by decide +kernel) (by decide) (by decide) ?_
  refine s_dup f_1_141 rfl ?_
  refine s_initN (mc' := 0) (ms' := 0) (As := []) f_1_142 ca_3_71 rfl rfl (Nat.le_of_ble_eq_true rfl) (by decide) (by decide) ?_
  refine t_ini3 ?_
  refine P_aast (q := 2) f_1_145 (by decide) (by decide) (by decide) (by decide) (by decide) (by decide +kernel) ?_
  refine k_iinc (w := 1) f_1_146 rfl (by decide) (by decide) ?_
  refine aAt.sub [(0, .ref 71), (1, .int 3)] rfl ?_
  refine s_goto 127 f_1_149 (by decide) ?_
  refine s_iload_n f_1_127 rfl ?_
  refine k_bipush (v := 8) f_1_128 (by decide) ?_
  refine s_icmp_ge 152 f_1_130 (by decide) (fun c => absurd c (by decide)) (fun _ => ?_)
  refine s_aload_n f_1_133 rfl ?_
  refine P_getR (q := 73) f_1_134 fd_3_19 (by decide) (by decide) (by decide) (by decide +kernel) ?_
  refine s_iload_n f_1_137 rfl ?_
  refine P_new (N := 96) (n := 4) f_1_138 nc_3_17 (by decide) ⟨_, rfl, rfl⟩ (by decide +kernel) (by decide) (by decide) ?_
  refine s_dup f_1_141 rfl ?_
  refine s_initN (mc' := 0) (ms' := 0) (As := []) f_1_142 ca_3_71 rfl rfl (Nat.le_of_ble_eq_true rfl) (by decide) (by decide) ?_
  refine t_ini3 ?_
  refine P_aast (q := 3) f_1_145 (by decide) (by decide) (by decide) (by decide) (by decide) (by decide +kernel) ?_
  refine k_iinc (w := 1) f_1_146 rfl (by decide) (by decide) ?_
  refine aAt.sub [(0, .ref 71), (1, .int 4)] rfl ?_
  refine s_goto 127 f_1_149 (by decide) ?_
  refine s_iload_n f_1_127 rfl ?_
  refine k_bipush (v := 8) f_1_128 (by decide) ?_
  refine s_icmp_ge 152 f_1_130 (by decide) (fun c => absurd c (by decide)) (fun _ => ?_)
  refine s_aload_n f_1_133 rfl ?_
  refine P_getR (q := 73) f_1_134 fd_3_19 (by decide) (by decide) (by decide) (by decide +kernel) ?_
  refine s_iload_n f_1_137 rfl ?_
  refine P_new (N := 97) (n := 4) f_1_138 nc_3_17 (by decide) ⟨_, rfl, rfl⟩ (by decide +kernel) (by decide) (by decide) ?_
  refine s_dup f_1_141 rfl ?_
  refine s_initN (mc' := 0) (ms' := 0) (As := []) f_1_142 ca_3_71 rfl rfl (Nat.le_of_ble_eq_true rfl) (by decide) (by decide) ?_
  refine t_ini3 ?_
  refine P_aast (q := 4) f_1_145 (by decide) (by decide) (by decide) (by decide) (by decide) (by decide +kernel) ?_
  refine k_iinc (w := 1) f_1_146 rfl (by decide) (by decide) ?_
  refine aAt.sub [(0, .ref 71), (1, .int 5)] rfl ?_
  refine s_goto 127 f_1_149 (by decide) ?_
  refine s_iload_n f_1_127 rfl ?_
  refine k_bipush (v := 8) f_1_128 (by decide) ?_
  refine s_icmp_ge 152 f_1_130 (by decide) (fun c => absurd c (by decide)) (fun _ => ?_)
  refine s_aload_n f_1_133 rfl ?_
  refine P_getR (q := 73) f_1_134 fd_3_19 (by decide) (by decide) (by decide) (by decide +kernel) ?_
  refine s_iload_n f_1_137 rfl ?_
  refine P_new (N := 98) (n := 4) f_1_138 nc_3_17 (by decide) ⟨_, rfl, rfl⟩ (by decide +kernel) (by decide) (by decide) ?_
  refine s_dup f_1_141 rfl ?_
  refine s_initN (mc' := 0) (ms' := 0) (As := []) f_1_142 ca_3_71 rfl rfl (Nat.le_of_ble_eq_true rfl) (by decide) (by decide) ?_
  refine t_ini3 ?_
  refine P_aast (q := 5) f_1_145 (by decide) (by decide) (by decide) (by decide) (by decide) (by decide +kernel) ?_
  refine k_iinc (w := 1) f_1_146 rfl (by decide) (by decide) ?_
  refine aAt.sub [(0, .ref 71), (1, .int 6)] rfl ?_
  refine s_goto 127 f_1_149 (by decide) ?_
  refine s_iload_n f_1_127 rfl ?_
  refine k_bipush (v := 8) f_1_128 (by decide) ?_
  refine s_icmp_ge 152 f_1_130 (by decide) (fun c => absurd c (by decide)) (fun _ => ?_)
  refine s_aload_n f_1_133 rfl ?_
  refine P_getR (q := 73) f_1_134 fd_3_19 (by decide) (by decide) (by decide) (by decide +kernel) ?_
  refine s_iload_n f_1_137 rfl ?_
  refine P_new (N := 99) (n := 4) f_1_138 nc_3_17 (by decide) ⟨_, rfl, rfl⟩ (by decide +kernel) (by decide) (by decide) ?_
  refine s_dup f_1_141 rfl ?_
  refine s_initN (mc' := 0) (ms' := 0) (As := []) f_1_142 ca_3_71 rfl rfl (Nat.le_of_ble_eq_true rfl) (by decide) (by decide) ?_
  refine t_ini3 ?_
  refine P_aast (q := 6) f_1_145 (by decide) (by decide) (by decide) (by decide) (by decide) (by decide +kernel) ?_
  refine k_iinc (w := 1) f_1_146 rfl (by decide) (by decide) ?_
  refine aAt.sub [(0, .ref 71), (1, .int 7)] rfl ?_
  refine s_goto 127 f_1_149 (by decide) ?_
  refine s_iload_n f_1_127 rfl ?_
  refine k_bipush (v := 8) f_1_128 (by decide) ?_
  refine s_icmp_ge 152 f_1_130 (by decide) (fun c => absurd c (by decide)) (fun _ => ?_)
  refine s_aload_n f_1_133 rfl ?_
  refine P_getR (q := 73) f_1_134 fd_3_19 (by decide) (by decide) (by decide) (by decide +kernel) ?_
  refine s_iload_n f_1_137 rfl ?_
  refine P_new (N := 100) (n := 4) f_1_138 nc_3_17 (by decide) ⟨_, rfl, rfl⟩ (by decide +kernel) (by decide) (by decide) ?_
  refine s_dup f_1_141 rfl ?_
  refine s_initN (mc' := 0) (ms' := 0) (As := []) f_1_142 ca_3_71 rfl rfl (Nat.le_of_ble_eq_true rfl) (by decide) (by decide) ?_
  refine t_ini3 ?_
  refine P_aast (q := 7) f_1_145 (by decide) (by decide) (by decide) (by decide) (by decide) (by decide +kernel) ?_
  refine k_iinc (w := 1) f_1_146 rfl (by decide) (by decide) ?_
  refine aAt.sub [(0, .ref 71), (1, .int 8)] rfl ?_
  refine s_goto 127 f_1_149 (by decide) ?_
  refine s_iload_n f_1_127 rfl ?_
  refine k_bipush (v := 8) f_1_128 (by decide) ?_
  refine s_icmp_ge 152 f_1_130 (by decide) (fun _ => ?_) (fun c => absurd (by decide) c)
  refine k_iconst (v := 0) f_1_152 (by decide) ?_
  refine s_istore_n f_1_153 (by decide) ?_
  refine aAt.sub [(0, .ref 71), (1, .int 0)] rfl ?_
  refine s_iload_n f_1_154 rfl ?_
  refine k_bipush (v := 20) f_1_155 (by decide) ?_
  refine s_icmp_ge 179 f_1_157 (by decide) (fun c => absurd c (by decide)) (fun _ => ?_)
  refine s_aload_n f_1_160 rfl ?_
  refine P_getR (q := 74) f_1_161 fd_3_25 (by decide) (by decide) (by decide) (by decide +kernel) ?_
  refine s_iload_n f_1_164 rfl ?_
  refine P_new (N := 101) (n := 10) f_1_165 nc_3_23 (by decide) ⟨_, rfl, rfl⟩ (by decide +kernel) (by decide) (by decide) ?_
  refine s_dup f_1_168 rfl ?_
  refine s_initN (mc' := 0) (ms' := 0) (As := []) f_1_169 ca_3_72 rfl rfl (Nat.le_of_ble_eq_true rfl) (by decide) (by decide) ?_
  refine t_ini4 ?_
  refine P_aast (q := 0) f_1_172 (by decide) (by decide) (by decide) (by decide) (by decide) (by decide +kernel) ?_
  refine k_iinc (w := 1) f_1_173 rfl (by decide) (by decide) ?_
  refine aAt.sub [(0, .ref 71), (1, .int 1)] rfl ?_
  refine s_goto 154 f_1_176 (by decide) ?_
  refine s_iload_n f_1_154 rfl ?_
  refine k_bipush (v := 20) f_1_155 (by decide) ?_
  refine s_icmp_ge 179 f_1_157 (by decide) (fun c => absurd c (by decide)) (fun _ => ?_)
  refine s_aload_n f_1_160 rfl ?_
  refine P_getR (q := 74) f_1_161 fd_3_25 (by decide) (by decide) (by decide) (by decide +kernel) ?_
  refine s_iload_n f_1_164 rfl ?_
  refine P_new (N := 102) (n := 10) f_1_165 nc_3_23 (by decide) ⟨_, rfl, rfl⟩ (by decide +kernel) (by decide) (by decide) ?_
  refine s_dup f_1_168 rfl ?_
  refine s_initN (mc' := 0) (ms' := 0) (As := []) f_1_169 ca_3_72 rfl rfl (Nat.le_of_ble_eq_true rfl) (by decide) (by decide) ?_
  refine t_ini4 ?_
  refine P_aast (q := 1) f_1_172 (by decide) (by decide) (by decide) (by decide) (by decide) (by decide +kernel) ?_
  refine k_iinc (w := 1) f_1_173 rfl (by decide) (by decide) ?_
  refine aAt.sub [(0, .ref 71), (1, .int 2)] rfl ?_
  refine s_goto 154 f_1_176 (by decide) ?_
  refine s_iload_n f_1_154 rfl ?_
  refine k_bipush (v := 20) f_1_155 (by decide) ?_
  refine s_icmp_ge 179 f_1_157 (by decide) (fun c => absurd c (by decide)) (fun _ => ?_)
  refine s_aload_n f_1_160 rfl ?_
  refine P_getR (q := 74) f_1_161 fd_3_25 (by decide) (by decide) (by decide) (by decide +kernel) ?_
  refine s_iload_n f_1_164 rfl ?_
  refine P_new (N := 103) (n := 10) f_1_165 nc_3_23 (by decide) ⟨_, rfl, rfl⟩ (by decide +kernel) (by decide) (by decide) ?_
  refine s_dup f_1_168 rfl ?_
  refine s_initN (mc' := 0) (ms' := 0) (As := []) f_1_169 ca_3_72 rfl rfl (Nat.le_of_ble_eq_true rfl) (by decide) (by decide) ?_
  refine t_ini4 ?_
  refine P_aast (q := 2) f_1_172 (by decide) (by decide) (by decide) (by decide) (by decide) (by decide +kernel) ?_
  refine k_iinc (w := 1) f_1_173 rfl (by decide) (by decide) ?_
  refine aAt.sub [(0, .ref 71), (1, .int 3)] rfl ?_
  refine s_goto 154 f_1_176 (by decide) ?_
  refine s_iload_n f_1_154 rfl ?_
  refine k_bipush (v := 20) f_1_155 (by decide) ?_
  refine s_icmp_ge 179 f_1_157 (by decide) (fun c => absurd c (by decide)) (fun _ => ?_)
  refine s_aload_n f_1_160 rfl ?_
  refine P_getR (q := 74) f_1_161 fd_3_25 (by decide) (by decide) (by decide) (by decide +kernel) ?_
  refine s_iload_n f_1_164 rfl ?_
  refine P_new (N := 104) (n := 10) f_1_165 nc_3_23 (by decide) ⟨_, rfl, rfl⟩ (by decide +kernel) (by decide) (by decide) ?_
  refine s_dup f_1_168 rfl ?_
  refine s_initN (mc' := 0) (ms' := 0) (As := []) f_1_169 ca_3_72 rfl rfl (Nat.le_of_ble_eq_true rfl) (by decide) (by decide) ?_
  refine t_ini4 ?_
  refine P_aast (q := 3) f_1_172 (by decide) (by decide) (by decide) (by decide) (by decide) (by decide +kernel) ?_
  refine k_iinc (w := 1) f_1_173 rfl (by decide) (by decide) ?_
  refine aAt.sub [(0, .ref 71), (1, .int 4)] rfl ?_
  refine s_goto 154 f_1_176 (by decide) ?_
  refine s_iload_n f_1_154 rfl ?_
  refine k_bipush (v := 20) f_1_155 (by decide) ?_
  refine s_icmp_ge 179 f_1_157 (by decide) (fun c => absurd c (by decide)) (fun _ => ?_)
  refine s_aload_n f_1_160 rfl ?_
  refine P_getR (q := 74) f_1_161 fd_3_25 (by decide) (by decide) (by decide) (by decide +kernel) ?_
  refine s_iload_n f_1_164 rfl ?_
  refine P_new (N := 105) (n := 10) f_1_165 nc_3_23 (by decide) ⟨_, rfl, rfl⟩ (by decide +kernel) (by decide) (by decide) ?_
  refine s_dup f_1_168 rfl ?_
  refine s_initN (mc' := 0) (ms' := 0) (As := []) f_1_169 ca_3_72 rfl rfl (Nat.le_of_ble_eq_true rfl) (by decide) (by decide) ?_
  refine t_ini4 ?_
  refine P_aast (q := 4) f_1_172 (by decide) (by decide) (by decide) (by decide) (by decide) (by decide +kernel) ?_
  refine k_iinc (w := 1) f_1_173 rfl (by decide) (by decide) ?_
  refine aAt.sub [(0, .ref 71), (1, .int 5)] rfl ?_
  refine s_goto 154 f_1_176 (by decide) ?_
  refine s_iload_n f_1_154 rfl ?_
  refine k_bipush (v := 20) f_1_155 (by decide) ?_
  refine s_icmp_ge 179 f_1_157 (by decide) (fun c => absurd c (by decide)) (fun _ => ?_)
  refine s_aload_n f_1_160 rfl ?_
  refine P_getR (q := 74) f_1_161 fd_3_25 (by decide) (by decide) (by decide) (by decide +kernel) ?_
  refine s_iload_n f_1_164 rfl ?_
  refine P_new (N := 106) (n := 10) f_1_165 nc_3_23 (by decide) ⟨_, rfl, rfl⟩ (by decide +kernel) (by decide) (by decide) ?_
  refine s_dup f_1_168 rfl ?_
  refine s_initN (mc' := 0) (ms' := 0) (As := []) f_1_169 ca_3_72 rfl rfl (Nat.le_of_ble_eq_true rfl) (by decide) (by decide) ?_
  refine t_ini4 ?_
  refine P_aast (q := 5) f_1_172 (by decide) (by decide) (by decide) (by decide) (by decide) (by decide +kernel) ?_
  refine k_iinc (w := 1) f_1_173 rfl (by decide) (by decide) ?_
  refine aAt.sub [(0, .ref 71), (1, .int 6)] rfl ?_
  refine s_goto 154 f_1_176 (by decide) ?_
  refine s_iload_n f_1_154 rfl ?_
  refine k_bipush (v := 20) f_1_155 (by decide) ?_
  refine s_icmp_ge 179 f_1_157 (by decide) (fun c => absurd c (by decide)) (fun _ => ?_)
  refine s_aload_n f_1_160 rfl ?_
  refine P_getR (q := 74) f_1_161 fd_3_25 (by decide) (by decide) (by decide) (by decide +kernel) ?_
  refine s_iload_n f_1_164 rfl ?_
  refine P_new (N := 107) (n := 10) f_1_165 nc_3_23 (by decide) ⟨_, rfl, rfl⟩ (by decide +kernel) (by decide) (by decide) ?_
  refine s_dup f_1_168 rfl ?_
  refine s_initN (mc' := 0) (ms' := 0) (As := []) f_1_169 ca_3_72 rfl rfl (Nat.le_of_ble_eq_true rfl) (by decide) (by decide) ?_
  refine t_ini4 ?_
  refine P_aast (q := 6) f_1_172 (by decide) (by decide) (by decide) (by decide) (by decide) (by decide +kernel) ?_
  refine k_iinc (w := 1) f_1_173 rfl (by decide) (by decide) ?_
  refine aAt.sub [(0, .ref 71), (1, .int 7)] rfl ?_
  refine s_goto 154 f_1_176 (by decide) ?_
  refine s_iload_n f_1_154 rfl ?_
  refine k_bipush (v := 20) f_1_155 (by decide) ?_
  refine s_icmp_ge 179 f_1_157 (by decide) (fun c => absurd c (by decide)) (fun _ => ?_)
  refine s_aload_n f_1_160 rfl ?_
  refine P_getR (q := 74) f_1_161 fd_3_25 (by decide) (by decide) (by decide) (by decide +kernel) ?_
  refine s_iload_n f_1_164 rfl ?_
  refine P_new (N := 108) (n := 10) f_1_165 nc_3_23 (by decide) ⟨_, rfl, rfl⟩ (by decide +kernel) (by decide) (by decide) ?_
  refine s_dup f_1_168 rfl ?_
  refine s_initN (mc' := 0) (ms' := 0) (As := []) f_1_169 ca_3_72 rfl rfl (Nat.le_of_ble_eq_true rfl) (by decide) (by decide) ?_
  refine t_ini4 ?_
  refine P_aast (q := 7) f_1_172 (by decide) (by decide) (by decide) (by decide) (by decide) (by decide +kernel) ?_
  refine k_iinc (w := 1) f_1_173 rfl (by decide) (by decide) ?_
  refine aAt.sub [(0, .ref 71), (1, .int 8)] rfl ?_
  refine s_goto 154 f_1_176 (by decide) ?_
  refine s_iload_n f_1_154 rfl ?_
  refine k_bipush (v := 20) f_1_155 (by decide) ?_
  refine s_icmp_ge 179 f_1_157 (by decide) (fun c => absurd c (by decide)) (fun _ => ?_)
  refine s_aload_n f_1_160 rfl ?_
  refine P_getR (q := 74) f_1_161 fd_3_25 (by decide) (by decide) (by decide) (by decide +kernel) ?_
  refine s_iload_n f_1_164 rfl ?_
  refine P_new (N := 109) (n := 10) f_1_165 nc_3_23 (by decide) ⟨_, rfl, rfl⟩ (by decide +kernel) (by decide) (by decide) ?_
  refine s_dup f_1_168 rfl ?_
  refine s_initN (mc' := 0) (ms' := 0) (As := []) f_1_169 ca_3_72 rfl rfl (Nat.le_of_ble_eq_true rfl) (by decide) (by decide) ?_
  refine t_ini4 ?_
  refine P_aast (q := 8) f_1_172 (by decide) (by decide) (by decide) (by decide) (by decide) (by decide +kernel) ?_
  refine k_iinc (w := 1) f_1_173 rfl (by decide) (by decide) ?_
  refine aAt.sub [(0, .ref 71), (1, .int 9)] rfl ?_
  refine s_goto 154 f_1_176 (by decide) ?_
  refine s_iload_n f_1_154 rfl ?_
  refine k_bipush (v := 20) f_1_155 (by decide) ?_
  refine s_icmp_ge 179 f_1_157 (by decide) (fun c => absurd c (by decide)) (fun _ => ?_)
  refine s_aload_n f_1_160 rfl ?_
  refine P_getR (q := 74) f_1_161 fd_3_25 (by decide) (by decide) (by decide) (by decide +kernel) ?_
  refine s_iload_n f_1_164 rfl ?_
  refine P_new (N := 110) (n := 10) f_1_165 nc_3_23 (by decide) ⟨_, rfl, rfl⟩ (by decide +kernel) (by decide) (by decide) ?_
  refine s_dup f_1_168 rfl ?_
  refine s_initN (mc' := 0) (ms' := 0) (As := []) f_1_169 ca_3_72 rfl rfl (Nat.le_of_ble_eq_true rfl) (by decide) (by decide) ?_
  refine t_ini4 ?_
  refine P_aast (q := 9) f_1_172 (by decide) (by decide) (by decide) (by decide) (by decide) (by decide +kernel) ?_
  refine k_iinc (w := 1) f_1_173 rfl (by decide) (by decide) ?_
  refine aAt.sub [(0, .ref 71), (1, .int 10)] rfl ?_
  refine s_goto 154 f_1_176 (by decide) ?_
  refine s_iload_n f_1_154 rfl ?_
  refine k_bipush (v := 20) f_1_155 (by decide) ?_
  refine s_icmp_ge 179 f_1_157 (by decide) (fun c => absurd c (by decide)) (fun _ => ?_)
  refine s_aload_n f_1_160 rfl ?_
  refine P_getR (q := 74) f_1_161 fd_3_25 (by decide) (by decide) (by decide) (by decide +kernel) ?_
  refine s_iload_n f_1_164 rfl ?_
  refine P_new (N := 111) (n := 10) f_1_165 nc_3_23 (by decide) ⟨_, rfl, rfl⟩ (by decide +kernel) (by decide) (by decide) ?_
  refine s_dup f_1_168 rfl ?_
  refine s_initN (mc' := 0) (ms' := 0) (As := []) f_1_169 ca_3_72 rfl rfl (Nat.le_of_ble_eq_true rfl) (by decide) (by decide) ?_
  refine t_ini4 ?_
  refine P_aast (q := 10) f_1_172 (by decide) (by decide) (by decide) (by decide) (by decide) (by decide +kernel) ?_
  refine k_iinc (w := 1) f_1_173 rfl (by decide) (by decide) ?_
  refine aAt.sub [(0, .ref 71), (1, .int 11)] rfl ?_
  refine s_goto 154 f_1_176 (by decide) ?_
  refine s_iload_n f_1_154 rfl ?_
  refine k_bipush (v := 20) f_1_155 (by decide) ?_
  refine s_icmp_ge 179 f_1_157 (by decide) (fun c => absurd c (by decide)) (fun _ => ?_)
  refine s_aload_n f_1_160 rfl ?_
  refine P_getR (q := 74) f_1_161 fd_3_25 (by decide) (by decide) (by decide) (by decide +kernel) ?_
  refine s_iload_n f_1_164 rfl ?_
  refine P_new (N := 112) (n := 10) f_1_165 nc_3_23 (by decide) ⟨_, rfl, rfl⟩ (by decide +kernel) (by decide) (by decide) ?_
  refine s_dup f_1_168 rfl ?_
  refine s_initN (mc' := 0) (ms' := 0) (As := []) f_1_169 ca_3_72 rfl rfl (Nat.le_of_ble_eq_true rfl) (by decide) (by decide) ?_
  refine t_ini4 ?_
  refine P_aast (q := 11) f_1_172 (by decide) (by decide) (by decide) (by decide) (by decide) (by decide +kernel) ?_
  refine k_iinc (w := 1) f_1_173 rfl (by decide) (by decide) ?_
  refine aAt.sub [(0, .ref 71), (1, .int 12)] rfl ?_
  refine s_goto 154 f_1_176 (by decide) ?_
  refine s_iload_n f_1_154 rfl ?_
  refine k_bipush (v := 20) f_1_155 (by decide) ?_
  refine s_icmp_ge 179 f_1_157 (by decide) (fun c => absurd c (by decide)) (fun _ => ?_)
  refine s_aload_n f_1_160 rfl ?_
  refine P_getR (q := 74) f_1_161 fd_3_25 (by decide) (by decide) (by decide) (by decide +kernel) ?_
  refine s_iload_n f_1_164 rfl ?_
  refine P_new (N := 113) (n := 10) f_1_165 nc_3_23 (by decide) ⟨_, rfl, rfl⟩ (by decide +kernel) (by decide) (by decide) ?_
  refine s_dup f_1_168 rfl ?_
  refine s_initN (mc' := 0) (ms' := 0) (As := []) f_1_169 ca_3_72 rfl rfl (Nat.le_of_ble_eq_true rfl) (by decide) (by decide) ?_
  refine t_ini4 ?_
  refine P_aast (q := 12) f_1_172 (by decide) (by decide) (by decide) (by decide) (by decide) (by decide +kernel) ?_
  refine k_iinc (w := 1) f_1_173 rfl (by decide) (by decide) ?_
  refine aAt.sub [(0, .ref 71), (1, .int 13)] rfl ?_
  refine s_goto 154 f_1_176 (by decide) ?_
  refine s_iload_n f_1_154 rfl ?_
  refine k_bipush (v := 20) f_1_155 (by decide) ?_
  refine s_icmp_ge 179 f_1_157 (by decide) (fun c => absurd c (by decide)) (fun _ => ?_)
  refine s_aload_n f_1_160 rfl ?_
  refine P_getR (q := 74) f_1_161 fd_3_25 (by decide) (by decide) (by decide) (by decide +kernel) ?_
  refine s_iload_n f_1_164 rfl ?_
  refine P_new (N := 114) (n := 10) f_1_165 nc_3_23 (by decide) ⟨_, rfl, rfl⟩ (by decide +kernel) (by decide) (by decide) ?_
  refine s_dup f_1_168 rfl ?_
  refine s_initN (mc' := 0) (ms' := 0) (As := []) f_1_169 ca_3_72 rfl rfl (Nat.le_of_ble_eq_true rfl) (by decide) (by decide) ?_
  refine t_ini4 ?_
  refine P_aast (q := 13) f_1_172 (by decide) (by decide) (by decide) (by decide) (by decide) (by decide +kernel) ?_
  refine k_iinc (w := 1) f_1_173 rfl (by decide) (by decide) ?_
  refine aAt.sub [(0, .ref 71), (1, .int 14)] rfl ?_
  refine s_goto 154 f_1_176 (by decide) ?_
  refine s_iload_n f_1_154 rfl ?_
  refine k_bipush (v := 20) f_1_155 (by decide) ?_
  refine s_icmp_ge 179 f_1_157 (by decide) (fun c => absurd c (by decide)) (fun _ => ?_)
  refine s_aload_n f_1_160 rfl ?_
  refine P_getR (q := 74) f_1_161 fd_3_25 (by decide) (by decide) (by decide) (by decide +kernel) ?_
  refine s_iload_n f_1_164 rfl ?_
  refine P_new (N := 115) (n := 10) f_1_165 nc_3_23 (by decide) ⟨_, rfl, rfl⟩ (by decide +kernel) (by decide) (by decide) ?_
  refine s_dup f_1_168 rfl ?_
  refine s_initN (mc' := 0) (ms' := 0) (As := []) f_1_169 ca_3_72 rfl rfl (Nat.le_of_ble_eq_true rfl) (by decide) (by decide) ?_
  refine t_ini4 ?_
  refine P_aast (q := 14) f_1_172 (by decide) (by decide) (by decide) (by decide) (by decide) (by decide +kernel) ?_
  refine k_iinc (w := 1) f_1_173 rfl (by decide) (by decide) ?_
  refine aAt.sub [(0, .ref 71), (1, .int 15)] rfl ?_
  refine s_goto 154 f_1_176 (by decide) ?_
  refine s_iload_n f_1_154 rfl ?_
  refine k_bipush (v := 20) f_1_155 (by decide) ?_
  refine s_icmp_ge 179 f_1_157 (by decide) (fun c => absurd c (by decide)) (fun _ => ?_)
  refine s_aload_n f_1_160 rfl ?_
  refine P_getR (q := 74) f_1_161 fd_3_25 (by decide) (by decide) (by decide) (by decide +kernel) ?_
  refine s_iload_n f_1_164 rfl ?_
  refine P_new (N := 116) (n := 10) f_1_165 nc_3_23 (by decide) ⟨_, rfl, rfl⟩ (by decide +kernel) (by decide) (by decide) ?_
  refine s_dup f_1_168 rfl ?_
  refine s_initN (mc' := 0) (ms' := 0) (As := []) f_1_169 ca_3_72 rfl rfl (Nat.le_of_ble_eq_true rfl) (by decide) (by decide) ?_
  refine t_ini4 ?_
  refine P_aast (q := 15) f_1_172 (by decide) (by decide) (by decide) (by decide) (by decide) (by decide +kernel) ?_
  refine k_iinc (w := 1) f_1_173 rfl (by decide) (by decide) ?_
  refine aAt.sub [(0, .ref 71), (1, .int 16)] rfl ?_
  refine s_goto 154 f_1_176 (by decide) ?_
  refine s_iload_n f_1_154 rfl ?_
  refine k_bipush (v := 20) f_1_155 (by decide) ?_
  refine s_icmp_ge 179 f_1_157 (by decide) (fun c => absurd c (by decide)) (fun _ => ?_)
  refine s_aload_n f_1_160 rfl ?_
  refine P_getR (q := 74) f_1_161 fd_3_25 (by decide) (by decide) (by decide) (by decide +kernel) ?_
  refine s_iload_n f_1_164 rfl ?_
  refine P_new (N := 117) (n := 10) f_1_165 nc_3_23 (by decide) ⟨_, rfl, rfl⟩ (by decide +kernel) (by decide) (by decide) ?_
  refine s_dup f_1_168 rfl ?_
  refine s_initN (mc' := 0) (ms' := 0) (As := []) f_1_169 ca_3_72 rfl rfl (Nat.le_of_ble_eq_true rfl) (by decide) (by decide) ?_
  refine t_ini4 ?_
  refine P_aast (q := 16) f_1_172 (by decide) (by decide) (by decide) (by decide) (by decide) (by decide +kernel) ?_
  refine k_iinc (w := 1) f_1_173 rfl (by decide) (by decide) ?_
  refine aAt.sub [(0, .ref 71), (1, .int 17)] rfl ?_
  refine s_goto 154 f_1_176 (by decide) ?_
  refine s_iload_n f_1_154 rfl ?_
  refine k_bipush (v := 20) f_1_155 (by decide) ?_
  refine s_icmp_ge 179 f_1_157 (by decide) (fun c => absurd c (by decide)) (fun _ => ?_)
  refine s_aload_n f_1_160 rfl ?_
  refine P_getR (q := 74) f_1_161 fd_3_25 (by decide) (by decide) (by decide) (by decide +kernel) ?_
  refine s_iload_n f_1_164 rfl ?_
  refine P_new (N := 118) (n := 10) f_1_165 nc_3_23 (by decide) ⟨_, rfl, rfl⟩ (by decide +kernel) (by decide) (by decide) ?_
  refine s_dup f_1_168 rfl ?_
  refine s_initN (mc' := 0) (ms' := 0) (As := []) f_1_169 ca_3_72 rfl rfl (Nat.le_of_ble_eq_true rfl) (by decide) (by decide) ?_
  refine t_ini4 ?_
  refine P_aast (q := 17) f_1_172 (by decide) (by decide) (by decide) (by decide) (by decide) (by decide +kernel) ?_
  refine k_iinc (w := 1) f_1_173 rfl (by decide) (by decide) ?_
  refine aAt.sub [(0, .ref 71), (1, .int 18)] rfl ?_
  refine s_goto 154 f_1_176 (by decide) ?_
  refine s_iload_n f_1_154 rfl ?_
  refine k_bipush (v := 20) f_1_155 (by decide) ?_
  refine s_icmp_ge 179 f_1_157 (by decide) (fun c => absurd c (by decide)) (fun _ => ?_)
  refine s_aload_n f_1_160 rfl ?_
  refine P_getR (q := 74) f_1_161 fd_3_25 (by decide) (by decide) (by decide) (by decide +kernel) ?_
  refine s_iload_n f_1_164 rfl ?_
  refine P_new (N := 119) (n := 10) f_1_165 nc_3_23 (by decide) ⟨_, rfl, rfl⟩ (by decide +kernel) (by decide) (by decide) ?_
  refine s_dup f_1_168 rfl ?_
  refine s_initN (mc' := 0) (ms' := 0) (As := []) f_1_169 ca_3_72 rfl rfl (Nat.le_of_ble_eq_true rfl) (by decide) (by decide) ?_
  refine t_ini4 ?_
  refine P_aast (q := 18) f_1_172 (by decide) (by decide) (by decide) (by decide) (by decide) (by decide +kernel) ?_
  refine k_iinc (w := 1) f_1_173 rfl (by decide) (by decide) ?_
  refine aAt.sub [(0, .ref 71), (1, .int 19)] rfl ?_
  refine s_goto 154 f_1_176 (by decide) ?_
  refine s_iload_n f_1_154 rfl ?_
  refine k_bipush (v := 20) f_1_155 (by decide) ?_
  refine s_icmp_ge 179 f_1_157 (by decide) (fun c => absurd c (by decide)) (fun _ => ?_)
  refine s_aload_n f_1_160 rfl ?_
  refine P_getR (q := 74) f_1_161 fd_3_25 (by decide) (by decide) (by decide) (by decide +kernel) ?_
  refine s_iload_n f_1_164 rfl ?_
  refine P_new (N := 120) (n := 10) f_1_165 nc_3_23 (by decide) ⟨_, rfl, rfl⟩ (by decide +kernel) (by decide) (by decide) ?_
  refine s_dup f_1_168 rfl ?_
  refine s_initN (mc' := 0) (ms' := 0) (As := []) f_1_169 ca_3_72 rfl rfl (Nat.le_of_ble_eq_true rfl) (by decide) (by decide) ?_
  refine t_ini4 ?_
  refine P_aast (q := 19) f_1_172 (by decide) (by decide) (by decide) (by decide) (by decide) (by decide +kernel) ?_
  refine k_iinc (w := 1) f_1_173 rfl (by decide) (by decide) ?_
  refine aAt.sub [(0, .ref 71), (1, .int 20)] rfl ?_
  refine s_goto 154 f_1_176 (by decide) ?_
  refine s_iload_n f_1_154 rfl ?_
  refine k_bipush (v := 20) f_1_155 (by decide) ?_
  refine s_icmp_ge 179 f_1_157 (by decide) (fun _ => ?_) (fun c => absurd (by decide) c)
  refine k_iconst (v := 0) f_1_179 (by decide) ?_
  refine s_istore_n f_1_180 (by decide) ?_
  refine aAt.sub [(0, .ref 71), (1, .int 0)] rfl ?_
  refine s_iload_n f_1_181 rfl ?_
  refine k_bipush (v := 12) f_1_182 (by decide) ?_
  refine s_icmp_ge 206 f_1_184 (by decide) (fun c => absurd c (by decide)) (fun _ => ?_)
  refine s_aload_n f_1_187 rfl ?_
  refine P_getR (q := 75) f_1_188 fd_3_31 (by decide) (by decide) (by decide) (by decide +kernel) ?_
  refine s_iload_n f_1_191 rfl ?_
  refine P_new (N := 121) (n := 3) f_1_192 nc_3_29 (by decide) ⟨_, rfl, rfl⟩ (by decide +kernel) (by decide) (by decide) ?_
  refine s_dup f_1_195 rfl ?_
  refine s_initN (mc' := 0) (ms' := 0) (As := []) f_1_196 ca_3_73 rfl rfl (Nat.le_of_ble_eq_true rfl) (by decide) (by decide) ?_
  refine t_ini5 (x := 121) (by decide) (by decide) (by decide) ?_
  refine P_aast (q := 0) f_1_199 (by decide) (by decide) (by decide) (by decide) (by decide) (by decide +kernel) ?_
  refine k_iinc (w := 1) f_1_200 rfl (by decide) (by decide) ?_
  refine aAt.sub [(0, .ref 71), (1, .int 1)] rfl ?_
  refine s_goto 181 f_1_203 (by decide) ?_
  refine s_iload_n f_1_181 rfl ?_
  refine k_bipush (v := 12) f_1_182 (by decide) ?_
  refine s_icmp_ge 206 f_1_184 (by decide) (fun c => absurd c (by decide)) (fun _ => ?_)
  refine s_aload_n f_1_187 rfl ?_
  refine P_getR (q := 75) f_1_188 fd_3_31 (by decide) (by decide) (by decide) (by decide +kernel) ?_
  refine s_iload_n f_1_191 rfl ?_
  refine P_new (N := 122) (n := 3) f_1_192 nc_3_29 (by decide) ⟨_, rfl, rfl⟩ (by decide +kernel) (by decide) (by decide) ?_
  refine s_dup f_1_195 rfl ?_
  refine s_initN (mc' := 0) (ms' := 0) (As := []) f_1_196 ca_3_73 rfl rfl (Nat.le_of_ble_eq_true rfl) (by decide) (by decide) ?_
  refine t_ini5 (x := 122) (by decide) (by decide) (by decide) ?_
  refine P_aast (q := 1) f_1_199 (by decide) (by decide) (by decide) (by decide) (by decide) (by decide +kernel) ?_
  refine k_iinc (w := 1) f_1_200 rfl (by decide) (by decide) ?_
  refine aAt.sub [(0, .ref 71), (1, .int 2)] rfl ?_
  refine s_goto 181 f_1_203 (by decide) ?_
  refine s_iload_n f_1_181 rfl ?_
  refine k_bipush (v := 12) f_1_182 (by decide) ?_
  refine s_icmp_ge 206 f_1_184 (by decide) (fun c => absurd c (by decide)) (fun _ => ?_)
  refine s_aload_n f_1_187 rfl ?_
  refine P_getR (q := 75) f_1_188 fd_3_31 (by decide) (by decide) (by decide) (by decide +kernel) ?_
  refine s_iload_n f_1_191 rfl ?_
  refine P_new (N := 123) (n := 3) f_1_192 nc_3_29 (by decide) ⟨_, rfl, rfl⟩ (by decide +kernel) (by decide) (by decide) ?_
  refine s_dup f_1_195 rfl ?_
  refine s_initN (mc' := 0) (ms' := 0) (As := []) f_1_196 ca_3_73 rfl rfl (Nat.le_of_ble_eq_true rfl) (by decide) (by decide) ?_
  refine t_ini5 (x := 123) (by decide) (by decide) (by decide) ?_
  refine P_aast (q := 2) f_1_199 (by decide) (by decide) (by decide) (by decide) (by decide) (by decide +kernel) ?_
  refine k_iinc (w := 1) f_1_200 rfl (by decide) (by decide) ?_
  refine aAt.sub [(0, .ref 71), (1, .int 3)] rfl ?_
  refine s_goto 181 f_1_203 (by decide) ?_
  refine s_iload_n f_1_181 rfl ?_
  refine k_bipush (v := 12) f_1_182 (by decide) ?_
  refine s_icmp_ge 206 f_1_184 (by decide) (fun c => absurd c (by decide)) (fun _ => ?_)
  refine s_aload_n f_1_187 rfl ?_
  refine P_getR (q := 75) f_1_188 fd_3_31 (by decide) (by decide) (by decide) (by decide +kernel) ?_
  refine s_iload_n f_1_191 rfl ?_
  refine P_new (N := 124) (n := 3) f_1_192 nc_3_29 (by decide) ⟨_, rfl, rfl⟩ (by decide +kernel) (by decide) (by decide) ?_
  refine s_dup f_1_195 rfl ?_
  refine s_initN (mc' := 0) (ms' := 0) (As := []) f_1_196 ca_3_73 rfl rfl (Nat.le_of_ble_eq_true rfl) (by decide) (by decide) ?_
  refine t_ini5 (x := 124) (by decide) (by decide) (by decide) ?_
  refine P_aast (q := 3) f_1_199 (by decide) (by decide) (by decide) (by decide) (by decide) (by decide +kernel) ?_
  refine k_iinc (w := 1) f_1_200 rfl (by decide) (by decide) ?_
  refine aAt.sub [(0, .ref 71), (1, .int 4)] rfl ?_
  refine s_goto 181 f_1_203 (by decide) ?_
  refine s_iload_n f_1_181 rfl ?_
  refine k_bipush (v := 12) f_1_182 (by decide) ?_
  refine s_icmp_ge 206 f_1_184 (by decide) (fun c => absurd c (by decide)) (fun _ => ?_)
  refine s_aload_n f_1_187 rfl ?_
  refine P_getR (q := 75) f_1_188 fd_3_31 (by decide) (by decide) (by decide) (by decide +kernel) ?_
  refine s_iload_n f_1_191 rfl ?_
  refine P_new (N := 125) (n := 3) f_1_192 nc_3_29 (by decide) ⟨_, rfl, rfl⟩ (by decide +kernel) (by decide) (by decide) ?_
  refine s_dup f_1_195 rfl ?_
  refine s_initN (mc' := 0) (ms' := 0) (As := []) f_1_196 ca_3_73 rfl rfl (Nat.le_of_ble_eq_true rfl) (by decide) (by decide) ?_
  refine t_ini5 (x := 125) (by decide) (by decide) (by decide) ?_
  refine P_aast (q := 4) f_1_199 (by decide) (by decide) (by decide) (by decide) (by decide) (by decide +kernel) ?_
  refine k_iinc (w := 1) f_1_200 rfl (by decide) (by decide) ?_
  refine aAt.sub [(0, .ref 71), (1, .int 5)] rfl ?_
  refine s_goto 181 f_1_203 (by decide) ?_
  refine s_iload_n f_1_181 rfl ?_
  refine k_bipush (v := 12) f_1_182 (by decide) ?_
  refine s_icmp_ge 206 f_1_184 (by decide) (fun c => absurd c (by decide)) (fun _ => ?_)
  refine s_aload_n f_1_187 rfl ?_
  refine P_getR (q := 75) f_1_188 fd_3_31 (by decide) (by decide) (by decide) (by decide +kernel) ?_
  refine s_iload_n f_1_191 rfl ?_
  refine P_new (N := 126) (n := 3) f_1_192 nc_3_29 (by decide) ⟨_, rfl, rfl⟩ (by decide +kernel) (by decide) (by decide) ?_
  refine s_dup f_1_195 rfl ?_
  refine s_initN (mc' := 0) (ms' := 0) (As := []) f_1_196 ca_3_73 rfl rfl (Nat.le_of_ble_eq_true rfl) (by decide) (by decide) ?_
  refine t_ini5 (x := 126) (by decide) (by decide) (by decide) ?_
  refine P_aast (q := 5) f_1_199 (by decide) (by decide) (by decide) (by decide) (by decide) (by decide +kernel) ?_
  refine k_iinc (w := 1) f_1_200 rfl (by decide) (by decide) ?_
  refine aAt.sub [(0, .ref 71), (1, .int 6)] rfl ?_
  refine s_goto 181 f_1_203 (by decide) ?_
  refine s_iload_n f_1_181 rfl ?_
  refine k_bipush (v := 12) f_1_182 (by decide) ?_
  refine s_icmp_ge 206 f_1_184 (by decide) (fun c => absurd c (by decide)) (fun _ => ?_)
  refine s_aload_n f_1_187 rfl ?_
  refine P_getR (q := 75) f_1_188 fd_3_31 (by decide) (by decide) (by decide) (by decide +kernel) ?_
  refine s_iload_n f_1_191 rfl ?_
  refine P_new (N := 127) (n := 3) f_1_192 nc_3_29 (by decide) ⟨_, rfl, rfl⟩ (by decide +kernel) (by decide) (by decide) ?_
  refine s_dup f_1_195 rfl ?_
  refine s_initN (mc' := 0) (ms' := 0) (As := []) f_1_196 ca_3_73 rfl rfl (Nat.le_of_ble_eq_true rfl) (by decide) (by decide) ?_
  refine t_ini5 (x := 127) (by decide) (by decide) (by decide) ?_
  refine P_aast (q := 6) f_1_199 (by decide) (by decide) (by decide) (by decide) (by decide) (by decide +kernel) ?_
  refine k_iinc (w := 1) f_1_200 rfl (by decide) (by decide) ?_
  refine aAt.sub [(0, .ref 71), (1, .int 7)] rfl ?_
  refine s_goto 181 f_1_203 (by decide) ?_
  refine s_iload_n f_1_181 rfl ?_
  refine k_bipush (v := 12) f_1_182 (by decide) ?_
  refine s_icmp_ge 206 f_1_184 (by decide) (fun c => absurd c (by decide)) (fun _ => ?_)
  refine s_aload_n f_1_187 rfl ?_
  refine P_getR (q := 75) f_1_188 fd_3_31 (by decide) (by decide) (by decide) (by decide +kernel) ?_
  refine s_iload_n f_1_191 rfl ?_
  refine P_new (N := 128) (n := 3) f_1_192 nc_3_29 (by decide) ⟨_, rfl, rfl⟩ (by decide +kernel) (by decide) (by decide) ?_
  refine s_dup f_1_195 rfl ?_
  refine s_initN (mc' := 0) (ms' := 0) (As := []) f_1_196 ca_3_73 rfl rfl (Nat.le_of_ble_eq_true rfl) (by decide) (by decide) ?_
  refine t_ini5 (x := 128) (by decide) (by decide) (by decide) ?_
  refine P_aast (q := 7) f_1_199 (by decide) (by decide) (by decide) (by decide) (by decide) (by decide +kernel) ?_
  refine k_iinc (w := 1) f_1_200 rfl (by decide) (by decide) ?_
  refine aAt.sub [(0, .ref 71), (1, .int 8)] rfl ?_
  refine s_goto 181 f_1_203 (by decide) ?_
  refine s_iload_n f_1_181 rfl ?_
  refine k_bipush (v := 12) f_1_182 (by decide) ?_
  refine s_icmp_ge 206 f_1_184 (by decide) (fun c => absurd c (by decide)) (fun _ => ?_)
  refine s_aload_n f_1_187 rfl ?_
  refine P_getR (q := 75) f_1_188 fd_3_31 (by decide) (by decide) (by decide) (by decide +kernel) ?_
  refine s_iload_n f_1_191 rfl ?_
  refine P_new (N := 129) (n := 3) f_1_192 nc_3_29 (by decide) ⟨_, rfl, rfl⟩ (by decide +kernel) (by decide) (by decide) ?_
  refine s_dup f_1_195 rfl ?_
  refine s_initN (mc' := 0) (ms' := 0) (As := []) f_1_196 ca_3_73 rfl rfl (Nat.le_of_ble_eq_true rfl) (by decide) (by decide) ?_
  refine t_ini5 (x := 129) (by decide) (by decide) (by decide) ?_
  refine P_aast (q := 8) f_1_199 (by decide) (by decide) (by decide) (by decide) (by decide) (by decide +kernel) ?_
  refine k_iinc (w := 1) f_1_200 rfl (by decide) (by decide) ?_
  refine aAt.sub [(0, .ref 71), (1, .int 9)] rfl ?_
  refine s_goto 181 f_1_203 (by decide) ?_
  refine s_iload_n f_1_181 rfl ?_
  refine k_bipush (v := 12) f_1_182 (by decide) ?_
  refine s_icmp_ge 206 f_1_184 (by decide) (fun c => absurd c (by decide)) (fun _ => ?_)
  refine s_aload_n f_1_187 rfl ?_
  refine P_getR (q := 75) f_1_188 fd_3_31 (by decide) (by decide) (by decide) (by decide +kernel) ?_
  refine s_iload_n f_1_191 rfl ?_
  refine P_new (N := 130) (n := 3) f_1_192 nc_3_29 (by decide) ⟨_, rfl, rfl⟩ (by decide +kernel) (by decide) (by decide) ?_
  refine s_dup f_1_195 rfl ?_
  refine s_initN (mc' := 0) (ms' := 0) (As := []) f_1_196 ca_3_73 rfl rfl (Nat.le_of_ble_eq_true rfl) (by decide) (by decide) ?_
  refine t_ini5 (x := 130) (by decide) (by decide) (by decide) ?_
  refine P_aast (q := 9) f_1_199 (by decide) (by decide) (by decide) (by decide) (by decide) (by decide +kernel) ?_
  refine k_iinc (w := 1) f_1_200 rfl (by decide) (by decide) ?_
  refine aAt.sub [(0, .ref 71), (1, .int 10)] rfl ?_
  refine s_goto 181 f_1_203 (by decide) ?_
  refine s_iload_n f_1_181 rfl ?_
  refine k_bipush (v := 12) f_1_182 (by decide) ?_
  refine s_icmp_ge 206 f_1_184 (by decide) (fun c => absurd c (by decide)) (fun _ => ?_)
  refine s_aload_n f_1_187 rfl ?_
  refine P_getR (q := 75) f_1_188 fd_3_31 (by decide) (by decide) (by decide) (by decide +kernel) ?_
  refine s_iload_n f_1_191 rfl ?_
  refine P_new (N := 131) (n := 3) f_1_192 nc_3_29 (by decide) ⟨_, rfl, rfl⟩ (by decide +kernel) (by decide) (by decide) ?_
  refine s_dup f_1_195 rfl ?_
  refine s_initN (mc' := 0) (ms' := 0) (As := []) f_1_196 ca_3_73 rfl rfl (Nat.le_of_ble_eq_true rfl) (by decide) (by decide) ?_
  refine t_ini5 (x := 131) (by decide) (by decide) (by decide) ?_
  refine P_aast (q := 10) f_1_199 (by decide) (by decide) (by decide) (by decide) (by decide) (by decide +kernel) ?_
  refine k_iinc (w := 1) f_1_200 rfl (by decide) (by decide) ?_
  refine aAt.sub [(0, .ref 71), (1, .int 11)] rfl ?_
  refine s_goto 181 f_1_203 (by decide) ?_
  refine s_iload_n f_1_181 rfl ?_
  refine k_bipush (v := 12) f_1_182 (by decide) ?_
  refine s_icmp_ge 206 f_1_184 (by decide) (fun c => absurd c (by decide)) (fun _ => ?_)
  refine s_aload_n f_1_187 rfl ?_
  refine P_getR (q := 75) f_1_188 fd_3_31 (by decide) (by decide) (by decide) (by decide +kernel) ?_
  refine s_iload_n f_1_191 rfl ?_
  refine P_new (N := 132) (n := 3) f_1_192 nc_3_29 (by decide) ⟨_, rfl, rfl⟩ (by decide +kernel) (by decide) (by decide) ?_
  refine s_dup f_1_195 rfl ?_
  refine s_initN (mc' := 0) (ms' := 0) (As := []) f_1_196 ca_3_73 rfl rfl (Nat.le_of_ble_eq_true rfl) (by decide) (by decide) ?_
  refine t_ini5 (x := 132) (by decide) (by decide) (by decide) ?_
  refine P_aast (q := 11) f_1_199 (by decide) (by decide) (by decide) (by decide) (by decide) (by decide +kernel) ?_
  refine k_iinc (w := 1) f_1_200 rfl (by decide) (by decide) ?_
  refine aAt.sub [(0, .ref 71), (1, .int 12)] rfl ?_
  refine s_goto 181 f_1_203 (by decide) ?_
  refine s_iload_n f_1_181 rfl ?_
  refine k_bipush (v := 12) f_1_182 (by decide) ?_
  refine s_icmp_ge 206 f_1_184 (by decide) (fun _ => ?_) (fun c => absurd (by decide) c)
  exact s_return f_1_206 rfl hQ

theorem ct_6_133 {l : Launch} {G : aG} {d : Nat} {Q : Option Value → aHeap → Prop} {sl : Nat} {sx : Nat → Int32} (hQ : Q none (lay0 (old0 sl sx) 136 127 Z0)) : aCall l G (d + 1) 2 211 6 [.ref 133, .ref 9] (lay0 (old0 sl sx) 134 124 Z0) Q := by
  refine aCall.of (by decide) (Nat.le_of_ble_eq_true rfl) ?_
  refine aAt.sub [(0, .ref 133), (1, .ref 9)] rfl ?_
  refine s_aload_n f_6_0 rfl ?_
  refine s_objinit f_6_1 ca_1_3 (Nat.le_of_ble_eq_true rfl) ?_
  refine s_aload_n f_6_4 rfl ?_
  refine k_bipush (v := 11) f_6_5 (by decide) ?_
  refine P_newarr (N := 134) (n := 11) f_6_7 (by decide) (by decide) (by decide) (by decide) (fun _ => rfl) (by decide) (by decide) (by decide) ?_
  refine P_putR f_6_9 fd_1_11 (by decide) (by decide) (by decide) (by decide) (by decide +kernel) (Or.inr ⟨_, rfl⟩) (Or.inr ⟨rfl, rfl⟩) ?_
  refine s_aload_n f_6_12 rfl ?_
  refine k_sipush (v := 200) f_6_13 (by decide) ?_
  refine P_newarr (N := 135) (n := 200) f_6_16 (by decide) (by decide) (by decide) (by decide) (fun _ => rfl) (by decide) (by decide) (by decide) ?_
  refine P_putR f_6_18 fd_1_17 (by decide) (by decide) (by decide) (by decide) (by decide +kernel) (Or.inr ⟨_, rfl⟩) (Or.inr ⟨rfl, rfl⟩) ?_
  refine s_aload_n f_6_21 rfl ?_
  refine s_aload_n f_6_22 rfl ?_
  refine P_putR f_6_23 fd_1_20 (by decide) (by decide) (by decide) (by decide) (by decide +kernel) (Or.inl ⟨_, rfl⟩) (Or.inr ⟨rfl, rfl⟩) ?_
  exact s_return f_6_26 rfl hQ

theorem ct_7_136 {l : Launch} {G : aG} {d : Nat} {Q : Option Value → aHeap → Prop} {sl : Nat} {sx : Nat → Int32} (hQ : Q none (lay0 (old0 sl sx) 137 130 Z0)) : aCall l G (d + 1) 0 0 7 [.ref 136, .ref 9, .ref 133] (lay0 (old0 sl sx) 137 128 Z0) Q := by
  refine aCall.of (by decide) (Nat.le_of_ble_eq_true rfl) ?_
  refine aAt.sub [(0, .ref 136), (1, .ref 9), (2, .ref 133)] rfl ?_
  refine s_aload_n f_7_0 rfl ?_
  refine s_objinit f_7_1 ca_8_3 (Nat.le_of_ble_eq_true rfl) ?_
  refine s_aload_n f_7_4 rfl ?_
  refine s_aload_n f_7_5 rfl ?_
  refine P_putR f_7_6 fd_8_9 (by decide) (by decide) (by decide) (by decide) (by decide +kernel) (Or.inl ⟨_, rfl⟩) (Or.inr ⟨rfl, rfl⟩) ?_
  refine s_aload_n f_7_9 rfl ?_
  refine s_aload_n f_7_10 rfl ?_
  refine P_putR f_7_11 fd_8_15 (by decide) (by decide) (by decide) (by decide) (by decide +kernel) (Or.inl ⟨_, rfl⟩) (Or.inr ⟨rfl, rfl⟩) ?_
  exact s_return f_7_14 rfl hQ

theorem ct_8_137 {l : Launch} {G : aG} {d : Nat} {Q : Option Value → aHeap → Prop} {sl : Nat} {sx : Nat → Int32} (hQ : Q none (lay0 (old0 sl sx) 143 136 Z0)) : aCall l G (d + 1) 5 805 8 [.ref 137] (lay0 (old0 sl sx) 138 131 Z0) Q := by
  refine aCall.of (by decide) (Nat.le_of_ble_eq_true rfl) ?_
  refine aAt.sub [(0, .ref 137)] rfl ?_
  refine s_aload_n f_8_0 rfl ?_
  refine s_objinit f_8_1 ca_7_3 (Nat.le_of_ble_eq_true rfl) ?_
  refine s_aload_n f_8_4 rfl ?_
  refine k_sipush (v := 200) f_8_5 (by decide) ?_
  refine P_newarr (N := 138) (n := 200) f_8_8 (by decide) (by decide) (by decide) (by decide) (fun _ => rfl) (by decide) (by decide) (by decide) ?_
  refine P_putR f_8_10 fd_7_11 (by decide) (by decide) (by decide) (by decide) (by decide +kernel) (Or.inr ⟨_, rfl⟩) (Or.inr ⟨rfl, rfl⟩) ?_
  refine s_aload_n f_8_13 rfl ?_
  refine k_iconst (v := 0) f_8_14 (by decide) ?_
  refine P_put0 f_8_15 fd_7_15 (by decide) (by decide) (by decide) rfl (Or.inl rfl) (Or.inr ⟨rfl, rfl⟩) ?_
  refine s_aload_n f_8_18 rfl ?_
  refine k_sipush (v := 201) f_8_19 (by decide) ?_
  refine P_newarr (N := 139) (n := 201) f_8_22 (by decide) (by decide) (by decide) (by decide) (fun _ => rfl) (by decide) (by decide) (by decide) ?_
  refine P_putR f_8_24 fd_7_19 (by decide) (by decide) (by decide) (by decide) (by decide +kernel) (Or.inr ⟨_, rfl⟩) (Or.inr ⟨rfl, rfl⟩) ?_
  refine s_aload_n f_8_27 rfl ?_
  refine k_sipush (v := 201) f_8_28 (by decide) ?_
  refine P_newarr (N := 140) (n := 201) f_8_31 (by decide) (by decide) (by decide) (by decide) (fun _ => rfl) (by decide) (by decide) (by decide) ?_
  refine P_putR f_8_33 fd_7_22 (by decide) (by decide) (by decide) (by decide) (by decide +kernel) (Or.inr ⟨_, rfl⟩) (Or.inr ⟨rfl, rfl⟩) ?_
  refine s_aload_n f_8_36 rfl ?_
  refine k_iconst (v := 0) f_8_37 (by decide) ?_
  refine P_put0 f_8_38 fd_7_25 (by decide) (by decide) (by decide) rfl (Or.inl rfl) (Or.inr ⟨rfl, rfl⟩) ?_
  refine s_aload_n f_8_41 rfl ?_
  refine k_iconst (v := 0) f_8_42 (by decide) ?_
  refine P_put0 f_8_43 fd_7_28 (by decide) (by decide) (by decide) rfl (Or.inl rfl) (Or.inr ⟨rfl, rfl⟩) ?_
  refine s_aload_n f_8_46 rfl ?_
  refine k_sipush (v := 200) f_8_47 (by decide) ?_
  refine P_newarr (N := 141) (n := 200) f_8_50 (by decide) (by decide) (by decide) (by decide) (fun _ => rfl) (by decide) (by decide) (by decide) ?_
  refine P_putR f_8_52 fd_7_31 (by decide) (by decide) (by decide) (by decide) (by decide +kernel) (Or.inr ⟨_, rfl⟩) (Or.inr ⟨rfl, rfl⟩) ?_
  refine s_aload_n f_8_55 rfl ?_
  refine k_iconst (v := 0) f_8_56 (by decide) ?_
  refine P_put0 f_8_57 fd_7_34 (by decide) (by decide) (by decide) rfl (Or.inl rfl) (Or.inr ⟨rfl, rfl⟩) ?_
  refine s_aload_n f_8_60 rfl ?_
  refine k_iconst (v := 3) f_8_61 (by decide) ?_
  refine P_newarr (N := 142) (n := 3) f_8_62 (by decide) (by decide) (by decide) (by decide) (fun _ => rfl) (by decide) (by decide) (by decide) ?_
  refine P_putR f_8_64 fd_7_37 (by decide) (by decide) (by decide) (by decide) (by decide +kernel) (Or.inr ⟨_, rfl⟩) (Or.inr ⟨rfl, rfl⟩) ?_
  exact s_return f_8_67 rfl hQ

theorem ct_9_143 {l : Launch} {G : aG} {d : Nat} {Q : Option Value → aHeap → Prop} {sl : Nat} {sx : Nat → Int32} (hQ : Q none (lay0 (old0 sl sx) 145 138 (up Z0 143 0 (-1)))) : aCall l G (d + 1) 1 3721 9 [.ref 143] (lay0 (old0 sl sx) 144 137 Z0) Q := by
  refine aCall.of (by decide) (Nat.le_of_ble_eq_true rfl) ?_
  refine aAt.sub [(0, .ref 143)] rfl ?_
  refine s_aload_n f_9_0 rfl ?_
  refine s_objinit f_9_1 ca_11_5 (Nat.le_of_ble_eq_true rfl) ?_
  refine s_aload_n f_9_4 rfl ?_
  refine k_iconst (v := (-1)) f_9_5 (by decide) ?_
  refine P_putI f_9_6 fd_11_11 (by decide) (by decide) (by decide) (Or.inl rfl) (Or.inr ⟨rfl, rfl⟩) ?_
  refine s_aload_n f_9_9 rfl ?_
  refine k_sipush (v := 3721) f_9_10 (by decide) ?_
  refine P_newarr (N := 144) (n := 3721) f_9_13 (by decide) (by decide) (by decide) (by decide) (fun _ => rfl) (by decide) (by decide) (by decide) ?_
  refine P_putR f_9_15 fd_11_15 (by decide) (by decide) (by decide) (by decide) (by decide +kernel) (Or.inr ⟨_, rfl⟩) (Or.inr ⟨rfl, rfl⟩) ?_
  exact s_return f_9_18 rfl hQ

theorem ct_10_146 {l : Launch} {G : aG} {d : Nat} {Q : Option Value → aHeap → Prop} {sl : Nat} {sx : Nat → Int32} (hQ : Q none (lay0 (old0 sl sx) 148 141 (up Z0 143 0 (-1)))) : aCall l G (d + 1) 1 20 10 [.ref 146] (lay0 (old0 sl sx) 147 140 (up Z0 143 0 (-1))) Q := by
  refine aCall.of (by decide) (Nat.le_of_ble_eq_true rfl) ?_
  refine aAt.sub [(0, .ref 146)] rfl ?_
  refine s_aload_n f_10_0 rfl ?_
  refine s_objinit f_10_1 ca_9_1 (Nat.le_of_ble_eq_true rfl) ?_
  refine s_aload_n f_10_4 rfl ?_
  refine k_bipush (v := 20) f_10_5 (by decide) ?_
  refine P_newarr (N := 147) (n := 20) f_10_7 (by decide) (by decide) (by decide) (by decide) (fun _ => rfl) (by decide) (by decide) (by decide) ?_
  refine P_putR f_10_9 fd_9_9 (by decide) (by decide) (by decide) (by decide) (by decide +kernel) (Or.inr ⟨_, rfl⟩) (Or.inr ⟨rfl, rfl⟩) ?_
  refine s_aload_n f_10_12 rfl ?_
  refine k_iconst (v := 0) f_10_13 (by decide) ?_
  refine P_put0 f_10_14 fd_9_13 (by decide) (by decide) (by decide) rfl (Or.inl rfl) (Or.inr ⟨rfl, rfl⟩) ?_
  refine s_aload_n f_10_17 rfl ?_
  refine k_iconst (v := 0) f_10_18 (by decide) ?_
  refine P_put0 f_10_19 fd_9_17 (by decide) (by decide) (by decide) rfl (Or.inl rfl) (Or.inr ⟨rfl, rfl⟩) ?_
  exact s_return f_10_22 rfl hQ

theorem ct_10_148 {l : Launch} {G : aG} {d : Nat} {Q : Option Value → aHeap → Prop} {sl : Nat} {sx : Nat → Int32} (hQ : Q none (lay0 (old0 sl sx) 150 143 (up Z0 143 0 (-1)))) : aCall l G (d + 1) 1 20 10 [.ref 148] (lay0 (old0 sl sx) 149 142 (up Z0 143 0 (-1))) Q := by
  refine aCall.of (by decide) (Nat.le_of_ble_eq_true rfl) ?_
  refine aAt.sub [(0, .ref 148)] rfl ?_
  refine s_aload_n f_10_0 rfl ?_
  refine s_objinit f_10_1 ca_9_1 (Nat.le_of_ble_eq_true rfl) ?_
  refine s_aload_n f_10_4 rfl ?_
  refine k_bipush (v := 20) f_10_5 (by decide) ?_
  refine P_newarr (N := 149) (n := 20) f_10_7 (by decide) (by decide) (by decide) (by decide) (fun _ => rfl) (by decide) (by decide) (by decide) ?_
  refine P_putR f_10_9 fd_9_9 (by decide) (by decide) (by decide) (by decide) (by decide +kernel) (Or.inr ⟨_, rfl⟩) (Or.inr ⟨rfl, rfl⟩) ?_
  refine s_aload_n f_10_12 rfl ?_
  refine k_iconst (v := 0) f_10_13 (by decide) ?_
  refine P_put0 f_10_14 fd_9_13 (by decide) (by decide) (by decide) rfl (Or.inl rfl) (Or.inr ⟨rfl, rfl⟩) ?_
  refine s_aload_n f_10_17 rfl ?_
  refine k_iconst (v := 0) f_10_18 (by decide) ?_
  refine P_put0 f_10_19 fd_9_17 (by decide) (by decide) (by decide) rfl (Or.inl rfl) (Or.inr ⟨rfl, rfl⟩) ?_
  exact s_return f_10_22 rfl hQ

theorem ct_10_150 {l : Launch} {G : aG} {d : Nat} {Q : Option Value → aHeap → Prop} {sl : Nat} {sx : Nat → Int32} (hQ : Q none (lay0 (old0 sl sx) 152 145 (up Z0 143 0 (-1)))) : aCall l G (d + 1) 1 20 10 [.ref 150] (lay0 (old0 sl sx) 151 144 (up Z0 143 0 (-1))) Q := by
  refine aCall.of (by decide) (Nat.le_of_ble_eq_true rfl) ?_
  refine aAt.sub [(0, .ref 150)] rfl ?_
  refine s_aload_n f_10_0 rfl ?_
  refine s_objinit f_10_1 ca_9_1 (Nat.le_of_ble_eq_true rfl) ?_
  refine s_aload_n f_10_4 rfl ?_
  refine k_bipush (v := 20) f_10_5 (by decide) ?_
  refine P_newarr (N := 151) (n := 20) f_10_7 (by decide) (by decide) (by decide) (by decide) (fun _ => rfl) (by decide) (by decide) (by decide) ?_
  refine P_putR f_10_9 fd_9_9 (by decide) (by decide) (by decide) (by decide) (by decide +kernel) (Or.inr ⟨_, rfl⟩) (Or.inr ⟨rfl, rfl⟩) ?_
  refine s_aload_n f_10_12 rfl ?_
  refine k_iconst (v := 0) f_10_13 (by decide) ?_
  refine P_put0 f_10_14 fd_9_13 (by decide) (by decide) (by decide) rfl (Or.inl rfl) (Or.inr ⟨rfl, rfl⟩) ?_
  refine s_aload_n f_10_17 rfl ?_
  refine k_iconst (v := 0) f_10_18 (by decide) ?_
  refine P_put0 f_10_19 fd_9_17 (by decide) (by decide) (by decide) rfl (Or.inl rfl) (Or.inr ⟨rfl, rfl⟩) ?_
  exact s_return f_10_22 rfl hQ

theorem ct_10_152 {l : Launch} {G : aG} {d : Nat} {Q : Option Value → aHeap → Prop} {sl : Nat} {sx : Nat → Int32} (hQ : Q none (lay0 (old0 sl sx) 154 147 (up Z0 143 0 (-1)))) : aCall l G (d + 1) 1 20 10 [.ref 152] (lay0 (old0 sl sx) 153 146 (up Z0 143 0 (-1))) Q := by
  refine aCall.of (by decide) (Nat.le_of_ble_eq_true rfl) ?_
  refine aAt.sub [(0, .ref 152)] rfl ?_
  refine s_aload_n f_10_0 rfl ?_
  refine s_objinit f_10_1 ca_9_1 (Nat.le_of_ble_eq_true rfl) ?_
  refine s_aload_n f_10_4 rfl ?_
  refine k_bipush (v := 20) f_10_5 (by decide) ?_
  refine P_newarr (N := 153) (n := 20) f_10_7 (by decide) (by decide) (by decide) (by decide) (fun _ => rfl) (by decide) (by decide) (by decide) ?_
  refine P_putR f_10_9 fd_9_9 (by decide) (by decide) (by decide) (by decide) (by decide +kernel) (Or.inr ⟨_, rfl⟩) (Or.inr ⟨rfl, rfl⟩) ?_
  refine s_aload_n f_10_12 rfl ?_
  refine k_iconst (v := 0) f_10_13 (by decide) ?_
  refine P_put0 f_10_14 fd_9_13 (by decide) (by decide) (by decide) rfl (Or.inl rfl) (Or.inr ⟨rfl, rfl⟩) ?_
  refine s_aload_n f_10_17 rfl ?_
  refine k_iconst (v := 0) f_10_18 (by decide) ?_
  refine P_put0 f_10_19 fd_9_17 (by decide) (by decide) (by decide) rfl (Or.inl rfl) (Or.inr ⟨rfl, rfl⟩) ?_
  exact s_return f_10_22 rfl hQ

theorem ct_0_8 {l : Launch} {G : aG} {d : Nat} {Q : Option Value → aHeap → Prop} {sl : Nat} {sx : Nat → Int32} (hQ : Q none (lay0 (old0 sl sx) 154 148 (up Z0 143 0 (-1)))) : aCall l G (d + 3) 145 5843 0 [.ref 8] (lay0 (old0 sl sx) 9 0 Z0) Q := by
  refine aCall.of (by decide) (Nat.le_of_ble_eq_true rfl) ?_
  refine aAt.sub [(0, .ref 8)] rfl ?_
  refine s_aload_n f_0_0 rfl ?_
  refine s_objinit f_0_1 ca_0_1 (Nat.le_of_ble_eq_true rfl) ?_
  refine s_aload_n f_0_4 rfl ?_
  refine P_new (N := 9) (n := 14) f_0_5 nc_0_7 (by decide) ⟨_, rfl, rfl⟩ (by decide +kernel) (by decide) (by decide) ?_
  refine s_dup f_0_8 rfl ?_
  refine s_init (mc' := 61) (ms' := 483) (As := []) f_0_9 ca_0_9 rfl rfl (Nat.le_of_ble_eq_true rfl) (by decide) (by decide) ?_
  refine ct_1_9 ?_
  refine P_putR f_0_12 fd_0_10 (by decide) (by decide) (by decide) (by decide) (by decide +kernel) (Or.inl ⟨_, rfl⟩) (Or.inr ⟨rfl, rfl⟩) ?_
  refine s_aload_n f_0_15 rfl ?_
  refine P_new (N := 71) (n := 14) f_0_16 nc_0_7 (by decide) ⟨_, rfl, rfl⟩ (by decide +kernel) (by decide) (by decide) ?_
  refine s_dup f_0_19 rfl ?_
  refine s_init (mc' := 61) (ms' := 483) (As := []) f_0_20 ca_0_9 rfl rfl (Nat.le_of_ble_eq_true rfl) (by decide) (by decide) ?_
  refine ct_1_71 ?_
  refine P_putR f_0_23 fd_0_16 (by decide) (by decide) (by decide) (by decide) (by decide +kernel) (Or.inl ⟨_, rfl⟩) (Or.inr ⟨rfl, rfl⟩) ?_
  refine s_aload_n f_0_26 rfl ?_
  refine P_new (N := 133) (n := 3) f_0_27 nc_0_19 (by decide) ⟨_, rfl, rfl⟩ (by decide +kernel) (by decide) (by decide) ?_
  refine s_dup f_0_30 rfl ?_
  refine s_aload_n f_0_31 rfl ?_
  refine P_getR (q := 9) f_0_32 fd_0_10 (by decide) (by decide) (by decide) (by decide +kernel) ?_
  refine s_init (mc' := 2) (ms' := 211) (As := [.ref 9]) f_0_35 ca_0_21 rfl rfl (Nat.le_of_ble_eq_true rfl) (by decide) (by decide) ?_
  refine ct_6_133 ?_
  refine P_putR f_0_38 fd_0_24 (by decide) (by decide) (by decide) (by decide) (by decide +kernel) (Or.inl ⟨_, rfl⟩) (Or.inr ⟨rfl, rfl⟩) ?_
  refine s_aload_n f_0_41 rfl ?_
  refine P_new (N := 136) (n := 2) f_0_42 nc_0_28 (by decide) ⟨_, rfl, rfl⟩ (by decide +kernel) (by decide) (by decide) ?_
  refine s_dup f_0_45 rfl ?_
  refine s_aload_n f_0_46 rfl ?_
  refine P_getR (q := 9) f_0_47 fd_0_10 (by decide) (by decide) (by decide) (by decide +kernel) ?_
  refine s_aload_n f_0_50 rfl ?_
  refine P_getR (q := 133) f_0_51 fd_0_24 (by decide) (by decide) (by decide) (by decide +kernel) ?_
  refine s_init (mc' := 0) (ms' := 0) (As := [.ref 9, .ref 133]) f_0_54 ca_0_30 rfl rfl (Nat.le_of_ble_eq_true rfl) (by decide) (by decide) ?_
  refine ct_7_136 ?_
  refine P_putR f_0_57 fd_0_33 (by decide) (by decide) (by decide) (by decide) (by decide +kernel) (Or.inl ⟨_, rfl⟩) (Or.inr ⟨rfl, rfl⟩) ?_
  refine s_aload_n f_0_60 rfl ?_
  refine P_new (N := 137) (n := 9) f_0_61 nc_0_37 (by decide) ⟨_, rfl, rfl⟩ (by decide +kernel) (by decide) (by decide) ?_
  refine s_dup f_0_64 rfl ?_
  refine s_initN (mc' := 5) (ms' := 805) (As := []) f_0_65 ca_0_39 rfl rfl (Nat.le_of_ble_eq_true rfl) (by decide) (by decide) ?_
  refine ct_8_137 ?_
  refine P_putR f_0_68 fd_0_40 (by decide) (by decide) (by decide) (by decide) (by decide +kernel) (Or.inl ⟨_, rfl⟩) (Or.inr ⟨rfl, rfl⟩) ?_
  refine s_aload_n f_0_71 rfl ?_
  refine P_new (N := 143) (n := 2) f_0_72 nc_0_44 (by decide) ⟨_, rfl, rfl⟩ (by decide +kernel) (by decide) (by decide) ?_
  refine s_dup f_0_75 rfl ?_
  refine s_initN (mc' := 1) (ms' := 3721) (As := []) f_0_76 ca_0_46 rfl rfl (Nat.le_of_ble_eq_true rfl) (by decide) (by decide) ?_
  refine ct_9_143 ?_
  refine P_putR f_0_79 fd_0_47 (by decide) (by decide) (by decide) (by decide) (by decide +kernel) (Or.inl ⟨_, rfl⟩) (Or.inr ⟨rfl, rfl⟩) ?_
  refine s_aload_n f_0_82 rfl ?_
  refine k_iconst (v := 4) f_0_83 (by decide) ?_
  refine P_anew (N := 145) (n := 4) (ak := 35) f_0_84 (by decide +kernel) (by decide) (by decide) rfl (by decide) (by decide) (by decide +kernel) (by decide) (by decide) (by decide) (by decide) ?_
  refine P_putR f_0_87 fd_0_53 (by decide) (by decide) (by decide) (by decide) (by decide +kernel) (Or.inr ⟨_, rfl⟩) (Or.inr ⟨rfl, rfl⟩) ?_
  refine s_aload_n f_0_90 rfl ?_
  refine k_iconst (v := 0) f_0_91 (by decide) ?_
  refine P_put0 f_0_92 fd_0_57 (by decide) (by decide) (by decide) rfl (Or.inr ⟨rfl, by decide⟩) (Or.inr ⟨rfl, rfl⟩) ?_
  refine s_aload_n f_0_95 rfl ?_
  refine k_iconst (v := 0) f_0_96 (by decide) ?_
  refine P_put0 f_0_97 fd_0_61 (by decide) (by decide) (by decide) rfl (Or.inl rfl) (Or.inr ⟨rfl, rfl⟩) ?_
  refine k_iconst (v := 0) f_0_100 (by decide) ?_
  refine s_istore_n f_0_101 (by decide) ?_
  refine aAt.sub [(0, .ref 8), (1, .int 0)] rfl ?_
  refine s_iload_n f_0_102 rfl ?_
  refine k_iconst (v := 4) f_0_103 (by decide) ?_
  refine s_icmp_ge 126 f_0_104 (by decide) (fun c => absurd c (by decide)) (fun _ => ?_)
  refine s_aload_n f_0_107 rfl ?_
  refine P_getR (q := 145) f_0_108 fd_0_53 (by decide) (by decide) (by decide) (by decide +kernel) ?_
  refine s_iload_n f_0_111 rfl ?_
  refine P_new (N := 146) (n := 3) f_0_112 nc_0_51 (by decide) ⟨_, rfl, rfl⟩ (by decide +kernel) (by decide) (by decide) ?_
  refine s_dup f_0_115 rfl ?_
  refine s_initN (mc' := 1) (ms' := 20) (As := []) f_0_116 ca_0_65 rfl rfl (Nat.le_of_ble_eq_true rfl) (by decide) (by decide) ?_
  refine ct_10_146 ?_
  refine P_aast (q := 0) f_0_119 (by decide) (by decide) (by decide) (by decide) (by decide) (by decide +kernel) ?_
  refine k_iinc (w := 1) f_0_120 rfl (by decide) (by decide) ?_
  refine aAt.sub [(0, .ref 8), (1, .int 1)] rfl ?_
  refine s_goto 102 f_0_123 (by decide) ?_
  refine s_iload_n f_0_102 rfl ?_
  refine k_iconst (v := 4) f_0_103 (by decide) ?_
  refine s_icmp_ge 126 f_0_104 (by decide) (fun c => absurd c (by decide)) (fun _ => ?_)
  refine s_aload_n f_0_107 rfl ?_
  refine P_getR (q := 145) f_0_108 fd_0_53 (by decide) (by decide) (by decide) (by decide +kernel) ?_
  refine s_iload_n f_0_111 rfl ?_
  refine P_new (N := 148) (n := 3) f_0_112 nc_0_51 (by decide) ⟨_, rfl, rfl⟩ (by decide +kernel) (by decide) (by decide) ?_
  refine s_dup f_0_115 rfl ?_
  refine s_initN (mc' := 1) (ms' := 20) (As := []) f_0_116 ca_0_65 rfl rfl (Nat.le_of_ble_eq_true rfl) (by decide) (by decide) ?_
  refine ct_10_148 ?_
  refine P_aast (q := 1) f_0_119 (by decide) (by decide) (by decide) (by decide) (by decide) (by decide +kernel) ?_
  refine k_iinc (w := 1) f_0_120 rfl (by decide) (by decide) ?_
  refine aAt.sub [(0, .ref 8), (1, .int 2)] rfl ?_
  refine s_goto 102 f_0_123 (by decide) ?_
  refine s_iload_n f_0_102 rfl ?_
  refine k_iconst (v := 4) f_0_103 (by decide) ?_
  refine s_icmp_ge 126 f_0_104 (by decide) (fun c => absurd c (by decide)) (fun _ => ?_)
  refine s_aload_n f_0_107 rfl ?_
  refine P_getR (q := 145) f_0_108 fd_0_53 (by decide) (by decide) (by decide) (by decide +kernel) ?_
  refine s_iload_n f_0_111 rfl ?_
  refine P_new (N := 150) (n := 3) f_0_112 nc_0_51 (by decide) ⟨_, rfl, rfl⟩ (by decide +kernel) (by decide) (by decide) ?_
  refine s_dup f_0_115 rfl ?_
  refine s_initN (mc' := 1) (ms' := 20) (As := []) f_0_116 ca_0_65 rfl rfl (Nat.le_of_ble_eq_true rfl) (by decide) (by decide) ?_
  refine ct_10_150 ?_
  refine P_aast (q := 2) f_0_119 (by decide) (by decide) (by decide) (by decide) (by decide) (by decide +kernel) ?_
  refine k_iinc (w := 1) f_0_120 rfl (by decide) (by decide) ?_
  refine aAt.sub [(0, .ref 8), (1, .int 3)] rfl ?_
  refine s_goto 102 f_0_123 (by decide) ?_
  refine s_iload_n f_0_102 rfl ?_
  refine k_iconst (v := 4) f_0_103 (by decide) ?_
  refine s_icmp_ge 126 f_0_104 (by decide) (fun c => absurd c (by decide)) (fun _ => ?_)
  refine s_aload_n f_0_107 rfl ?_
  refine P_getR (q := 145) f_0_108 fd_0_53 (by decide) (by decide) (by decide) (by decide +kernel) ?_
  refine s_iload_n f_0_111 rfl ?_
  refine P_new (N := 152) (n := 3) f_0_112 nc_0_51 (by decide) ⟨_, rfl, rfl⟩ (by decide +kernel) (by decide) (by decide) ?_
  refine s_dup f_0_115 rfl ?_
  refine s_initN (mc' := 1) (ms' := 20) (As := []) f_0_116 ca_0_65 rfl rfl (Nat.le_of_ble_eq_true rfl) (by decide) (by decide) ?_
  refine ct_10_152 ?_
  refine P_aast (q := 3) f_0_119 (by decide) (by decide) (by decide) (by decide) (by decide) (by decide +kernel) ?_
  refine k_iinc (w := 1) f_0_120 rfl (by decide) (by decide) ?_
  refine aAt.sub [(0, .ref 8), (1, .int 4)] rfl ?_
  refine s_goto 102 f_0_123 (by decide) ?_
  refine s_iload_n f_0_102 rfl ?_
  refine k_iconst (v := 4) f_0_103 (by decide) ?_
  refine s_icmp_ge 126 f_0_104 (by decide) (fun _ => ?_) (fun c => absurd (by decide) c)
  exact s_return f_0_126 rfl hQ

theorem ct_176_154 {l : Launch} {G : aG} {d : Nat} {Q : Option Value → aHeap → Prop} {sl : Nat} {sx : Nat → Int32} (hQ : Q none (lay0 (old0 sl sx) 172 165 (up (up (up (up (up (up (up (up (up (up (up (up (up (up (up (up (up (up (up (up (up (up (up (up (up (up (up (up (up (up (up (up (up (up (up (up (up (up (up (up (up (up (up (up (up (up (up (up (up (up (up (up (up (up (up (up (up (up (up (up (up (up (up (up (up (up (up (up (up (up (up (up (up (up (up (up (up (up (up (up (up (up (up (up (up (up S1 161 0 107) 161 1 105) 161 2 110) 161 3 100) 161 4 97) 161 5 103) 161 6 101) 161 7 108) 161 8 101) 161 9 102) 161 10 116) 161 11 111) 161 12 119) 161 13 101) 161 14 100) 161 15 112) 161 16 97) 161 17 105) 161 18 100) 161 19 115) 161 20 117) 161 21 109) 161 22 119) 161 23 111) 161 24 114) 161 25 116) 161 26 104) 161 27 119) 161 28 111) 161 29 114) 161 30 100) 161 31 115) 161 32 116) 161 33 114) 161 34 97) 161 35 110) 161 36 103) 161 37 101) 161 38 114) 161 39 119) 161 40 97) 161 41 108) 161 42 108) 161 43 115) 161 44 116) 161 45 101) 161 46 114) 161 47 109) 161 48 102) 161 49 97) 161 50 108) 161 51 108) 161 52 115) 161 53 98) 161 54 97) 161 55 99) 161 56 107) 161 57 108) 161 58 111) 161 59 97) 161 60 110) 161 61 111) 161 62 114) 161 63 97) 161 64 110) 161 65 100) 161 66 110) 161 67 111) 161 68 116) 162 1 4) 162 2 7) 162 3 11) 162 4 15) 162 5 19) 162 6 22) 162 7 27) 162 8 31) 162 9 39) 162 10 44) 162 11 48) 162 12 53) 162 13 57) 162 14 61) 162 15 63) 162 16 66) 162 17 69))) : aCall l G (d + 1) 17 56674 176 [.ref 154] (lay0 (old0 sl sx) 155 148 S1) Q := by
  refine aCall.of (by decide) (Nat.le_of_ble_eq_true rfl) ?_
  refine aAt.sub [(0, .ref 154)] rfl ?_
  refine s_aload_n f_176_0 rfl ?_
  refine s_objinit f_176_1 ca_12_1 (Nat.le_of_ble_eq_true rfl) ?_
  refine s_aload_n f_176_4 rfl ?_
  refine k_sipush (v := 10759) f_176_5 (by decide) ?_
  refine P_newarr (N := 155) (n := 10759) f_176_8 (by decide) (by decide) (by decide) (by decide) (fun _ => rfl) (by decide) (by decide) (by decide) ?_
  refine P_putR f_176_10 fd_12_7 (by decide) (by decide) (by decide) (by decide) (by decide +kernel) (Or.inr ⟨_, rfl⟩) (Or.inr ⟨rfl, rfl⟩) ?_
  refine s_aload_n f_176_13 rfl ?_
  refine k_sipush (v := 10759) f_176_14 (by decide) ?_
  refine P_newarr (N := 156) (n := 10759) f_176_17 (by decide) (by decide) (by decide) (by decide) (fun _ => rfl) (by decide) (by decide) (by decide) ?_
  refine P_putR f_176_19 fd_12_13 (by decide) (by decide) (by decide) (by decide) (by decide +kernel) (Or.inr ⟨_, rfl⟩) (Or.inr ⟨rfl, rfl⟩) ?_
  refine s_aload_n f_176_22 rfl ?_
  refine k_bipush (v := 84) f_176_23 (by decide) ?_
  refine P_newarr (N := 157) (n := 84) f_176_25 (by decide) (by decide) (by decide) (by decide) (fun _ => rfl) (by decide) (by decide) (by decide) ?_
  refine P_putR f_176_27 fd_12_16 (by decide) (by decide) (by decide) (by decide) (by decide +kernel) (Or.inr ⟨_, rfl⟩) (Or.inr ⟨rfl, rfl⟩) ?_
  refine s_aload_n f_176_30 rfl ?_
  refine k_bipush (v := 84) f_176_31 (by decide) ?_
  refine P_newarr (N := 158) (n := 84) f_176_33 (by decide) (by decide) (by decide) (by decide) (fun _ => rfl) (by decide) (by decide) (by decide) ?_
  refine P_putR f_176_35 fd_12_20 (by decide) (by decide) (by decide) (by decide) (by decide +kernel) (Or.inr ⟨_, rfl⟩) (Or.inr ⟨rfl, rfl⟩) ?_
  refine s_aload_n f_176_38 rfl ?_
  refine k_bipush (v := 84) f_176_39 (by decide) ?_
  refine P_newarr (N := 159) (n := 84) f_176_41 (by decide) (by decide) (by decide) (by decide) (fun _ => rfl) (by decide) (by decide) (by decide) ?_
  refine P_putR f_176_43 fd_12_23 (by decide) (by decide) (by decide) (by decide) (by decide +kernel) (Or.inr ⟨_, rfl⟩) (Or.inr ⟨rfl, rfl⟩) ?_
  refine s_aload_n f_176_46 rfl ?_
  refine k_sipush (v := 200) f_176_47 (by decide) ?_
  refine P_newarr (N := 160) (n := 200) f_176_50 (by decide) (by decide) (by decide) (by decide) (fun _ => rfl) (by decide) (by decide) (by decide) ?_
  refine P_putR f_176_52 fd_12_26 (by decide) (by decide) (by decide) (by decide) (by decide +kernel) (Or.inr ⟨_, rfl⟩) (Or.inr ⟨rfl, rfl⟩) ?_
  refine s_aload_n f_176_55 rfl ?_
  refine k_bipush (v := 69) f_176_56 (by decide) ?_
  refine P_newarr (N := 161) (n := 69) f_176_58 (by decide) (by decide) (by decide) (by decide) (fun _ => rfl) (by decide) (by decide) (by decide) ?_
  refine s_dup f_176_60 rfl ?_
  refine k_iconst (v := 0) f_176_61 (by decide) ?_
  refine k_bipush (v := 107) f_176_62 (by decide) ?_
  refine P_cast (q := 0) f_176_64 (by decide) (by decide) (by decide) (by decide) ?_
  refine s_dup f_176_65 rfl ?_
  refine k_iconst (v := 1) f_176_66 (by decide) ?_
  refine k_bipush (v := 105) f_176_67 (by decide) ?_
  refine P_cast (q := 1) f_176_69 (by decide) (by decide) (by decide) (by decide) ?_
  refine s_dup f_176_70 rfl ?_
  refine k_iconst (v := 2) f_176_71 (by decide) ?_
  refine k_bipush (v := 110) f_176_72 (by decide) ?_
  refine P_cast (q := 2) f_176_74 (by decide) (by decide) (by decide) (by decide) ?_
  refine s_dup f_176_75 rfl ?_
  refine k_iconst (v := 3) f_176_76 (by decide) ?_
  refine k_bipush (v := 100) f_176_77 (by decide) ?_
  refine P_cast (q := 3) f_176_79 (by decide) (by decide) (by decide) (by decide) ?_
  refine s_dup f_176_80 rfl ?_
  refine k_iconst (v := 4) f_176_81 (by decide) ?_
  refine k_bipush (v := 97) f_176_82 (by decide) ?_
  refine P_cast (q := 4) f_176_84 (by decide) (by decide) (by decide) (by decide) ?_
  refine s_dup f_176_85 rfl ?_
  refine k_iconst (v := 5) f_176_86 (by decide) ?_
  refine k_bipush (v := 103) f_176_87 (by decide) ?_
  refine P_cast (q := 5) f_176_89 (by decide) (by decide) (by decide) (by decide) ?_
  refine s_dup f_176_90 rfl ?_
  refine k_bipush (v := 6) f_176_91 (by decide) ?_
  refine k_bipush (v := 101) f_176_93 (by decide) ?_
  refine P_cast (q := 6) f_176_95 (by decide) (by decide) (by decide) (by decide) ?_
  refine s_dup f_176_96 rfl ?_
  refine k_bipush (v := 7) f_176_97 (by decide) ?_
  refine k_bipush (v := 108) f_176_99 (by decide) ?_
  refine P_cast (q := 7) f_176_101 (by decide) (by decide) (by decide) (by decide) ?_
  refine s_dup f_176_102 rfl ?_
  refine k_bipush (v := 8) f_176_103 (by decide) ?_
  refine k_bipush (v := 101) f_176_105 (by decide) ?_
  refine P_cast (q := 8) f_176_107 (by decide) (by decide) (by decide) (by decide) ?_
  refine s_dup f_176_108 rfl ?_
  refine k_bipush (v := 9) f_176_109 (by decide) ?_
  refine k_bipush (v := 102) f_176_111 (by decide) ?_
  refine P_cast (q := 9) f_176_113 (by decide) (by decide) (by decide) (by decide) ?_
  refine s_dup f_176_114 rfl ?_
  refine k_bipush (v := 10) f_176_115 (by decide) ?_
  refine k_bipush (v := 116) f_176_117 (by decide) ?_
  refine P_cast (q := 10) f_176_119 (by decide) (by decide) (by decide) (by decide) ?_
  refine s_dup f_176_120 rfl ?_
  refine k_bipush (v := 11) f_176_121 (by decide) ?_
  refine k_bipush (v := 111) f_176_123 (by decide) ?_
  refine P_cast (q := 11) f_176_125 (by decide) (by decide) (by decide) (by decide) ?_
  refine s_dup f_176_126 rfl ?_
  refine k_bipush (v := 12) f_176_127 (by decide) ?_
  refine k_bipush (v := 119) f_176_129 (by decide) ?_
  refine P_cast (q := 12) f_176_131 (by decide) (by decide) (by decide) (by decide) ?_
  refine s_dup f_176_132 rfl ?_
  refine k_bipush (v := 13) f_176_133 (by decide) ?_
  refine k_bipush (v := 101) f_176_135 (by decide) ?_
  refine P_cast (q := 13) f_176_137 (by decide) (by decide) (by decide) (by decide) ?_
  refine s_dup f_176_138 rfl ?_
  refine k_bipush (v := 14) f_176_139 (by decide) ?_
  refine k_bipush (v := 100) f_176_141 (by decide) ?_
  refine P_cast (q := 14) f_176_143 (by decide) (by decide) (by decide) (by decide) ?_
  refine s_dup f_176_144 rfl ?_
  refine k_bipush (v := 15) f_176_145 (by decide) ?_
  refine k_bipush (v := 112) f_176_147 (by decide) ?_
  refine P_cast (q := 15) f_176_149 (by decide) (by decide) (by decide) (by decide) ?_
  refine s_dup f_176_150 rfl ?_
  refine k_bipush (v := 16) f_176_151 (by decide) ?_
  refine k_bipush (v := 97) f_176_153 (by decide) ?_
  refine P_cast (q := 16) f_176_155 (by decide) (by decide) (by decide) (by decide) ?_
  refine s_dup f_176_156 rfl ?_
  refine k_bipush (v := 17) f_176_157 (by decide) ?_
  refine k_bipush (v := 105) f_176_159 (by decide) ?_
  refine P_cast (q := 17) f_176_161 (by decide) (by decide) (by decide) (by decide) ?_
  refine s_dup f_176_162 rfl ?_
  refine k_bipush (v := 18) f_176_163 (by decide) ?_
  refine k_bipush (v := 100) f_176_165 (by decide) ?_
  refine P_cast (q := 18) f_176_167 (by decide) (by decide) (by decide) (by decide) ?_
  refine s_dup f_176_168 rfl ?_
  refine k_bipush (v := 19) f_176_169 (by decide) ?_
  refine k_bipush (v := 115) f_176_171 (by decide) ?_
  refine P_cast (q := 19) f_176_173 (by decide) (by decide) (by decide) (by decide) ?_
  refine s_dup f_176_174 rfl ?_
  refine k_bipush (v := 20) f_176_175 (by decide) ?_
  refine k_bipush (v := 117) f_176_177 (by decide) ?_
  refine P_cast (q := 20) f_176_179 (by decide) (by decide) (by decide) (by decide) ?_
  refine s_dup f_176_180 rfl ?_
  refine k_bipush (v := 21) f_176_181 (by decide) ?_
  refine k_bipush (v := 109) f_176_183 (by decide) ?_
  refine P_cast (q := 21) f_176_185 (by decide) (by decide) (by decide) (by decide) ?_
  refine s_dup f_176_186 rfl ?_
  refine k_bipush (v := 22) f_176_187 (by decide) ?_
  refine k_bipush (v := 119) f_176_189 (by decide) ?_
  refine P_cast (q := 22) f_176_191 (by decide) (by decide) (by decide) (by decide) ?_
  refine s_dup f_176_192 rfl ?_
  refine k_bipush (v := 23) f_176_193 (by decide) ?_
  refine k_bipush (v := 111) f_176_195 (by decide) ?_
  refine P_cast (q := 23) f_176_197 (by decide) (by decide) (by decide) (by decide) ?_
  refine s_dup f_176_198 rfl ?_
  refine k_bipush (v := 24) f_176_199 (by decide) ?_
  refine k_bipush (v := 114) f_176_201 (by decide) ?_
  refine P_cast (q := 24) f_176_203 (by decide) (by decide) (by decide) (by decide) ?_
  refine s_dup f_176_204 rfl ?_
  refine k_bipush (v := 25) f_176_205 (by decide) ?_
  refine k_bipush (v := 116) f_176_207 (by decide) ?_
  refine P_cast (q := 25) f_176_209 (by decide) (by decide) (by decide) (by decide) ?_
  refine s_dup f_176_210 rfl ?_
  refine k_bipush (v := 26) f_176_211 (by decide) ?_
  refine k_bipush (v := 104) f_176_213 (by decide) ?_
  refine P_cast (q := 26) f_176_215 (by decide) (by decide) (by decide) (by decide) ?_
  refine s_dup f_176_216 rfl ?_
  refine k_bipush (v := 27) f_176_217 (by decide) ?_
  refine k_bipush (v := 119) f_176_219 (by decide) ?_
  refine P_cast (q := 27) f_176_221 (by decide) (by decide) (by decide) (by decide) ?_
  refine s_dup f_176_222 rfl ?_
  refine k_bipush (v := 28) f_176_223 (by decide) ?_
  refine k_bipush (v := 111) f_176_225 (by decide) ?_
  refine P_cast (q := 28) f_176_227 (by decide) (by decide) (by decide) (by decide) ?_
  refine s_dup f_176_228 rfl ?_
  refine k_bipush (v := 29) f_176_229 (by decide) ?_
  refine k_bipush (v := 114) f_176_231 (by decide) ?_
  refine P_cast (q := 29) f_176_233 (by decide) (by decide) (by decide) (by decide) ?_
  refine s_dup f_176_234 rfl ?_
  refine k_bipush (v := 30) f_176_235 (by decide) ?_
  refine k_bipush (v := 100) f_176_237 (by decide) ?_
  refine P_cast (q := 30) f_176_239 (by decide) (by decide) (by decide) (by decide) ?_
  refine s_dup f_176_240 rfl ?_
  refine k_bipush (v := 31) f_176_241 (by decide) ?_
  refine k_bipush (v := 115) f_176_243 (by decide) ?_
  refine P_cast (q := 31) f_176_245 (by decide) (by decide) (by decide) (by decide) ?_
  refine s_dup f_176_246 rfl ?_
  refine k_bipush (v := 32) f_176_247 (by decide) ?_
  refine k_bipush (v := 116) f_176_249 (by decide) ?_
  refine P_cast (q := 32) f_176_251 (by decide) (by decide) (by decide) (by decide) ?_
  refine s_dup f_176_252 rfl ?_
  refine k_bipush (v := 33) f_176_253 (by decide) ?_
  refine k_bipush (v := 114) f_176_255 (by decide) ?_
  refine P_cast (q := 33) f_176_257 (by decide) (by decide) (by decide) (by decide) ?_
  refine s_dup f_176_258 rfl ?_
  refine k_bipush (v := 34) f_176_259 (by decide) ?_
  refine k_bipush (v := 97) f_176_261 (by decide) ?_
  refine P_cast (q := 34) f_176_263 (by decide) (by decide) (by decide) (by decide) ?_
  refine s_dup f_176_264 rfl ?_
  refine k_bipush (v := 35) f_176_265 (by decide) ?_
  refine k_bipush (v := 110) f_176_267 (by decide) ?_
  refine P_cast (q := 35) f_176_269 (by decide) (by decide) (by decide) (by decide) ?_
  refine s_dup f_176_270 rfl ?_
  refine k_bipush (v := 36) f_176_271 (by decide) ?_
  refine k_bipush (v := 103) f_176_273 (by decide) ?_
  refine P_cast (q := 36) f_176_275 (by decide) (by decide) (by decide) (by decide) ?_
  refine s_dup f_176_276 rfl ?_
  refine k_bipush (v := 37) f_176_277 (by decide) ?_
  refine k_bipush (v := 101) f_176_279 (by decide) ?_
  refine P_cast (q := 37) f_176_281 (by decide) (by decide) (by decide) (by decide) ?_
  refine s_dup f_176_282 rfl ?_
  refine k_bipush (v := 38) f_176_283 (by decide) ?_
  refine k_bipush (v := 114) f_176_285 (by decide) ?_
  refine P_cast (q := 38) f_176_287 (by decide) (by decide) (by decide) (by decide) ?_
  refine s_dup f_176_288 rfl ?_
  refine k_bipush (v := 39) f_176_289 (by decide) ?_
  refine k_bipush (v := 119) f_176_291 (by decide) ?_
  refine P_cast (q := 39) f_176_293 (by decide) (by decide) (by decide) (by decide) ?_
  refine s_dup f_176_294 rfl ?_
  refine k_bipush (v := 40) f_176_295 (by decide) ?_
  refine k_bipush (v := 97) f_176_297 (by decide) ?_
  refine P_cast (q := 40) f_176_299 (by decide) (by decide) (by decide) (by decide) ?_
  refine s_dup f_176_300 rfl ?_
  refine k_bipush (v := 41) f_176_301 (by decide) ?_
  refine k_bipush (v := 108) f_176_303 (by decide) ?_
  refine P_cast (q := 41) f_176_305 (by decide) (by decide) (by decide) (by decide) ?_
  refine s_dup f_176_306 rfl ?_
  refine k_bipush (v := 42) f_176_307 (by decide) ?_
  refine k_bipush (v := 108) f_176_309 (by decide) ?_
  refine P_cast (q := 42) f_176_311 (by decide) (by decide) (by decide) (by decide) ?_
  refine s_dup f_176_312 rfl ?_
  refine k_bipush (v := 43) f_176_313 (by decide) ?_
  refine k_bipush (v := 115) f_176_315 (by decide) ?_
  refine P_cast (q := 43) f_176_317 (by decide) (by decide) (by decide) (by decide) ?_
  refine s_dup f_176_318 rfl ?_
  refine k_bipush (v := 44) f_176_319 (by decide) ?_
  refine k_bipush (v := 116) f_176_321 (by decide) ?_
  refine P_cast (q := 44) f_176_323 (by decide) (by decide) (by decide) (by decide) ?_
  refine s_dup f_176_324 rfl ?_
  refine k_bipush (v := 45) f_176_325 (by decide) ?_
  refine k_bipush (v := 101) f_176_327 (by decide) ?_
  refine P_cast (q := 45) f_176_329 (by decide) (by decide) (by decide) (by decide) ?_
  refine s_dup f_176_330 rfl ?_
  refine k_bipush (v := 46) f_176_331 (by decide) ?_
  refine k_bipush (v := 114) f_176_333 (by decide) ?_
  refine P_cast (q := 46) f_176_335 (by decide) (by decide) (by decide) (by decide) ?_
  refine s_dup f_176_336 rfl ?_
  refine k_bipush (v := 47) f_176_337 (by decide) ?_
  refine k_bipush (v := 109) f_176_339 (by decide) ?_
  refine P_cast (q := 47) f_176_341 (by decide) (by decide) (by decide) (by decide) ?_
  refine s_dup f_176_342 rfl ?_
  refine k_bipush (v := 48) f_176_343 (by decide) ?_
  refine k_bipush (v := 102) f_176_345 (by decide) ?_
  refine P_cast (q := 48) f_176_347 (by decide) (by decide) (by decide) (by decide) ?_
  refine s_dup f_176_348 rfl ?_
  refine k_bipush (v := 49) f_176_349 (by decide) ?_
  refine k_bipush (v := 97) f_176_351 (by decide) ?_
  refine P_cast (q := 49) f_176_353 (by decide) (by decide) (by decide) (by decide) ?_
  refine s_dup f_176_354 rfl ?_
  refine k_bipush (v := 50) f_176_355 (by decide) ?_
  refine k_bipush (v := 108) f_176_357 (by decide) ?_
  refine P_cast (q := 50) f_176_359 (by decide) (by decide) (by decide) (by decide) ?_
  refine s_dup f_176_360 rfl ?_
  refine k_bipush (v := 51) f_176_361 (by decide) ?_
  refine k_bipush (v := 108) f_176_363 (by decide) ?_
  refine P_cast (q := 51) f_176_365 (by decide) (by decide) (by decide) (by decide) ?_
  refine s_dup f_176_366 rfl ?_
  refine k_bipush (v := 52) f_176_367 (by decide) ?_
  refine k_bipush (v := 115) f_176_369 (by decide) ?_
  refine P_cast (q := 52) f_176_371 (by decide) (by decide) (by decide) (by decide) ?_
  refine s_dup f_176_372 rfl ?_
  refine k_bipush (v := 53) f_176_373 (by decide) ?_
  refine k_bipush (v := 98) f_176_375 (by decide) ?_
  refine P_cast (q := 53) f_176_377 (by decide) (by decide) (by decide) (by decide) ?_
  refine s_dup f_176_378 rfl ?_
  refine k_bipush (v := 54) f_176_379 (by decide) ?_
  refine k_bipush (v := 97) f_176_381 (by decide) ?_
  refine P_cast (q := 54) f_176_383 (by decide) (by decide) (by decide) (by decide) ?_
  refine s_dup f_176_384 rfl ?_
  refine k_bipush (v := 55) f_176_385 (by decide) ?_
  refine k_bipush (v := 99) f_176_387 (by decide) ?_
  refine P_cast (q := 55) f_176_389 (by decide) (by decide) (by decide) (by decide) ?_
  refine s_dup f_176_390 rfl ?_
  refine k_bipush (v := 56) f_176_391 (by decide) ?_
  refine k_bipush (v := 107) f_176_393 (by decide) ?_
  refine P_cast (q := 56) f_176_395 (by decide) (by decide) (by decide) (by decide) ?_
  refine s_dup f_176_396 rfl ?_
  refine k_bipush (v := 57) f_176_397 (by decide) ?_
  refine k_bipush (v := 108) f_176_399 (by decide) ?_
  refine P_cast (q := 57) f_176_401 (by decide) (by decide) (by decide) (by decide) ?_
  refine s_dup f_176_402 rfl ?_
  refine k_bipush (v := 58) f_176_403 (by decide) ?_
  refine k_bipush (v := 111) f_176_405 (by decide) ?_
  refine P_cast (q := 58) f_176_407 (by decide) (by decide) (by decide) (by decide) ?_
  refine s_dup f_176_408 rfl ?_
  refine k_bipush (v := 59) f_176_409 (by decide) ?_
  refine k_bipush (v := 97) f_176_411 (by decide) ?_
  refine P_cast (q := 59) f_176_413 (by decide) (by decide) (by decide) (by decide) ?_
  refine s_dup f_176_414 rfl ?_
  refine k_bipush (v := 60) f_176_415 (by decide) ?_
  refine k_bipush (v := 110) f_176_417 (by decide) ?_
  refine P_cast (q := 60) f_176_419 (by decide) (by decide) (by decide) (by decide) ?_
  refine s_dup f_176_420 rfl ?_
  refine k_bipush (v := 61) f_176_421 (by decide) ?_
  refine k_bipush (v := 111) f_176_423 (by decide) ?_
  refine P_cast (q := 61) f_176_425 (by decide) (by decide) (by decide) (by decide) ?_
  refine s_dup f_176_426 rfl ?_
  refine k_bipush (v := 62) f_176_427 (by decide) ?_
  refine k_bipush (v := 114) f_176_429 (by decide) ?_
  refine P_cast (q := 62) f_176_431 (by decide) (by decide) (by decide) (by decide) ?_
  refine s_dup f_176_432 rfl ?_
  refine k_bipush (v := 63) f_176_433 (by decide) ?_
  refine k_bipush (v := 97) f_176_435 (by decide) ?_
  refine P_cast (q := 63) f_176_437 (by decide) (by decide) (by decide) (by decide) ?_
  refine s_dup f_176_438 rfl ?_
  refine k_bipush (v := 64) f_176_439 (by decide) ?_
  refine k_bipush (v := 110) f_176_441 (by decide) ?_
  refine P_cast (q := 64) f_176_443 (by decide) (by decide) (by decide) (by decide) ?_
  refine s_dup f_176_444 rfl ?_
  refine k_bipush (v := 65) f_176_445 (by decide) ?_
  refine k_bipush (v := 100) f_176_447 (by decide) ?_
  refine P_cast (q := 65) f_176_449 (by decide) (by decide) (by decide) (by decide) ?_
  refine s_dup f_176_450 rfl ?_
  refine k_bipush (v := 66) f_176_451 (by decide) ?_
  refine k_bipush (v := 110) f_176_453 (by decide) ?_
  refine P_cast (q := 66) f_176_455 (by decide) (by decide) (by decide) (by decide) ?_
  refine s_dup f_176_456 rfl ?_
  refine k_bipush (v := 67) f_176_457 (by decide) ?_
  refine k_bipush (v := 111) f_176_459 (by decide) ?_
  refine P_cast (q := 67) f_176_461 (by decide) (by decide) (by decide) (by decide) ?_
  refine s_dup f_176_462 rfl ?_
  refine k_bipush (v := 68) f_176_463 (by decide) ?_
  refine k_bipush (v := 116) f_176_465 (by decide) ?_
  refine P_cast (q := 68) f_176_467 (by decide) (by decide) (by decide) (by decide) ?_
  refine P_putR f_176_468 fd_12_30 (by decide) (by decide) (by decide) (by decide) (by decide +kernel) (Or.inr ⟨_, rfl⟩) (Or.inr ⟨rfl, rfl⟩) ?_
  refine s_aload_n f_176_471 rfl ?_
  refine k_bipush (v := 18) f_176_472 (by decide) ?_
  refine P_newarr (N := 162) (n := 18) f_176_474 (by decide) (by decide) (by decide) (by decide) (fun _ => rfl) (by decide) (by decide) (by decide) ?_
  refine s_dup f_176_476 rfl ?_
  refine k_iconst (v := 0) f_176_477 (by decide) ?_
  refine k_iconst (v := 0) f_176_478 (by decide) ?_
  refine P_ast0 (q := 0) f_176_479 (by decide) (by decide) (by decide) rfl ?_
  refine s_dup f_176_480 rfl ?_
  refine k_iconst (v := 1) f_176_481 (by decide) ?_
  refine k_iconst (v := 4) f_176_482 (by decide) ?_
  refine P_iast (q := 1) f_176_483 (by decide) (by decide) (by decide) (by decide) ?_
  refine s_dup f_176_484 rfl ?_
  refine k_iconst (v := 2) f_176_485 (by decide) ?_
  refine k_bipush (v := 7) f_176_486 (by decide) ?_
  refine P_iast (q := 2) f_176_488 (by decide) (by decide) (by decide) (by decide) ?_
  refine s_dup f_176_489 rfl ?_
  refine k_iconst (v := 3) f_176_490 (by decide) ?_
  refine k_bipush (v := 11) f_176_491 (by decide) ?_
  refine P_iast (q := 3) f_176_493 (by decide) (by decide) (by decide) (by decide) ?_
  refine s_dup f_176_494 rfl ?_
  refine k_iconst (v := 4) f_176_495 (by decide) ?_
  refine k_bipush (v := 15) f_176_496 (by decide) ?_
  refine P_iast (q := 4) f_176_498 (by decide) (by decide) (by decide) (by decide) ?_
  refine s_dup f_176_499 rfl ?_
  refine k_iconst (v := 5) f_176_500 (by decide) ?_
  refine k_bipush (v := 19) f_176_501 (by decide) ?_
  refine P_iast (q := 5) f_176_503 (by decide) (by decide) (by decide) (by decide) ?_
  refine s_dup f_176_504 rfl ?_
  refine k_bipush (v := 6) f_176_505 (by decide) ?_
  refine k_bipush (v := 22) f_176_507 (by decide) ?_
  refine P_iast (q := 6) f_176_509 (by decide) (by decide) (by decide) (by decide) ?_
  refine s_dup f_176_510 rfl ?_
  refine k_bipush (v := 7) f_176_511 (by decide) ?_
  refine k_bipush (v := 27) f_176_513 (by decide) ?_
  refine P_iast (q := 7) f_176_515 (by decide) (by decide) (by decide) (by decide) ?_
  refine s_dup f_176_516 rfl ?_
  refine k_bipush (v := 8) f_176_517 (by decide) ?_
  refine k_bipush (v := 31) f_176_519 (by decide) ?_
  refine P_iast (q := 8) f_176_521 (by decide) (by decide) (by decide) (by decide) ?_
  refine s_dup f_176_522 rfl ?_
  refine k_bipush (v := 9) f_176_523 (by decide) ?_
  refine k_bipush (v := 39) f_176_525 (by decide) ?_
  refine P_iast (q := 9) f_176_527 (by decide) (by decide) (by decide) (by decide) ?_
  refine s_dup f_176_528 rfl ?_
  refine k_bipush (v := 10) f_176_529 (by decide) ?_
  refine k_bipush (v := 44) f_176_531 (by decide) ?_
  refine P_iast (q := 10) f_176_533 (by decide) (by decide) (by decide) (by decide) ?_
  refine s_dup f_176_534 rfl ?_
  refine k_bipush (v := 11) f_176_535 (by decide) ?_
  refine k_bipush (v := 48) f_176_537 (by decide) ?_
  refine P_iast (q := 11) f_176_539 (by decide) (by decide) (by decide) (by decide) ?_
  refine s_dup f_176_540 rfl ?_
  refine k_bipush (v := 12) f_176_541 (by decide) ?_
  refine k_bipush (v := 53) f_176_543 (by decide) ?_
  refine P_iast (q := 12) f_176_545 (by decide) (by decide) (by decide) (by decide) ?_
  refine s_dup f_176_546 rfl ?_
  refine k_bipush (v := 13) f_176_547 (by decide) ?_
  refine k_bipush (v := 57) f_176_549 (by decide) ?_
  refine P_iast (q := 13) f_176_551 (by decide) (by decide) (by decide) (by decide) ?_
  refine s_dup f_176_552 rfl ?_
  refine k_bipush (v := 14) f_176_553 (by decide) ?_
  refine k_bipush (v := 61) f_176_555 (by decide) ?_
  refine P_iast (q := 14) f_176_557 (by decide) (by decide) (by decide) (by decide) ?_
  refine s_dup f_176_558 rfl ?_
  refine k_bipush (v := 15) f_176_559 (by decide) ?_
  refine k_bipush (v := 63) f_176_561 (by decide) ?_
  refine P_iast (q := 15) f_176_563 (by decide) (by decide) (by decide) (by decide) ?_
  refine s_dup f_176_564 rfl ?_
  refine k_bipush (v := 16) f_176_565 (by decide) ?_
  refine k_bipush (v := 66) f_176_567 (by decide) ?_
  refine P_iast (q := 16) f_176_569 (by decide) (by decide) (by decide) (by decide) ?_
  refine s_dup f_176_570 rfl ?_
  refine k_bipush (v := 17) f_176_571 (by decide) ?_
  refine k_bipush (v := 69) f_176_573 (by decide) ?_
  refine P_iast (q := 17) f_176_575 (by decide) (by decide) (by decide) (by decide) ?_
  refine P_putR f_176_576 fd_12_34 (by decide) (by decide) (by decide) (by decide) (by decide +kernel) (Or.inr ⟨_, rfl⟩) (Or.inr ⟨rfl, rfl⟩) ?_
  refine s_aload_n f_176_579 rfl ?_
  refine k_sipush (v := 609) f_176_580 (by decide) ?_
  refine P_newarr (N := 163) (n := 609) f_176_583 (by decide) (by decide) (by decide) (by decide) (fun _ => rfl) (by decide) (by decide) (by decide) ?_
  refine P_putR f_176_585 fd_12_37 (by decide) (by decide) (by decide) (by decide) (by decide +kernel) (Or.inr ⟨_, rfl⟩) (Or.inr ⟨rfl, rfl⟩) ?_
  refine s_aload_n f_176_588 rfl ?_
  refine k_sipush (v := 200) f_176_589 (by decide) ?_
  refine P_newarr (N := 164) (n := 200) f_176_592 (by decide) (by decide) (by decide) (by decide) (fun _ => rfl) (by decide) (by decide) (by decide) ?_
  refine P_putR f_176_594 fd_12_40 (by decide) (by decide) (by decide) (by decide) (by decide +kernel) (Or.inr ⟨_, rfl⟩) (Or.inr ⟨rfl, rfl⟩) ?_
  refine s_aload_n f_176_597 rfl ?_
  refine k_sipush (v := 200) f_176_598 (by decide) ?_
  refine P_newarr (N := 165) (n := 200) f_176_601 (by decide) (by decide) (by decide) (by decide) (fun _ => rfl) (by decide) (by decide) (by decide) ?_
  refine P_putR f_176_603 fd_12_43 (by decide) (by decide) (by decide) (by decide) (by decide +kernel) (Or.inr ⟨_, rfl⟩) (Or.inr ⟨rfl, rfl⟩) ?_
  refine s_aload_n f_176_606 rfl ?_
  refine k_bipush (v := 11) f_176_607 (by decide) ?_
  refine P_newarr (N := 166) (n := 11) f_176_609 (by decide) (by decide) (by decide) (by decide) (fun _ => rfl) (by decide) (by decide) (by decide) ?_
  refine P_putR f_176_611 fd_12_46 (by decide) (by decide) (by decide) (by decide) (by decide +kernel) (Or.inr ⟨_, rfl⟩) (Or.inr ⟨rfl, rfl⟩) ?_
  refine s_aload_n f_176_614 rfl ?_
  refine s_ldc f_176_615 ko_12_49 ?_
  refine P_newarr (N := 167) (n := 33489) f_176_617 (by decide) (by decide) (by decide) (by decide) (fun _ => rfl) (by decide) (by decide) (by decide) ?_
  refine P_putR f_176_619 fd_12_50 (by decide) (by decide) (by decide) (by decide) (by decide +kernel) (Or.inr ⟨_, rfl⟩) (Or.inr ⟨rfl, rfl⟩) ?_
  refine s_aload_n f_176_622 rfl ?_
  refine k_iconst (v := 4) f_176_623 (by decide) ?_
  refine P_newarr (N := 168) (n := 4) f_176_624 (by decide) (by decide) (by decide) (by decide) (fun _ => rfl) (by decide) (by decide) (by decide) ?_
  refine P_putR f_176_626 fd_12_53 (by decide) (by decide) (by decide) (by decide) (by decide +kernel) (Or.inr ⟨_, rfl⟩) (Or.inr ⟨rfl, rfl⟩) ?_
  refine s_aload_n f_176_629 rfl ?_
  refine k_iconst (v := 4) f_176_630 (by decide) ?_
  refine P_newarr (N := 169) (n := 4) f_176_631 (by decide) (by decide) (by decide) (by decide) (fun _ => rfl) (by decide) (by decide) (by decide) ?_
  refine P_putR f_176_633 fd_12_56 (by decide) (by decide) (by decide) (by decide) (by decide +kernel) (Or.inr ⟨_, rfl⟩) (Or.inr ⟨rfl, rfl⟩) ?_
  refine s_aload_n f_176_636 rfl ?_
  refine k_bipush (v := 80) f_176_637 (by decide) ?_
  refine P_newarr (N := 170) (n := 80) f_176_639 (by decide) (by decide) (by decide) (by decide) (fun _ => rfl) (by decide) (by decide) (by decide) ?_
  refine P_putR f_176_641 fd_12_59 (by decide) (by decide) (by decide) (by decide) (by decide +kernel) (Or.inr ⟨_, rfl⟩) (Or.inr ⟨rfl, rfl⟩) ?_
  refine s_aload_n f_176_644 rfl ?_
  refine k_bipush (v := 20) f_176_645 (by decide) ?_
  refine P_newarr (N := 171) (n := 20) f_176_647 (by decide) (by decide) (by decide) (by decide) (fun _ => rfl) (by decide) (by decide) (by decide) ?_
  refine P_putR f_176_649 fd_12_62 (by decide) (by decide) (by decide) (by decide) (by decide +kernel) (Or.inr ⟨_, rfl⟩) (Or.inr ⟨rfl, rfl⟩) ?_
  exact s_return f_176_652 rfl hQ
