theorem ca_0_75 : cal 0 75 = some (0, 75, 1, 12, 3) := by decide +kernel
theorem ca_3_104 : cal 3 104 = some (3, 104, 11, 12, 3) := by decide +kernel
theorem ca_12_69 : cal 12 69 = some (12, 69, 1, 178, 3) := by decide +kernel
theorem f_12_0 : decode (mB 12) 0 = .ok (.iload_n 0, 1) := by decide +kernel
theorem f_12_1 : decode (mB 12) 1 = .ok (.iload_n 1, 1) := by decide +kernel
theorem f_12_2 : decode (mB 12) 2 = .ok (.if_icmp .lt 12, 3) := by decide +kernel
theorem f_12_5 : decode (mB 12) 5 = .ok (.iload_n 0, 1) := by decide +kernel
theorem f_12_6 : decode (mB 12) 6 = .ok (.iload_n 2, 1) := by decide +kernel
theorem f_12_7 : decode (mB 12) 7 = .ok (.if_icmp .gt 7, 3) := by decide +kernel
theorem f_12_10 : decode (mB 12) 10 = .ok (.iconst 1, 1) := by decide +kernel
theorem f_12_11 : decode (mB 12) 11 = .ok (.goto 4, 3) := by decide +kernel
theorem f_12_14 : decode (mB 12) 14 = .ok (.iconst 0, 1) := by decide +kernel
theorem f_12_15 : decode (mB 12) 15 = .ok (.ireturn, 1) := by decide +kernel
theorem f_14_0 : decode (mB 14) 0 = .ok (.iload_n 1, 1) := by decide +kernel
theorem f_14_1 : decode (mB 14) 1 = .ok (.iconst 0, 1) := by decide +kernel
theorem f_14_2 : decode (mB 14) 2 = .ok (.aload_n 0, 1) := by decide +kernel
theorem f_14_3 : decode (mB 14) 3 = .ok (.getfield 48, 3) := by decide +kernel
theorem f_14_6 : decode (mB 14) 6 = .ok (.iconst 1, 1) := by decide +kernel
theorem f_14_7 : decode (mB 14) 7 = .ok (.isub, 1) := by decide +kernel
theorem f_14_8 : decode (mB 14) 8 = .ok (.invokestatic 104, 3) := by decide +kernel
theorem f_14_11 : decode (mB 14) 11 = .ok (.ireturn, 1) := by decide +kernel
theorem f_31_0 : decode (mB 31) 0 = .ok (.iload_n 1, 1) := by decide +kernel
theorem f_31_1 : decode (mB 31) 1 = .ok (.iconst 0, 1) := by decide +kernel
theorem f_31_2 : decode (mB 31) 2 = .ok (.aload_n 0, 1) := by decide +kernel
theorem f_31_3 : decode (mB 31) 3 = .ok (.getfield 52, 3) := by decide +kernel
theorem f_31_6 : decode (mB 31) 6 = .ok (.iconst 1, 1) := by decide +kernel
theorem f_31_7 : decode (mB 31) 7 = .ok (.isub, 1) := by decide +kernel
theorem f_31_8 : decode (mB 31) 8 = .ok (.invokestatic 104, 3) := by decide +kernel
theorem f_31_11 : decode (mB 31) 11 = .ok (.ireturn, 1) := by decide +kernel
theorem f_47_0 : decode (mB 47) 0 = .ok (.iload_n 1, 1) := by decide +kernel
theorem f_47_1 : decode (mB 47) 1 = .ok (.iconst 0, 1) := by decide +kernel
theorem f_47_2 : decode (mB 47) 2 = .ok (.aload_n 0, 1) := by decide +kernel
theorem f_47_3 : decode (mB 47) 3 = .ok (.getfield 55, 3) := by decide +kernel
theorem f_47_6 : decode (mB 47) 6 = .ok (.iconst 1, 1) := by decide +kernel
theorem f_47_7 : decode (mB 47) 7 = .ok (.isub, 1) := by decide +kernel
theorem f_47_8 : decode (mB 47) 8 = .ok (.invokestatic 104, 3) := by decide +kernel
theorem f_47_11 : decode (mB 47) 11 = .ok (.ireturn, 1) := by decide +kernel
theorem f_56_0 : decode (mB 56) 0 = .ok (.iload_n 0, 1) := by decide +kernel
theorem f_56_1 : decode (mB 56) 1 = .ok (.iconst 0, 1) := by decide +kernel
theorem f_56_2 : decode (mB 56) 2 = .ok (.iconst 1, 1) := by decide +kernel
theorem f_56_3 : decode (mB 56) 3 = .ok (.invokestatic 75, 3) := by decide +kernel
theorem f_56_6 : decode (mB 56) 6 = .ok (.ireturn, 1) := by decide +kernel
theorem f_58_0 : decode (mB 58) 0 = .ok (.iload_n 0, 1) := by decide +kernel
theorem f_58_1 : decode (mB 58) 1 = .ok (.iconst 0, 1) := by decide +kernel
theorem f_58_2 : decode (mB 58) 2 = .ok (.sipush 400, 3) := by decide +kernel
theorem f_58_5 : decode (mB 58) 5 = .ok (.invokestatic 75, 3) := by decide +kernel
theorem f_58_8 : decode (mB 58) 8 = .ok (.ireturn, 1) := by decide +kernel
theorem f_131_0 : decode (mB 131) 0 = .ok (.iload_n 0, 1) := by decide +kernel
theorem f_131_1 : decode (mB 131) 1 = .ok (.iconst 0, 1) := by decide +kernel
theorem f_131_2 : decode (mB 131) 2 = .ok (.bipush 30, 2) := by decide +kernel
theorem f_131_4 : decode (mB 131) 4 = .ok (.invokestatic 75, 3) := by decide +kernel
theorem f_131_7 : decode (mB 131) 7 = .ok (.ireturn, 1) := by decide +kernel
theorem f_140_0 : decode (mB 140) 0 = .ok (.iload_n 0, 1) := by decide +kernel
theorem f_140_1 : decode (mB 140) 1 = .ok (.iconst 0, 1) := by decide +kernel
theorem f_140_2 : decode (mB 140) 2 = .ok (.iconst 3, 1) := by decide +kernel
theorem f_140_3 : decode (mB 140) 3 = .ok (.invokestatic 75, 3) := by decide +kernel
theorem f_140_6 : decode (mB 140) 6 = .ok (.ireturn, 1) := by decide +kernel
theorem f_147_0 : decode (mB 147) 0 = .ok (.iload_n 0, 1) := by decide +kernel
theorem f_147_1 : decode (mB 147) 1 = .ok (.iconst 0, 1) := by decide +kernel
theorem f_147_2 : decode (mB 147) 2 = .ok (.bipush 60, 2) := by decide +kernel
theorem f_147_4 : decode (mB 147) 4 = .ok (.invokestatic 75, 3) := by decide +kernel
theorem f_147_7 : decode (mB 147) 7 = .ok (.ireturn, 1) := by decide +kernel
theorem f_178_0 : decode (mB 178) 0 = .ok (.iload_n 0, 1) := by decide +kernel
theorem f_178_1 : decode (mB 178) 1 = .ok (.iload_n 1, 1) := by decide +kernel
theorem f_178_2 : decode (mB 178) 2 = .ok (.if_icmp .lt 12, 3) := by decide +kernel
theorem f_178_5 : decode (mB 178) 5 = .ok (.iload_n 0, 1) := by decide +kernel
theorem f_178_6 : decode (mB 178) 6 = .ok (.iload_n 2, 1) := by decide +kernel
theorem f_178_7 : decode (mB 178) 7 = .ok (.if_icmp .gt 7, 3) := by decide +kernel
theorem f_178_10 : decode (mB 178) 10 = .ok (.iconst 1, 1) := by decide +kernel
theorem f_178_11 : decode (mB 178) 11 = .ok (.goto 4, 3) := by decide +kernel
theorem f_178_14 : decode (mB 178) 14 = .ok (.iconst 0, 1) := by decide +kernel
theorem f_178_15 : decode (mB 178) 15 = .ok (.ireturn, 1) := by decide +kernel
theorem f_218_0 : decode (mB 218) 0 = .ok (.iload_n 0, 1) := by decide +kernel
theorem f_218_1 : decode (mB 218) 1 = .ok (.iconst 0, 1) := by decide +kernel
theorem f_218_2 : decode (mB 218) 2 = .ok (.iconst 1, 1) := by decide +kernel
theorem f_218_3 : decode (mB 218) 3 = .ok (.invokestatic 69, 3) := by decide +kernel
theorem f_218_6 : decode (mB 218) 6 = .ok (.ireturn, 1) := by decide +kernel
theorem f_220_0 : decode (mB 220) 0 = .ok (.iload_n 0, 1) := by decide +kernel
theorem f_220_1 : decode (mB 220) 1 = .ok (.iconst 0, 1) := by decide +kernel
theorem f_220_2 : decode (mB 220) 2 = .ok (.sipush 400, 3) := by decide +kernel
theorem f_220_5 : decode (mB 220) 5 = .ok (.invokestatic 69, 3) := by decide +kernel
theorem f_220_8 : decode (mB 220) 8 = .ok (.ireturn, 1) := by decide +kernel
theorem f_259_0 : decode (mB 259) 0 = .ok (.iload_n 0, 1) := by decide +kernel
theorem f_259_1 : decode (mB 259) 1 = .ok (.iconst 0, 1) := by decide +kernel
theorem f_259_2 : decode (mB 259) 2 = .ok (.iconst 3, 1) := by decide +kernel
theorem f_259_3 : decode (mB 259) 3 = .ok (.invokestatic 69, 3) := by decide +kernel
theorem f_259_6 : decode (mB 259) 6 = .ok (.ireturn, 1) := by decide +kernel
theorem fd_3_48 : fld 3 48 = some (3, 48, 3, 7) := by decide +kernel
theorem fd_3_52 : fld 3 52 = some (3, 52, 3, 8) := by decide +kernel
theorem fd_3_55 : fld 3 55 = some (3, 55, 3, 9) := by decide +kernel
theorem c_within {l : Launch} {G : aG} {d : Nat} {Q : Option Value → aHeap → Prop} {h : aHeap} {v a b : Int32}  (hQ : Q (some (.int (bI (a ≤ v ∧ v ≤ b)))) h) : aCall l G d 0 0 12 [.int v, .int a, .int b] h Q := by
  refine aCall.of (by decide) (Nat.le_of_ble_eq_true rfl) ?_
  refine aAt.sub [(0, .int v), (1, .int a), (2, .int b)] rfl ?_
  refine s_iload_n f_12_0 rfl ?_
  refine s_iload_n f_12_1 rfl ?_
  refine s_icmp_lt 14 f_12_2 (by decide) (fun c_2 => ?_) (fun c_2 => ?_)
  · refine k_iconst (v := 0) f_12_14 (by decide) ?_
    refine s_ireturn f_12_15 rfl rfl ?_
    rw [bI_f (fun z => absurd z.1 (Int32.not_le.mpr c_2))] at hQ
    exact hQ
  · refine s_iload_n f_12_5 rfl ?_
    refine s_iload_n f_12_6 rfl ?_
    refine s_icmp_gt 14 f_12_7 (by decide) (fun c_7 => ?_) (fun c_7 => ?_)
    · refine k_iconst (v := 0) f_12_14 (by decide) ?_
      refine s_ireturn f_12_15 rfl rfl ?_
      rw [bI_f (fun z => absurd z.2 (Int32.not_le.mpr c_7))] at hQ
      exact hQ
    · refine k_iconst (v := 1) f_12_10 (by decide) ?_
      refine s_goto 15 f_12_11 (by decide) ?_
      refine s_ireturn f_12_15 rfl rfl ?_
      rw [bI_t ⟨Int32.not_lt.mp c_2, Int32.not_lt.mp c_7⟩] at hQ
      exact hQ
theorem c_in {l : Launch} {G : aG} {d : Nat} {Q : Option Value → aHeap → Prop} {h : aHeap} {v a b : Int32}  (hQ : Q (some (.int (bI (a ≤ v ∧ v ≤ b)))) h) : aCall l G d 0 0 178 [.int v, .int a, .int b] h Q := by
  refine aCall.of (by decide) (Nat.le_of_ble_eq_true rfl) ?_
  refine aAt.sub [(0, .int v), (1, .int a), (2, .int b)] rfl ?_
  refine s_iload_n f_178_0 rfl ?_
  refine s_iload_n f_178_1 rfl ?_
  refine s_icmp_lt 14 f_178_2 (by decide) (fun c_2 => ?_) (fun c_2 => ?_)
  · refine k_iconst (v := 0) f_178_14 (by decide) ?_
    refine s_ireturn f_178_15 rfl rfl ?_
    rw [bI_f (fun z => absurd z.1 (Int32.not_le.mpr c_2))] at hQ
    exact hQ
  · refine s_iload_n f_178_5 rfl ?_
    refine s_iload_n f_178_6 rfl ?_
    refine s_icmp_gt 14 f_178_7 (by decide) (fun c_7 => ?_) (fun c_7 => ?_)
    · refine k_iconst (v := 0) f_178_14 (by decide) ?_
      refine s_ireturn f_178_15 rfl rfl ?_
      rw [bI_f (fun z => absurd z.2 (Int32.not_le.mpr c_7))] at hQ
      exact hQ
    · refine k_iconst (v := 1) f_178_10 (by decide) ?_
      refine s_goto 15 f_178_11 (by decide) ?_
      refine s_ireturn f_178_15 rfl rfl ?_
      rw [bI_t ⟨Int32.not_lt.mp c_2, Int32.not_lt.mp c_7⟩] at hQ
      exact hQ
theorem c_isBench {l : Launch} {G : aG} {d : Nat} {Q : Option Value → aHeap → Prop} {h : aHeap} {v : Int32}  (hQ : Q (some (.int (bI ((0 : Int32) ≤ v ∧ v ≤ (1 : Int32))))) h) : aCall l G (d + 1) 0 0 56 [.int v] h Q := by
  refine aCall.of (by decide) (Nat.le_of_ble_eq_true rfl) ?_
  refine aAt.sub [(0, .int v)] rfl ?_
  refine s_iload_n f_56_0 rfl ?_
  refine k_iconst (v := 0) f_56_1 (by decide) ?_
  refine k_iconst (v := 1) f_56_2 (by decide) ?_
  refine L_stat (As := [.int v, .int (0 : Int32), .int (1 : Int32)]) f_56_3 ca_0_75 rfl rfl (Nat.le_of_ble_eq_true rfl) ?_
  refine c_within ?_
  refine s_ireturn f_56_6 rfl bI_n ?_
  exact hQ
theorem c_isYear {l : Launch} {G : aG} {d : Nat} {Q : Option Value → aHeap → Prop} {h : aHeap} {v : Int32}  (hQ : Q (some (.int (bI ((0 : Int32) ≤ v ∧ v ≤ (400 : Int32))))) h) : aCall l G (d + 1) 0 0 58 [.int v] h Q := by
  refine aCall.of (by decide) (Nat.le_of_ble_eq_true rfl) ?_
  refine aAt.sub [(0, .int v)] rfl ?_
  refine s_iload_n f_58_0 rfl ?_
  refine k_iconst (v := 0) f_58_1 (by decide) ?_
  refine k_sipush (v := 400) f_58_2 (by decide) ?_
  refine L_stat (As := [.int v, .int (0 : Int32), .int (400 : Int32)]) f_58_5 ca_0_75 rfl rfl (Nat.le_of_ble_eq_true rfl) ?_
  refine c_within ?_
  refine s_ireturn f_58_8 rfl bI_n ?_
  exact hQ
theorem c_isHarvest {l : Launch} {G : aG} {d : Nat} {Q : Option Value → aHeap → Prop} {h : aHeap} {v : Int32}  (hQ : Q (some (.int (bI ((0 : Int32) ≤ v ∧ v ≤ (30 : Int32))))) h) : aCall l G (d + 1) 0 0 131 [.int v] h Q := by
  refine aCall.of (by decide) (Nat.le_of_ble_eq_true rfl) ?_
  refine aAt.sub [(0, .int v)] rfl ?_
  refine s_iload_n f_131_0 rfl ?_
  refine k_iconst (v := 0) f_131_1 (by decide) ?_
  refine k_bipush (v := 30) f_131_2 (by decide) ?_
  refine L_stat (As := [.int v, .int (0 : Int32), .int (30 : Int32)]) f_131_4 ca_0_75 rfl rfl (Nat.le_of_ble_eq_true rfl) ?_
  refine c_within ?_
  refine s_ireturn f_131_7 rfl bI_n ?_
  exact hQ
theorem c_isPurse {l : Launch} {G : aG} {d : Nat} {Q : Option Value → aHeap → Prop} {h : aHeap} {v : Int32}  (hQ : Q (some (.int (bI ((0 : Int32) ≤ v ∧ v ≤ (60 : Int32))))) h) : aCall l G (d + 1) 0 0 147 [.int v] h Q := by
  refine aCall.of (by decide) (Nat.le_of_ble_eq_true rfl) ?_
  refine aAt.sub [(0, .int v)] rfl ?_
  refine s_iload_n f_147_0 rfl ?_
  refine k_iconst (v := 0) f_147_1 (by decide) ?_
  refine k_bipush (v := 60) f_147_2 (by decide) ?_
  refine L_stat (As := [.int v, .int (0 : Int32), .int (60 : Int32)]) f_147_4 ca_0_75 rfl rfl (Nat.le_of_ble_eq_true rfl) ?_
  refine c_within ?_
  refine s_ireturn f_147_7 rfl bI_n ?_
  exact hQ
theorem c_isSheet {l : Launch} {G : aG} {d : Nat} {Q : Option Value → aHeap → Prop} {h : aHeap} {v : Int32}  (hQ : Q (some (.int (bI ((0 : Int32) ≤ v ∧ v ≤ (3 : Int32))))) h) : aCall l G (d + 1) 0 0 140 [.int v] h Q := by
  refine aCall.of (by decide) (Nat.le_of_ble_eq_true rfl) ?_
  refine aAt.sub [(0, .int v)] rfl ?_
  refine s_iload_n f_140_0 rfl ?_
  refine k_iconst (v := 0) f_140_1 (by decide) ?_
  refine k_iconst (v := 3) f_140_2 (by decide) ?_
  refine L_stat (As := [.int v, .int (0 : Int32), .int (3 : Int32)]) f_140_3 ca_0_75 rfl rfl (Nat.le_of_ble_eq_true rfl) ?_
  refine c_within ?_
  refine s_ireturn f_140_6 rfl bI_n ?_
  exact hQ
theorem c_misBench {l : Launch} {G : aG} {d : Nat} {Q : Option Value → aHeap → Prop} {h : aHeap} {v : Int32}  (hQ : Q (some (.int (bI ((0 : Int32) ≤ v ∧ v ≤ (1 : Int32))))) h) : aCall l G (d + 1) 0 0 218 [.int v] h Q := by
  refine aCall.of (by decide) (Nat.le_of_ble_eq_true rfl) ?_
  refine aAt.sub [(0, .int v)] rfl ?_
  refine s_iload_n f_218_0 rfl ?_
  refine k_iconst (v := 0) f_218_1 (by decide) ?_
  refine k_iconst (v := 1) f_218_2 (by decide) ?_
  refine L_stat (As := [.int v, .int (0 : Int32), .int (1 : Int32)]) f_218_3 ca_12_69 rfl rfl (Nat.le_of_ble_eq_true rfl) ?_
  refine c_in ?_
  refine s_ireturn f_218_6 rfl bI_n ?_
  exact hQ
theorem c_misYear {l : Launch} {G : aG} {d : Nat} {Q : Option Value → aHeap → Prop} {h : aHeap} {v : Int32}  (hQ : Q (some (.int (bI ((0 : Int32) ≤ v ∧ v ≤ (400 : Int32))))) h) : aCall l G (d + 1) 0 0 220 [.int v] h Q := by
  refine aCall.of (by decide) (Nat.le_of_ble_eq_true rfl) ?_
  refine aAt.sub [(0, .int v)] rfl ?_
  refine s_iload_n f_220_0 rfl ?_
  refine k_iconst (v := 0) f_220_1 (by decide) ?_
  refine k_sipush (v := 400) f_220_2 (by decide) ?_
  refine L_stat (As := [.int v, .int (0 : Int32), .int (400 : Int32)]) f_220_5 ca_12_69 rfl rfl (Nat.le_of_ble_eq_true rfl) ?_
  refine c_in ?_
  refine s_ireturn f_220_8 rfl bI_n ?_
  exact hQ
theorem c_misSheet {l : Launch} {G : aG} {d : Nat} {Q : Option Value → aHeap → Prop} {h : aHeap} {v : Int32}  (hQ : Q (some (.int (bI ((0 : Int32) ≤ v ∧ v ≤ (3 : Int32))))) h) : aCall l G (d + 1) 0 0 259 [.int v] h Q := by
  refine aCall.of (by decide) (Nat.le_of_ble_eq_true rfl) ?_
  refine aAt.sub [(0, .int v)] rfl ?_
  refine s_iload_n f_259_0 rfl ?_
  refine k_iconst (v := 0) f_259_1 (by decide) ?_
  refine k_iconst (v := 3) f_259_2 (by decide) ?_
  refine L_stat (As := [.int v, .int (0 : Int32), .int (3 : Int32)]) f_259_3 ca_12_69 rfl rfl (Nat.le_of_ble_eq_true rfl) ?_
  refine c_in ?_
  refine s_ireturn f_259_6 rfl bI_n ?_
  exact hQ
theorem c_hasPerson {l : Launch} {G : aG} {d : Nat} {Q : Option Value → aHeap → Prop} {o : Nat → aCell} {k : Nat} {S : Nat → Nat → Int32} {K : Nat → Int64} {T : Nat → Nat → Value} {tl : Nat → Nat} {v : Int32}  (hQ : Q (some (.int (bI ((0 : Int32) ≤ v ∧ v ≤ (S 9 7 - 1))))) (lay o k S K T tl)) : aCall l G (d + 1) 0 0 14 [.ref 9, .int v] (lay o k S K T tl) Q := by
  refine aCall.of (by decide) (Nat.le_of_ble_eq_true rfl) ?_
  refine aAt.sub [(0, .ref 9), (1, .int v)] rfl ?_
  refine s_iload_n f_14_0 rfl ?_
  refine k_iconst (v := 0) f_14_1 (by decide) ?_
  refine s_aload_n f_14_2 rfl ?_
  refine L_getI f_14_3 fd_3_48 (obL (by decide)) (by decide) ?_
  refine k_iconst (v := 1) f_14_6 (by decide) ?_
  refine s_isub f_14_7 ?_
  refine L_statN (As := [.int v, .int (0 : Int32), .int ((S 9 7) - (1 : Int32))]) f_14_8 ca_3_104 rfl rfl (Nat.le_of_ble_eq_true rfl) ?_
  refine c_within ?_
  refine s_ireturn f_14_11 rfl bI_n ?_
  exact hQ
theorem c_hasField {l : Launch} {G : aG} {d : Nat} {Q : Option Value → aHeap → Prop} {o : Nat → aCell} {k : Nat} {S : Nat → Nat → Int32} {K : Nat → Int64} {T : Nat → Nat → Value} {tl : Nat → Nat} {v : Int32}  (hQ : Q (some (.int (bI ((0 : Int32) ≤ v ∧ v ≤ (S 9 8 - 1))))) (lay o k S K T tl)) : aCall l G (d + 1) 0 0 31 [.ref 9, .int v] (lay o k S K T tl) Q := by
  refine aCall.of (by decide) (Nat.le_of_ble_eq_true rfl) ?_
  refine aAt.sub [(0, .ref 9), (1, .int v)] rfl ?_
  refine s_iload_n f_31_0 rfl ?_
  refine k_iconst (v := 0) f_31_1 (by decide) ?_
  refine s_aload_n f_31_2 rfl ?_
  refine L_getI f_31_3 fd_3_52 (obL (by decide)) (by decide) ?_
  refine k_iconst (v := 1) f_31_6 (by decide) ?_
  refine s_isub f_31_7 ?_
  refine L_statN (As := [.int v, .int (0 : Int32), .int ((S 9 8) - (1 : Int32))]) f_31_8 ca_3_104 rfl rfl (Nat.le_of_ble_eq_true rfl) ?_
  refine c_within ?_
  refine s_ireturn f_31_11 rfl bI_n ?_
  exact hQ
theorem c_hasPaper {l : Launch} {G : aG} {d : Nat} {Q : Option Value → aHeap → Prop} {o : Nat → aCell} {k : Nat} {S : Nat → Nat → Int32} {K : Nat → Int64} {T : Nat → Nat → Value} {tl : Nat → Nat} {v : Int32}  (hQ : Q (some (.int (bI ((0 : Int32) ≤ v ∧ v ≤ (S 9 9 - 1))))) (lay o k S K T tl)) : aCall l G (d + 1) 0 0 47 [.ref 9, .int v] (lay o k S K T tl) Q := by
  refine aCall.of (by decide) (Nat.le_of_ble_eq_true rfl) ?_
  refine aAt.sub [(0, .ref 9), (1, .int v)] rfl ?_
  refine s_iload_n f_47_0 rfl ?_
  refine k_iconst (v := 0) f_47_1 (by decide) ?_
  refine s_aload_n f_47_2 rfl ?_
  refine L_getI f_47_3 fd_3_55 (obL (by decide)) (by decide) ?_
  refine k_iconst (v := 1) f_47_6 (by decide) ?_
  refine s_isub f_47_7 ?_
  refine L_statN (As := [.int v, .int (0 : Int32), .int ((S 9 9) - (1 : Int32))]) f_47_8 ca_3_104 rfl rfl (Nat.le_of_ble_eq_true rfl) ?_
  refine c_within ?_
  refine s_ireturn f_47_11 rfl bI_n ?_
  exact hQ
