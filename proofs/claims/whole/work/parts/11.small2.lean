theorem ca_3_185 : cal 3 185 = some (3, 185, 0, 60, 2) := by decide +kernel
theorem ca_5_46 : cal 5 46 = some (5, 46, 0, 24, 0) := by decide +kernel
theorem ca_12_73 : cal 12 73 = some (12, 73, 0, 184, 2) := by decide +kernel
theorem ca_12_98 : cal 12 98 = some (12, 98, 0, 190, 2) := by decide +kernel
theorem f_15_0 : decode (mB 15) 0 = .ok (.aload_n 0, 1) := by decide +kernel
theorem f_15_1 : decode (mB 15) 1 = .ok (.dup, 1) := by decide +kernel
theorem f_15_2 : decode (mB 15) 2 = .ok (.getfield 61, 3) := by decide +kernel
theorem f_15_5 : decode (mB 15) 5 = .ok (.iconst 1, 1) := by decide +kernel
theorem f_15_6 : decode (mB 15) 6 = .ok (.iadd, 1) := by decide +kernel
theorem f_15_7 : decode (mB 15) 7 = .ok (.putfield 61, 3) := by decide +kernel
theorem f_15_10 : decode (mB 15) 10 = .ok (.iload_n 1, 1) := by decide +kernel
theorem f_15_11 : decode (mB 15) 11 = .ok (.ireturn, 1) := by decide +kernel
theorem f_20_0 : decode (mB 20) 0 = .ok (.aload_n 0, 1) := by decide +kernel
theorem f_20_1 : decode (mB 20) 1 = .ok (.getfield 22, 3) := by decide +kernel
theorem f_20_4 : decode (mB 20) 4 = .ok (.ifCond .lt 7, 3) := by decide +kernel
theorem f_20_7 : decode (mB 20) 7 = .ok (.iconst 1, 1) := by decide +kernel
theorem f_20_8 : decode (mB 20) 8 = .ok (.goto 4, 3) := by decide +kernel
theorem f_20_11 : decode (mB 20) 11 = .ok (.iconst 0, 1) := by decide +kernel
theorem f_20_12 : decode (mB 20) 12 = .ok (.ireturn, 1) := by decide +kernel
theorem f_23_0 : decode (mB 23) 0 = .ok (.aload_n 0, 1) := by decide +kernel
theorem f_23_1 : decode (mB 23) 1 = .ok (.getfield 39, 3) := by decide +kernel
theorem f_23_4 : decode (mB 23) 4 = .ok (.ifCond .ne 10, 3) := by decide +kernel
theorem f_23_7 : decode (mB 23) 7 = .ok (.aload_n 0, 1) := by decide +kernel
theorem f_23_8 : decode (mB 23) 8 = .ok (.invokevirtual 46, 3) := by decide +kernel
theorem f_23_11 : decode (mB 23) 11 = .ok (.goto 4, 3) := by decide +kernel
theorem f_23_14 : decode (mB 23) 14 = .ok (.iconst 0, 1) := by decide +kernel
theorem f_23_15 : decode (mB 23) 15 = .ok (.ireturn, 1) := by decide +kernel
theorem f_24_0 : decode (mB 24) 0 = .ok (.aload_n 0, 1) := by decide +kernel
theorem f_24_1 : decode (mB 24) 1 = .ok (.getfield 21, 3) := by decide +kernel
theorem f_24_4 : decode (mB 24) 4 = .ok (.aload_n 0, 1) := by decide +kernel
theorem f_24_5 : decode (mB 24) 5 = .ok (.getfield 24, 3) := by decide +kernel
theorem f_24_8 : decode (mB 24) 8 = .ok (.isub, 1) := by decide +kernel
theorem f_24_9 : decode (mB 24) 9 = .ok (.ireturn, 1) := by decide +kernel
theorem f_27_0 : decode (mB 27) 0 = .ok (.iload_n 0, 1) := by decide +kernel
theorem f_27_1 : decode (mB 27) 1 = .ok (.ifCond .eq 7, 3) := by decide +kernel
theorem f_27_4 : decode (mB 27) 4 = .ok (.iconst 1, 1) := by decide +kernel
theorem f_27_5 : decode (mB 27) 5 = .ok (.goto 4, 3) := by decide +kernel
theorem f_27_8 : decode (mB 27) 8 = .ok (.iconst 0, 1) := by decide +kernel
theorem f_27_9 : decode (mB 27) 9 = .ok (.ireturn, 1) := by decide +kernel
theorem f_35_0 : decode (mB 35) 0 = .ok (.aload_n 0, 1) := by decide +kernel
theorem f_35_1 : decode (mB 35) 1 = .ok (.getfield 13, 3) := by decide +kernel
theorem f_35_4 : decode (mB 35) 4 = .ok (.iload_n 1, 1) := by decide +kernel
theorem f_35_5 : decode (mB 35) 5 = .ok (.if_icmp .eq 11, 3) := by decide +kernel
theorem f_35_8 : decode (mB 35) 8 = .ok (.aload_n 0, 1) := by decide +kernel
theorem f_35_9 : decode (mB 35) 9 = .ok (.getfield 16, 3) := by decide +kernel
theorem f_35_12 : decode (mB 35) 12 = .ok (.iload_n 1, 1) := by decide +kernel
theorem f_35_13 : decode (mB 35) 13 = .ok (.if_icmp .ne 7, 3) := by decide +kernel
theorem f_35_16 : decode (mB 35) 16 = .ok (.iconst 1, 1) := by decide +kernel
theorem f_35_17 : decode (mB 35) 17 = .ok (.goto 4, 3) := by decide +kernel
theorem f_35_20 : decode (mB 35) 20 = .ok (.iconst 0, 1) := by decide +kernel
theorem f_35_21 : decode (mB 35) 21 = .ok (.ireturn, 1) := by decide +kernel
theorem f_40_0 : decode (mB 40) 0 = .ok (.aload_n 0, 1) := by decide +kernel
theorem f_40_1 : decode (mB 40) 1 = .ok (.getfield 28, 3) := by decide +kernel
theorem f_40_4 : decode (mB 40) 4 = .ok (.ifCond .ge 7, 3) := by decide +kernel
theorem f_40_7 : decode (mB 40) 7 = .ok (.iconst 1, 1) := by decide +kernel
theorem f_40_8 : decode (mB 40) 8 = .ok (.goto 4, 3) := by decide +kernel
theorem f_40_11 : decode (mB 40) 11 = .ok (.iconst 0, 1) := by decide +kernel
theorem f_40_12 : decode (mB 40) 12 = .ok (.ireturn, 1) := by decide +kernel
theorem f_59_0 : decode (mB 59) 0 = .ok (.bipush 50, 2) := by decide +kernel
theorem f_59_2 : decode (mB 59) 2 = .ok (.aload_n 0, 1) := by decide +kernel
theorem f_59_3 : decode (mB 59) 3 = .ok (.iload_n 1, 1) := by decide +kernel
theorem f_59_4 : decode (mB 59) 4 = .ok (.iload_n 2, 1) := by decide +kernel
theorem f_59_5 : decode (mB 59) 5 = .ok (.invokevirtual 185, 3) := by decide +kernel
theorem f_59_8 : decode (mB 59) 8 = .ok (.isub, 1) := by decide +kernel
theorem f_59_9 : decode (mB 59) 9 = .ok (.ireturn, 1) := by decide +kernel
theorem f_60_0 : decode (mB 60) 0 = .ok (.iload_n 2, 1) := by decide +kernel
theorem f_60_1 : decode (mB 60) 1 = .ok (.aload_n 0, 1) := by decide +kernel
theorem f_60_2 : decode (mB 60) 2 = .ok (.getfield 41, 3) := by decide +kernel
theorem f_60_5 : decode (mB 60) 5 = .ok (.iload_n 1, 1) := by decide +kernel
theorem f_60_6 : decode (mB 60) 6 = .ok (.iaload, 1) := by decide +kernel
theorem f_60_7 : decode (mB 60) 7 = .ok (.iadd, 1) := by decide +kernel
theorem f_60_8 : decode (mB 60) 8 = .ok (.bipush 50, 2) := by decide +kernel
theorem f_60_10 : decode (mB 60) 10 = .ok (.irem, 1) := by decide +kernel
theorem f_60_11 : decode (mB 60) 11 = .ok (.ireturn, 1) := by decide +kernel
theorem f_179_0 : decode (mB 179) 0 = .ok (.aload_n 0, 1) := by decide +kernel
theorem f_179_1 : decode (mB 179) 1 = .ok (.dup, 1) := by decide +kernel
theorem f_179_2 : decode (mB 179) 2 = .ok (.getfield 65, 3) := by decide +kernel
theorem f_179_5 : decode (mB 179) 5 = .ok (.iconst 1, 1) := by decide +kernel
theorem f_179_6 : decode (mB 179) 6 = .ok (.iadd, 1) := by decide +kernel
theorem f_179_7 : decode (mB 179) 7 = .ok (.putfield 65, 3) := by decide +kernel
theorem f_179_10 : decode (mB 179) 10 = .ok (.iload_n 1, 1) := by decide +kernel
theorem f_179_11 : decode (mB 179) 11 = .ok (.ireturn, 1) := by decide +kernel
theorem f_180_0 : decode (mB 180) 0 = .ok (.aload_n 0, 1) := by decide +kernel
theorem f_180_1 : decode (mB 180) 1 = .ok (.getfield 7, 3) := by decide +kernel
theorem f_180_4 : decode (mB 180) 4 = .ok (.bipush 10, 2) := by decide +kernel
theorem f_180_6 : decode (mB 180) 6 = .ok (.bipush 10, 2) := by decide +kernel
theorem f_180_8 : decode (mB 180) 8 = .ok (.iload_n 1, 1) := by decide +kernel
theorem f_180_9 : decode (mB 180) 9 = .ok (.imul, 1) := by decide +kernel
theorem f_180_10 : decode (mB 180) 10 = .ok (.iadd, 1) := by decide +kernel
theorem f_180_11 : decode (mB 180) 11 = .ok (.iload_n 2, 1) := by decide +kernel
theorem f_180_12 : decode (mB 180) 12 = .ok (.iadd, 1) := by decide +kernel
theorem f_180_13 : decode (mB 180) 13 = .ok (.iload_n 3, 1) := by decide +kernel
theorem f_180_14 : decode (mB 180) 14 = .ok (.iastore, 1) := by decide +kernel
theorem f_180_15 : decode (mB 180) 15 = .ok (.return_, 1) := by decide +kernel
theorem f_182_0 : decode (mB 182) 0 = .ok (.iload_n 1, 1) := by decide +kernel
theorem f_182_1 : decode (mB 182) 1 = .ok (.iconst 0, 1) := by decide +kernel
theorem f_182_2 : decode (mB 182) 2 = .ok (.aload_n 0, 1) := by decide +kernel
theorem f_182_3 : decode (mB 182) 3 = .ok (.getfield 7, 3) := by decide +kernel
theorem f_182_6 : decode (mB 182) 6 = .ok (.iconst 0, 1) := by decide +kernel
theorem f_182_7 : decode (mB 182) 7 = .ok (.iaload, 1) := by decide +kernel
theorem f_182_8 : decode (mB 182) 8 = .ok (.iconst 1, 1) := by decide +kernel
theorem f_182_9 : decode (mB 182) 9 = .ok (.isub, 1) := by decide +kernel
theorem f_182_10 : decode (mB 182) 10 = .ok (.invokestatic 69, 3) := by decide +kernel
theorem f_182_13 : decode (mB 182) 13 = .ok (.ireturn, 1) := by decide +kernel
theorem f_184_0 : decode (mB 184) 0 = .ok (.aload_n 0, 1) := by decide +kernel
theorem f_184_1 : decode (mB 184) 1 = .ok (.getfield 7, 3) := by decide +kernel
theorem f_184_4 : decode (mB 184) 4 = .ok (.bipush 10, 2) := by decide +kernel
theorem f_184_6 : decode (mB 184) 6 = .ok (.bipush 10, 2) := by decide +kernel
theorem f_184_8 : decode (mB 184) 8 = .ok (.iload_n 1, 1) := by decide +kernel
theorem f_184_9 : decode (mB 184) 9 = .ok (.imul, 1) := by decide +kernel
theorem f_184_10 : decode (mB 184) 10 = .ok (.iadd, 1) := by decide +kernel
theorem f_184_11 : decode (mB 184) 11 = .ok (.iload_n 2, 1) := by decide +kernel
theorem f_184_12 : decode (mB 184) 12 = .ok (.iadd, 1) := by decide +kernel
theorem f_184_13 : decode (mB 184) 13 = .ok (.iaload, 1) := by decide +kernel
theorem f_184_14 : decode (mB 184) 14 = .ok (.ireturn, 1) := by decide +kernel
theorem f_186_0 : decode (mB 186) 0 = .ok (.aload_n 0, 1) := by decide +kernel
theorem f_186_1 : decode (mB 186) 1 = .ok (.iload_n 1, 1) := by decide +kernel
theorem f_186_2 : decode (mB 186) 2 = .ok (.iconst 3, 1) := by decide +kernel
theorem f_186_3 : decode (mB 186) 3 = .ok (.invokevirtual 73, 3) := by decide +kernel
theorem f_186_6 : decode (mB 186) 6 = .ok (.ifCond .ge 7, 3) := by decide +kernel
theorem f_186_9 : decode (mB 186) 9 = .ok (.iconst 1, 1) := by decide +kernel
theorem f_186_10 : decode (mB 186) 10 = .ok (.goto 4, 3) := by decide +kernel
theorem f_186_13 : decode (mB 186) 13 = .ok (.iconst 0, 1) := by decide +kernel
theorem f_186_14 : decode (mB 186) 14 = .ok (.ireturn, 1) := by decide +kernel
theorem f_189_0 : decode (mB 189) 0 = .ok (.aload_n 0, 1) := by decide +kernel
theorem f_189_1 : decode (mB 189) 1 = .ok (.iload_n 1, 1) := by decide +kernel
theorem f_189_2 : decode (mB 189) 2 = .ok (.bipush 9, 2) := by decide +kernel
theorem f_189_4 : decode (mB 189) 4 = .ok (.invokevirtual 98, 3) := by decide +kernel
theorem f_189_7 : decode (mB 189) 7 = .ok (.ifCond .ne 7, 3) := by decide +kernel
theorem f_189_10 : decode (mB 189) 10 = .ok (.iconst 1, 1) := by decide +kernel
theorem f_189_11 : decode (mB 189) 11 = .ok (.goto 4, 3) := by decide +kernel
theorem f_189_14 : decode (mB 189) 14 = .ok (.iconst 0, 1) := by decide +kernel
theorem f_189_15 : decode (mB 189) 15 = .ok (.ireturn, 1) := by decide +kernel
theorem f_190_0 : decode (mB 190) 0 = .ok (.aload_n 0, 1) := by decide +kernel
theorem f_190_1 : decode (mB 190) 1 = .ok (.getfield 7, 3) := by decide +kernel
theorem f_190_4 : decode (mB 190) 4 = .ok (.sipush 182, 3) := by decide +kernel
theorem f_190_7 : decode (mB 190) 7 = .ok (.bipush 10, 2) := by decide +kernel
theorem f_190_9 : decode (mB 190) 9 = .ok (.iload_n 1, 1) := by decide +kernel
theorem f_190_10 : decode (mB 190) 10 = .ok (.imul, 1) := by decide +kernel
theorem f_190_11 : decode (mB 190) 11 = .ok (.iadd, 1) := by decide +kernel
theorem f_190_12 : decode (mB 190) 12 = .ok (.iload_n 2, 1) := by decide +kernel
theorem f_190_13 : decode (mB 190) 13 = .ok (.iadd, 1) := by decide +kernel
theorem f_190_14 : decode (mB 190) 14 = .ok (.iaload, 1) := by decide +kernel
theorem f_190_15 : decode (mB 190) 15 = .ok (.ireturn, 1) := by decide +kernel
theorem f_191_0 : decode (mB 191) 0 = .ok (.aload_n 0, 1) := by decide +kernel
theorem f_191_1 : decode (mB 191) 1 = .ok (.iload_n 1, 1) := by decide +kernel
theorem f_191_2 : decode (mB 191) 2 = .ok (.iconst 3, 1) := by decide +kernel
theorem f_191_3 : decode (mB 191) 3 = .ok (.invokevirtual 98, 3) := by decide +kernel
theorem f_191_6 : decode (mB 191) 6 = .ok (.aload_n 0, 1) := by decide +kernel
theorem f_191_7 : decode (mB 191) 7 = .ok (.iload_n 1, 1) := by decide +kernel
theorem f_191_8 : decode (mB 191) 8 = .ok (.iconst 4, 1) := by decide +kernel
theorem f_191_9 : decode (mB 191) 9 = .ok (.invokevirtual 98, 3) := by decide +kernel
theorem f_191_12 : decode (mB 191) 12 = .ok (.isub, 1) := by decide +kernel
theorem f_191_13 : decode (mB 191) 13 = .ok (.ireturn, 1) := by decide +kernel
theorem f_193_0 : decode (mB 193) 0 = .ok (.aload_n 0, 1) := by decide +kernel
theorem f_193_1 : decode (mB 193) 1 = .ok (.getfield 7, 3) := by decide +kernel
theorem f_193_4 : decode (mB 193) 4 = .ok (.sipush 150, 3) := by decide +kernel
theorem f_193_7 : decode (mB 193) 7 = .ok (.iconst 4, 1) := by decide +kernel
theorem f_193_8 : decode (mB 193) 8 = .ok (.iload_n 1, 1) := by decide +kernel
theorem f_193_9 : decode (mB 193) 9 = .ok (.imul, 1) := by decide +kernel
theorem f_193_10 : decode (mB 193) 10 = .ok (.iadd, 1) := by decide +kernel
theorem f_193_11 : decode (mB 193) 11 = .ok (.iload_n 2, 1) := by decide +kernel
theorem f_193_12 : decode (mB 193) 12 = .ok (.iadd, 1) := by decide +kernel
theorem f_193_13 : decode (mB 193) 13 = .ok (.iaload, 1) := by decide +kernel
theorem f_193_14 : decode (mB 193) 14 = .ok (.ireturn, 1) := by decide +kernel
theorem f_196_0 : decode (mB 196) 0 = .ok (.iload_n 1, 1) := by decide +kernel
theorem f_196_1 : decode (mB 196) 1 = .ok (.iconst 0, 1) := by decide +kernel
theorem f_196_2 : decode (mB 196) 2 = .ok (.aload_n 0, 1) := by decide +kernel
theorem f_196_3 : decode (mB 196) 3 = .ok (.getfield 7, 3) := by decide +kernel
theorem f_196_6 : decode (mB 196) 6 = .ok (.iconst 1, 1) := by decide +kernel
theorem f_196_7 : decode (mB 196) 7 = .ok (.iaload, 1) := by decide +kernel
theorem f_196_8 : decode (mB 196) 8 = .ok (.iconst 1, 1) := by decide +kernel
theorem f_196_9 : decode (mB 196) 9 = .ok (.isub, 1) := by decide +kernel
theorem f_196_10 : decode (mB 196) 10 = .ok (.invokestatic 69, 3) := by decide +kernel
theorem f_196_13 : decode (mB 196) 13 = .ok (.ireturn, 1) := by decide +kernel
theorem f_200_0 : decode (mB 200) 0 = .ok (.aload_n 0, 1) := by decide +kernel
theorem f_200_1 : decode (mB 200) 1 = .ok (.iload_n 1, 1) := by decide +kernel
theorem f_200_2 : decode (mB 200) 2 = .ok (.iconst 1, 1) := by decide +kernel
theorem f_200_3 : decode (mB 200) 3 = .ok (.invokevirtual 73, 3) := by decide +kernel
theorem f_200_6 : decode (mB 200) 6 = .ok (.iload_n 2, 1) := by decide +kernel
theorem f_200_7 : decode (mB 200) 7 = .ok (.if_icmp .eq 13, 3) := by decide +kernel
theorem f_200_10 : decode (mB 200) 10 = .ok (.aload_n 0, 1) := by decide +kernel
theorem f_200_11 : decode (mB 200) 11 = .ok (.iload_n 1, 1) := by decide +kernel
theorem f_200_12 : decode (mB 200) 12 = .ok (.iconst 2, 1) := by decide +kernel
theorem f_200_13 : decode (mB 200) 13 = .ok (.invokevirtual 73, 3) := by decide +kernel
theorem f_200_16 : decode (mB 200) 16 = .ok (.iload_n 2, 1) := by decide +kernel
theorem f_200_17 : decode (mB 200) 17 = .ok (.if_icmp .ne 7, 3) := by decide +kernel
theorem f_200_20 : decode (mB 200) 20 = .ok (.iconst 1, 1) := by decide +kernel
theorem f_200_21 : decode (mB 200) 21 = .ok (.goto 4, 3) := by decide +kernel
theorem f_200_24 : decode (mB 200) 24 = .ok (.iconst 0, 1) := by decide +kernel
theorem f_200_25 : decode (mB 200) 25 = .ok (.ireturn, 1) := by decide +kernel
theorem f_204_0 : decode (mB 204) 0 = .ok (.iload_n 0, 1) := by decide +kernel
theorem f_204_1 : decode (mB 204) 1 = .ok (.iconst 2, 1) := by decide +kernel
theorem f_204_2 : decode (mB 204) 2 = .ok (.if_icmp .eq 13, 3) := by decide +kernel
theorem f_204_5 : decode (mB 204) 5 = .ok (.iload_n 0, 1) := by decide +kernel
theorem f_204_6 : decode (mB 204) 6 = .ok (.iconst 3, 1) := by decide +kernel
theorem f_204_7 : decode (mB 204) 7 = .ok (.if_icmp .eq 8, 3) := by decide +kernel
theorem f_204_10 : decode (mB 204) 10 = .ok (.iload_n 0, 1) := by decide +kernel
theorem f_204_11 : decode (mB 204) 11 = .ok (.iconst 4, 1) := by decide +kernel
theorem f_204_12 : decode (mB 204) 12 = .ok (.if_icmp .ne 7, 3) := by decide +kernel
theorem f_204_15 : decode (mB 204) 15 = .ok (.iconst 1, 1) := by decide +kernel
theorem f_204_16 : decode (mB 204) 16 = .ok (.goto 4, 3) := by decide +kernel
theorem f_204_19 : decode (mB 204) 19 = .ok (.iconst 0, 1) := by decide +kernel
theorem f_204_20 : decode (mB 204) 20 = .ok (.ireturn, 1) := by decide +kernel
theorem f_206_0 : decode (mB 206) 0 = .ok (.aload_n 0, 1) := by decide +kernel
theorem f_206_1 : decode (mB 206) 1 = .ok (.getfield 7, 3) := by decide +kernel
theorem f_206_4 : decode (mB 206) 4 = .ok (.sipush 182, 3) := by decide +kernel
theorem f_206_7 : decode (mB 206) 7 = .ok (.bipush 10, 2) := by decide +kernel
theorem f_206_9 : decode (mB 206) 9 = .ok (.iload_n 1, 1) := by decide +kernel
theorem f_206_10 : decode (mB 206) 10 = .ok (.imul, 1) := by decide +kernel
theorem f_206_11 : decode (mB 206) 11 = .ok (.iadd, 1) := by decide +kernel
theorem f_206_12 : decode (mB 206) 12 = .ok (.iload_n 2, 1) := by decide +kernel
theorem f_206_13 : decode (mB 206) 13 = .ok (.iadd, 1) := by decide +kernel
theorem f_206_14 : decode (mB 206) 14 = .ok (.iload_n 3, 1) := by decide +kernel
theorem f_206_15 : decode (mB 206) 15 = .ok (.iastore, 1) := by decide +kernel
theorem f_206_16 : decode (mB 206) 16 = .ok (.return_, 1) := by decide +kernel
theorem f_208_0 : decode (mB 208) 0 = .ok (.iload_n 1, 1) := by decide +kernel
theorem f_208_1 : decode (mB 208) 1 = .ok (.iconst 0, 1) := by decide +kernel
theorem f_208_2 : decode (mB 208) 2 = .ok (.aload_n 0, 1) := by decide +kernel
theorem f_208_3 : decode (mB 208) 3 = .ok (.getfield 7, 3) := by decide +kernel
theorem f_208_6 : decode (mB 208) 6 = .ok (.iconst 2, 1) := by decide +kernel
theorem f_208_7 : decode (mB 208) 7 = .ok (.iaload, 1) := by decide +kernel
theorem f_208_8 : decode (mB 208) 8 = .ok (.iconst 1, 1) := by decide +kernel
theorem f_208_9 : decode (mB 208) 9 = .ok (.isub, 1) := by decide +kernel
theorem f_208_10 : decode (mB 208) 10 = .ok (.invokestatic 69, 3) := by decide +kernel
theorem f_208_13 : decode (mB 208) 13 = .ok (.ireturn, 1) := by decide +kernel
theorem f_209_0 : decode (mB 209) 0 = .ok (.iload_n 1, 1) := by decide +kernel
theorem f_209_1 : decode (mB 209) 1 = .ok (.ifCond .eq 45, 3) := by decide +kernel
theorem f_209_4 : decode (mB 209) 4 = .ok (.iload_n 0, 1) := by decide +kernel
theorem f_209_5 : decode (mB 209) 5 = .ok (.iload_n 1, 1) := by decide +kernel
theorem f_209_6 : decode (mB 209) 6 = .ok (.if_icmp .eq 40, 3) := by decide +kernel
theorem f_209_9 : decode (mB 209) 9 = .ok (.iload_n 1, 1) := by decide +kernel
theorem f_209_10 : decode (mB 209) 10 = .ok (.iconst 1, 1) := by decide +kernel
theorem f_209_11 : decode (mB 209) 11 = .ok (.if_icmp .ne 14, 3) := by decide +kernel
theorem f_209_14 : decode (mB 209) 14 = .ok (.iload_n 0, 1) := by decide +kernel
theorem f_209_15 : decode (mB 209) 15 = .ok (.iconst 2, 1) := by decide +kernel
theorem f_209_16 : decode (mB 209) 16 = .ok (.if_icmp .eq 30, 3) := by decide +kernel
theorem f_209_19 : decode (mB 209) 19 = .ok (.iload_n 0, 1) := by decide +kernel
theorem f_209_20 : decode (mB 209) 20 = .ok (.bipush 6, 2) := by decide +kernel
theorem f_209_22 : decode (mB 209) 22 = .ok (.if_icmp .eq 24, 3) := by decide +kernel
theorem f_209_25 : decode (mB 209) 25 = .ok (.iload_n 1, 1) := by decide +kernel
theorem f_209_26 : decode (mB 209) 26 = .ok (.iconst 2, 1) := by decide +kernel
theorem f_209_27 : decode (mB 209) 27 = .ok (.if_icmp .ne 9, 3) := by decide +kernel
theorem f_209_30 : decode (mB 209) 30 = .ok (.iload_n 0, 1) := by decide +kernel
theorem f_209_31 : decode (mB 209) 31 = .ok (.bipush 6, 2) := by decide +kernel
theorem f_209_33 : decode (mB 209) 33 = .ok (.if_icmp .eq 13, 3) := by decide +kernel
theorem f_209_36 : decode (mB 209) 36 = .ok (.iload_n 1, 1) := by decide +kernel
theorem f_209_37 : decode (mB 209) 37 = .ok (.iconst 3, 1) := by decide +kernel
theorem f_209_38 : decode (mB 209) 38 = .ok (.if_icmp .ne 12, 3) := by decide +kernel
theorem f_209_41 : decode (mB 209) 41 = .ok (.iload_n 0, 1) := by decide +kernel
theorem f_209_42 : decode (mB 209) 42 = .ok (.iconst 4, 1) := by decide +kernel
theorem f_209_43 : decode (mB 209) 43 = .ok (.if_icmp .ne 7, 3) := by decide +kernel
theorem f_209_46 : decode (mB 209) 46 = .ok (.iconst 1, 1) := by decide +kernel
theorem f_209_47 : decode (mB 209) 47 = .ok (.goto 4, 3) := by decide +kernel
theorem f_209_50 : decode (mB 209) 50 = .ok (.iconst 0, 1) := by decide +kernel
theorem f_209_51 : decode (mB 209) 51 = .ok (.ireturn, 1) := by decide +kernel
theorem f_221_0 : decode (mB 221) 0 = .ok (.bipush 50, 2) := by decide +kernel
theorem f_221_2 : decode (mB 221) 2 = .ok (.iload_n 2, 1) := by decide +kernel
theorem f_221_3 : decode (mB 221) 3 = .ok (.aload_n 0, 1) := by decide +kernel
theorem f_221_4 : decode (mB 221) 4 = .ok (.getfield 7, 3) := by decide +kernel
theorem f_221_7 : decode (mB 221) 7 = .ok (.bipush 7, 2) := by decide +kernel
theorem f_221_9 : decode (mB 221) 9 = .ok (.iload_n 1, 1) := by decide +kernel
theorem f_221_10 : decode (mB 221) 10 = .ok (.iadd, 1) := by decide +kernel
theorem f_221_11 : decode (mB 221) 11 = .ok (.iaload, 1) := by decide +kernel
theorem f_221_12 : decode (mB 221) 12 = .ok (.iadd, 1) := by decide +kernel
theorem f_221_13 : decode (mB 221) 13 = .ok (.bipush 50, 2) := by decide +kernel
theorem f_221_15 : decode (mB 221) 15 = .ok (.irem, 1) := by decide +kernel
theorem f_221_16 : decode (mB 221) 16 = .ok (.isub, 1) := by decide +kernel
theorem f_221_17 : decode (mB 221) 17 = .ok (.ireturn, 1) := by decide +kernel
theorem f_227_0 : decode (mB 227) 0 = .ok (.iload_n 0, 1) := by decide +kernel
theorem f_227_1 : decode (mB 227) 1 = .ok (.bipush 97, 2) := by decide +kernel
theorem f_227_3 : decode (mB 227) 3 = .ok (.if_icmp .lt 13, 3) := by decide +kernel
theorem f_227_6 : decode (mB 227) 6 = .ok (.iload_n 0, 1) := by decide +kernel
theorem f_227_7 : decode (mB 227) 7 = .ok (.bipush 122, 2) := by decide +kernel
theorem f_227_9 : decode (mB 227) 9 = .ok (.if_icmp .gt 7, 3) := by decide +kernel
theorem f_227_12 : decode (mB 227) 12 = .ok (.iconst 1, 1) := by decide +kernel
theorem f_227_13 : decode (mB 227) 13 = .ok (.goto 4, 3) := by decide +kernel
theorem f_227_16 : decode (mB 227) 16 = .ok (.iconst 0, 1) := by decide +kernel
theorem f_227_17 : decode (mB 227) 17 = .ok (.ireturn, 1) := by decide +kernel
theorem f_229_0 : decode (mB 229) 0 = .ok (.iload_n 0, 1) := by decide +kernel
theorem f_229_1 : decode (mB 229) 1 = .ok (.bipush 48, 2) := by decide +kernel
theorem f_229_3 : decode (mB 229) 3 = .ok (.if_icmp .lt 13, 3) := by decide +kernel
theorem f_229_6 : decode (mB 229) 6 = .ok (.iload_n 0, 1) := by decide +kernel
theorem f_229_7 : decode (mB 229) 7 = .ok (.bipush 57, 2) := by decide +kernel
theorem f_229_9 : decode (mB 229) 9 = .ok (.if_icmp .gt 7, 3) := by decide +kernel
theorem f_229_12 : decode (mB 229) 12 = .ok (.iconst 1, 1) := by decide +kernel
theorem f_229_13 : decode (mB 229) 13 = .ok (.goto 4, 3) := by decide +kernel
theorem f_229_16 : decode (mB 229) 16 = .ok (.iconst 0, 1) := by decide +kernel
theorem f_229_17 : decode (mB 229) 17 = .ok (.ireturn, 1) := by decide +kernel
theorem f_230_0 : decode (mB 230) 0 = .ok (.iload_n 0, 1) := by decide +kernel
theorem f_230_1 : decode (mB 230) 1 = .ok (.bipush 40, 2) := by decide +kernel
theorem f_230_3 : decode (mB 230) 3 = .ok (.if_icmp .eq 39, 3) := by decide +kernel
theorem f_230_6 : decode (mB 230) 6 = .ok (.iload_n 0, 1) := by decide +kernel
theorem f_230_7 : decode (mB 230) 7 = .ok (.bipush 41, 2) := by decide +kernel
theorem f_230_9 : decode (mB 230) 9 = .ok (.if_icmp .eq 33, 3) := by decide +kernel
theorem f_230_12 : decode (mB 230) 12 = .ok (.iload_n 0, 1) := by decide +kernel
theorem f_230_13 : decode (mB 230) 13 = .ok (.bipush 59, 2) := by decide +kernel
theorem f_230_15 : decode (mB 230) 15 = .ok (.if_icmp .eq 27, 3) := by decide +kernel
theorem f_230_18 : decode (mB 230) 18 = .ok (.iload_n 0, 1) := by decide +kernel
theorem f_230_19 : decode (mB 230) 19 = .ok (.bipush 43, 2) := by decide +kernel
theorem f_230_21 : decode (mB 230) 21 = .ok (.if_icmp .eq 21, 3) := by decide +kernel
theorem f_230_24 : decode (mB 230) 24 = .ok (.iload_n 0, 1) := by decide +kernel
theorem f_230_25 : decode (mB 230) 25 = .ok (.bipush 45, 2) := by decide +kernel
theorem f_230_27 : decode (mB 230) 27 = .ok (.if_icmp .eq 15, 3) := by decide +kernel
theorem f_230_30 : decode (mB 230) 30 = .ok (.iload_n 0, 1) := by decide +kernel
theorem f_230_31 : decode (mB 230) 31 = .ok (.bipush 60, 2) := by decide +kernel
theorem f_230_33 : decode (mB 230) 33 = .ok (.if_icmp .eq 9, 3) := by decide +kernel
theorem f_230_36 : decode (mB 230) 36 = .ok (.iload_n 0, 1) := by decide +kernel
theorem f_230_37 : decode (mB 230) 37 = .ok (.bipush 61, 2) := by decide +kernel
theorem f_230_39 : decode (mB 230) 39 = .ok (.if_icmp .ne 7, 3) := by decide +kernel
theorem f_230_42 : decode (mB 230) 42 = .ok (.iconst 1, 1) := by decide +kernel
theorem f_230_43 : decode (mB 230) 43 = .ok (.goto 4, 3) := by decide +kernel
theorem f_230_46 : decode (mB 230) 46 = .ok (.iconst 0, 1) := by decide +kernel
theorem f_230_47 : decode (mB 230) 47 = .ok (.ireturn, 1) := by decide +kernel
theorem fd_0_61 : fld 0 61 = some (0, 61, 0, 8) := by decide +kernel
theorem fd_3_41 : fld 3 41 = some (3, 41, 3, 5) := by decide +kernel
theorem fd_5_21 : fld 5 21 = some (5, 21, 5, 3) := by decide +kernel
theorem fd_5_24 : fld 5 24 = some (5, 24, 5, 4) := by decide +kernel
theorem fd_5_39 : fld 5 39 = some (5, 39, 5, 9) := by decide +kernel
theorem fd_6_13 : fld 6 13 = some (6, 13, 6, 1) := by decide +kernel
theorem fd_6_16 : fld 6 16 = some (6, 16, 6, 2) := by decide +kernel
theorem fd_6_22 : fld 6 22 = some (6, 22, 6, 4) := by decide +kernel
theorem fd_6_28 : fld 6 28 = some (6, 28, 6, 6) := by decide +kernel
theorem fd_12_7 : fld 12 7 = some (12, 7, 12, 0) := by decide +kernel
theorem fd_12_65 : fld 12 65 = some (12, 65, 12, 3) := by decide +kernel
theorem c_finds {l : Launch} {G : aG} {d : Nat} {Q : Option Value → aHeap → Prop} {o : Nat → aCell} {k : Nat} {S : Nat → Nat → Int32} {K : Nat → Int64} {T : Nat → Nat → Value} {tl : Nat → Nat} {v : Int32}  (hQ : Q (some (.int v)) (lay o k (up S 154 3 (S 154 3 + 1)) K T tl)) : aCall l G d 0 0 179 [.ref 154, .int v] (lay o k S K T tl) Q := by
  refine aCall.of (by decide) (Nat.le_of_ble_eq_true rfl) ?_
  refine aAt.sub [(0, .ref 154), (1, .int v)] rfl ?_
  refine s_aload_n f_179_0 rfl ?_
  refine s_dup f_179_1 rfl ?_
  refine L_getI f_179_2 fd_12_65 (obL (by decide)) (by decide) ?_
  refine k_iconst (v := 1) f_179_5 (by decide) ?_
  refine s_iadd f_179_6 ?_
  refine L_putI f_179_7 fd_12_65 (obL (by decide)) (by decide) (Or.inl rfl) (by decide) ?_
  refine s_iload_n f_179_10 rfl ?_
  refine s_ireturn f_179_11 rfl rfl ?_
  exact hQ
theorem c_found {l : Launch} {G : aG} {d : Nat} {Q : Option Value → aHeap → Prop} {o : Nat → aCell} {k : Nat} {S : Nat → Nat → Int32} {K : Nat → Int64} {T : Nat → Nat → Value} {tl : Nat → Nat} {v : Int32}  (hQ : Q (some (.int v)) (lay o k (up S 8 8 (S 8 8 + 1)) K T tl)) : aCall l G d 0 0 15 [.ref 8, .int v] (lay o k S K T tl) Q := by
  refine aCall.of (by decide) (Nat.le_of_ble_eq_true rfl) ?_
  refine aAt.sub [(0, .ref 8), (1, .int v)] rfl ?_
  refine s_aload_n f_15_0 rfl ?_
  refine s_dup f_15_1 rfl ?_
  refine L_getI f_15_2 fd_0_61 (obL (by decide)) (by decide) ?_
  refine k_iconst (v := 1) f_15_5 (by decide) ?_
  refine s_iadd f_15_6 ?_
  refine L_putI f_15_7 fd_0_61 (obL (by decide)) (by decide) (Or.inl rfl) (by decide) ?_
  refine s_iload_n f_15_10 rfl ?_
  refine s_ireturn f_15_11 rfl rfl ?_
  exact hQ
theorem c_isPerson {l : Launch} {G : aG} {d : Nat} {Q : Option Value → aHeap → Prop} {o : Nat → aCell} {k : Nat} {S : Nat → Nat → Int32} {K : Nat → Int64} {T : Nat → Nat → Value} {tl : Nat → Nat} {v : Int32}  (hQ : Q (some (.int (bI ((0 : Int32) ≤ v ∧ v ≤ (S 155 0 - 1))))) (lay o k S K T tl)) : aCall l G (d + 1) 0 0 182 [.ref 154, .int v] (lay o k S K T tl) Q := by
  refine aCall.of (by decide) (Nat.le_of_ble_eq_true rfl) ?_
  refine aAt.sub [(0, .ref 154), (1, .int v)] rfl ?_
  refine s_iload_n f_182_0 rfl ?_
  refine k_iconst (v := 0) f_182_1 (by decide) ?_
  refine s_aload_n f_182_2 rfl ?_
  refine L_getR f_182_3 fd_12_7 (obL (by decide)) (by decide) (by decide : rf 154 0 = 155) ?_
  refine k_iconst (v := 0) f_182_6 (by decide) ?_
  refine L_iaload (q := 0) f_182_7 (obL (by decide)) rfl (Nat.le_of_ble_eq_true rfl) (Nat.le_of_ble_eq_true rfl) rfl ?_
  refine k_iconst (v := 1) f_182_8 (by decide) ?_
  refine s_isub f_182_9 ?_
  refine L_stat (As := [.int v, .int (0 : Int32), .int ((S 155 0) - (1 : Int32))]) f_182_10 ca_12_69 rfl rfl (Nat.le_of_ble_eq_true rfl) ?_
  refine c_in ?_
  refine s_ireturn f_182_13 rfl bI_n ?_
  exact hQ
theorem c_isField {l : Launch} {G : aG} {d : Nat} {Q : Option Value → aHeap → Prop} {o : Nat → aCell} {k : Nat} {S : Nat → Nat → Int32} {K : Nat → Int64} {T : Nat → Nat → Value} {tl : Nat → Nat} {v : Int32}  (hQ : Q (some (.int (bI ((0 : Int32) ≤ v ∧ v ≤ (S 155 1 - 1))))) (lay o k S K T tl)) : aCall l G (d + 1) 0 0 196 [.ref 154, .int v] (lay o k S K T tl) Q := by
  refine aCall.of (by decide) (Nat.le_of_ble_eq_true rfl) ?_
  refine aAt.sub [(0, .ref 154), (1, .int v)] rfl ?_
  refine s_iload_n f_196_0 rfl ?_
  refine k_iconst (v := 0) f_196_1 (by decide) ?_
  refine s_aload_n f_196_2 rfl ?_
  refine L_getR f_196_3 fd_12_7 (obL (by decide)) (by decide) (by decide : rf 154 0 = 155) ?_
  refine k_iconst (v := 1) f_196_6 (by decide) ?_
  refine L_iaload (q := 1) f_196_7 (obL (by decide)) rfl (Nat.le_of_ble_eq_true rfl) (Nat.le_of_ble_eq_true rfl) rfl ?_
  refine k_iconst (v := 1) f_196_8 (by decide) ?_
  refine s_isub f_196_9 ?_
  refine L_stat (As := [.int v, .int (0 : Int32), .int ((S 155 1) - (1 : Int32))]) f_196_10 ca_12_69 rfl rfl (Nat.le_of_ble_eq_true rfl) ?_
  refine c_in ?_
  refine s_ireturn f_196_13 rfl bI_n ?_
  exact hQ
theorem c_isPaper {l : Launch} {G : aG} {d : Nat} {Q : Option Value → aHeap → Prop} {o : Nat → aCell} {k : Nat} {S : Nat → Nat → Int32} {K : Nat → Int64} {T : Nat → Nat → Value} {tl : Nat → Nat} {v : Int32}  (hQ : Q (some (.int (bI ((0 : Int32) ≤ v ∧ v ≤ (S 155 2 - 1))))) (lay o k S K T tl)) : aCall l G (d + 1) 0 0 208 [.ref 154, .int v] (lay o k S K T tl) Q := by
  refine aCall.of (by decide) (Nat.le_of_ble_eq_true rfl) ?_
  refine aAt.sub [(0, .ref 154), (1, .int v)] rfl ?_
  refine s_iload_n f_208_0 rfl ?_
  refine k_iconst (v := 0) f_208_1 (by decide) ?_
  refine s_aload_n f_208_2 rfl ?_
  refine L_getR f_208_3 fd_12_7 (obL (by decide)) (by decide) (by decide : rf 154 0 = 155) ?_
  refine k_iconst (v := 2) f_208_6 (by decide) ?_
  refine L_iaload (q := 2) f_208_7 (obL (by decide)) rfl (Nat.le_of_ble_eq_true rfl) (Nat.le_of_ble_eq_true rfl) rfl ?_
  refine k_iconst (v := 1) f_208_8 (by decide) ?_
  refine s_isub f_208_9 ?_
  refine L_stat (As := [.int v, .int (0 : Int32), .int ((S 155 2) - (1 : Int32))]) f_208_10 ca_12_69 rfl rfl (Nat.le_of_ble_eq_true rfl) ?_
  refine c_in ?_
  refine s_ireturn f_208_13 rfl bI_n ?_
  exact hQ
theorem c_own {l : Launch} {G : aG} {d : Nat} {Q : Option Value → aHeap → Prop} {o : Nat → aCell} {k : Nat} {S : Nat → Nat → Int32} {K : Nat → Int64} {T : Nat → Nat → Value} {tl : Nat → Nat} {p w : Nat} (hp : p ≤ 13) (hw : w ≤ 9)  (hQ : Q (some (.int (S 155 (10 + 10 * p + w)))) (lay o k S K T tl)) : aCall l G d 0 0 184 [.ref 154, .int (nI p), .int (nI w)] (lay o k S K T tl) Q := by
  refine aCall.of (by decide) (Nat.le_of_ble_eq_true rfl) ?_
  refine aAt.sub [(0, .ref 154), (1, .int (nI p)), (2, .int (nI w))] rfl ?_
  refine s_aload_n f_184_0 rfl ?_
  refine L_getR f_184_1 fd_12_7 (obL (by decide)) (by decide) (by decide : rf 154 0 = 155) ?_
  refine k_bipush (v := 10) f_184_4 (by decide) ?_
  refine k_bipush (v := 10) f_184_6 (by decide) ?_
  refine s_iload_n f_184_8 rfl ?_
  refine s_imul f_184_9 ?_
  refine s_iadd f_184_10 ?_
  refine s_iload_n f_184_11 rfl ?_
  refine s_iadd f_184_12 ?_
  refine L_iaload (q := (10 + 10 * p + w)) f_184_13 (obL (by decide)) (by rw [show (10 : Int32) = nI 10 from rfl, pk_mul, nI_add, nI_add]) (by show _ < 10759; omega) (Nat.le_of_ble_eq_true rfl) rfl ?_
  refine s_ireturn f_184_14 rfl rfl ?_
  exact hQ
theorem c_ofField {l : Launch} {G : aG} {d : Nat} {Q : Option Value → aHeap → Prop} {o : Nat → aCell} {k : Nat} {S : Nat → Nat → Int32} {K : Nat → Int64} {T : Nat → Nat → Value} {tl : Nat → Nat} {p w : Nat} (hp : p ≤ 7) (hw : w ≤ 3)  (hQ : Q (some (.int (S 155 (150 + 4 * p + w)))) (lay o k S K T tl)) : aCall l G d 0 0 193 [.ref 154, .int (nI p), .int (nI w)] (lay o k S K T tl) Q := by
  refine aCall.of (by decide) (Nat.le_of_ble_eq_true rfl) ?_
  refine aAt.sub [(0, .ref 154), (1, .int (nI p)), (2, .int (nI w))] rfl ?_
  refine s_aload_n f_193_0 rfl ?_
  refine L_getR f_193_1 fd_12_7 (obL (by decide)) (by decide) (by decide : rf 154 0 = 155) ?_
  refine k_sipush (v := 150) f_193_4 (by decide) ?_
  refine k_iconst (v := 4) f_193_7 (by decide) ?_
  refine s_iload_n f_193_8 rfl ?_
  refine s_imul f_193_9 ?_
  refine s_iadd f_193_10 ?_
  refine s_iload_n f_193_11 rfl ?_
  refine s_iadd f_193_12 ?_
  refine L_iaload (q := (150 + 4 * p + w)) f_193_13 (obL (by decide)) (by rw [show (150 : Int32) = nI 150 from rfl, show (4 : Int32) = nI 4 from rfl, pk_mul, nI_add, nI_add]) (by show _ < 10759; omega) (Nat.le_of_ble_eq_true rfl) rfl ?_
  refine s_ireturn f_193_14 rfl rfl ?_
  exact hQ
theorem c_of {l : Launch} {G : aG} {d : Nat} {Q : Option Value → aHeap → Prop} {o : Nat → aCell} {k : Nat} {S : Nat → Nat → Int32} {K : Nat → Int64} {T : Nat → Nat → Value} {tl : Nat → Nat} {p w : Nat} (hp : p ≤ 19) (hw : w ≤ 9)  (hQ : Q (some (.int (S 155 (182 + 10 * p + w)))) (lay o k S K T tl)) : aCall l G d 0 0 190 [.ref 154, .int (nI p), .int (nI w)] (lay o k S K T tl) Q := by
  refine aCall.of (by decide) (Nat.le_of_ble_eq_true rfl) ?_
  refine aAt.sub [(0, .ref 154), (1, .int (nI p)), (2, .int (nI w))] rfl ?_
  refine s_aload_n f_190_0 rfl ?_
  refine L_getR f_190_1 fd_12_7 (obL (by decide)) (by decide) (by decide : rf 154 0 = 155) ?_
  refine k_sipush (v := 182) f_190_4 (by decide) ?_
  refine k_bipush (v := 10) f_190_7 (by decide) ?_
  refine s_iload_n f_190_9 rfl ?_
  refine s_imul f_190_10 ?_
  refine s_iadd f_190_11 ?_
  refine s_iload_n f_190_12 rfl ?_
  refine s_iadd f_190_13 ?_
  refine L_iaload (q := (182 + 10 * p + w)) f_190_14 (obL (by decide)) (by rw [show (182 : Int32) = nI 182 from rfl, show (10 : Int32) = nI 10 from rfl, pk_mul, nI_add, nI_add]) (by show _ < 10759; omega) (Nat.le_of_ble_eq_true rfl) rfl ?_
  refine s_ireturn f_190_15 rfl rfl ?_
  exact hQ
theorem c_makes {l : Launch} {G : aG} {d : Nat} {Q : Option Value → aHeap → Prop} {o : Nat → aCell} {k : Nat} {S : Nat → Nat → Int32} {K : Nat → Int64} {T : Nat → Nat → Value} {tl : Nat → Nat} {p w : Nat} {v : Int32} (hp : p ≤ 13) (hw : w ≤ 9)  (hQ : Q none (lay o k (up S 155 (10 + 10 * p + w) v) K T tl)) : aCall l G d 0 0 180 [.ref 154, .int (nI p), .int (nI w), .int v] (lay o k S K T tl) Q := by
  refine aCall.of (by decide) (Nat.le_of_ble_eq_true rfl) ?_
  refine aAt.sub [(0, .ref 154), (1, .int (nI p)), (2, .int (nI w)), (3, .int v)] rfl ?_
  refine s_aload_n f_180_0 rfl ?_
  refine L_getR f_180_1 fd_12_7 (obL (by decide)) (by decide) (by decide : rf 154 0 = 155) ?_
  refine k_bipush (v := 10) f_180_4 (by decide) ?_
  refine k_bipush (v := 10) f_180_6 (by decide) ?_
  refine s_iload_n f_180_8 rfl ?_
  refine s_imul f_180_9 ?_
  refine s_iadd f_180_10 ?_
  refine s_iload_n f_180_11 rfl ?_
  refine s_iadd f_180_12 ?_
  refine s_iload_n f_180_13 rfl ?_
  refine L_iastore (q := (10 + 10 * p + w)) f_180_14 (obL (by decide)) (by rw [show (10 : Int32) = nI 10 from rfl, pk_mul, nI_add, nI_add]) (by show _ < 10759; omega) (Nat.le_of_ble_eq_true rfl) rfl ?_
  refine s_return f_180_15 rfl ?_
  exact hQ
theorem c_writes {l : Launch} {G : aG} {d : Nat} {Q : Option Value → aHeap → Prop} {o : Nat → aCell} {k : Nat} {S : Nat → Nat → Int32} {K : Nat → Int64} {T : Nat → Nat → Value} {tl : Nat → Nat} {p w : Nat} {v : Int32} (hp : p ≤ 19) (hw : w ≤ 9)  (hQ : Q none (lay o k (up S 155 (182 + 10 * p + w) v) K T tl)) : aCall l G d 0 0 206 [.ref 154, .int (nI p), .int (nI w), .int v] (lay o k S K T tl) Q := by
  refine aCall.of (by decide) (Nat.le_of_ble_eq_true rfl) ?_
  refine aAt.sub [(0, .ref 154), (1, .int (nI p)), (2, .int (nI w)), (3, .int v)] rfl ?_
  refine s_aload_n f_206_0 rfl ?_
  refine L_getR f_206_1 fd_12_7 (obL (by decide)) (by decide) (by decide : rf 154 0 = 155) ?_
  refine k_sipush (v := 182) f_206_4 (by decide) ?_
  refine k_bipush (v := 10) f_206_7 (by decide) ?_
  refine s_iload_n f_206_9 rfl ?_
  refine s_imul f_206_10 ?_
  refine s_iadd f_206_11 ?_
  refine s_iload_n f_206_12 rfl ?_
  refine s_iadd f_206_13 ?_
  refine s_iload_n f_206_14 rfl ?_
  refine L_iastore (q := (182 + 10 * p + w)) f_206_15 (obL (by decide)) (by rw [show (182 : Int32) = nI 182 from rfl, show (10 : Int32) = nI 10 from rfl, pk_mul, nI_add, nI_add]) (by show _ < 10759; omega) (Nat.le_of_ble_eq_true rfl) rfl ?_
  refine s_return f_206_16 rfl ?_
  exact hQ
theorem c_lives0 {l : Launch} {G : aG} {d : Nat} {Q : Option Value → aHeap → Prop} {o : Nat → aCell} {k : Nat} {S : Nat → Nat → Int32} {K : Nat → Int64} {T : Nat → Nat → Value} {tl : Nat → Nat} {p : Nat} (hp : p ≤ 13)  (hQ : Q (some (.int (bI (S 155 (10 + 10 * p + 3) < 0)))) (lay o k S K T tl)) : aCall l G (d + 1) 0 0 186 [.ref 154, .int (nI p)] (lay o k S K T tl) Q := by
  refine aCall.of (by decide) (Nat.le_of_ble_eq_true rfl) ?_
  refine aAt.sub [(0, .ref 154), (1, .int (nI p))] rfl ?_
  refine s_aload_n f_186_0 rfl ?_
  refine s_iload_n f_186_1 rfl ?_
  refine k_iconst (v := 3) f_186_2 (by decide) ?_
  refine L_virt (As := [.int (nI p), .int (3 : Int32)]) f_186_3 ca_12_73 rfl rfl (obL (by decide)) (by decide) (Nat.le_of_ble_eq_true rfl) ?_
  refine c_own (p := p) (w := 3) hp (by decide) ?_
  refine s_if_ge 13 f_186_6 (by decide) (fun c_6 => ?_) (fun c_6 => ?_)
  · refine k_iconst (v := 0) f_186_13 (by decide) ?_
    refine s_ireturn f_186_14 rfl rfl ?_
    first | (rw [bI_t (by clear hQ; simp_all)] at hQ; exact hQ) | (rw [bI_f (by clear hQ; simp_all)] at hQ; exact hQ)
  · refine k_iconst (v := 1) f_186_9 (by decide) ?_
    refine s_goto 14 f_186_10 (by decide) ?_
    refine s_ireturn f_186_14 rfl rfl ?_
    first | (rw [bI_t (by clear hQ; simp_all)] at hQ; exact hQ) | (rw [bI_f (by clear hQ; simp_all)] at hQ; exact hQ)
theorem c_isOpen {l : Launch} {G : aG} {d : Nat} {Q : Option Value → aHeap → Prop} {o : Nat → aCell} {k : Nat} {S : Nat → Nat → Int32} {K : Nat → Int64} {T : Nat → Nat → Value} {tl : Nat → Nat} {p : Nat} (hp : p ≤ 19)  (hQ : Q (some (.int (bI (S 155 (182 + 10 * p + 9) = 0)))) (lay o k S K T tl)) : aCall l G (d + 1) 0 0 189 [.ref 154, .int (nI p)] (lay o k S K T tl) Q := by
  refine aCall.of (by decide) (Nat.le_of_ble_eq_true rfl) ?_
  refine aAt.sub [(0, .ref 154), (1, .int (nI p))] rfl ?_
  refine s_aload_n f_189_0 rfl ?_
  refine s_iload_n f_189_1 rfl ?_
  refine k_bipush (v := 9) f_189_2 (by decide) ?_
  refine L_virt (As := [.int (nI p), .int (9 : Int32)]) f_189_4 ca_12_98 rfl rfl (obL (by decide)) (by decide) (Nat.le_of_ble_eq_true rfl) ?_
  refine c_of (p := p) (w := 9) hp (by decide) ?_
  refine s_if_ne 14 f_189_7 (by decide) (fun c_7 => ?_) (fun c_7 => ?_)
  · refine k_iconst (v := 0) f_189_14 (by decide) ?_
    refine s_ireturn f_189_15 rfl rfl ?_
    first | (rw [bI_t (by clear hQ; simp_all)] at hQ; exact hQ) | (rw [bI_f (by clear hQ; simp_all)] at hQ; exact hQ)
  · refine k_iconst (v := 1) f_189_10 (by decide) ?_
    refine s_goto 15 f_189_11 (by decide) ?_
    refine s_ireturn f_189_15 rfl rfl ?_
    first | (rw [bI_t (by clear hQ; simp_all)] at hQ; exact hQ) | (rw [bI_f (by clear hQ; simp_all)] at hQ; exact hQ)
theorem c_mowed {l : Launch} {G : aG} {d : Nat} {Q : Option Value → aHeap → Prop} {o : Nat → aCell} {k : Nat} {S : Nat → Nat → Int32} {K : Nat → Int64} {T : Nat → Nat → Value} {tl : Nat → Nat} {p : Nat} (hp : p ≤ 19)  (hQ : Q (some (.int (S 155 (182 + 10 * p + 3) - S 155 (182 + 10 * p + 4)))) (lay o k S K T tl)) : aCall l G (d + 1) 0 0 191 [.ref 154, .int (nI p)] (lay o k S K T tl) Q := by
  refine aCall.of (by decide) (Nat.le_of_ble_eq_true rfl) ?_
  refine aAt.sub [(0, .ref 154), (1, .int (nI p))] rfl ?_
  refine s_aload_n f_191_0 rfl ?_
  refine s_iload_n f_191_1 rfl ?_
  refine k_iconst (v := 3) f_191_2 (by decide) ?_
  refine L_virt (As := [.int (nI p), .int (3 : Int32)]) f_191_3 ca_12_98 rfl rfl (obL (by decide)) (by decide) (Nat.le_of_ble_eq_true rfl) ?_
  refine c_of (p := p) (w := 3) hp (by decide) ?_
  refine s_aload_n f_191_6 rfl ?_
  refine s_iload_n f_191_7 rfl ?_
  refine k_iconst (v := 4) f_191_8 (by decide) ?_
  refine L_virt (As := [.int (nI p), .int (4 : Int32)]) f_191_9 ca_12_98 rfl rfl (obL (by decide)) (by decide) (Nat.le_of_ble_eq_true rfl) ?_
  refine c_of (p := p) (w := 4) hp (by decide) ?_
  refine s_isub f_191_12 ?_
  refine s_ireturn f_191_13 rfl rfl ?_
  exact hQ
theorem c_mhasField {l : Launch} {G : aG} {d : Nat} {Q : Option Value → aHeap → Prop} {h : aHeap} {v : Int32}  (hQ : Q (some (.int (bI (v = 2 ∨ v = 3 ∨ v = 4)))) h) : aCall l G d 0 0 204 [.int v] h Q := by
  refine aCall.of (by decide) (Nat.le_of_ble_eq_true rfl) ?_
  refine aAt.sub [(0, .int v)] rfl ?_
  refine s_iload_n f_204_0 rfl ?_
  refine k_iconst (v := 2) f_204_1 (by decide) ?_
  refine s_icmp_eq 15 f_204_2 (by decide) (fun c_2 => ?_) (fun c_2 => ?_)
  · refine k_iconst (v := 1) f_204_15 (by decide) ?_
    refine s_goto 20 f_204_16 (by decide) ?_
    refine s_ireturn f_204_20 rfl rfl ?_
    first | (rw [bI_t (by clear hQ; simp_all)] at hQ; exact hQ) | (rw [bI_f (by clear hQ; simp_all)] at hQ; exact hQ)
  · refine s_iload_n f_204_5 rfl ?_
    refine k_iconst (v := 3) f_204_6 (by decide) ?_
    refine s_icmp_eq 15 f_204_7 (by decide) (fun c_7 => ?_) (fun c_7 => ?_)
    · refine k_iconst (v := 1) f_204_15 (by decide) ?_
      refine s_goto 20 f_204_16 (by decide) ?_
      refine s_ireturn f_204_20 rfl rfl ?_
      first | (rw [bI_t (by clear hQ; simp_all)] at hQ; exact hQ) | (rw [bI_f (by clear hQ; simp_all)] at hQ; exact hQ)
    · refine s_iload_n f_204_10 rfl ?_
      refine k_iconst (v := 4) f_204_11 (by decide) ?_
      refine s_icmp_ne 19 f_204_12 (by decide) (fun c_12 => ?_) (fun c_12 => ?_)
      · refine k_iconst (v := 0) f_204_19 (by decide) ?_
        refine s_ireturn f_204_20 rfl rfl ?_
        first | (rw [bI_t (by clear hQ; simp_all)] at hQ; exact hQ) | (rw [bI_f (by clear hQ; simp_all)] at hQ; exact hQ)
      · refine k_iconst (v := 1) f_204_15 (by decide) ?_
        refine s_goto 20 f_204_16 (by decide) ?_
        refine s_ireturn f_204_20 rfl rfl ?_
        first | (rw [bI_t (by clear hQ; simp_all)] at hQ; exact hQ) | (rw [bI_f (by clear hQ; simp_all)] at hQ; exact hQ)
theorem c_misUnder {l : Launch} {G : aG} {d : Nat} {Q : Option Value → aHeap → Prop} {h : aHeap} {i k2 : Int32}  (hQ : Q (some (.int (bI (k2 = 0 ∨ i = k2 ∨ (k2 = 1 ∧ (i = 2 ∨ i = 6)) ∨ (k2 = 2 ∧ i = 6) ∨ (k2 = 3 ∧ i = 4))))) h) : aCall l G d 0 0 209 [.int i, .int k2] h Q := by
  refine aCall.of (by decide) (Nat.le_of_ble_eq_true rfl) ?_
  refine aAt.sub [(0, .int i), (1, .int k2)] rfl ?_
  refine s_iload_n f_209_0 rfl ?_
  refine s_if_eq 46 f_209_1 (by decide) (fun c_1 => ?_) (fun c_1 => ?_)
  · refine k_iconst (v := 1) f_209_46 (by decide) ?_
    refine s_goto 51 f_209_47 (by decide) ?_
    refine s_ireturn f_209_51 rfl rfl ?_
    first | (rw [bI_t (by clear hQ; simp_all)] at hQ; exact hQ) | (rw [bI_f (by clear hQ; simp_all)] at hQ; exact hQ)
  · refine s_iload_n f_209_4 rfl ?_
    refine s_iload_n f_209_5 rfl ?_
    refine s_icmp_eq 46 f_209_6 (by decide) (fun c_6 => ?_) (fun c_6 => ?_)
    · refine k_iconst (v := 1) f_209_46 (by decide) ?_
      refine s_goto 51 f_209_47 (by decide) ?_
      refine s_ireturn f_209_51 rfl rfl ?_
      first | (rw [bI_t (by clear hQ; simp_all)] at hQ; exact hQ) | (rw [bI_f (by clear hQ; simp_all)] at hQ; exact hQ)
    · refine s_iload_n f_209_9 rfl ?_
      refine k_iconst (v := 1) f_209_10 (by decide) ?_
      refine s_icmp_ne 25 f_209_11 (by decide) (fun c_11 => ?_) (fun c_11 => ?_)
      · refine s_iload_n f_209_25 rfl ?_
        refine k_iconst (v := 2) f_209_26 (by decide) ?_
        refine s_icmp_ne 36 f_209_27 (by decide) (fun c_27 => ?_) (fun c_27 => ?_)
        · refine s_iload_n f_209_36 rfl ?_
          refine k_iconst (v := 3) f_209_37 (by decide) ?_
          refine s_icmp_ne 50 f_209_38 (by decide) (fun c_38 => ?_) (fun c_38 => ?_)
          · refine k_iconst (v := 0) f_209_50 (by decide) ?_
            refine s_ireturn f_209_51 rfl rfl ?_
            first | (rw [bI_t (by clear hQ; simp_all)] at hQ; exact hQ) | (rw [bI_f (by clear hQ; simp_all)] at hQ; exact hQ)
          · refine s_iload_n f_209_41 rfl ?_
            refine k_iconst (v := 4) f_209_42 (by decide) ?_
            refine s_icmp_ne 50 f_209_43 (by decide) (fun c_43 => ?_) (fun c_43 => ?_)
            · refine k_iconst (v := 0) f_209_50 (by decide) ?_
              refine s_ireturn f_209_51 rfl rfl ?_
              first | (rw [bI_t (by clear hQ; simp_all)] at hQ; exact hQ) | (rw [bI_f (by clear hQ; simp_all)] at hQ; exact hQ)
            · refine k_iconst (v := 1) f_209_46 (by decide) ?_
              refine s_goto 51 f_209_47 (by decide) ?_
              refine s_ireturn f_209_51 rfl rfl ?_
              first | (rw [bI_t (by clear hQ; simp_all)] at hQ; exact hQ) | (rw [bI_f (by clear hQ; simp_all)] at hQ; exact hQ)
        · refine s_iload_n f_209_30 rfl ?_
          refine k_bipush (v := 6) f_209_31 (by decide) ?_
          refine s_icmp_eq 46 f_209_33 (by decide) (fun c_33 => ?_) (fun c_33 => ?_)
          · refine k_iconst (v := 1) f_209_46 (by decide) ?_
            refine s_goto 51 f_209_47 (by decide) ?_
            refine s_ireturn f_209_51 rfl rfl ?_
            first | (rw [bI_t (by clear hQ; simp_all)] at hQ; exact hQ) | (rw [bI_f (by clear hQ; simp_all)] at hQ; exact hQ)
          · refine s_iload_n f_209_36 rfl ?_
            refine k_iconst (v := 3) f_209_37 (by decide) ?_
            refine s_icmp_ne 50 f_209_38 (by decide) (fun c_38 => ?_) (fun c_38 => ?_)
            · refine k_iconst (v := 0) f_209_50 (by decide) ?_
              refine s_ireturn f_209_51 rfl rfl ?_
              first | (rw [bI_t (by clear hQ; simp_all)] at hQ; exact hQ) | (rw [bI_f (by clear hQ; simp_all)] at hQ; exact hQ)
            · refine s_iload_n f_209_41 rfl ?_
              refine k_iconst (v := 4) f_209_42 (by decide) ?_
              refine s_icmp_ne 50 f_209_43 (by decide) (fun c_43 => ?_) (fun c_43 => ?_)
              · refine k_iconst (v := 0) f_209_50 (by decide) ?_
                refine s_ireturn f_209_51 rfl rfl ?_
                first | (rw [bI_t (by clear hQ; simp_all)] at hQ; exact hQ) | (rw [bI_f (by clear hQ; simp_all)] at hQ; exact hQ)
              · refine k_iconst (v := 1) f_209_46 (by decide) ?_
                refine s_goto 51 f_209_47 (by decide) ?_
                refine s_ireturn f_209_51 rfl rfl ?_
                first | (rw [bI_t (by clear hQ; simp_all)] at hQ; exact hQ) | (rw [bI_f (by clear hQ; simp_all)] at hQ; exact hQ)
      · refine s_iload_n f_209_14 rfl ?_
        refine k_iconst (v := 2) f_209_15 (by decide) ?_
        refine s_icmp_eq 46 f_209_16 (by decide) (fun c_16 => ?_) (fun c_16 => ?_)
        · refine k_iconst (v := 1) f_209_46 (by decide) ?_
          refine s_goto 51 f_209_47 (by decide) ?_
          refine s_ireturn f_209_51 rfl rfl ?_
          first | (rw [bI_t (by clear hQ; simp_all)] at hQ; exact hQ) | (rw [bI_f (by clear hQ; simp_all)] at hQ; exact hQ)
        · refine s_iload_n f_209_19 rfl ?_
          refine k_bipush (v := 6) f_209_20 (by decide) ?_
          refine s_icmp_eq 46 f_209_22 (by decide) (fun c_22 => ?_) (fun c_22 => ?_)
          · refine k_iconst (v := 1) f_209_46 (by decide) ?_
            refine s_goto 51 f_209_47 (by decide) ?_
            refine s_ireturn f_209_51 rfl rfl ?_
            first | (rw [bI_t (by clear hQ; simp_all)] at hQ; exact hQ) | (rw [bI_f (by clear hQ; simp_all)] at hQ; exact hQ)
          · refine s_iload_n f_209_25 rfl ?_
            refine k_iconst (v := 2) f_209_26 (by decide) ?_
            refine s_icmp_ne 36 f_209_27 (by decide) (fun c_27 => ?_) (fun c_27 => ?_)
            · refine s_iload_n f_209_36 rfl ?_
              refine k_iconst (v := 3) f_209_37 (by decide) ?_
              refine s_icmp_ne 50 f_209_38 (by decide) (fun c_38 => ?_) (fun c_38 => ?_)
              · refine k_iconst (v := 0) f_209_50 (by decide) ?_
                refine s_ireturn f_209_51 rfl rfl ?_
                first | (rw [bI_t (by clear hQ; simp_all)] at hQ; exact hQ) | (rw [bI_f (by clear hQ; simp_all)] at hQ; exact hQ)
              · refine s_iload_n f_209_41 rfl ?_
                refine k_iconst (v := 4) f_209_42 (by decide) ?_
                refine s_icmp_ne 50 f_209_43 (by decide) (fun c_43 => ?_) (fun c_43 => ?_)
                · refine k_iconst (v := 0) f_209_50 (by decide) ?_
                  refine s_ireturn f_209_51 rfl rfl ?_
                  first | (rw [bI_t (by clear hQ; simp_all)] at hQ; exact hQ) | (rw [bI_f (by clear hQ; simp_all)] at hQ; exact hQ)
                · refine k_iconst (v := 1) f_209_46 (by decide) ?_
                  refine s_goto 51 f_209_47 (by decide) ?_
                  refine s_ireturn f_209_51 rfl rfl ?_
                  first | (rw [bI_t (by clear hQ; simp_all)] at hQ; exact hQ) | (rw [bI_f (by clear hQ; simp_all)] at hQ; exact hQ)
            · refine s_iload_n f_209_30 rfl ?_
              refine k_bipush (v := 6) f_209_31 (by decide) ?_
              refine s_icmp_eq 46 f_209_33 (by decide) (fun c_33 => ?_) (fun c_33 => ?_)
              · refine k_iconst (v := 1) f_209_46 (by decide) ?_
                refine s_goto 51 f_209_47 (by decide) ?_
                refine s_ireturn f_209_51 rfl rfl ?_
                first | (rw [bI_t (by clear hQ; simp_all)] at hQ; exact hQ) | (rw [bI_f (by clear hQ; simp_all)] at hQ; exact hQ)
              · refine s_iload_n f_209_36 rfl ?_
                refine k_iconst (v := 3) f_209_37 (by decide) ?_
                refine s_icmp_ne 50 f_209_38 (by decide) (fun c_38 => ?_) (fun c_38 => ?_)
                · refine k_iconst (v := 0) f_209_50 (by decide) ?_
                  refine s_ireturn f_209_51 rfl rfl ?_
                  first | (rw [bI_t (by clear hQ; simp_all)] at hQ; exact hQ) | (rw [bI_f (by clear hQ; simp_all)] at hQ; exact hQ)
                · refine s_iload_n f_209_41 rfl ?_
                  refine k_iconst (v := 4) f_209_42 (by decide) ?_
                  refine s_icmp_ne 50 f_209_43 (by decide) (fun c_43 => ?_) (fun c_43 => ?_)
                  · refine k_iconst (v := 0) f_209_50 (by decide) ?_
                    refine s_ireturn f_209_51 rfl rfl ?_
                    first | (rw [bI_t (by clear hQ; simp_all)] at hQ; exact hQ) | (rw [bI_f (by clear hQ; simp_all)] at hQ; exact hQ)
                  · refine k_iconst (v := 1) f_209_46 (by decide) ?_
                    refine s_goto 51 f_209_47 (by decide) ?_
                    refine s_ireturn f_209_51 rfl rfl ?_
                    first | (rw [bI_t (by clear hQ; simp_all)] at hQ; exact hQ) | (rw [bI_f (by clear hQ; simp_all)] at hQ; exact hQ)
theorem c_isChild {l : Launch} {G : aG} {d : Nat} {Q : Option Value → aHeap → Prop} {o : Nat → aCell} {k : Nat} {S : Nat → Nat → Int32} {K : Nat → Int64} {T : Nat → Nat → Value} {tl : Nat → Nat} {p : Nat} {v : Int32} (hp : p ≤ 13)  (hQ : Q (some (.int (bI (S 155 (10 + 10 * p + 1) = v ∨ S 155 (10 + 10 * p + 2) = v)))) (lay o k S K T tl)) : aCall l G (d + 1) 0 0 200 [.ref 154, .int (nI p), .int v] (lay o k S K T tl) Q := by
  refine aCall.of (by decide) (Nat.le_of_ble_eq_true rfl) ?_
  refine aAt.sub [(0, .ref 154), (1, .int (nI p)), (2, .int v)] rfl ?_
  refine s_aload_n f_200_0 rfl ?_
  refine s_iload_n f_200_1 rfl ?_
  refine k_iconst (v := 1) f_200_2 (by decide) ?_
  refine L_virt (As := [.int (nI p), .int (1 : Int32)]) f_200_3 ca_12_73 rfl rfl (obL (by decide)) (by decide) (Nat.le_of_ble_eq_true rfl) ?_
  refine c_own (p := p) (w := 1) hp (by decide) ?_
  refine s_iload_n f_200_6 rfl ?_
  refine s_icmp_eq 20 f_200_7 (by decide) (fun c_7 => ?_) (fun c_7 => ?_)
  · refine k_iconst (v := 1) f_200_20 (by decide) ?_
    refine s_goto 25 f_200_21 (by decide) ?_
    refine s_ireturn f_200_25 rfl rfl ?_
    first | (rw [bI_t (by clear hQ; simp_all)] at hQ; exact hQ) | (rw [bI_f (by clear hQ; simp_all)] at hQ; exact hQ)
  · refine s_aload_n f_200_10 rfl ?_
    refine s_iload_n f_200_11 rfl ?_
    refine k_iconst (v := 2) f_200_12 (by decide) ?_
    refine L_virt (As := [.int (nI p), .int (2 : Int32)]) f_200_13 ca_12_73 rfl rfl (obL (by decide)) (by decide) (Nat.le_of_ble_eq_true rfl) ?_
    refine c_own (p := p) (w := 2) hp (by decide) ?_
    refine s_iload_n f_200_16 rfl ?_
    refine s_icmp_ne 24 f_200_17 (by decide) (fun c_17 => ?_) (fun c_17 => ?_)
    · refine k_iconst (v := 0) f_200_24 (by decide) ?_
      refine s_ireturn f_200_25 rfl rfl ?_
      first | (rw [bI_t (by clear hQ; simp_all)] at hQ; exact hQ) | (rw [bI_f (by clear hQ; simp_all)] at hQ; exact hQ)
    · refine k_iconst (v := 1) f_200_20 (by decide) ?_
      refine s_goto 25 f_200_21 (by decide) ?_
      refine s_ireturn f_200_25 rfl rfl ?_
      first | (rw [bI_t (by clear hQ; simp_all)] at hQ; exact hQ) | (rw [bI_f (by clear hQ; simp_all)] at hQ; exact hQ)
theorem c_leftOf {l : Launch} {G : aG} {d : Nat} {Q : Option Value → aHeap → Prop} {o : Nat → aCell} {k : Nat} {S : Nat → Nat → Int32} {K : Nat → Int64} {T : Nat → Nat → Value} {tl : Nat → Nat} {b : Nat} {v : Int32} (hb : b ≤ 1)  (hQ : Q (some (.int ((50 : Int32) - ((v + S 155 (7 + b)) - (v + S 155 (7 + b)) / 50 * 50)))) (lay o k S K T tl)) : aCall l G d 0 0 221 [.ref 154, .int (nI b), .int v] (lay o k S K T tl) Q := by
  refine aCall.of (by decide) (Nat.le_of_ble_eq_true rfl) ?_
  refine aAt.sub [(0, .ref 154), (1, .int (nI b)), (2, .int v)] rfl ?_
  refine k_bipush (v := 50) f_221_0 (by decide) ?_
  refine s_iload_n f_221_2 rfl ?_
  refine s_aload_n f_221_3 rfl ?_
  refine L_getR f_221_4 fd_12_7 (obL (by decide)) (by decide) (by decide : rf 154 0 = 155) ?_
  refine k_bipush (v := 7) f_221_7 (by decide) ?_
  refine s_iload_n f_221_9 rfl ?_
  refine s_iadd f_221_10 ?_
  refine L_iaload (q := (7 + b)) f_221_11 (obL (by decide)) (by rw [show (7 : Int32) = nI 7 from rfl, nI_add]) (by show _ < 10759; omega) (Nat.le_of_ble_eq_true rfl) rfl ?_
  refine s_iadd f_221_12 ?_
  refine k_bipush (v := 50) f_221_13 (by decide) ?_
  refine s_irem f_221_15 (by decide) ?_
  refine s_isub f_221_16 ?_
  refine s_ireturn f_221_17 rfl rfl ?_
  exact hQ
theorem c_misLetter {l : Launch} {G : aG} {d : Nat} {Q : Option Value → aHeap → Prop} {h : aHeap} {v : Int32}  (hQ : Q (some (.int (bI ((97 : Int32) ≤ v ∧ v ≤ (122 : Int32))))) h) : aCall l G d 0 0 227 [.int v] h Q := by
  refine aCall.of (by decide) (Nat.le_of_ble_eq_true rfl) ?_
  refine aAt.sub [(0, .int v)] rfl ?_
  refine s_iload_n f_227_0 rfl ?_
  refine k_bipush (v := 97) f_227_1 (by decide) ?_
  refine s_icmp_lt 16 f_227_3 (by decide) (fun c_3 => ?_) (fun c_3 => ?_)
  · refine k_iconst (v := 0) f_227_16 (by decide) ?_
    refine s_ireturn f_227_17 rfl rfl ?_
    rw [bI_f (fun z => absurd z.1 (Int32.not_le.mpr c_3))] at hQ
    exact hQ
  · refine s_iload_n f_227_6 rfl ?_
    refine k_bipush (v := 122) f_227_7 (by decide) ?_
    refine s_icmp_gt 16 f_227_9 (by decide) (fun c_9 => ?_) (fun c_9 => ?_)
    · refine k_iconst (v := 0) f_227_16 (by decide) ?_
      refine s_ireturn f_227_17 rfl rfl ?_
      rw [bI_f (fun z => absurd z.2 (Int32.not_le.mpr c_9))] at hQ
      exact hQ
    · refine k_iconst (v := 1) f_227_12 (by decide) ?_
      refine s_goto 17 f_227_13 (by decide) ?_
      refine s_ireturn f_227_17 rfl rfl ?_
      rw [bI_t ⟨Int32.not_lt.mp c_3, Int32.not_lt.mp c_9⟩] at hQ
      exact hQ
theorem c_misDigit {l : Launch} {G : aG} {d : Nat} {Q : Option Value → aHeap → Prop} {h : aHeap} {v : Int32}  (hQ : Q (some (.int (bI ((48 : Int32) ≤ v ∧ v ≤ (57 : Int32))))) h) : aCall l G d 0 0 229 [.int v] h Q := by
  refine aCall.of (by decide) (Nat.le_of_ble_eq_true rfl) ?_
  refine aAt.sub [(0, .int v)] rfl ?_
  refine s_iload_n f_229_0 rfl ?_
  refine k_bipush (v := 48) f_229_1 (by decide) ?_
  refine s_icmp_lt 16 f_229_3 (by decide) (fun c_3 => ?_) (fun c_3 => ?_)
  · refine k_iconst (v := 0) f_229_16 (by decide) ?_
    refine s_ireturn f_229_17 rfl rfl ?_
    rw [bI_f (fun z => absurd z.1 (Int32.not_le.mpr c_3))] at hQ
    exact hQ
  · refine s_iload_n f_229_6 rfl ?_
    refine k_bipush (v := 57) f_229_7 (by decide) ?_
    refine s_icmp_gt 16 f_229_9 (by decide) (fun c_9 => ?_) (fun c_9 => ?_)
    · refine k_iconst (v := 0) f_229_16 (by decide) ?_
      refine s_ireturn f_229_17 rfl rfl ?_
      rw [bI_f (fun z => absurd z.2 (Int32.not_le.mpr c_9))] at hQ
      exact hQ
    · refine k_iconst (v := 1) f_229_12 (by decide) ?_
      refine s_goto 17 f_229_13 (by decide) ?_
      refine s_ireturn f_229_17 rfl rfl ?_
      rw [bI_t ⟨Int32.not_lt.mp c_3, Int32.not_lt.mp c_9⟩] at hQ
      exact hQ
theorem c_isSign {l : Launch} {G : aG} {d : Nat} {Q : Option Value → aHeap → Prop} {h : aHeap} {v : Int32}  (hQ : Q (some (.int (bI (v = 40 ∨ v = 41 ∨ v = 59 ∨ v = 43 ∨ v = 45 ∨ v = 60 ∨ v = 61)))) h) : aCall l G d 0 0 230 [.int v] h Q := by
  refine aCall.of (by decide) (Nat.le_of_ble_eq_true rfl) ?_
  refine aAt.sub [(0, .int v)] rfl ?_
  refine s_iload_n f_230_0 rfl ?_
  refine k_bipush (v := 40) f_230_1 (by decide) ?_
  refine s_icmp_eq 42 f_230_3 (by decide) (fun c_3 => ?_) (fun c_3 => ?_)
  · refine k_iconst (v := 1) f_230_42 (by decide) ?_
    refine s_goto 47 f_230_43 (by decide) ?_
    refine s_ireturn f_230_47 rfl rfl ?_
    first | (rw [bI_t (by clear hQ; simp_all)] at hQ; exact hQ) | (rw [bI_f (by clear hQ; simp_all)] at hQ; exact hQ)
  · refine s_iload_n f_230_6 rfl ?_
    refine k_bipush (v := 41) f_230_7 (by decide) ?_
    refine s_icmp_eq 42 f_230_9 (by decide) (fun c_9 => ?_) (fun c_9 => ?_)
    · refine k_iconst (v := 1) f_230_42 (by decide) ?_
      refine s_goto 47 f_230_43 (by decide) ?_
      refine s_ireturn f_230_47 rfl rfl ?_
      first | (rw [bI_t (by clear hQ; simp_all)] at hQ; exact hQ) | (rw [bI_f (by clear hQ; simp_all)] at hQ; exact hQ)
    · refine s_iload_n f_230_12 rfl ?_
      refine k_bipush (v := 59) f_230_13 (by decide) ?_
      refine s_icmp_eq 42 f_230_15 (by decide) (fun c_15 => ?_) (fun c_15 => ?_)
      · refine k_iconst (v := 1) f_230_42 (by decide) ?_
        refine s_goto 47 f_230_43 (by decide) ?_
        refine s_ireturn f_230_47 rfl rfl ?_
        first | (rw [bI_t (by clear hQ; simp_all)] at hQ; exact hQ) | (rw [bI_f (by clear hQ; simp_all)] at hQ; exact hQ)
      · refine s_iload_n f_230_18 rfl ?_
        refine k_bipush (v := 43) f_230_19 (by decide) ?_
        refine s_icmp_eq 42 f_230_21 (by decide) (fun c_21 => ?_) (fun c_21 => ?_)
        · refine k_iconst (v := 1) f_230_42 (by decide) ?_
          refine s_goto 47 f_230_43 (by decide) ?_
          refine s_ireturn f_230_47 rfl rfl ?_
          first | (rw [bI_t (by clear hQ; simp_all)] at hQ; exact hQ) | (rw [bI_f (by clear hQ; simp_all)] at hQ; exact hQ)
        · refine s_iload_n f_230_24 rfl ?_
          refine k_bipush (v := 45) f_230_25 (by decide) ?_
          refine s_icmp_eq 42 f_230_27 (by decide) (fun c_27 => ?_) (fun c_27 => ?_)
          · refine k_iconst (v := 1) f_230_42 (by decide) ?_
            refine s_goto 47 f_230_43 (by decide) ?_
            refine s_ireturn f_230_47 rfl rfl ?_
            first | (rw [bI_t (by clear hQ; simp_all)] at hQ; exact hQ) | (rw [bI_f (by clear hQ; simp_all)] at hQ; exact hQ)
          · refine s_iload_n f_230_30 rfl ?_
            refine k_bipush (v := 60) f_230_31 (by decide) ?_
            refine s_icmp_eq 42 f_230_33 (by decide) (fun c_33 => ?_) (fun c_33 => ?_)
            · refine k_iconst (v := 1) f_230_42 (by decide) ?_
              refine s_goto 47 f_230_43 (by decide) ?_
              refine s_ireturn f_230_47 rfl rfl ?_
              first | (rw [bI_t (by clear hQ; simp_all)] at hQ; exact hQ) | (rw [bI_f (by clear hQ; simp_all)] at hQ; exact hQ)
            · refine s_iload_n f_230_36 rfl ?_
              refine k_bipush (v := 61) f_230_37 (by decide) ?_
              refine s_icmp_ne 46 f_230_39 (by decide) (fun c_39 => ?_) (fun c_39 => ?_)
              · refine k_iconst (v := 0) f_230_46 (by decide) ?_
                refine s_ireturn f_230_47 rfl rfl ?_
                first | (rw [bI_t (by clear hQ; simp_all)] at hQ; exact hQ) | (rw [bI_f (by clear hQ; simp_all)] at hQ; exact hQ)
              · refine k_iconst (v := 1) f_230_42 (by decide) ?_
                refine s_goto 47 f_230_43 (by decide) ?_
                refine s_ireturn f_230_47 rfl rfl ?_
                first | (rw [bI_t (by clear hQ; simp_all)] at hQ; exact hQ) | (rw [bI_f (by clear hQ; simp_all)] at hQ; exact hQ)
theorem c_bit {l : Launch} {G : aG} {d : Nat} {Q : Option Value → aHeap → Prop} {h : aHeap} {v : Int32}  (hQ : Q (some (.int (bI (v ≠ 0)))) h) : aCall l G d 0 0 27 [.int v] h Q := by
  refine aCall.of (by decide) (Nat.le_of_ble_eq_true rfl) ?_
  refine aAt.sub [(0, .int v)] rfl ?_
  refine s_iload_n f_27_0 rfl ?_
  refine s_if_eq 8 f_27_1 (by decide) (fun c_1 => ?_) (fun c_1 => ?_)
  · refine k_iconst (v := 0) f_27_8 (by decide) ?_
    refine s_ireturn f_27_9 rfl rfl ?_
    first | (rw [bI_t (by clear hQ; simp_all)] at hQ; exact hQ) | (rw [bI_f (by clear hQ; simp_all)] at hQ; exact hQ)
  · refine k_iconst (v := 1) f_27_4 (by decide) ?_
    refine s_goto 9 f_27_5 (by decide) ?_
    refine s_ireturn f_27_9 rfl rfl ?_
    first | (rw [bI_t (by clear hQ; simp_all)] at hQ; exact hQ) | (rw [bI_f (by clear hQ; simp_all)] at hQ; exact hQ)
theorem c_isDead {l : Launch} {G : aG} {d : Nat} {Q : Option Value → aHeap → Prop} {o : Nat → aCell} {k : Nat} {S : Nat → Nat → Int32} {K : Nat → Int64} {T : Nat → Nat → Value} {tl : Nat → Nat} {i : Nat} (hi : i < 14)  (hQ : Q (some (.int (bI (0 ≤ S (17 + i) 4)))) (lay o k S K T tl)) : aCall l G d 0 0 20 [.ref (17 + i)] (lay o k S K T tl) Q := by
  refine aCall.of (by decide) (Nat.le_of_ble_eq_true rfl) ?_
  refine aAt.sub [(0, .ref (17 + i))] rfl ?_
  refine s_aload_n f_20_0 rfl ?_
  refine L_getI f_20_1 fd_6_22 (obP hi) (scP hi) ?_
  refine s_if_lt 11 f_20_4 (by decide) (fun c_4 => ?_) (fun c_4 => ?_)
  · refine k_iconst (v := 0) f_20_11 (by decide) ?_
    refine s_ireturn f_20_12 rfl rfl ?_
    first | (rw [bI_t (by clear hQ; simp_all)] at hQ; exact hQ) | (rw [bI_f (by clear hQ; simp_all)] at hQ; exact hQ)
  · refine k_iconst (v := 1) f_20_7 (by decide) ?_
    refine s_goto 12 f_20_8 (by decide) ?_
    refine s_ireturn f_20_12 rfl rfl ?_
    first | (rw [bI_t (by clear hQ; simp_all)] at hQ; exact hQ) | (rw [bI_f (by clear hQ; simp_all)] at hQ; exact hQ)
theorem c_isFree {l : Launch} {G : aG} {d : Nat} {Q : Option Value → aHeap → Prop} {o : Nat → aCell} {k : Nat} {S : Nat → Nat → Int32} {K : Nat → Int64} {T : Nat → Nat → Value} {tl : Nat → Nat} {i : Nat} (hi : i < 14)  (hQ : Q (some (.int (bI (S (17 + i) 6 < 0)))) (lay o k S K T tl)) : aCall l G d 0 0 40 [.ref (17 + i)] (lay o k S K T tl) Q := by
  refine aCall.of (by decide) (Nat.le_of_ble_eq_true rfl) ?_
  refine aAt.sub [(0, .ref (17 + i))] rfl ?_
  refine s_aload_n f_40_0 rfl ?_
  refine L_getI f_40_1 fd_6_28 (obP hi) (scP hi) ?_
  refine s_if_ge 11 f_40_4 (by decide) (fun c_4 => ?_) (fun c_4 => ?_)
  · refine k_iconst (v := 0) f_40_11 (by decide) ?_
    refine s_ireturn f_40_12 rfl rfl ?_
    first | (rw [bI_t (by clear hQ; simp_all)] at hQ; exact hQ) | (rw [bI_f (by clear hQ; simp_all)] at hQ; exact hQ)
  · refine k_iconst (v := 1) f_40_7 (by decide) ?_
    refine s_goto 12 f_40_8 (by decide) ?_
    refine s_ireturn f_40_12 rfl rfl ?_
    first | (rw [bI_t (by clear hQ; simp_all)] at hQ; exact hQ) | (rw [bI_f (by clear hQ; simp_all)] at hQ; exact hQ)
theorem c_isChildOf {l : Launch} {G : aG} {d : Nat} {Q : Option Value → aHeap → Prop} {o : Nat → aCell} {k : Nat} {S : Nat → Nat → Int32} {K : Nat → Int64} {T : Nat → Nat → Value} {tl : Nat → Nat} {i : Nat} {v : Int32} (hi : i < 14)  (hQ : Q (some (.int (bI (S (17 + i) 1 = v ∨ S (17 + i) 2 = v)))) (lay o k S K T tl)) : aCall l G d 0 0 35 [.ref (17 + i), .int v] (lay o k S K T tl) Q := by
  refine aCall.of (by decide) (Nat.le_of_ble_eq_true rfl) ?_
  refine aAt.sub [(0, .ref (17 + i)), (1, .int v)] rfl ?_
  refine s_aload_n f_35_0 rfl ?_
  refine L_getI f_35_1 fd_6_13 (obP hi) (scP hi) ?_
  refine s_iload_n f_35_4 rfl ?_
  refine s_icmp_eq 16 f_35_5 (by decide) (fun c_5 => ?_) (fun c_5 => ?_)
  · refine k_iconst (v := 1) f_35_16 (by decide) ?_
    refine s_goto 21 f_35_17 (by decide) ?_
    refine s_ireturn f_35_21 rfl rfl ?_
    first | (rw [bI_t (by clear hQ; simp_all)] at hQ; exact hQ) | (rw [bI_f (by clear hQ; simp_all)] at hQ; exact hQ)
  · refine s_aload_n f_35_8 rfl ?_
    refine L_getI f_35_9 fd_6_16 (obP hi) (scP hi) ?_
    refine s_iload_n f_35_12 rfl ?_
    refine s_icmp_ne 20 f_35_13 (by decide) (fun c_13 => ?_) (fun c_13 => ?_)
    · refine k_iconst (v := 0) f_35_20 (by decide) ?_
      refine s_ireturn f_35_21 rfl rfl ?_
      first | (rw [bI_t (by clear hQ; simp_all)] at hQ; exact hQ) | (rw [bI_f (by clear hQ; simp_all)] at hQ; exact hQ)
    · refine k_iconst (v := 1) f_35_16 (by decide) ?_
      refine s_goto 21 f_35_17 (by decide) ?_
      refine s_ireturn f_35_21 rfl rfl ?_
      first | (rw [bI_t (by clear hQ; simp_all)] at hQ; exact hQ) | (rw [bI_f (by clear hQ; simp_all)] at hQ; exact hQ)
theorem c_owed {l : Launch} {G : aG} {d : Nat} {Q : Option Value → aHeap → Prop} {o : Nat → aCell} {k : Nat} {S : Nat → Nat → Int32} {K : Nat → Int64} {T : Nat → Nat → Value} {tl : Nat → Nat} {i : Nat} (hi : i < 20)  (hQ : Q (some (.int (S (39 + i) 3 - S (39 + i) 4))) (lay o k S K T tl)) : aCall l G d 0 0 24 [.ref (39 + i)] (lay o k S K T tl) Q := by
  refine aCall.of (by decide) (Nat.le_of_ble_eq_true rfl) ?_
  refine aAt.sub [(0, .ref (39 + i))] rfl ?_
  refine s_aload_n f_24_0 rfl ?_
  refine L_getI f_24_1 fd_5_21 (obA hi) (scA_ hi) ?_
  refine s_aload_n f_24_4 rfl ?_
  refine L_getI f_24_5 fd_5_24 (obA hi) (scA_ hi) ?_
  refine s_isub f_24_8 ?_
  refine s_ireturn f_24_9 rfl rfl ?_
  exact hQ
theorem c_openOwed {l : Launch} {G : aG} {d : Nat} {Q : Option Value → aHeap → Prop} {o : Nat → aCell} {k : Nat} {S : Nat → Nat → Int32} {K : Nat → Int64} {T : Nat → Nat → Value} {tl : Nat → Nat} {i : Nat} (hi : i < 20)  (hQ : Q (some (.int (if S (39 + i) 9 = 0 then S (39 + i) 3 - S (39 + i) 4 else 0))) (lay o k S K T tl)) : aCall l G (d + 1) 0 0 23 [.ref (39 + i)] (lay o k S K T tl) Q := by
  refine aCall.of (by decide) (Nat.le_of_ble_eq_true rfl) ?_
  refine aAt.sub [(0, .ref (39 + i))] rfl ?_
  refine s_aload_n f_23_0 rfl ?_
  refine L_getI f_23_1 fd_5_39 (obA hi) (scA_ hi) ?_
  refine s_if_ne 14 f_23_4 (by decide) (fun c_4 => ?_) (fun c_4 => ?_)
  · refine k_iconst (v := 0) f_23_14 (by decide) ?_
    refine s_ireturn f_23_15 rfl rfl ?_
    first | (rw [if_pos (by assumption)] at hQ; exact hQ) | (rw [if_neg (by assumption)] at hQ; exact hQ)
  · refine s_aload_n f_23_7 rfl ?_
    refine L_virt (As := []) f_23_8 ca_5_46 rfl rfl (obA hi) (by decide) (Nat.le_of_ble_eq_true rfl) ?_
    refine c_owed hi ?_
    refine s_goto 15 f_23_11 (by decide) ?_
    refine s_ireturn f_23_15 rfl rfl ?_
    first | (rw [if_pos (by assumption)] at hQ; exact hQ) | (rw [if_neg (by assumption)] at hQ; exact hQ)
theorem c_countBy {l : Launch} {G : aG} {d : Nat} {Q : Option Value → aHeap → Prop} {o : Nat → aCell} {k : Nat} {S : Nat → Nat → Int32} {K : Nat → Int64} {T : Nat → Nat → Value} {tl : Nat → Nat} {b : Nat} {v : Int32} (hb : b < 2)  (hQ : Q (some (.int ((v + S 15 b) - (v + S 15 b) / 50 * 50))) (lay o k S K T tl)) : aCall l G d 0 0 60 [.ref 9, .int (nI b), .int v] (lay o k S K T tl) Q := by
  refine aCall.of (by decide) (Nat.le_of_ble_eq_true rfl) ?_
  refine aAt.sub [(0, .ref 9), (1, .int (nI b)), (2, .int v)] rfl ?_
  refine s_iload_n f_60_0 rfl ?_
  refine s_aload_n f_60_1 rfl ?_
  refine L_getR f_60_2 fd_3_41 (obL (by decide)) (by decide) (by decide : rf 9 5 = 15) ?_
  refine s_iload_n f_60_5 rfl ?_
  refine L_iaload (q := b) f_60_6 (obL (by decide)) rfl hb (Nat.le_of_ble_eq_true rfl) (by rfl) ?_
  refine s_iadd f_60_7 ?_
  refine k_bipush (v := 50) f_60_8 (by decide) ?_
  refine s_irem f_60_10 (by decide) ?_
  refine s_ireturn f_60_11 rfl rfl ?_
  exact hQ
theorem c_leftBy {l : Launch} {G : aG} {d : Nat} {Q : Option Value → aHeap → Prop} {o : Nat → aCell} {k : Nat} {S : Nat → Nat → Int32} {K : Nat → Int64} {T : Nat → Nat → Value} {tl : Nat → Nat} {b : Nat} {v : Int32} (hb : b < 2)  (hQ : Q (some (.int ((50 : Int32) - ((v + S 15 b) - (v + S 15 b) / 50 * 50)))) (lay o k S K T tl)) : aCall l G (d + 1) 0 0 59 [.ref 9, .int (nI b), .int v] (lay o k S K T tl) Q := by
  refine aCall.of (by decide) (Nat.le_of_ble_eq_true rfl) ?_
  refine aAt.sub [(0, .ref 9), (1, .int (nI b)), (2, .int v)] rfl ?_
  refine k_bipush (v := 50) f_59_0 (by decide) ?_
  refine s_aload_n f_59_2 rfl ?_
  refine s_iload_n f_59_3 rfl ?_
  refine s_iload_n f_59_4 rfl ?_
  refine L_virt (As := [.int (nI b), .int v]) f_59_5 ca_3_185 rfl rfl (obL (by decide)) (by decide) (Nat.le_of_ble_eq_true rfl) ?_
  refine c_countBy (b := b) hb ?_
  refine s_isub f_59_8 ?_
  refine s_ireturn f_59_9 rfl rfl ?_
  exact hQ
