theorem dX12_isPairBroken_150 : decode cX12_isPairBroken 150 = .ok (.istore_n 3, 1) := by decide +kernel
theorem dX12_isPairBroken_151 : decode cX12_isPairBroken 151 = .ok (.goto 71, 3) := by decide +kernel
theorem dX12_isPairBroken_154 : decode cX12_isPairBroken 154 = .ok (.iload 8, 2) := by decide +kernel
theorem dX12_isPairBroken_156 : decode cX12_isPairBroken 156 = .ok (.iconst 4, 1) := by decide +kernel
theorem dX12_isPairBroken_157 : decode cX12_isPairBroken 157 = .ok (.if_icmp .ne 29, 3) := by decide +kernel
theorem dX12_isPairBroken_160 : decode cX12_isPairBroken 160 = .ok (.iload_n 3, 1) := by decide +kernel
theorem dX12_isPairBroken_161 : decode cX12_isPairBroken 161 = .ok (.ifCond .ne 16, 3) := by decide +kernel
theorem dX12_isPairBroken_164 : decode cX12_isPairBroken 164 = .ok (.iload 7, 2) := by decide +kernel
theorem dX12_isPairBroken_166 : decode cX12_isPairBroken 166 = .ok (.iload 6, 2) := by decide +kernel
theorem dX12_isPairBroken_168 : decode cX12_isPairBroken 168 = .ok (.isub, 1) := by decide +kernel
theorem dX12_isPairBroken_169 : decode cX12_isPairBroken 169 = .ok (.iload 5, 2) := by decide +kernel
theorem dX12_isPairBroken_171 : decode cX12_isPairBroken 171 = .ok (.iload 4, 2) := by decide +kernel
theorem dX12_isPairBroken_173 : decode cX12_isPairBroken 173 = .ok (.isub, 1) := by decide +kernel
theorem dX12_isPairBroken_174 : decode cX12_isPairBroken 174 = .ok (.if_icmp .ge 7, 3) := by decide +kernel
theorem dX12_isPairBroken_177 : decode cX12_isPairBroken 177 = .ok (.iconst 1, 1) := by decide +kernel
theorem dX12_isPairBroken_178 : decode cX12_isPairBroken 178 = .ok (.goto 4, 3) := by decide +kernel
theorem dX12_isPairBroken_181 : decode cX12_isPairBroken 181 = .ok (.iconst 0, 1) := by decide +kernel
theorem dX12_isPairBroken_182 : decode cX12_isPairBroken 182 = .ok (.istore_n 3, 1) := by decide +kernel
theorem dX12_isPairBroken_183 : decode cX12_isPairBroken 183 = .ok (.goto 39, 3) := by decide +kernel
theorem dX12_isPairBroken_186 : decode cX12_isPairBroken 186 = .ok (.iload_n 3, 1) := by decide +kernel
theorem dX12_isPairBroken_187 : decode cX12_isPairBroken 187 = .ok (.ifCond .ne 29, 3) := by decide +kernel
theorem dX12_isPairBroken_190 : decode cX12_isPairBroken 190 = .ok (.iload 5, 2) := by decide +kernel
theorem dX12_isPairBroken_192 : decode cX12_isPairBroken 192 = .ok (.iload 4, 2) := by decide +kernel
theorem dX12_isPairBroken_194 : decode cX12_isPairBroken 194 = .ok (.iconst 1, 1) := by decide +kernel
theorem dX12_isPairBroken_195 : decode cX12_isPairBroken 195 = .ok (.iadd, 1) := by decide +kernel
theorem dX12_isPairBroken_196 : decode cX12_isPairBroken 196 = .ok (.if_icmp .ne 24, 3) := by decide +kernel
theorem dX12_isPairBroken_199 : decode cX12_isPairBroken 199 = .ok (.iload 6, 2) := by decide +kernel
theorem dX12_isPairBroken_201 : decode cX12_isPairBroken 201 = .ok (.iload 7, 2) := by decide +kernel
theorem dX12_isPairBroken_203 : decode cX12_isPairBroken 203 = .ok (.isub, 1) := by decide +kernel
theorem dX12_isPairBroken_204 : decode cX12_isPairBroken 204 = .ok (.invokestatic 231, 3) := by decide +kernel
theorem dX12_isPairBroken_207 : decode cX12_isPairBroken 207 = .ok (.aload_n 0, 1) := by decide +kernel
theorem dX12_isPairBroken_208 : decode cX12_isPairBroken 208 = .ok (.getfield 32, 3) := by decide +kernel
theorem dX12_isPairBroken_211 : decode cX12_isPairBroken 211 = .ok (.iload_n 1, 1) := by decide +kernel
theorem dX12_isPairBroken_212 : decode cX12_isPairBroken 212 = .ok (.iaload, 1) := by decide +kernel
theorem dX12_isPairBroken_213 : decode cX12_isPairBroken 213 = .ok (.if_icmp .ge 7, 3) := by decide +kernel
theorem dX12_isPairBroken_216 : decode cX12_isPairBroken 216 = .ok (.iconst 1, 1) := by decide +kernel
theorem dX12_isPairBroken_217 : decode cX12_isPairBroken 217 = .ok (.goto 4, 3) := by decide +kernel
theorem dX12_isPairBroken_220 : decode cX12_isPairBroken 220 = .ok (.iconst 0, 1) := by decide +kernel
theorem dX12_isPairBroken_221 : decode cX12_isPairBroken 221 = .ok (.istore_n 3, 1) := by decide +kernel
theorem dX12_isPairBroken_222 : decode cX12_isPairBroken 222 = .ok (.iinc 5 1, 3) := by decide +kernel
theorem dX12_isPairBroken_225 : decode cX12_isPairBroken 225 = .ok (.goto (-203), 3) := by decide +kernel
theorem dX12_isPairBroken_228 : decode cX12_isPairBroken 228 = .ok (.iinc 4 1, 3) := by decide +kernel
theorem dX12_isPairBroken_231 : decode cX12_isPairBroken 231 = .ok (.goto (-226), 3) := by decide +kernel
theorem dX12_isPairBroken_234 : decode cX12_isPairBroken 234 = .ok (.iload_n 3, 1) := by decide +kernel
theorem dX12_isPairBroken_235 : decode cX12_isPairBroken 235 = .ok (.ireturn, 1) := by decide +kernel
theorem dX12_filled_0 : decode cX12_filled 0 = .ok (.iconst 0, 1) := by decide +kernel
theorem dX12_filled_1 : decode cX12_filled 1 = .ok (.istore_n 1, 1) := by decide +kernel
theorem dX12_filled_2 : decode cX12_filled 2 = .ok (.iconst 0, 1) := by decide +kernel
theorem dX12_filled_3 : decode cX12_filled 3 = .ok (.istore_n 2, 1) := by decide +kernel
theorem dX12_filled_4 : decode cX12_filled 4 = .ok (.iload_n 2, 1) := by decide +kernel
theorem dX12_filled_5 : decode cX12_filled 5 = .ok (.aload_n 0, 1) := by decide +kernel
theorem dX12_filled_6 : decode cX12_filled 6 = .ok (.invokevirtual 92, 3) := by decide +kernel
theorem dX12_filled_9 : decode cX12_filled 9 = .ok (.if_icmp .ge 26, 3) := by decide +kernel
theorem dX12_filled_12 : decode cX12_filled 12 = .ok (.iload_n 1, 1) := by decide +kernel
theorem dX12_filled_13 : decode cX12_filled 13 = .ok (.aload_n 0, 1) := by decide +kernel
theorem dX12_filled_14 : decode cX12_filled 14 = .ok (.getfield 44, 3) := by decide +kernel
theorem dX12_filled_17 : decode cX12_filled 17 = .ok (.iload_n 2, 1) := by decide +kernel
theorem dX12_filled_18 : decode cX12_filled 18 = .ok (.iaload, 1) := by decide +kernel
theorem dX12_filled_19 : decode cX12_filled 19 = .ok (.ifCond .le 7, 3) := by decide +kernel
theorem dX12_filled_22 : decode cX12_filled 22 = .ok (.iconst 1, 1) := by decide +kernel
theorem dX12_filled_23 : decode cX12_filled 23 = .ok (.goto 4, 3) := by decide +kernel
theorem dX12_filled_26 : decode cX12_filled 26 = .ok (.iconst 0, 1) := by decide +kernel
theorem dX12_filled_27 : decode cX12_filled 27 = .ok (.iadd, 1) := by decide +kernel
theorem dX12_filled_28 : decode cX12_filled 28 = .ok (.istore_n 1, 1) := by decide +kernel
theorem dX12_filled_29 : decode cX12_filled 29 = .ok (.iinc 2 1, 3) := by decide +kernel
theorem dX12_filled_32 : decode cX12_filled 32 = .ok (.goto (-28), 3) := by decide +kernel
theorem dX12_filled_35 : decode cX12_filled 35 = .ok (.iload_n 1, 1) := by decide +kernel
theorem dX12_filled_36 : decode cX12_filled 36 = .ok (.ireturn, 1) := by decide +kernel
theorem dX12_broken_0 : decode cX12_broken 0 = .ok (.iconst 0, 1) := by decide +kernel
theorem dX12_broken_1 : decode cX12_broken 1 = .ok (.istore_n 1, 1) := by decide +kernel
theorem dX12_broken_2 : decode cX12_broken 2 = .ok (.iconst 0, 1) := by decide +kernel
theorem dX12_broken_3 : decode cX12_broken 3 = .ok (.istore_n 2, 1) := by decide +kernel
theorem dX12_broken_4 : decode cX12_broken 4 = .ok (.iload_n 2, 1) := by decide +kernel
theorem dX12_broken_5 : decode cX12_broken 5 = .ok (.aload_n 0, 1) := by decide +kernel
theorem dX12_broken_6 : decode cX12_broken 6 = .ok (.getfield 100, 3) := by decide +kernel
theorem dX12_broken_9 : decode cX12_broken 9 = .ok (.if_icmp .ge 29, 3) := by decide +kernel
theorem dX12_broken_12 : decode cX12_broken 12 = .ok (.iload_n 1, 1) := by decide +kernel
theorem dX12_broken_13 : decode cX12_broken 13 = .ok (.aload_n 0, 1) := by decide +kernel
theorem dX12_broken_14 : decode cX12_broken 14 = .ok (.iload_n 2, 1) := by decide +kernel
theorem dX12_broken_15 : decode cX12_broken 15 = .ok (.aload_n 0, 1) := by decide +kernel
theorem dX12_broken_16 : decode cX12_broken 16 = .ok (.getfield 44, 3) := by decide +kernel
theorem dX12_broken_19 : decode cX12_broken 19 = .ok (.invokevirtual 234, 3) := by decide +kernel
theorem dX12_broken_22 : decode cX12_broken 22 = .ok (.ifCond .eq 7, 3) := by decide +kernel
theorem dX12_broken_25 : decode cX12_broken 25 = .ok (.iconst 1, 1) := by decide +kernel
theorem dX12_broken_26 : decode cX12_broken 26 = .ok (.goto 4, 3) := by decide +kernel
theorem dX12_broken_29 : decode cX12_broken 29 = .ok (.iconst 0, 1) := by decide +kernel
theorem dX12_broken_30 : decode cX12_broken 30 = .ok (.iadd, 1) := by decide +kernel
theorem dX12_broken_31 : decode cX12_broken 31 = .ok (.istore_n 1, 1) := by decide +kernel
theorem dX12_broken_32 : decode cX12_broken 32 = .ok (.iinc 2 1, 3) := by decide +kernel
theorem dX12_broken_35 : decode cX12_broken 35 = .ok (.goto (-31), 3) := by decide +kernel
theorem dX12_broken_38 : decode cX12_broken 38 = .ok (.iload_n 1, 1) := by decide +kernel
theorem dX12_broken_39 : decode cX12_broken 39 = .ok (.ireturn, 1) := by decide +kernel
theorem dX12_rulesIs_0 : decode cX12_rulesIs 0 = .ok (.iconst 0, 1) := by decide +kernel
theorem dX12_rulesIs_1 : decode cX12_rulesIs 1 = .ok (.istore_n 1, 1) := by decide +kernel
theorem dX12_rulesIs_2 : decode cX12_rulesIs 2 = .ok (.iconst 0, 1) := by decide +kernel
theorem dX12_rulesIs_3 : decode cX12_rulesIs 3 = .ok (.istore_n 2, 1) := by decide +kernel
theorem dX12_rulesIs_4 : decode cX12_rulesIs 4 = .ok (.iload_n 2, 1) := by decide +kernel
theorem dX12_rulesIs_5 : decode cX12_rulesIs 5 = .ok (.aload_n 0, 1) := by decide +kernel
theorem dX12_rulesIs_6 : decode cX12_rulesIs 6 = .ok (.getfield 100, 3) := by decide +kernel
theorem dX12_rulesIs_9 : decode cX12_rulesIs 9 = .ok (.if_icmp .ge 28, 3) := by decide +kernel
theorem dX12_rulesIs_12 : decode cX12_rulesIs 12 = .ok (.iload_n 1, 1) := by decide +kernel
theorem dX12_rulesIs_13 : decode cX12_rulesIs 13 = .ok (.aload_n 0, 1) := by decide +kernel
theorem dX12_rulesIs_14 : decode cX12_rulesIs 14 = .ok (.getfield 29, 3) := by decide +kernel
theorem dX12_rulesIs_17 : decode cX12_rulesIs 17 = .ok (.iload_n 2, 1) := by decide +kernel
theorem dX12_rulesIs_18 : decode cX12_rulesIs 18 = .ok (.iaload, 1) := by decide +kernel
theorem dX12_rulesIs_19 : decode cX12_rulesIs 19 = .ok (.bipush 9, 2) := by decide +kernel
theorem dX12_rulesIs_21 : decode cX12_rulesIs 21 = .ok (.if_icmp .ne 7, 3) := by decide +kernel
theorem dX12_rulesIs_24 : decode cX12_rulesIs 24 = .ok (.iconst 1, 1) := by decide +kernel
theorem dX12_rulesIs_25 : decode cX12_rulesIs 25 = .ok (.goto 4, 3) := by decide +kernel
theorem dX12_rulesIs_28 : decode cX12_rulesIs 28 = .ok (.iconst 0, 1) := by decide +kernel
theorem dX12_rulesIs_29 : decode cX12_rulesIs 29 = .ok (.iadd, 1) := by decide +kernel
theorem dX12_rulesIs_30 : decode cX12_rulesIs 30 = .ok (.istore_n 1, 1) := by decide +kernel
theorem dX12_rulesIs_31 : decode cX12_rulesIs 31 = .ok (.iinc 2 1, 3) := by decide +kernel
theorem dX12_rulesIs_34 : decode cX12_rulesIs 34 = .ok (.goto (-30), 3) := by decide +kernel
theorem dX12_rulesIs_37 : decode cX12_rulesIs 37 = .ok (.iload_n 1, 1) := by decide +kernel
theorem dX12_rulesIs_38 : decode cX12_rulesIs 38 = .ok (.ireturn, 1) := by decide +kernel
theorem dX12_counted_0 : decode cX12_counted 0 = .ok (.bipush 11, 2) := by decide +kernel
theorem dX12_counted_2 : decode cX12_counted 2 = .ok (.newarray .int, 2) := by decide +kernel
theorem dX12_counted_4 : decode cX12_counted 4 = .ok (.dup, 1) := by decide +kernel
theorem dX12_counted_5 : decode cX12_counted 5 = .ok (.iconst 0, 1) := by decide +kernel
theorem dX12_counted_6 : decode cX12_counted 6 = .ok (.aload_n 0, 1) := by decide +kernel
theorem dX12_counted_7 : decode cX12_counted 7 = .ok (.getfield 86, 3) := by decide +kernel
theorem dX12_counted_10 : decode cX12_counted 10 = .ok (.iastore, 1) := by decide +kernel
theorem dX12_counted_11 : decode cX12_counted 11 = .ok (.dup, 1) := by decide +kernel
theorem dX12_counted_12 : decode cX12_counted 12 = .ok (.iconst 1, 1) := by decide +kernel
theorem dX12_counted_13 : decode cX12_counted 13 = .ok (.aload_n 0, 1) := by decide +kernel
theorem dX12_counted_14 : decode cX12_counted 14 = .ok (.getfield 89, 3) := by decide +kernel
theorem dX12_counted_17 : decode cX12_counted 17 = .ok (.iastore, 1) := by decide +kernel
theorem dX12_counted_18 : decode cX12_counted 18 = .ok (.dup, 1) := by decide +kernel
theorem dX12_counted_19 : decode cX12_counted 19 = .ok (.iconst 2, 1) := by decide +kernel
theorem dX12_counted_20 : decode cX12_counted 20 = .ok (.aload_n 0, 1) := by decide +kernel
theorem dX12_counted_21 : decode cX12_counted 21 = .ok (.getfield 201, 3) := by decide +kernel
theorem dX12_counted_24 : decode cX12_counted 24 = .ok (.iastore, 1) := by decide +kernel
theorem dX12_counted_25 : decode cX12_counted 25 = .ok (.dup, 1) := by decide +kernel
theorem dX12_counted_26 : decode cX12_counted 26 = .ok (.iconst 3, 1) := by decide +kernel
theorem dX12_counted_27 : decode cX12_counted 27 = .ok (.aload_n 0, 1) := by decide +kernel
theorem dX12_counted_28 : decode cX12_counted 28 = .ok (.getfield 100, 3) := by decide +kernel
theorem dX12_counted_31 : decode cX12_counted 31 = .ok (.iastore, 1) := by decide +kernel
theorem dX12_counted_32 : decode cX12_counted 32 = .ok (.dup, 1) := by decide +kernel
theorem dX12_counted_33 : decode cX12_counted 33 = .ok (.iconst 4, 1) := by decide +kernel
theorem dX12_counted_34 : decode cX12_counted 34 = .ok (.aload_n 0, 1) := by decide +kernel
theorem dX12_counted_35 : decode cX12_counted 35 = .ok (.invokevirtual 237, 3) := by decide +kernel
theorem dX12_counted_38 : decode cX12_counted 38 = .ok (.iastore, 1) := by decide +kernel
theorem dX12_counted_39 : decode cX12_counted 39 = .ok (.dup, 1) := by decide +kernel
theorem dX12_counted_40 : decode cX12_counted 40 = .ok (.iconst 5, 1) := by decide +kernel
theorem dX12_counted_41 : decode cX12_counted 41 = .ok (.aload_n 0, 1) := by decide +kernel
theorem dX12_counted_42 : decode cX12_counted 42 = .ok (.invokevirtual 240, 3) := by decide +kernel
theorem dX12_counted_45 : decode cX12_counted 45 = .ok (.iastore, 1) := by decide +kernel
theorem dX12_counted_46 : decode cX12_counted 46 = .ok (.dup, 1) := by decide +kernel
theorem dX12_counted_47 : decode cX12_counted 47 = .ok (.bipush 6, 2) := by decide +kernel
theorem dX12_counted_49 : decode cX12_counted 49 = .ok (.aload_n 0, 1) := by decide +kernel
theorem dX12_counted_50 : decode cX12_counted 50 = .ok (.invokevirtual 243, 3) := by decide +kernel
theorem dX12_counted_53 : decode cX12_counted 53 = .ok (.iastore, 1) := by decide +kernel
theorem dX12_counted_54 : decode cX12_counted 54 = .ok (.dup, 1) := by decide +kernel
theorem dX12_counted_55 : decode cX12_counted 55 = .ok (.bipush 7, 2) := by decide +kernel
theorem dX12_counted_57 : decode cX12_counted 57 = .ok (.aload_n 0, 1) := by decide +kernel
theorem dX12_counted_58 : decode cX12_counted 58 = .ok (.getfield 208, 3) := by decide +kernel
theorem dX12_counted_61 : decode cX12_counted 61 = .ok (.iastore, 1) := by decide +kernel
theorem dX12_counted_62 : decode cX12_counted 62 = .ok (.dup, 1) := by decide +kernel
theorem dX12_counted_63 : decode cX12_counted 63 = .ok (.bipush 8, 2) := by decide +kernel
theorem dX12_counted_65 : decode cX12_counted 65 = .ok (.aload_n 0, 1) := by decide +kernel
theorem dX12_counted_66 : decode cX12_counted 66 = .ok (.getfield 246, 3) := by decide +kernel
theorem dX12_counted_69 : decode cX12_counted 69 = .ok (.iastore, 1) := by decide +kernel
theorem dX12_counted_70 : decode cX12_counted 70 = .ok (.dup, 1) := by decide +kernel
theorem dX12_counted_71 : decode cX12_counted 71 = .ok (.bipush 9, 2) := by decide +kernel
theorem dX12_counted_73 : decode cX12_counted 73 = .ok (.aload_n 0, 1) := by decide +kernel
theorem dX12_counted_74 : decode cX12_counted 74 = .ok (.getfield 103, 3) := by decide +kernel
theorem dX12_counted_77 : decode cX12_counted 77 = .ok (.iastore, 1) := by decide +kernel
theorem dX12_counted_78 : decode cX12_counted 78 = .ok (.dup, 1) := by decide +kernel
theorem dX12_counted_79 : decode cX12_counted 79 = .ok (.bipush 10, 2) := by decide +kernel
theorem dX12_counted_81 : decode cX12_counted 81 = .ok (.aload_n 0, 1) := by decide +kernel
theorem dX12_counted_82 : decode cX12_counted 82 = .ok (.getfield 249, 3) := by decide +kernel
theorem dX12_counted_85 : decode cX12_counted 85 = .ok (.iastore, 1) := by decide +kernel
theorem dX12_counted_86 : decode cX12_counted 86 = .ok (.astore_n 2, 1) := by decide +kernel
theorem dX12_counted_87 : decode cX12_counted 87 = .ok (.aload_n 2, 1) := by decide +kernel
theorem dX12_counted_88 : decode cX12_counted 88 = .ok (.iload_n 1, 1) := by decide +kernel
theorem dX12_counted_89 : decode cX12_counted 89 = .ok (.iaload, 1) := by decide +kernel
theorem dX12_counted_90 : decode cX12_counted 90 = .ok (.ireturn, 1) := by decide +kernel
theorem dX12_count_0 : decode cX12_count 0 = .ok (.aload_n 0, 1) := by decide +kernel
theorem dX12_count_1 : decode cX12_count 1 = .ok (.iconst 0, 1) := by decide +kernel
theorem dX12_count_2 : decode cX12_count 2 = .ok (.putfield 83, 3) := by decide +kernel
theorem dX12_count_5 : decode cX12_count 5 = .ok (.iload_n 1, 1) := by decide +kernel
theorem dX12_count_6 : decode cX12_count 6 = .ok (.iconst 0, 1) := by decide +kernel
theorem dX12_count_7 : decode cX12_count 7 = .ok (.bipush 10, 2) := by decide +kernel
theorem dX12_count_9 : decode cX12_count 9 = .ok (.invokestatic 96, 3) := by decide +kernel
theorem dX12_count_12 : decode cX12_count 12 = .ok (.ifCond .eq 11, 3) := by decide +kernel
theorem dX12_count_15 : decode cX12_count 15 = .ok (.aload_n 0, 1) := by decide +kernel
theorem dX12_count_16 : decode cX12_count 16 = .ok (.iload_n 1, 1) := by decide +kernel
theorem dX12_count_17 : decode cX12_count 17 = .ok (.invokevirtual 252, 3) := by decide +kernel
theorem dX12_count_20 : decode cX12_count 20 = .ok (.goto 8, 3) := by decide +kernel
theorem dX12_count_23 : decode cX12_count 23 = .ok (.aload_n 0, 1) := by decide +kernel
theorem dX12_count_24 : decode cX12_count 24 = .ok (.iconst 1, 1) := by decide +kernel
theorem dX12_count_25 : decode cX12_count 25 = .ok (.invokevirtual 106, 3) := by decide +kernel
theorem dX12_count_28 : decode cX12_count 28 = .ok (.ireturn, 1) := by decide +kernel
theorem dX12_ruleTold_0 : decode cX12_ruleTold 0 = .ok (.iload_n 2, 1) := by decide +kernel
theorem dX12_ruleTold_1 : decode cX12_ruleTold 1 = .ok (.iconst 4, 1) := by decide +kernel
theorem dX12_ruleTold_2 : decode cX12_ruleTold 2 = .ok (.if_icmp .ge 51, 3) := by decide +kernel
theorem dX12_ruleTold_5 : decode cX12_ruleTold 5 = .ok (.iload_n 2, 1) := by decide +kernel
theorem dX12_ruleTold_6 : decode cX12_ruleTold 6 = .ok (.ifCond .ne 12, 3) := by decide +kernel
theorem dX12_ruleTold_9 : decode cX12_ruleTold 9 = .ok (.aload_n 0, 1) := by decide +kernel
theorem dX12_ruleTold_10 : decode cX12_ruleTold 10 = .ok (.getfield 29, 3) := by decide +kernel
theorem dX12_ruleTold_13 : decode cX12_ruleTold 13 = .ok (.iload_n 1, 1) := by decide +kernel
theorem dX12_ruleTold_14 : decode cX12_ruleTold 14 = .ok (.iaload, 1) := by decide +kernel
theorem dX12_ruleTold_15 : decode cX12_ruleTold 15 = .ok (.goto 37, 3) := by decide +kernel
theorem dX12_ruleTold_18 : decode cX12_ruleTold 18 = .ok (.iload_n 2, 1) := by decide +kernel
theorem dX12_ruleTold_19 : decode cX12_ruleTold 19 = .ok (.iconst 1, 1) := by decide +kernel
theorem dX12_ruleTold_20 : decode cX12_ruleTold 20 = .ok (.if_icmp .ne 12, 3) := by decide +kernel
theorem dX12_ruleTold_23 : decode cX12_ruleTold 23 = .ok (.aload_n 0, 1) := by decide +kernel
theorem dX12_ruleTold_24 : decode cX12_ruleTold 24 = .ok (.getfield 32, 3) := by decide +kernel
theorem dX12_ruleTold_27 : decode cX12_ruleTold 27 = .ok (.iload_n 1, 1) := by decide +kernel
theorem dX12_ruleTold_28 : decode cX12_ruleTold 28 = .ok (.iaload, 1) := by decide +kernel
theorem dX12_ruleTold_29 : decode cX12_ruleTold 29 = .ok (.goto 23, 3) := by decide +kernel
theorem dX12_ruleTold_32 : decode cX12_ruleTold 32 = .ok (.iload_n 2, 1) := by decide +kernel
theorem dX12_ruleTold_33 : decode cX12_ruleTold 33 = .ok (.iconst 2, 1) := by decide +kernel
theorem dX12_ruleTold_34 : decode cX12_ruleTold 34 = .ok (.if_icmp .ne 12, 3) := by decide +kernel
theorem dX12_ruleTold_37 : decode cX12_ruleTold 37 = .ok (.aload_n 0, 1) := by decide +kernel
theorem dX12_ruleTold_38 : decode cX12_ruleTold 38 = .ok (.getfield 35, 3) := by decide +kernel
theorem dX12_ruleTold_41 : decode cX12_ruleTold 41 = .ok (.iload_n 1, 1) := by decide +kernel
theorem dX12_ruleTold_42 : decode cX12_ruleTold 42 = .ok (.iaload, 1) := by decide +kernel
theorem dX12_ruleTold_43 : decode cX12_ruleTold 43 = .ok (.goto 9, 3) := by decide +kernel
theorem dX12_ruleTold_46 : decode cX12_ruleTold 46 = .ok (.aload_n 0, 1) := by decide +kernel
theorem dX12_ruleTold_47 : decode cX12_ruleTold 47 = .ok (.getfield 38, 3) := by decide +kernel
theorem dX12_ruleTold_50 : decode cX12_ruleTold 50 = .ok (.iload_n 1, 1) := by decide +kernel
theorem dX12_ruleTold_51 : decode cX12_ruleTold 51 = .ok (.iaload, 1) := by decide +kernel
theorem dX12_ruleTold_52 : decode cX12_ruleTold 52 = .ok (.ireturn, 1) := by decide +kernel
theorem dX12_ruleTold_53 : decode cX12_ruleTold 53 = .ok (.iload_n 2, 1) := by decide +kernel
theorem dX12_ruleTold_54 : decode cX12_ruleTold 54 = .ok (.bipush 9, 2) := by decide +kernel
theorem dX12_ruleTold_56 : decode cX12_ruleTold 56 = .ok (.if_icmp .ge 28, 3) := by decide +kernel
theorem dX12_ruleTold_59 : decode cX12_ruleTold 59 = .ok (.iload_n 2, 1) := by decide +kernel
theorem dX12_ruleTold_60 : decode cX12_ruleTold 60 = .ok (.iconst 4, 1) := by decide +kernel
theorem dX12_ruleTold_61 : decode cX12_ruleTold 61 = .ok (.isub, 1) := by decide +kernel
theorem dX12_ruleTold_62 : decode cX12_ruleTold 62 = .ok (.aload_n 0, 1) := by decide +kernel
theorem dX12_ruleTold_63 : decode cX12_ruleTold 63 = .ok (.getfield 38, 3) := by decide +kernel
theorem dX12_ruleTold_66 : decode cX12_ruleTold 66 = .ok (.iload_n 1, 1) := by decide +kernel
theorem dX12_ruleTold_67 : decode cX12_ruleTold 67 = .ok (.iaload, 1) := by decide +kernel
theorem dX12_ruleTold_68 : decode cX12_ruleTold 68 = .ok (.if_icmp .ge 14, 3) := by decide +kernel
theorem dX12_ruleTold_71 : decode cX12_ruleTold 71 = .ok (.aload_n 0, 1) := by decide +kernel
theorem dX12_ruleTold_72 : decode cX12_ruleTold 72 = .ok (.iload_n 1, 1) := by decide +kernel
theorem dX12_ruleTold_73 : decode cX12_ruleTold 73 = .ok (.iload_n 2, 1) := by decide +kernel
theorem dX12_ruleTold_74 : decode cX12_ruleTold 74 = .ok (.iconst 4, 1) := by decide +kernel
theorem dX12_ruleTold_75 : decode cX12_ruleTold 75 = .ok (.isub, 1) := by decide +kernel
theorem dX12_ruleTold_76 : decode cX12_ruleTold 76 = .ok (.invokevirtual 214, 3) := by decide +kernel
theorem dX12_ruleTold_79 : decode cX12_ruleTold 79 = .ok (.goto 4, 3) := by decide +kernel
theorem dX12_ruleTold_82 : decode cX12_ruleTold 82 = .ok (.iconst (-1), 1) := by decide +kernel
theorem dX12_ruleTold_83 : decode cX12_ruleTold 83 = .ok (.ireturn, 1) := by decide +kernel
theorem dX12_ruleTold_84 : decode cX12_ruleTold 84 = .ok (.aload_n 0, 1) := by decide +kernel
theorem dX12_ruleTold_85 : decode cX12_ruleTold 85 = .ok (.iload_n 1, 1) := by decide +kernel
theorem dX12_ruleTold_86 : decode cX12_ruleTold 86 = .ok (.aload_n 0, 1) := by decide +kernel
theorem dX12_ruleTold_87 : decode cX12_ruleTold 87 = .ok (.getfield 44, 3) := by decide +kernel
theorem dX12_ruleTold_90 : decode cX12_ruleTold 90 = .ok (.invokevirtual 234, 3) := by decide +kernel
theorem dX12_ruleTold_93 : decode cX12_ruleTold 93 = .ok (.ifCond .eq 7, 3) := by decide +kernel
theorem dX12_ruleTold_96 : decode cX12_ruleTold 96 = .ok (.iconst 1, 1) := by decide +kernel
theorem dX12_ruleTold_97 : decode cX12_ruleTold 97 = .ok (.goto 4, 3) := by decide +kernel
theorem dX12_ruleTold_100 : decode cX12_ruleTold 100 = .ok (.iconst 0, 1) := by decide +kernel
theorem dX12_ruleTold_101 : decode cX12_ruleTold 101 = .ok (.ireturn, 1) := by decide +kernel
theorem dX12_rule_0 : decode cX12_rule 0 = .ok (.aload_n 0, 1) := by decide +kernel
theorem dX12_rule_1 : decode cX12_rule 1 = .ok (.iconst 0, 1) := by decide +kernel
theorem dX12_rule_2 : decode cX12_rule 2 = .ok (.putfield 83, 3) := by decide +kernel
theorem dX12_rule_5 : decode cX12_rule 5 = .ok (.aload_n 0, 1) := by decide +kernel
theorem dX12_rule_6 : decode cX12_rule 6 = .ok (.iload_n 1, 1) := by decide +kernel
theorem dX12_rule_7 : decode cX12_rule 7 = .ok (.invokevirtual 255, 3) := by decide +kernel
theorem dX12_rule_10 : decode cX12_rule 10 = .ok (.ifCond .eq 22, 3) := by decide +kernel
theorem dX12_rule_13 : decode cX12_rule 13 = .ok (.iload_n 2, 1) := by decide +kernel
theorem dX12_rule_14 : decode cX12_rule 14 = .ok (.iconst 0, 1) := by decide +kernel
theorem dX12_rule_15 : decode cX12_rule 15 = .ok (.bipush 9, 2) := by decide +kernel
theorem dX12_rule_17 : decode cX12_rule 17 = .ok (.invokestatic 96, 3) := by decide +kernel
theorem dX12_rule_20 : decode cX12_rule 20 = .ok (.ifCond .eq 12, 3) := by decide +kernel
theorem dX12_rule_23 : decode cX12_rule 23 = .ok (.aload_n 0, 1) := by decide +kernel
theorem dX12_rule_24 : decode cX12_rule 24 = .ok (.iload_n 1, 1) := by decide +kernel
theorem dX12_rule_25 : decode cX12_rule 25 = .ok (.iload_n 2, 1) := by decide +kernel
theorem dX12_rule_26 : decode cX12_rule 26 = .ok (.invokevirtual 258, 3) := by decide +kernel
theorem dX12_rule_29 : decode cX12_rule 29 = .ok (.goto 8, 3) := by decide +kernel
theorem dX12_rule_32 : decode cX12_rule 32 = .ok (.aload_n 0, 1) := by decide +kernel
theorem dX12_rule_33 : decode cX12_rule 33 = .ok (.iconst 1, 1) := by decide +kernel
theorem dX12_rule_34 : decode cX12_rule 34 = .ok (.invokevirtual 106, 3) := by decide +kernel
theorem dX12_rule_37 : decode cX12_rule 37 = .ok (.ireturn, 1) := by decide +kernel
theorem dX12_dropRule_0 : decode cX12_dropRule 0 = .ok (.iload_n 1, 1) := by decide +kernel
theorem dX12_dropRule_1 : decode cX12_dropRule 1 = .ok (.istore_n 2, 1) := by decide +kernel
theorem dX12_dropRule_2 : decode cX12_dropRule 2 = .ok (.iload_n 2, 1) := by decide +kernel
theorem dX12_dropRule_3 : decode cX12_dropRule 3 = .ok (.iconst 1, 1) := by decide +kernel
theorem dX12_dropRule_4 : decode cX12_dropRule 4 = .ok (.iadd, 1) := by decide +kernel
theorem dX12_dropRule_5 : decode cX12_dropRule 5 = .ok (.aload_n 0, 1) := by decide +kernel
theorem dX12_dropRule_6 : decode cX12_dropRule 6 = .ok (.getfield 100, 3) := by decide +kernel
theorem dX12_dropRule_9 : decode cX12_dropRule 9 = .ok (.if_icmp .ge 17, 3) := by decide +kernel
theorem dX12_dropRule_12 : decode cX12_dropRule 12 = .ok (.aload_n 0, 1) := by decide +kernel
theorem dX12_dropRule_13 : decode cX12_dropRule 13 = .ok (.iload_n 2, 1) := by decide +kernel
theorem dX12_dropRule_14 : decode cX12_dropRule 14 = .ok (.iconst 1, 1) := by decide +kernel
theorem dX12_dropRule_15 : decode cX12_dropRule 15 = .ok (.iadd, 1) := by decide +kernel
theorem dX12_dropRule_16 : decode cX12_dropRule 16 = .ok (.iload_n 2, 1) := by decide +kernel
theorem dX12_dropRule_17 : decode cX12_dropRule 17 = .ok (.invokevirtual 261, 3) := by decide +kernel
theorem dX12_dropRule_20 : decode cX12_dropRule 20 = .ok (.iinc 2 1, 3) := by decide +kernel
theorem dX12_dropRule_23 : decode cX12_dropRule 23 = .ok (.goto (-21), 3) := by decide +kernel
theorem dX12_dropRule_26 : decode cX12_dropRule 26 = .ok (.aload_n 0, 1) := by decide +kernel
theorem dX12_dropRule_27 : decode cX12_dropRule 27 = .ok (.dup, 1) := by decide +kernel
theorem dX12_dropRule_28 : decode cX12_dropRule 28 = .ok (.getfield 100, 3) := by decide +kernel
theorem dX12_dropRule_31 : decode cX12_dropRule 31 = .ok (.iconst 1, 1) := by decide +kernel
theorem dX12_dropRule_32 : decode cX12_dropRule 32 = .ok (.isub, 1) := by decide +kernel
theorem dX12_dropRule_33 : decode cX12_dropRule 33 = .ok (.putfield 100, 3) := by decide +kernel
theorem dX12_dropRule_36 : decode cX12_dropRule 36 = .ok (.return_, 1) := by decide +kernel
theorem dX12_drop_0 : decode cX12_drop 0 = .ok (.aload_n 0, 1) := by decide +kernel
theorem dX12_drop_1 : decode cX12_drop 1 = .ok (.iconst 0, 1) := by decide +kernel
theorem dX12_drop_2 : decode cX12_drop 2 = .ok (.putfield 83, 3) := by decide +kernel
theorem dX12_drop_5 : decode cX12_drop 5 = .ok (.aload_n 0, 1) := by decide +kernel
theorem dX12_drop_6 : decode cX12_drop 6 = .ok (.iload_n 1, 1) := by decide +kernel
theorem dX12_drop_7 : decode cX12_drop 7 = .ok (.invokevirtual 255, 3) := by decide +kernel
theorem dX12_drop_10 : decode cX12_drop 10 = .ok (.ifCond .ne 9, 3) := by decide +kernel
theorem dX12_drop_13 : decode cX12_drop 13 = .ok (.aload_n 0, 1) := by decide +kernel
theorem dX12_drop_14 : decode cX12_drop 14 = .ok (.iconst 1, 1) := by decide +kernel
theorem dX12_drop_15 : decode cX12_drop 15 = .ok (.invokevirtual 106, 3) := by decide +kernel
theorem dX12_drop_18 : decode cX12_drop 18 = .ok (.ireturn, 1) := by decide +kernel
theorem dX12_drop_19 : decode cX12_drop 19 = .ok (.aload_n 0, 1) := by decide +kernel
theorem dX12_drop_20 : decode cX12_drop 20 = .ok (.iload_n 1, 1) := by decide +kernel
theorem dX12_drop_21 : decode cX12_drop 21 = .ok (.invokevirtual 265, 3) := by decide +kernel
theorem dX12_drop_24 : decode cX12_drop 24 = .ok (.aload_n 0, 1) := by decide +kernel
theorem dX12_drop_25 : decode cX12_drop 25 = .ok (.getfield 100, 3) := by decide +kernel
theorem dX12_drop_28 : decode cX12_drop 28 = .ok (.ireturn, 1) := by decide +kernel
theorem dX12_put_0 : decode cX12_put 0 = .ok (.aload_n 0, 1) := by decide +kernel
theorem dX12_put_1 : decode cX12_put 1 = .ok (.getfield 26, 3) := by decide +kernel
theorem dX12_put_4 : decode cX12_put 4 = .ok (.aload_n 0, 1) := by decide +kernel
theorem dX12_put_5 : decode cX12_put 5 = .ok (.getfield 249, 3) := by decide +kernel
theorem dX12_put_8 : decode cX12_put 8 = .ok (.iload_n 1, 1) := by decide +kernel
theorem dX12_put_9 : decode cX12_put 9 = .ok (.iastore, 1) := by decide +kernel
theorem dX12_put_10 : decode cX12_put 10 = .ok (.aload_n 0, 1) := by decide +kernel
theorem dX12_put_11 : decode cX12_put 11 = .ok (.dup, 1) := by decide +kernel
theorem dX12_put_12 : decode cX12_put 12 = .ok (.getfield 249, 3) := by decide +kernel
theorem dX12_put_15 : decode cX12_put 15 = .ok (.iconst 1, 1) := by decide +kernel
theorem dX12_put_16 : decode cX12_put 16 = .ok (.iadd, 1) := by decide +kernel
theorem dX12_put_17 : decode cX12_put 17 = .ok (.putfield 249, 3) := by decide +kernel
theorem dX12_put_20 : decode cX12_put 20 = .ok (.return_, 1) := by decide +kernel
theorem dX12_put__0 : decode cX12_put_ 0 = .ok (.iconst 0, 1) := by decide +kernel
theorem dX12_put__1 : decode cX12_put_ 1 = .ok (.istore_n 2, 1) := by decide +kernel
theorem dX12_put__2 : decode cX12_put_ 2 = .ok (.iload_n 2, 1) := by decide +kernel
theorem dX12_put__3 : decode cX12_put_ 3 = .ok (.aload_n 1, 1) := by decide +kernel
theorem dX12_put__4 : decode cX12_put_ 4 = .ok (.invokevirtual 120, 3) := by decide +kernel
theorem dX12_put__7 : decode cX12_put_ 7 = .ok (.if_icmp .ge 18, 3) := by decide +kernel
theorem dX12_put__10 : decode cX12_put_ 10 = .ok (.aload_n 0, 1) := by decide +kernel
theorem dX12_put__11 : decode cX12_put_ 11 = .ok (.aload_n 1, 1) := by decide +kernel
theorem dX12_put__12 : decode cX12_put_ 12 = .ok (.iload_n 2, 1) := by decide +kernel
theorem dX12_put__13 : decode cX12_put_ 13 = .ok (.invokevirtual 124, 3) := by decide +kernel
theorem dX12_put__16 : decode cX12_put_ 16 = .ok (.invokevirtual 268, 3) := by decide +kernel
theorem dX12_put__19 : decode cX12_put_ 19 = .ok (.iinc 2 1, 3) := by decide +kernel
theorem dX12_put__22 : decode cX12_put_ 22 = .ok (.goto (-20), 3) := by decide +kernel
theorem dX12_put__25 : decode cX12_put_ 25 = .ok (.return_, 1) := by decide +kernel
theorem dX12_putNumber_0 : decode cX12_putNumber 0 = .ok (.iload_n 1, 1) := by decide +kernel
theorem dX12_putNumber_1 : decode cX12_putNumber 1 = .ok (.bipush 9, 2) := by decide +kernel
theorem dX12_putNumber_3 : decode cX12_putNumber 3 = .ok (.if_icmp .le 11, 3) := by decide +kernel
theorem dX12_putNumber_6 : decode cX12_putNumber 6 = .ok (.aload_n 0, 1) := by decide +kernel
theorem dX12_putNumber_7 : decode cX12_putNumber 7 = .ok (.iload_n 1, 1) := by decide +kernel
theorem dX12_putNumber_8 : decode cX12_putNumber 8 = .ok (.bipush 10, 2) := by decide +kernel
theorem dX12_putNumber_10 : decode cX12_putNumber 10 = .ok (.idiv, 1) := by decide +kernel
theorem dX12_putNumber_11 : decode cX12_putNumber 11 = .ok (.invokevirtual 271, 3) := by decide +kernel
theorem dX12_putNumber_14 : decode cX12_putNumber 14 = .ok (.aload_n 0, 1) := by decide +kernel
theorem dX12_putNumber_15 : decode cX12_putNumber 15 = .ok (.bipush 48, 2) := by decide +kernel
theorem dX12_putNumber_17 : decode cX12_putNumber 17 = .ok (.iload_n 1, 1) := by decide +kernel
theorem dX12_putNumber_18 : decode cX12_putNumber 18 = .ok (.bipush 10, 2) := by decide +kernel
theorem dX12_putNumber_20 : decode cX12_putNumber 20 = .ok (.irem, 1) := by decide +kernel
theorem dX12_putNumber_21 : decode cX12_putNumber 21 = .ok (.iadd, 1) := by decide +kernel
theorem dX12_putNumber_22 : decode cX12_putNumber 22 = .ok (.invokevirtual 268, 3) := by decide +kernel
theorem dX12_putNumber_25 : decode cX12_putNumber 25 = .ok (.return_, 1) := by decide +kernel
theorem dX12_putNext_0 : decode cX12_putNext 0 = .ok (.aload_n 0, 1) := by decide +kernel
theorem dX12_putNext_1 : decode cX12_putNext 1 = .ok (.bipush 32, 2) := by decide +kernel
theorem dX12_putNext_3 : decode cX12_putNext 3 = .ok (.invokevirtual 268, 3) := by decide +kernel
theorem dX12_putNext_6 : decode cX12_putNext 6 = .ok (.aload_n 0, 1) := by decide +kernel
theorem dX12_putNext_7 : decode cX12_putNext 7 = .ok (.iload_n 1, 1) := by decide +kernel
theorem dX12_putNext_8 : decode cX12_putNext 8 = .ok (.invokevirtual 271, 3) := by decide +kernel
theorem dX12_putNext_11 : decode cX12_putNext 11 = .ok (.return_, 1) := by decide +kernel
theorem dX12_write_0 : decode cX12_write 0 = .ok (.aload_n 0, 1) := by decide +kernel
theorem dX12_write_1 : decode cX12_write 1 = .ok (.iconst 0, 1) := by decide +kernel
theorem dX12_write_2 : decode cX12_write 2 = .ok (.putfield 83, 3) := by decide +kernel
theorem dX12_write_5 : decode cX12_write 5 = .ok (.aload_n 0, 1) := by decide +kernel
theorem dX12_write_6 : decode cX12_write 6 = .ok (.getfield 86, 3) := by decide +kernel
theorem dX12_write_9 : decode cX12_write 9 = .ok (.ifCond .ne 9, 3) := by decide +kernel
theorem dX12_write_12 : decode cX12_write 12 = .ok (.aload_n 0, 1) := by decide +kernel
theorem dX12_write_13 : decode cX12_write 13 = .ok (.iconst 1, 1) := by decide +kernel
theorem dX12_write_14 : decode cX12_write 14 = .ok (.invokevirtual 106, 3) := by decide +kernel
theorem dX12_write_17 : decode cX12_write 17 = .ok (.ireturn, 1) := by decide +kernel
theorem dX12_write_18 : decode cX12_write 18 = .ok (.aload_n 0, 1) := by decide +kernel
theorem dX12_write_19 : decode cX12_write 19 = .ok (.iconst 0, 1) := by decide +kernel
theorem dX12_write_20 : decode cX12_write 20 = .ok (.putfield 249, 3) := by decide +kernel
theorem dX12_write_23 : decode cX12_write 23 = .ok (.aload_n 0, 1) := by decide +kernel
theorem dX12_write_24 : decode cX12_write 24 = .ok (.ldc 139, 2) := by decide +kernel
theorem dX12_write_26 : decode cX12_write 26 = .ok (.invokevirtual 274, 3) := by decide +kernel
theorem dX12_write_29 : decode cX12_write 29 = .ok (.aload_n 0, 1) := by decide +kernel
theorem dX12_write_30 : decode cX12_write 30 = .ok (.aload_n 0, 1) := by decide +kernel
theorem dX12_write_31 : decode cX12_write 31 = .ok (.getfield 86, 3) := by decide +kernel
theorem dX12_write_34 : decode cX12_write 34 = .ok (.invokevirtual 277, 3) := by decide +kernel
theorem dX12_write_37 : decode cX12_write 37 = .ok (.aload_n 0, 1) := by decide +kernel
theorem dX12_write_38 : decode cX12_write 38 = .ok (.aload_n 0, 1) := by decide +kernel
theorem dX12_write_39 : decode cX12_write 39 = .ok (.getfield 89, 3) := by decide +kernel
theorem dX12_write_42 : decode cX12_write 42 = .ok (.invokevirtual 277, 3) := by decide +kernel
theorem dX12_write_45 : decode cX12_write 45 = .ok (.aload_n 0, 1) := by decide +kernel
theorem dX12_write_46 : decode cX12_write 46 = .ok (.aload_n 0, 1) := by decide +kernel
theorem dX12_write_47 : decode cX12_write 47 = .ok (.getfield 201, 3) := by decide +kernel
theorem dX12_write_50 : decode cX12_write 50 = .ok (.invokevirtual 277, 3) := by decide +kernel
theorem dX12_write_53 : decode cX12_write 53 = .ok (.aload_n 0, 1) := by decide +kernel
theorem dX12_write_54 : decode cX12_write 54 = .ok (.bipush 59, 2) := by decide +kernel
theorem dX12_write_56 : decode cX12_write 56 = .ok (.invokevirtual 268, 3) := by decide +kernel
theorem dX12_write_59 : decode cX12_write 59 = .ok (.iconst 0, 1) := by decide +kernel
theorem dX12_write_60 : decode cX12_write 60 = .ok (.istore_n 1, 1) := by decide +kernel
theorem dX12_write_61 : decode cX12_write 61 = .ok (.iload_n 1, 1) := by decide +kernel
theorem dX12_write_62 : decode cX12_write 62 = .ok (.aload_n 0, 1) := by decide +kernel
theorem dX12_write_63 : decode cX12_write 63 = .ok (.getfield 100, 3) := by decide +kernel
theorem dX12_write_66 : decode cX12_write 66 = .ok (.if_icmp .ge 144, 3) := by decide +kernel
theorem dX12_write_69 : decode cX12_write 69 = .ok (.aload_n 0, 1) := by decide +kernel
theorem dX12_write_70 : decode cX12_write 70 = .ok (.getfield 29, 3) := by decide +kernel
theorem dX12_write_73 : decode cX12_write 73 = .ok (.iload_n 1, 1) := by decide +kernel
theorem dX12_write_74 : decode cX12_write 74 = .ok (.iaload, 1) := by decide +kernel
theorem dX12_write_75 : decode cX12_write 75 = .ok (.istore_n 2, 1) := by decide +kernel
theorem dX12_write_76 : decode cX12_write 76 = .ok (.aload_n 0, 1) := by decide +kernel
theorem dX12_write_77 : decode cX12_write 77 = .ok (.getstatic 128, 3) := by decide +kernel
theorem dX12_write_80 : decode cX12_write 80 = .ok (.iload_n 2, 1) := by decide +kernel
theorem dX12_write_81 : decode cX12_write 81 = .ok (.aaload, 1) := by decide +kernel
theorem dX12_write_82 : decode cX12_write 82 = .ok (.invokevirtual 274, 3) := by decide +kernel
theorem dX12_write_85 : decode cX12_write 85 = .ok (.getstatic 150, 3) := by decide +kernel
theorem dX12_write_88 : decode cX12_write 88 = .ok (.iload_n 2, 1) := by decide +kernel
theorem dX12_write_89 : decode cX12_write 89 = .ok (.iaload, 1) := by decide +kernel
theorem dX12_write_90 : decode cX12_write 90 = .ok (.ifCond .le 13, 3) := by decide +kernel
theorem dX12_write_93 : decode cX12_write 93 = .ok (.aload_n 0, 1) := by decide +kernel
theorem dX12_write_94 : decode cX12_write 94 = .ok (.aload_n 0, 1) := by decide +kernel
theorem dX12_write_95 : decode cX12_write 95 = .ok (.getfield 32, 3) := by decide +kernel
theorem dX12_write_98 : decode cX12_write 98 = .ok (.iload_n 1, 1) := by decide +kernel
theorem dX12_write_99 : decode cX12_write 99 = .ok (.iaload, 1) := by decide +kernel
theorem dX12_write_100 : decode cX12_write 100 = .ok (.invokevirtual 277, 3) := by decide +kernel
theorem dX12_write_103 : decode cX12_write 103 = .ok (.getstatic 150, 3) := by decide +kernel
theorem dX12_write_106 : decode cX12_write 106 = .ok (.iload_n 2, 1) := by decide +kernel
theorem dX12_write_107 : decode cX12_write 107 = .ok (.iaload, 1) := by decide +kernel
theorem dX12_write_108 : decode cX12_write 108 = .ok (.iconst 1, 1) := by decide +kernel
theorem dX12_write_109 : decode cX12_write 109 = .ok (.if_icmp .le 13, 3) := by decide +kernel
theorem dX12_write_112 : decode cX12_write 112 = .ok (.aload_n 0, 1) := by decide +kernel
theorem dX12_write_113 : decode cX12_write 113 = .ok (.aload_n 0, 1) := by decide +kernel
theorem dX12_write_114 : decode cX12_write 114 = .ok (.getfield 35, 3) := by decide +kernel
theorem dX12_write_117 : decode cX12_write 117 = .ok (.iload_n 1, 1) := by decide +kernel
theorem dX12_write_118 : decode cX12_write 118 = .ok (.iaload, 1) := by decide +kernel
theorem dX12_write_119 : decode cX12_write 119 = .ok (.invokevirtual 277, 3) := by decide +kernel
theorem dX12_write_122 : decode cX12_write 122 = .ok (.iconst 0, 1) := by decide +kernel
theorem dX12_write_123 : decode cX12_write 123 = .ok (.istore_n 3, 1) := by decide +kernel
theorem dX12_write_124 : decode cX12_write 124 = .ok (.iload_n 3, 1) := by decide +kernel
theorem dX12_write_125 : decode cX12_write 125 = .ok (.aload_n 0, 1) := by decide +kernel
theorem dX12_write_126 : decode cX12_write 126 = .ok (.getfield 38, 3) := by decide +kernel
theorem dX12_write_129 : decode cX12_write 129 = .ok (.iload_n 1, 1) := by decide +kernel
theorem dX12_write_130 : decode cX12_write 130 = .ok (.iaload, 1) := by decide +kernel
theorem dX12_write_131 : decode cX12_write 131 = .ok (.if_icmp .ge 51, 3) := by decide +kernel
theorem dX12_write_134 : decode cX12_write 134 = .ok (.aload_n 0, 1) := by decide +kernel
theorem dX12_write_135 : decode cX12_write 135 = .ok (.bipush 32, 2) := by decide +kernel
theorem dX12_write_137 : decode cX12_write 137 = .ok (.invokevirtual 268, 3) := by decide +kernel
theorem dX12_write_140 : decode cX12_write 140 = .ok (.aload_n 0, 1) := by decide +kernel
theorem dX12_write_141 : decode cX12_write 141 = .ok (.bipush 97, 2) := by decide +kernel
theorem dX12_write_143 : decode cX12_write 143 = .ok (.aload_n 0, 1) := by decide +kernel
theorem dX12_write_144 : decode cX12_write 144 = .ok (.iload_n 1, 1) := by decide +kernel
theorem dX12_write_145 : decode cX12_write 145 = .ok (.iload_n 3, 1) := by decide +kernel
theorem dX12_write_146 : decode cX12_write 146 = .ok (.invokevirtual 214, 3) := by decide +kernel
theorem dX12_write_149 : decode cX12_write 149 = .ok (.aload_n 0, 1) := by decide +kernel
theorem dX12_write_150 : decode cX12_write 150 = .ok (.getfield 86, 3) := by decide +kernel
theorem dX12_write_153 : decode cX12_write 153 = .ok (.irem, 1) := by decide +kernel
theorem dX12_write_154 : decode cX12_write 154 = .ok (.iadd, 1) := by decide +kernel
theorem dX12_write_155 : decode cX12_write 155 = .ok (.invokevirtual 268, 3) := by decide +kernel
theorem dX12_write_158 : decode cX12_write 158 = .ok (.aload_n 0, 1) := by decide +kernel
theorem dX12_write_159 : decode cX12_write 159 = .ok (.bipush 49, 2) := by decide +kernel
theorem dX12_write_161 : decode cX12_write 161 = .ok (.aload_n 0, 1) := by decide +kernel
theorem dX12_write_162 : decode cX12_write 162 = .ok (.iload_n 1, 1) := by decide +kernel
theorem dX12_write_163 : decode cX12_write 163 = .ok (.iload_n 3, 1) := by decide +kernel
theorem dX12_write_164 : decode cX12_write 164 = .ok (.invokevirtual 214, 3) := by decide +kernel
theorem dX12_write_167 : decode cX12_write 167 = .ok (.aload_n 0, 1) := by decide +kernel
theorem dX12_write_168 : decode cX12_write 168 = .ok (.getfield 86, 3) := by decide +kernel
theorem dX12_write_171 : decode cX12_write 171 = .ok (.idiv, 1) := by decide +kernel
theorem dX12_write_172 : decode cX12_write 172 = .ok (.iadd, 1) := by decide +kernel
theorem dX12_write_173 : decode cX12_write 173 = .ok (.invokevirtual 268, 3) := by decide +kernel
theorem dX12_write_176 : decode cX12_write 176 = .ok (.iinc 3 1, 3) := by decide +kernel
theorem dX12_write_179 : decode cX12_write 179 = .ok (.goto (-55), 3) := by decide +kernel
theorem dX12_write_182 : decode cX12_write 182 = .ok (.iload_n 2, 1) := by decide +kernel
theorem dX12_write_183 : decode cX12_write 183 = .ok (.bipush 9, 2) := by decide +kernel
theorem dX12_write_185 : decode cX12_write 185 = .ok (.if_icmp .ne 13, 3) := by decide +kernel
theorem dX12_write_188 : decode cX12_write 188 = .ok (.aload_n 0, 1) := by decide +kernel
theorem dX12_write_189 : decode cX12_write 189 = .ok (.aload_n 0, 1) := by decide +kernel
theorem dX12_write_190 : decode cX12_write 190 = .ok (.getfield 32, 3) := by decide +kernel
theorem dX12_write_193 : decode cX12_write 193 = .ok (.iload_n 1, 1) := by decide +kernel
theorem dX12_write_194 : decode cX12_write 194 = .ok (.iaload, 1) := by decide +kernel
theorem dX12_write_195 : decode cX12_write 195 = .ok (.invokevirtual 277, 3) := by decide +kernel
theorem dX12_write_198 : decode cX12_write 198 = .ok (.aload_n 0, 1) := by decide +kernel
theorem dX12_write_199 : decode cX12_write 199 = .ok (.bipush 59, 2) := by decide +kernel
theorem dX12_write_201 : decode cX12_write 201 = .ok (.invokevirtual 268, 3) := by decide +kernel
theorem dX12_write_204 : decode cX12_write 204 = .ok (.iinc 1 1, 3) := by decide +kernel
theorem dX12_write_207 : decode cX12_write 207 = .ok (.goto (-146), 3) := by decide +kernel
theorem dX12_write_210 : decode cX12_write 210 = .ok (.aload_n 0, 1) := by decide +kernel
theorem dX12_write_211 : decode cX12_write 211 = .ok (.getfield 249, 3) := by decide +kernel
theorem dX12_write_214 : decode cX12_write 214 = .ok (.ireturn, 1) := by decide +kernel
theorem dX12_byteAt_0 : decode cX12_byteAt 0 = .ok (.aload_n 0, 1) := by decide +kernel
theorem dX12_byteAt_1 : decode cX12_byteAt 1 = .ok (.iconst 0, 1) := by decide +kernel
theorem dX12_byteAt_2 : decode cX12_byteAt 2 = .ok (.putfield 83, 3) := by decide +kernel
theorem dX12_byteAt_5 : decode cX12_byteAt 5 = .ok (.iload_n 1, 1) := by decide +kernel
theorem dX12_byteAt_6 : decode cX12_byteAt 6 = .ok (.iconst 0, 1) := by decide +kernel
theorem dX12_byteAt_7 : decode cX12_byteAt 7 = .ok (.aload_n 0, 1) := by decide +kernel
theorem dX12_byteAt_8 : decode cX12_byteAt 8 = .ok (.getfield 249, 3) := by decide +kernel
theorem dX12_byteAt_11 : decode cX12_byteAt 11 = .ok (.iconst 1, 1) := by decide +kernel
theorem dX12_byteAt_12 : decode cX12_byteAt 12 = .ok (.isub, 1) := by decide +kernel
theorem dX12_byteAt_13 : decode cX12_byteAt 13 = .ok (.invokestatic 96, 3) := by decide +kernel
theorem dX12_byteAt_16 : decode cX12_byteAt 16 = .ok (.ifCond .eq 12, 3) := by decide +kernel
theorem dX12_byteAt_19 : decode cX12_byteAt 19 = .ok (.aload_n 0, 1) := by decide +kernel
theorem dX12_byteAt_20 : decode cX12_byteAt 20 = .ok (.getfield 26, 3) := by decide +kernel
theorem dX12_byteAt_23 : decode cX12_byteAt 23 = .ok (.iload_n 1, 1) := by decide +kernel
theorem dX12_byteAt_24 : decode cX12_byteAt 24 = .ok (.iaload, 1) := by decide +kernel
theorem dX12_byteAt_25 : decode cX12_byteAt 25 = .ok (.goto 8, 3) := by decide +kernel
theorem dX12_byteAt_28 : decode cX12_byteAt 28 = .ok (.aload_n 0, 1) := by decide +kernel
theorem dX12_byteAt_29 : decode cX12_byteAt 29 = .ok (.iconst 1, 1) := by decide +kernel
theorem dX12_byteAt_30 : decode cX12_byteAt 30 = .ok (.invokevirtual 106, 3) := by decide +kernel
theorem dX12_byteAt_33 : decode cX12_byteAt 33 = .ok (.ireturn, 1) := by decide +kernel
theorem dX12_put___0 : decode cX12_put__ 0 = .ok (.aload_n 0, 1) := by decide +kernel
theorem dX12_put___1 : decode cX12_put__ 1 = .ok (.iconst 0, 1) := by decide +kernel
theorem dX12_put___2 : decode cX12_put__ 2 = .ok (.putfield 83, 3) := by decide +kernel
theorem dX12_put___5 : decode cX12_put__ 5 = .ok (.aload_n 0, 1) := by decide +kernel
theorem dX12_put___6 : decode cX12_put__ 6 = .ok (.iload_n 1, 1) := by decide +kernel
theorem dX12_put___7 : decode cX12_put__ 7 = .ok (.invokevirtual 280, 3) := by decide +kernel
theorem dX12_put___10 : decode cX12_put__ 10 = .ok (.ifCond .ne 9, 3) := by decide +kernel
theorem dX12_put___13 : decode cX12_put__ 13 = .ok (.aload_n 0, 1) := by decide +kernel
theorem dX12_put___14 : decode cX12_put__ 14 = .ok (.iconst 1, 1) := by decide +kernel
theorem dX12_put___15 : decode cX12_put__ 15 = .ok (.invokevirtual 106, 3) := by decide +kernel
theorem dX12_put___18 : decode cX12_put__ 18 = .ok (.ireturn, 1) := by decide +kernel
theorem dX12_put___19 : decode cX12_put__ 19 = .ok (.iload_n 2, 1) := by decide +kernel
theorem dX12_put___20 : decode cX12_put__ 20 = .ok (.iconst 0, 1) := by decide +kernel
theorem dX12_put___21 : decode cX12_put__ 21 = .ok (.aload_n 0, 1) := by decide +kernel
theorem dX12_put___22 : decode cX12_put__ 22 = .ok (.getfield 201, 3) := by decide +kernel
theorem dX12_put___25 : decode cX12_put__ 25 = .ok (.invokestatic 96, 3) := by decide +kernel
theorem dX12_put___28 : decode cX12_put__ 28 = .ok (.ifCond .ne 9, 3) := by decide +kernel
theorem dX12_put___31 : decode cX12_put__ 31 = .ok (.aload_n 0, 1) := by decide +kernel
theorem dX12_put___32 : decode cX12_put__ 32 = .ok (.iconst 2, 1) := by decide +kernel
theorem dX12_put___33 : decode cX12_put__ 33 = .ok (.invokevirtual 106, 3) := by decide +kernel
theorem dX12_put___36 : decode cX12_put__ 36 = .ok (.ireturn, 1) := by decide +kernel
theorem dX12_put___37 : decode cX12_put__ 37 = .ok (.aload_n 0, 1) := by decide +kernel
theorem dX12_put___38 : decode cX12_put__ 38 = .ok (.getfield 44, 3) := by decide +kernel
theorem dX12_put___41 : decode cX12_put__ 41 = .ok (.iload_n 1, 1) := by decide +kernel
theorem dX12_put___42 : decode cX12_put__ 42 = .ok (.iaload, 1) := by decide +kernel
theorem dX12_put___43 : decode cX12_put__ 43 = .ok (.istore_n 3, 1) := by decide +kernel
theorem dX12_put___44 : decode cX12_put__ 44 = .ok (.aload_n 0, 1) := by decide +kernel
theorem dX12_put___45 : decode cX12_put__ 45 = .ok (.getfield 44, 3) := by decide +kernel
theorem dX12_put___48 : decode cX12_put__ 48 = .ok (.iload_n 1, 1) := by decide +kernel
theorem dX12_put___49 : decode cX12_put__ 49 = .ok (.iload_n 2, 1) := by decide +kernel
theorem dX12_put___50 : decode cX12_put__ 50 = .ok (.iastore, 1) := by decide +kernel
theorem dX12_put___51 : decode cX12_put__ 51 = .ok (.iload_n 3, 1) := by decide +kernel
theorem dX12_put___52 : decode cX12_put__ 52 = .ok (.ireturn, 1) := by decide +kernel
theorem dX12_value_0 : decode cX12_value 0 = .ok (.aload_n 0, 1) := by decide +kernel
theorem dX12_value_1 : decode cX12_value 1 = .ok (.iconst 0, 1) := by decide +kernel
theorem dX12_value_2 : decode cX12_value 2 = .ok (.putfield 83, 3) := by decide +kernel
theorem dX12_value_5 : decode cX12_value 5 = .ok (.aload_n 0, 1) := by decide +kernel
theorem dX12_value_6 : decode cX12_value 6 = .ok (.iload_n 1, 1) := by decide +kernel
theorem dX12_value_7 : decode cX12_value 7 = .ok (.invokevirtual 280, 3) := by decide +kernel
theorem dX12_value_10 : decode cX12_value 10 = .ok (.ifCond .eq 12, 3) := by decide +kernel
theorem dX12_value_13 : decode cX12_value 13 = .ok (.aload_n 0, 1) := by decide +kernel
theorem dX12_value_14 : decode cX12_value 14 = .ok (.getfield 44, 3) := by decide +kernel
theorem dX12_value_17 : decode cX12_value 17 = .ok (.iload_n 1, 1) := by decide +kernel
theorem dX12_value_18 : decode cX12_value 18 = .ok (.iaload, 1) := by decide +kernel
theorem dX12_value_19 : decode cX12_value 19 = .ok (.goto 8, 3) := by decide +kernel
theorem dX12_value_22 : decode cX12_value 22 = .ok (.aload_n 0, 1) := by decide +kernel
theorem dX12_value_23 : decode cX12_value 23 = .ok (.iconst 1, 1) := by decide +kernel
theorem dX12_value_24 : decode cX12_value 24 = .ok (.invokevirtual 106, 3) := by decide +kernel
theorem dX12_value_27 : decode cX12_value 27 = .ok (.ireturn, 1) := by decide +kernel
theorem dX12_clear_0 : decode cX12_clear 0 = .ok (.aload_n 0, 1) := by decide +kernel
theorem dX12_clear_1 : decode cX12_clear 1 = .ok (.iconst 0, 1) := by decide +kernel
theorem dX12_clear_2 : decode cX12_clear 2 = .ok (.putfield 83, 3) := by decide +kernel
theorem dX12_clear_5 : decode cX12_clear 5 = .ok (.aload_n 0, 1) := by decide +kernel
theorem dX12_clear_6 : decode cX12_clear 6 = .ok (.invokevirtual 240, 3) := by decide +kernel
theorem dX12_clear_9 : decode cX12_clear 9 = .ok (.istore_n 1, 1) := by decide +kernel
theorem dX12_clear_10 : decode cX12_clear 10 = .ok (.iconst 0, 1) := by decide +kernel
theorem dX12_clear_11 : decode cX12_clear 11 = .ok (.istore_n 2, 1) := by decide +kernel
theorem dX12_clear_12 : decode cX12_clear 12 = .ok (.iload_n 2, 1) := by decide +kernel
theorem dX12_clear_13 : decode cX12_clear 13 = .ok (.bipush 25, 2) := by decide +kernel
theorem dX12_clear_15 : decode cX12_clear 15 = .ok (.if_icmp .ge 16, 3) := by decide +kernel
theorem dX12_clear_18 : decode cX12_clear 18 = .ok (.aload_n 0, 1) := by decide +kernel
theorem dX12_clear_19 : decode cX12_clear 19 = .ok (.getfield 44, 3) := by decide +kernel
theorem dX12_clear_22 : decode cX12_clear 22 = .ok (.iload_n 2, 1) := by decide +kernel
theorem dX12_clear_23 : decode cX12_clear 23 = .ok (.iconst 0, 1) := by decide +kernel
theorem dX12_clear_24 : decode cX12_clear 24 = .ok (.iastore, 1) := by decide +kernel
theorem dX12_clear_25 : decode cX12_clear 25 = .ok (.iinc 2 1, 3) := by decide +kernel
theorem dX12_clear_28 : decode cX12_clear 28 = .ok (.goto (-16), 3) := by decide +kernel
theorem dX12_clear_31 : decode cX12_clear 31 = .ok (.iload_n 1, 1) := by decide +kernel
theorem dX12_clear_32 : decode cX12_clear 32 = .ok (.ireturn, 1) := by decide +kernel
theorem dX12_hasCell_0 : decode cX12_hasCell 0 = .ok (.iconst 0, 1) := by decide +kernel
theorem dX12_hasCell_1 : decode cX12_hasCell 1 = .ok (.istore_n 3, 1) := by decide +kernel
theorem dX12_hasCell_2 : decode cX12_hasCell 2 = .ok (.iconst 0, 1) := by decide +kernel
theorem dX12_hasCell_3 : decode cX12_hasCell 3 = .ok (.istore 4, 2) := by decide +kernel
theorem dX12_hasCell_5 : decode cX12_hasCell 5 = .ok (.iload 4, 2) := by decide +kernel
theorem dX12_hasCell_7 : decode cX12_hasCell 7 = .ok (.aload_n 0, 1) := by decide +kernel
theorem dX12_hasCell_8 : decode cX12_hasCell 8 = .ok (.getfield 38, 3) := by decide +kernel
theorem dX12_hasCell_11 : decode cX12_hasCell 11 = .ok (.iload_n 1, 1) := by decide +kernel
theorem dX12_hasCell_12 : decode cX12_hasCell 12 = .ok (.iaload, 1) := by decide +kernel
theorem dX12_hasCell_13 : decode cX12_hasCell 13 = .ok (.if_icmp .ge 30, 3) := by decide +kernel
theorem dX12_hasCell_16 : decode cX12_hasCell 16 = .ok (.iload_n 3, 1) := by decide +kernel
theorem dX12_hasCell_17 : decode cX12_hasCell 17 = .ok (.ifCond .ne 14, 3) := by decide +kernel
theorem dX12_hasCell_20 : decode cX12_hasCell 20 = .ok (.aload_n 0, 1) := by decide +kernel
theorem dX12_hasCell_21 : decode cX12_hasCell 21 = .ok (.iload_n 1, 1) := by decide +kernel
theorem dX12_hasCell_22 : decode cX12_hasCell 22 = .ok (.iload 4, 2) := by decide +kernel
theorem dX12_hasCell_24 : decode cX12_hasCell 24 = .ok (.invokevirtual 214, 3) := by decide +kernel
theorem dX12_hasCell_27 : decode cX12_hasCell 27 = .ok (.iload_n 2, 1) := by decide +kernel
theorem dX12_hasCell_28 : decode cX12_hasCell 28 = .ok (.if_icmp .ne 7, 3) := by decide +kernel
theorem dX12_hasCell_31 : decode cX12_hasCell 31 = .ok (.iconst 1, 1) := by decide +kernel
theorem dX12_hasCell_32 : decode cX12_hasCell 32 = .ok (.goto 4, 3) := by decide +kernel
theorem dX12_hasCell_35 : decode cX12_hasCell 35 = .ok (.iconst 0, 1) := by decide +kernel
theorem dX12_hasCell_36 : decode cX12_hasCell 36 = .ok (.istore_n 3, 1) := by decide +kernel
theorem dX12_hasCell_37 : decode cX12_hasCell 37 = .ok (.iinc 4 1, 3) := by decide +kernel
theorem dX12_hasCell_40 : decode cX12_hasCell 40 = .ok (.goto (-35), 3) := by decide +kernel
theorem dX12_hasCell_43 : decode cX12_hasCell 43 = .ok (.iload_n 3, 1) := by decide +kernel
theorem dX12_hasCell_44 : decode cX12_hasCell 44 = .ok (.ireturn, 1) := by decide +kernel
theorem dX12_isAmiss_0 : decode cX12_isAmiss 0 = .ok (.iconst 0, 1) := by decide +kernel
theorem dX12_isAmiss_1 : decode cX12_isAmiss 1 = .ok (.istore_n 3, 1) := by decide +kernel
theorem dX12_isAmiss_2 : decode cX12_isAmiss 2 = .ok (.iload_n 3, 1) := by decide +kernel
theorem dX12_isAmiss_3 : decode cX12_isAmiss 3 = .ok (.aload_n 0, 1) := by decide +kernel
theorem dX12_isAmiss_4 : decode cX12_isAmiss 4 = .ok (.getfield 100, 3) := by decide +kernel
theorem dX12_isAmiss_7 : decode cX12_isAmiss 7 = .ok (.if_icmp .ge 37, 3) := by decide +kernel
theorem dX12_isAmiss_10 : decode cX12_isAmiss 10 = .ok (.iload_n 3, 1) := by decide +kernel
theorem dX12_isAmiss_11 : decode cX12_isAmiss 11 = .ok (.iload_n 2, 1) := by decide +kernel
theorem dX12_isAmiss_12 : decode cX12_isAmiss 12 = .ok (.if_icmp .eq 26, 3) := by decide +kernel
theorem dX12_isAmiss_15 : decode cX12_isAmiss 15 = .ok (.aload_n 0, 1) := by decide +kernel
theorem dX12_isAmiss_16 : decode cX12_isAmiss 16 = .ok (.iload_n 3, 1) := by decide +kernel
theorem dX12_isAmiss_17 : decode cX12_isAmiss 17 = .ok (.iload_n 1, 1) := by decide +kernel
theorem dX12_isAmiss_18 : decode cX12_isAmiss 18 = .ok (.invokevirtual 283, 3) := by decide +kernel
theorem dX12_isAmiss_21 : decode cX12_isAmiss 21 = .ok (.ifCond .eq 17, 3) := by decide +kernel
theorem dX12_isAmiss_24 : decode cX12_isAmiss 24 = .ok (.aload_n 0, 1) := by decide +kernel
theorem dX12_isAmiss_25 : decode cX12_isAmiss 25 = .ok (.iload_n 3, 1) := by decide +kernel
theorem dX12_isAmiss_26 : decode cX12_isAmiss 26 = .ok (.aload_n 0, 1) := by decide +kernel
theorem dX12_isAmiss_27 : decode cX12_isAmiss 27 = .ok (.getfield 47, 3) := by decide +kernel
theorem dX12_isAmiss_30 : decode cX12_isAmiss 30 = .ok (.invokevirtual 234, 3) := by decide +kernel
theorem dX12_isAmiss_33 : decode cX12_isAmiss 33 = .ok (.ifCond .eq 5, 3) := by decide +kernel
theorem dX12_isAmiss_36 : decode cX12_isAmiss 36 = .ok (.iconst 1, 1) := by decide +kernel
theorem dX12_isAmiss_37 : decode cX12_isAmiss 37 = .ok (.ireturn, 1) := by decide +kernel
theorem dX12_isAmiss_38 : decode cX12_isAmiss 38 = .ok (.iinc 3 1, 3) := by decide +kernel
theorem dX12_isAmiss_41 : decode cX12_isAmiss 41 = .ok (.goto (-39), 3) := by decide +kernel
theorem dX12_isAmiss_44 : decode cX12_isAmiss 44 = .ok (.iconst 0, 1) := by decide +kernel
theorem dX12_isAmiss_45 : decode cX12_isAmiss 45 = .ok (.ireturn, 1) := by decide +kernel
theorem dX12_look_0 : decode cX12_look 0 = .ok (.aload_n 0, 1) := by decide +kernel
theorem dX12_look_1 : decode cX12_look 1 = .ok (.invokevirtual 92, 3) := by decide +kernel
theorem dX12_look_4 : decode cX12_look 4 = .ok (.istore_n 3, 1) := by decide +kernel
theorem dX12_look_5 : decode cX12_look 5 = .ok (.bipush 25, 2) := by decide +kernel
theorem dX12_look_7 : decode cX12_look 7 = .ok (.newarray .int, 2) := by decide +kernel
theorem dX12_look_9 : decode cX12_look 9 = .ok (.astore 4, 2) := by decide +kernel
theorem dX12_look_11 : decode cX12_look 11 = .ok (.iconst 0, 1) := by decide +kernel
theorem dX12_look_12 : decode cX12_look 12 = .ok (.istore 5, 2) := by decide +kernel
theorem dX12_look_14 : decode cX12_look 14 = .ok (.iload 5, 2) := by decide +kernel
theorem dX12_look_16 : decode cX12_look 16 = .ok (.bipush 25, 2) := by decide +kernel
theorem dX12_look_18 : decode cX12_look 18 = .ok (.if_icmp .ge 17, 3) := by decide +kernel
theorem dX12_look_21 : decode cX12_look 21 = .ok (.aload_n 0, 1) := by decide +kernel
theorem dX12_look_22 : decode cX12_look 22 = .ok (.getfield 47, 3) := by decide +kernel
theorem dX12_look_25 : decode cX12_look 25 = .ok (.iload 5, 2) := by decide +kernel
theorem dX12_look_27 : decode cX12_look 27 = .ok (.iconst 0, 1) := by decide +kernel
theorem dX12_look_28 : decode cX12_look 28 = .ok (.iastore, 1) := by decide +kernel
theorem dX12_look_29 : decode cX12_look 29 = .ok (.iinc 5 1, 3) := by decide +kernel
theorem dX12_look_32 : decode cX12_look 32 = .ok (.goto (-18), 3) := by decide +kernel
theorem dX12_look_35 : decode cX12_look 35 = .ok (.aload_n 0, 1) := by decide +kernel
theorem dX12_look_36 : decode cX12_look 36 = .ok (.iconst 0, 1) := by decide +kernel
theorem dX12_look_37 : decode cX12_look 37 = .ok (.putfield 286, 3) := by decide +kernel
theorem dX12_look_40 : decode cX12_look 40 = .ok (.aload_n 0, 1) := by decide +kernel
theorem dX12_look_41 : decode cX12_look 41 = .ok (.iconst 0, 1) := by decide +kernel
theorem dX12_look_42 : decode cX12_look 42 = .ok (.putfield 289, 3) := by decide +kernel
theorem dX12_look_45 : decode cX12_look 45 = .ok (.iconst 0, 1) := by decide +kernel
theorem dX12_look_46 : decode cX12_look 46 = .ok (.istore 5, 2) := by decide +kernel
theorem dX12_look_48 : decode cX12_look 48 = .ok (.aload 4, 2) := by decide +kernel
theorem dX12_look_50 : decode cX12_look 50 = .ok (.iconst 0, 1) := by decide +kernel
theorem dX12_look_51 : decode cX12_look 51 = .ok (.aload_n 0, 1) := by decide +kernel
theorem dX12_look_52 : decode cX12_look 52 = .ok (.getfield 53, 3) := by decide +kernel
theorem dX12_look_55 : decode cX12_look 55 = .ok (.iconst 0, 1) := by decide +kernel
theorem dX12_look_56 : decode cX12_look 56 = .ok (.iaload, 1) := by decide +kernel
theorem dX12_look_57 : decode cX12_look 57 = .ok (.ifCond .le 7, 3) := by decide +kernel
theorem dX12_look_60 : decode cX12_look 60 = .ok (.iconst 1, 1) := by decide +kernel
theorem dX12_look_61 : decode cX12_look 61 = .ok (.goto 7, 3) := by decide +kernel
theorem dX12_look_64 : decode cX12_look 64 = .ok (.aload_n 0, 1) := by decide +kernel
theorem dX12_look_65 : decode cX12_look 65 = .ok (.getfield 201, 3) := by decide +kernel
theorem dX12_look_68 : decode cX12_look 68 = .ok (.iastore, 1) := by decide +kernel
theorem dX12_look_69 : decode cX12_look 69 = .ok (.iload 5, 2) := by decide +kernel
theorem dX12_look_71 : decode cX12_look 71 = .ok (.ifCond .lt 218, 3) := by decide +kernel
theorem dX12_look_74 : decode cX12_look 74 = .ok (.aload 4, 2) := by decide +kernel
theorem dX12_look_76 : decode cX12_look 76 = .ok (.iload 5, 2) := by decide +kernel
theorem dX12_look_78 : decode cX12_look 78 = .ok (.iaload, 1) := by decide +kernel
theorem dX12_look_79 : decode cX12_look 79 = .ok (.ifCond .ne 17, 3) := by decide +kernel
theorem dX12_look_82 : decode cX12_look 82 = .ok (.aload_n 0, 1) := by decide +kernel
theorem dX12_look_83 : decode cX12_look 83 = .ok (.getfield 47, 3) := by decide +kernel
theorem dX12_look_86 : decode cX12_look 86 = .ok (.iload 5, 2) := by decide +kernel
theorem dX12_look_88 : decode cX12_look 88 = .ok (.iconst 0, 1) := by decide +kernel
theorem dX12_look_89 : decode cX12_look 89 = .ok (.iastore, 1) := by decide +kernel
theorem dX12_look_90 : decode cX12_look 90 = .ok (.iinc 5 (-1), 3) := by decide +kernel
theorem dX12_look_93 : decode cX12_look 93 = .ok (.goto (-24), 3) := by decide +kernel
theorem dX12_look_96 : decode cX12_look 96 = .ok (.aload_n 0, 1) := by decide +kernel
theorem dX12_look_97 : decode cX12_look 97 = .ok (.getfield 286, 3) := by decide +kernel
theorem dX12_look_100 : decode cX12_look 100 = .ok (.sipush 5000, 3) := by decide +kernel
theorem dX12_look_103 : decode cX12_look 103 = .ok (.if_icmp .ne 5, 3) := by decide +kernel
theorem dX12_look_106 : decode cX12_look 106 = .ok (.iconst (-1), 1) := by decide +kernel
theorem dX12_look_107 : decode cX12_look 107 = .ok (.ireturn, 1) := by decide +kernel
theorem dX12_look_108 : decode cX12_look 108 = .ok (.aload_n 0, 1) := by decide +kernel
theorem dX12_look_109 : decode cX12_look 109 = .ok (.dup, 1) := by decide +kernel
theorem dX12_look_110 : decode cX12_look 110 = .ok (.getfield 286, 3) := by decide +kernel
theorem dX12_look_113 : decode cX12_look 113 = .ok (.iconst 1, 1) := by decide +kernel
theorem dX12_look_114 : decode cX12_look 114 = .ok (.iadd, 1) := by decide +kernel
theorem dX12_look_115 : decode cX12_look 115 = .ok (.putfield 286, 3) := by decide +kernel
theorem dX12_look_118 : decode cX12_look 118 = .ok (.aload_n 0, 1) := by decide +kernel
theorem dX12_look_119 : decode cX12_look 119 = .ok (.getfield 47, 3) := by decide +kernel
theorem dX12_look_122 : decode cX12_look 122 = .ok (.iload 5, 2) := by decide +kernel
theorem dX12_look_124 : decode cX12_look 124 = .ok (.aload_n 0, 1) := by decide +kernel
theorem dX12_look_125 : decode cX12_look 125 = .ok (.getfield 53, 3) := by decide +kernel
theorem dX12_look_128 : decode cX12_look 128 = .ok (.iload 5, 2) := by decide +kernel
theorem dX12_look_130 : decode cX12_look 130 = .ok (.iaload, 1) := by decide +kernel
theorem dX12_look_131 : decode cX12_look 131 = .ok (.ifCond .le 13, 3) := by decide +kernel
theorem dX12_look_134 : decode cX12_look 134 = .ok (.aload_n 0, 1) := by decide +kernel
theorem dX12_look_135 : decode cX12_look 135 = .ok (.getfield 53, 3) := by decide +kernel
theorem dX12_look_138 : decode cX12_look 138 = .ok (.iload 5, 2) := by decide +kernel
theorem dX12_look_140 : decode cX12_look 140 = .ok (.iaload, 1) := by decide +kernel
theorem dX12_look_141 : decode cX12_look 141 = .ok (.goto 28, 3) := by decide +kernel
theorem dX12_look_144 : decode cX12_look 144 = .ok (.aload_n 0, 1) := by decide +kernel
theorem dX12_look_145 : decode cX12_look 145 = .ok (.getfield 50, 3) := by decide +kernel
theorem dX12_look_148 : decode cX12_look 148 = .ok (.iload 5, 2) := by decide +kernel
theorem dX12_look_150 : decode cX12_look 150 = .ok (.iaload, 1) := by decide +kernel
theorem dX12_look_151 : decode cX12_look 151 = .ok (.aload_n 0, 1) := by decide +kernel
theorem dX12_look_152 : decode cX12_look 152 = .ok (.getfield 201, 3) := by decide +kernel
theorem dX12_look_155 : decode cX12_look 155 = .ok (.iadd, 1) := by decide +kernel
theorem dX12_look_156 : decode cX12_look 156 = .ok (.aload 4, 2) := by decide +kernel
theorem dX12_look_158 : decode cX12_look 158 = .ok (.iload 5, 2) := by decide +kernel
theorem dX12_look_160 : decode cX12_look 160 = .ok (.iaload, 1) := by decide +kernel
theorem dX12_look_161 : decode cX12_look 161 = .ok (.isub, 1) := by decide +kernel
theorem dX12_look_162 : decode cX12_look 162 = .ok (.aload_n 0, 1) := by decide +kernel
theorem dX12_look_163 : decode cX12_look 163 = .ok (.getfield 201, 3) := by decide +kernel
theorem dX12_look_166 : decode cX12_look 166 = .ok (.irem, 1) := by decide +kernel
theorem dX12_look_167 : decode cX12_look 167 = .ok (.iconst 1, 1) := by decide +kernel
theorem dX12_look_168 : decode cX12_look 168 = .ok (.iadd, 1) := by decide +kernel
theorem dX12_look_169 : decode cX12_look 169 = .ok (.iastore, 1) := by decide +kernel
theorem dX12_look_170 : decode cX12_look 170 = .ok (.aload 4, 2) := by decide +kernel
theorem dX12_look_172 : decode cX12_look 172 = .ok (.iload 5, 2) := by decide +kernel
theorem dX12_look_174 : decode cX12_look 174 = .ok (.dup2, 1) := by decide +kernel
theorem dX12_look_175 : decode cX12_look 175 = .ok (.iaload, 1) := by decide +kernel
theorem dX12_look_176 : decode cX12_look 176 = .ok (.iconst 1, 1) := by decide +kernel
theorem dX12_look_177 : decode cX12_look 177 = .ok (.isub, 1) := by decide +kernel
theorem dX12_look_178 : decode cX12_look 178 = .ok (.iastore, 1) := by decide +kernel
theorem dX12_look_179 : decode cX12_look 179 = .ok (.aload_n 0, 1) := by decide +kernel
theorem dX12_look_180 : decode cX12_look 180 = .ok (.iload 5, 2) := by decide +kernel
theorem dX12_look_182 : decode cX12_look 182 = .ok (.iload_n 2, 1) := by decide +kernel
theorem dX12_look_183 : decode cX12_look 183 = .ok (.invokevirtual 292, 3) := by decide +kernel
theorem dX12_look_186 : decode cX12_look 186 = .ok (.ifCond .eq 6, 3) := by decide +kernel
theorem dX12_look_189 : decode cX12_look 189 = .ok (.goto (-120), 3) := by decide +kernel
theorem dX12_look_192 : decode cX12_look 192 = .ok (.iload 5, 2) := by decide +kernel
theorem dX12_look_194 : decode cX12_look 194 = .ok (.iconst 1, 1) := by decide +kernel
theorem dX12_look_195 : decode cX12_look 195 = .ok (.iadd, 1) := by decide +kernel
theorem dX12_look_196 : decode cX12_look 196 = .ok (.iload_n 3, 1) := by decide +kernel
theorem dX12_look_197 : decode cX12_look 197 = .ok (.if_icmp .ge 32, 3) := by decide +kernel
theorem dX12_look_200 : decode cX12_look 200 = .ok (.iinc 5 1, 3) := by decide +kernel
theorem dX12_look_203 : decode cX12_look 203 = .ok (.aload 4, 2) := by decide +kernel
theorem dX12_look_205 : decode cX12_look 205 = .ok (.iload 5, 2) := by decide +kernel
theorem dX12_look_207 : decode cX12_look 207 = .ok (.aload_n 0, 1) := by decide +kernel
theorem dX12_look_208 : decode cX12_look 208 = .ok (.getfield 53, 3) := by decide +kernel
theorem dX12_look_211 : decode cX12_look 211 = .ok (.iload 5, 2) := by decide +kernel
theorem dX12_look_213 : decode cX12_look 213 = .ok (.iaload, 1) := by decide +kernel
theorem dX12_look_214 : decode cX12_look 214 = .ok (.ifCond .le 7, 3) := by decide +kernel
theorem dX12_look_217 : decode cX12_look 217 = .ok (.iconst 1, 1) := by decide +kernel
theorem dX12_look_218 : decode cX12_look 218 = .ok (.goto 7, 3) := by decide +kernel
theorem dX12_look_221 : decode cX12_look 221 = .ok (.aload_n 0, 1) := by decide +kernel
theorem dX12_look_222 : decode cX12_look 222 = .ok (.getfield 201, 3) := by decide +kernel
theorem dX12_look_225 : decode cX12_look 225 = .ok (.iastore, 1) := by decide +kernel
theorem dX12_look_226 : decode cX12_look 226 = .ok (.goto (-157), 3) := by decide +kernel
theorem dX12_look_229 : decode cX12_look 229 = .ok (.iconst 0, 1) := by decide +kernel
theorem dX12_look_230 : decode cX12_look 230 = .ok (.istore 6, 2) := by decide +kernel
theorem dX12_look_232 : decode cX12_look 232 = .ok (.iload 6, 2) := by decide +kernel
theorem dX12_look_234 : decode cX12_look 234 = .ok (.iload_n 3, 1) := by decide +kernel
theorem dX12_look_235 : decode cX12_look 235 = .ok (.if_icmp .ge 31, 3) := by decide +kernel
theorem dX12_look_238 : decode cX12_look 238 = .ok (.aload_n 0, 1) := by decide +kernel
theorem dX12_look_239 : decode cX12_look 239 = .ok (.getfield 56, 3) := by decide +kernel
theorem dX12_look_242 : decode cX12_look 242 = .ok (.bipush 25, 2) := by decide +kernel
theorem dX12_look_244 : decode cX12_look 244 = .ok (.aload_n 0, 1) := by decide +kernel
theorem dX12_look_245 : decode cX12_look 245 = .ok (.getfield 289, 3) := by decide +kernel
theorem dX12_look_248 : decode cX12_look 248 = .ok (.imul, 1) := by decide +kernel
theorem dX12_look_249 : decode cX12_look 249 = .ok (.iload 6, 2) := by decide +kernel
theorem dX12_look_251 : decode cX12_look 251 = .ok (.iadd, 1) := by decide +kernel
theorem dX12_look_252 : decode cX12_look 252 = .ok (.aload_n 0, 1) := by decide +kernel
theorem dX12_look_253 : decode cX12_look 253 = .ok (.getfield 47, 3) := by decide +kernel
theorem dX12_look_256 : decode cX12_look 256 = .ok (.iload 6, 2) := by decide +kernel
theorem dX12_look_258 : decode cX12_look 258 = .ok (.iaload, 1) := by decide +kernel
theorem dX12_look_259 : decode cX12_look 259 = .ok (.iastore, 1) := by decide +kernel
theorem dX12_look_260 : decode cX12_look 260 = .ok (.iinc 6 1, 3) := by decide +kernel
theorem dX12_look_263 : decode cX12_look 263 = .ok (.goto (-31), 3) := by decide +kernel
theorem dX12_look_266 : decode cX12_look 266 = .ok (.aload_n 0, 1) := by decide +kernel
theorem dX12_look_267 : decode cX12_look 267 = .ok (.dup, 1) := by decide +kernel
theorem dX12_look_268 : decode cX12_look 268 = .ok (.getfield 289, 3) := by decide +kernel
theorem dX12_look_271 : decode cX12_look 271 = .ok (.iconst 1, 1) := by decide +kernel
theorem dX12_look_272 : decode cX12_look 272 = .ok (.iadd, 1) := by decide +kernel
theorem dX12_look_273 : decode cX12_look 273 = .ok (.putfield 289, 3) := by decide +kernel
theorem dX12_look_276 : decode cX12_look 276 = .ok (.aload_n 0, 1) := by decide +kernel
theorem dX12_look_277 : decode cX12_look 277 = .ok (.getfield 289, 3) := by decide +kernel
theorem dX12_look_280 : decode cX12_look 280 = .ok (.iload_n 1, 1) := by decide +kernel
theorem dX12_look_281 : decode cX12_look 281 = .ok (.if_icmp .ne (-212), 3) := by decide +kernel
theorem dX12_look_284 : decode cX12_look 284 = .ok (.aload_n 0, 1) := by decide +kernel
theorem dX12_look_285 : decode cX12_look 285 = .ok (.getfield 289, 3) := by decide +kernel
theorem dX12_look_288 : decode cX12_look 288 = .ok (.ireturn, 1) := by decide +kernel
theorem dX12_look_289 : decode cX12_look 289 = .ok (.aload_n 0, 1) := by decide +kernel
theorem dX12_look_290 : decode cX12_look 290 = .ok (.getfield 289, 3) := by decide +kernel
theorem dX12_look_293 : decode cX12_look 293 = .ok (.ireturn, 1) := by decide +kernel
theorem dX12_prepare_0 : decode cX12_prepare 0 = .ok (.iconst 0, 1) := by decide +kernel
theorem dX12_prepare_1 : decode cX12_prepare 1 = .ok (.istore_n 2, 1) := by decide +kernel
theorem dX12_prepare_2 : decode cX12_prepare 2 = .ok (.iload_n 2, 1) := by decide +kernel
theorem dX12_prepare_3 : decode cX12_prepare 3 = .ok (.bipush 25, 2) := by decide +kernel
theorem dX12_prepare_5 : decode cX12_prepare 5 = .ok (.if_icmp .ge 36, 3) := by decide +kernel
theorem dX12_prepare_8 : decode cX12_prepare 8 = .ok (.aload_n 0, 1) := by decide +kernel
theorem dX12_prepare_9 : decode cX12_prepare 9 = .ok (.getfield 50, 3) := by decide +kernel
theorem dX12_prepare_12 : decode cX12_prepare 12 = .ok (.iload_n 2, 1) := by decide +kernel
theorem dX12_prepare_13 : decode cX12_prepare 13 = .ok (.iconst 0, 1) := by decide +kernel
theorem dX12_prepare_14 : decode cX12_prepare 14 = .ok (.iastore, 1) := by decide +kernel
theorem dX12_prepare_15 : decode cX12_prepare 15 = .ok (.aload_n 0, 1) := by decide +kernel
theorem dX12_prepare_16 : decode cX12_prepare 16 = .ok (.getfield 53, 3) := by decide +kernel
theorem dX12_prepare_19 : decode cX12_prepare 19 = .ok (.iload_n 2, 1) := by decide +kernel
theorem dX12_prepare_20 : decode cX12_prepare 20 = .ok (.iload_n 1, 1) := by decide +kernel
theorem dX12_prepare_21 : decode cX12_prepare 21 = .ok (.ifCond .eq 12, 3) := by decide +kernel
theorem dX12_prepare_24 : decode cX12_prepare 24 = .ok (.aload_n 0, 1) := by decide +kernel
theorem dX12_prepare_25 : decode cX12_prepare 25 = .ok (.getfield 44, 3) := by decide +kernel
theorem dX12_prepare_28 : decode cX12_prepare 28 = .ok (.iload_n 2, 1) := by decide +kernel
theorem dX12_prepare_29 : decode cX12_prepare 29 = .ok (.iaload, 1) := by decide +kernel
theorem dX12_prepare_30 : decode cX12_prepare 30 = .ok (.goto 4, 3) := by decide +kernel
theorem dX12_prepare_33 : decode cX12_prepare 33 = .ok (.iconst 0, 1) := by decide +kernel
theorem dX12_prepare_34 : decode cX12_prepare 34 = .ok (.iastore, 1) := by decide +kernel
theorem dX12_prepare_35 : decode cX12_prepare 35 = .ok (.iinc 2 1, 3) := by decide +kernel
theorem dX12_prepare_38 : decode cX12_prepare 38 = .ok (.goto (-36), 3) := by decide +kernel
theorem dX12_prepare_41 : decode cX12_prepare 41 = .ok (.return_, 1) := by decide +kernel
theorem dX12_search_0 : decode cX12_search 0 = .ok (.aload_n 0, 1) := by decide +kernel
theorem dX12_search_1 : decode cX12_search 1 = .ok (.iconst 0, 1) := by decide +kernel
theorem dX12_search_2 : decode cX12_search 2 = .ok (.putfield 83, 3) := by decide +kernel
theorem dX12_search_5 : decode cX12_search 5 = .ok (.iload_n 1, 1) := by decide +kernel
theorem dX12_search_6 : decode cX12_search 6 = .ok (.iconst 1, 1) := by decide +kernel
theorem dX12_search_7 : decode cX12_search 7 = .ok (.bipush 30, 2) := by decide +kernel
theorem dX12_search_9 : decode cX12_search 9 = .ok (.invokestatic 96, 3) := by decide +kernel
theorem dX12_search_12 : decode cX12_search 12 = .ok (.ifCond .ne 9, 3) := by decide +kernel
theorem dX12_search_15 : decode cX12_search 15 = .ok (.aload_n 0, 1) := by decide +kernel
theorem dX12_search_16 : decode cX12_search 16 = .ok (.iconst 1, 1) := by decide +kernel
theorem dX12_search_17 : decode cX12_search 17 = .ok (.invokevirtual 106, 3) := by decide +kernel
theorem dX12_search_20 : decode cX12_search 20 = .ok (.ireturn, 1) := by decide +kernel
theorem dX12_search_21 : decode cX12_search 21 = .ok (.aload_n 0, 1) := by decide +kernel
theorem dX12_search_22 : decode cX12_search 22 = .ok (.getfield 86, 3) := by decide +kernel
theorem dX12_search_25 : decode cX12_search 25 = .ok (.ifCond .ne 9, 3) := by decide +kernel
theorem dX12_search_28 : decode cX12_search 28 = .ok (.aload_n 0, 1) := by decide +kernel
theorem dX12_search_29 : decode cX12_search 29 = .ok (.iconst 2, 1) := by decide +kernel
theorem dX12_search_30 : decode cX12_search 30 = .ok (.invokevirtual 106, 3) := by decide +kernel
theorem dX12_search_33 : decode cX12_search 33 = .ok (.ireturn, 1) := by decide +kernel
theorem dX12_search_34 : decode cX12_search 34 = .ok (.aload_n 0, 1) := by decide +kernel
theorem dX12_search_35 : decode cX12_search 35 = .ok (.iconst 1, 1) := by decide +kernel
theorem dX12_search_36 : decode cX12_search 36 = .ok (.invokevirtual 295, 3) := by decide +kernel
theorem dX12_search_39 : decode cX12_search 39 = .ok (.aload_n 0, 1) := by decide +kernel
theorem dX12_search_40 : decode cX12_search 40 = .ok (.iload_n 1, 1) := by decide +kernel
theorem dX12_search_41 : decode cX12_search 41 = .ok (.iconst (-1), 1) := by decide +kernel
theorem dX12_search_42 : decode cX12_search 42 = .ok (.invokevirtual 299, 3) := by decide +kernel
theorem dX12_search_45 : decode cX12_search 45 = .ok (.istore_n 2, 1) := by decide +kernel
theorem dX12_search_46 : decode cX12_search 46 = .ok (.aload_n 0, 1) := by decide +kernel
theorem dX12_search_47 : decode cX12_search 47 = .ok (.aload_n 0, 1) := by decide +kernel
theorem dX12_search_48 : decode cX12_search 48 = .ok (.getfield 286, 3) := by decide +kernel
theorem dX12_search_51 : decode cX12_search 51 = .ok (.putfield 246, 3) := by decide +kernel
theorem dX12_search_54 : decode cX12_search 54 = .ok (.aload_n 0, 1) := by decide +kernel
theorem dX12_search_55 : decode cX12_search 55 = .ok (.iconst 0, 1) := by decide +kernel
theorem dX12_search_56 : decode cX12_search 56 = .ok (.iload_n 2, 1) := by decide +kernel
theorem dX12_search_57 : decode cX12_search 57 = .ok (.invokestatic 218, 3) := by decide +kernel
theorem dX12_search_60 : decode cX12_search 60 = .ok (.putfield 208, 3) := by decide +kernel
theorem dX12_search_63 : decode cX12_search 63 = .ok (.iconst 0, 1) := by decide +kernel
theorem dX12_search_64 : decode cX12_search 64 = .ok (.istore_n 3, 1) := by decide +kernel
theorem dX12_search_65 : decode cX12_search 65 = .ok (.iload_n 3, 1) := by decide +kernel
theorem dX12_search_66 : decode cX12_search 66 = .ok (.aload_n 0, 1) := by decide +kernel
theorem dX12_search_67 : decode cX12_search 67 = .ok (.getfield 208, 3) := by decide +kernel
theorem dX12_search_70 : decode cX12_search 70 = .ok (.bipush 25, 2) := by decide +kernel
theorem dX12_search_72 : decode cX12_search 72 = .ok (.imul, 1) := by decide +kernel
theorem dX12_search_73 : decode cX12_search 73 = .ok (.if_icmp .ge 21, 3) := by decide +kernel
theorem dX12_search_76 : decode cX12_search 76 = .ok (.aload_n 0, 1) := by decide +kernel
theorem dX12_search_77 : decode cX12_search 77 = .ok (.getfield 59, 3) := by decide +kernel
theorem dX12_search_80 : decode cX12_search 80 = .ok (.iload_n 3, 1) := by decide +kernel
theorem dX12_search_81 : decode cX12_search 81 = .ok (.aload_n 0, 1) := by decide +kernel
theorem dX12_search_82 : decode cX12_search 82 = .ok (.getfield 56, 3) := by decide +kernel
theorem dX12_search_85 : decode cX12_search 85 = .ok (.iload_n 3, 1) := by decide +kernel
theorem dX12_search_86 : decode cX12_search 86 = .ok (.iaload, 1) := by decide +kernel
theorem dX12_search_87 : decode cX12_search 87 = .ok (.iastore, 1) := by decide +kernel
theorem dX12_search_88 : decode cX12_search 88 = .ok (.iinc 3 1, 3) := by decide +kernel
theorem dX12_search_91 : decode cX12_search 91 = .ok (.goto (-26), 3) := by decide +kernel
theorem dX12_search_94 : decode cX12_search 94 = .ok (.iload_n 2, 1) := by decide +kernel
theorem dX12_search_95 : decode cX12_search 95 = .ok (.ireturn, 1) := by decide +kernel
theorem dX12_solution_0 : decode cX12_solution 0 = .ok (.aload_n 0, 1) := by decide +kernel
theorem dX12_solution_1 : decode cX12_solution 1 = .ok (.iconst 0, 1) := by decide +kernel
theorem dX12_solution_2 : decode cX12_solution 2 = .ok (.putfield 83, 3) := by decide +kernel
theorem dX12_solution_5 : decode cX12_solution 5 = .ok (.iload_n 1, 1) := by decide +kernel
theorem dX12_solution_6 : decode cX12_solution 6 = .ok (.iconst 0, 1) := by decide +kernel
theorem dX12_solution_7 : decode cX12_solution 7 = .ok (.aload_n 0, 1) := by decide +kernel
theorem dX12_solution_8 : decode cX12_solution 8 = .ok (.getfield 208, 3) := by decide +kernel
theorem dX12_solution_11 : decode cX12_solution 11 = .ok (.iconst 1, 1) := by decide +kernel
theorem dX12_solution_12 : decode cX12_solution 12 = .ok (.isub, 1) := by decide +kernel
theorem dX12_solution_13 : decode cX12_solution 13 = .ok (.invokestatic 96, 3) := by decide +kernel
theorem dX12_solution_16 : decode cX12_solution 16 = .ok (.ifCond .eq 25, 3) := by decide +kernel
theorem dX12_solution_19 : decode cX12_solution 19 = .ok (.aload_n 0, 1) := by decide +kernel
theorem dX12_solution_20 : decode cX12_solution 20 = .ok (.iload_n 2, 1) := by decide +kernel
theorem dX12_solution_21 : decode cX12_solution 21 = .ok (.invokevirtual 280, 3) := by decide +kernel
theorem dX12_solution_24 : decode cX12_solution 24 = .ok (.ifCond .eq 17, 3) := by decide +kernel
theorem dX12_solution_27 : decode cX12_solution 27 = .ok (.aload_n 0, 1) := by decide +kernel
theorem dX12_solution_28 : decode cX12_solution 28 = .ok (.getfield 59, 3) := by decide +kernel
theorem dX12_solution_31 : decode cX12_solution 31 = .ok (.bipush 25, 2) := by decide +kernel
theorem dX12_solution_33 : decode cX12_solution 33 = .ok (.iload_n 1, 1) := by decide +kernel
theorem dX12_solution_34 : decode cX12_solution 34 = .ok (.imul, 1) := by decide +kernel
theorem dX12_solution_35 : decode cX12_solution 35 = .ok (.iload_n 2, 1) := by decide +kernel
theorem dX12_solution_36 : decode cX12_solution 36 = .ok (.iadd, 1) := by decide +kernel
theorem dX12_solution_37 : decode cX12_solution 37 = .ok (.iaload, 1) := by decide +kernel
theorem dX12_solution_38 : decode cX12_solution 38 = .ok (.goto 8, 3) := by decide +kernel
theorem dX12_solution_41 : decode cX12_solution 41 = .ok (.aload_n 0, 1) := by decide +kernel
theorem dX12_solution_42 : decode cX12_solution 42 = .ok (.iconst 1, 1) := by decide +kernel
theorem dX12_solution_43 : decode cX12_solution 43 = .ok (.invokevirtual 106, 3) := by decide +kernel
theorem dX12_solution_46 : decode cX12_solution 46 = .ok (.ireturn, 1) := by decide +kernel
theorem dX12_isNeeded_0 : decode cX12_isNeeded 0 = .ok (.aload_n 0, 1) := by decide +kernel
theorem dX12_isNeeded_1 : decode cX12_isNeeded 1 = .ok (.aload_n 0, 1) := by decide +kernel
theorem dX12_isNeeded_2 : decode cX12_isNeeded 2 = .ok (.iload_n 1, 1) := by decide +kernel
theorem dX12_isNeeded_3 : decode cX12_isNeeded 3 = .ok (.invokevirtual 255, 3) := by decide +kernel
theorem dX12_isNeeded_6 : decode cX12_isNeeded 6 = .ok (.ifCond .eq 7, 3) := by decide +kernel
theorem dX12_isNeeded_9 : decode cX12_isNeeded 9 = .ok (.iconst 0, 1) := by decide +kernel
theorem dX12_isNeeded_10 : decode cX12_isNeeded 10 = .ok (.goto 4, 3) := by decide +kernel
theorem dX12_isNeeded_13 : decode cX12_isNeeded 13 = .ok (.iconst 1, 1) := by decide +kernel
theorem dX12_isNeeded_14 : decode cX12_isNeeded 14 = .ok (.putfield 83, 3) := by decide +kernel
theorem dX12_isNeeded_17 : decode cX12_isNeeded 17 = .ok (.aload_n 0, 1) := by decide +kernel
theorem dX12_isNeeded_18 : decode cX12_isNeeded 18 = .ok (.getfield 83, 3) := by decide +kernel
theorem dX12_isNeeded_21 : decode cX12_isNeeded 21 = .ok (.ifCond .eq 5, 3) := by decide +kernel
theorem dX12_isNeeded_24 : decode cX12_isNeeded 24 = .ok (.iconst 0, 1) := by decide +kernel
theorem dX12_isNeeded_25 : decode cX12_isNeeded 25 = .ok (.ireturn, 1) := by decide +kernel
theorem dX12_isNeeded_26 : decode cX12_isNeeded 26 = .ok (.aload_n 0, 1) := by decide +kernel
theorem dX12_isNeeded_27 : decode cX12_isNeeded 27 = .ok (.iconst 0, 1) := by decide +kernel
theorem dX12_isNeeded_28 : decode cX12_isNeeded 28 = .ok (.invokevirtual 295, 3) := by decide +kernel
theorem dX12_isNeeded_31 : decode cX12_isNeeded 31 = .ok (.aload_n 0, 1) := by decide +kernel
theorem dX12_isNeeded_32 : decode cX12_isNeeded 32 = .ok (.iconst 2, 1) := by decide +kernel
theorem dX12_isNeeded_33 : decode cX12_isNeeded 33 = .ok (.iconst (-1), 1) := by decide +kernel
theorem dX12_isNeeded_34 : decode cX12_isNeeded 34 = .ok (.invokevirtual 299, 3) := by decide +kernel
theorem dX12_isNeeded_37 : decode cX12_isNeeded 37 = .ok (.iconst 1, 1) := by decide +kernel
theorem dX12_isNeeded_38 : decode cX12_isNeeded 38 = .ok (.if_icmp .ne 13, 3) := by decide +kernel
theorem dX12_isNeeded_41 : decode cX12_isNeeded 41 = .ok (.aload_n 0, 1) := by decide +kernel
theorem dX12_isNeeded_42 : decode cX12_isNeeded 42 = .ok (.iconst 2, 1) := by decide +kernel
theorem dX12_isNeeded_43 : decode cX12_isNeeded 43 = .ok (.iload_n 1, 1) := by decide +kernel
theorem dX12_isNeeded_44 : decode cX12_isNeeded 44 = .ok (.invokevirtual 299, 3) := by decide +kernel
theorem dX12_isNeeded_47 : decode cX12_isNeeded 47 = .ok (.iconst 1, 1) := by decide +kernel
theorem dX12_isNeeded_48 : decode cX12_isNeeded 48 = .ok (.if_icmp .eq 7, 3) := by decide +kernel
theorem dX12_isNeeded_51 : decode cX12_isNeeded 51 = .ok (.iconst 1, 1) := by decide +kernel
theorem dX12_isNeeded_52 : decode cX12_isNeeded 52 = .ok (.goto 4, 3) := by decide +kernel
theorem dX12_isNeeded_55 : decode cX12_isNeeded 55 = .ok (.iconst 0, 1) := by decide +kernel
theorem dX12_isNeeded_56 : decode cX12_isNeeded 56 = .ok (.ireturn, 1) := by decide +kernel
theorem dX12_lookAnew_0 : decode cX12_lookAnew 0 = .ok (.iconst 0, 1) := by decide +kernel
theorem dX12_lookAnew_1 : decode cX12_lookAnew 1 = .ok (.istore_n 1, 1) := by decide +kernel
theorem dX12_lookAnew_2 : decode cX12_lookAnew 2 = .ok (.iconst 0, 1) := by decide +kernel
theorem dX12_lookAnew_3 : decode cX12_lookAnew 3 = .ok (.istore_n 2, 1) := by decide +kernel
theorem dX12_lookAnew_4 : decode cX12_lookAnew 4 = .ok (.iload_n 2, 1) := by decide +kernel
theorem dX12_lookAnew_5 : decode cX12_lookAnew 5 = .ok (.aload_n 0, 1) := by decide +kernel
theorem dX12_lookAnew_6 : decode cX12_lookAnew 6 = .ok (.invokevirtual 92, 3) := by decide +kernel
theorem dX12_lookAnew_9 : decode cX12_lookAnew 9 = .ok (.if_icmp .ge 57, 3) := by decide +kernel
theorem dX12_lookAnew_12 : decode cX12_lookAnew 12 = .ok (.aload_n 0, 1) := by decide +kernel
theorem dX12_lookAnew_13 : decode cX12_lookAnew 13 = .ok (.getfield 62, 3) := by decide +kernel
theorem dX12_lookAnew_16 : decode cX12_lookAnew 16 = .ok (.iload_n 2, 1) := by decide +kernel
theorem dX12_lookAnew_17 : decode cX12_lookAnew 17 = .ok (.aload_n 0, 1) := by decide +kernel
theorem dX12_lookAnew_18 : decode cX12_lookAnew 18 = .ok (.getfield 44, 3) := by decide +kernel
theorem dX12_lookAnew_21 : decode cX12_lookAnew 21 = .ok (.iload_n 2, 1) := by decide +kernel
theorem dX12_lookAnew_22 : decode cX12_lookAnew 22 = .ok (.iaload, 1) := by decide +kernel
theorem dX12_lookAnew_23 : decode cX12_lookAnew 23 = .ok (.ifCond .le 16, 3) := by decide +kernel
theorem dX12_lookAnew_26 : decode cX12_lookAnew 26 = .ok (.iconst 1, 1) := by decide +kernel
theorem dX12_lookAnew_27 : decode cX12_lookAnew 27 = .ok (.aload_n 0, 1) := by decide +kernel
theorem dX12_lookAnew_28 : decode cX12_lookAnew 28 = .ok (.getfield 44, 3) := by decide +kernel
theorem dX12_lookAnew_31 : decode cX12_lookAnew 31 = .ok (.iload_n 2, 1) := by decide +kernel
theorem dX12_lookAnew_32 : decode cX12_lookAnew 32 = .ok (.iaload, 1) := by decide +kernel
theorem dX12_lookAnew_33 : decode cX12_lookAnew 33 = .ok (.iconst 1, 1) := by decide +kernel
theorem dX12_lookAnew_34 : decode cX12_lookAnew 34 = .ok (.isub, 1) := by decide +kernel
theorem dX12_lookAnew_35 : decode cX12_lookAnew 35 = .ok (.ishl, 1) := by decide +kernel
theorem dX12_lookAnew_36 : decode cX12_lookAnew 36 = .ok (.goto 11, 3) := by decide +kernel
theorem dX12_lookAnew_39 : decode cX12_lookAnew 39 = .ok (.iconst 1, 1) := by decide +kernel
theorem dX12_lookAnew_40 : decode cX12_lookAnew 40 = .ok (.aload_n 0, 1) := by decide +kernel
theorem dX12_lookAnew_41 : decode cX12_lookAnew 41 = .ok (.getfield 201, 3) := by decide +kernel
theorem dX12_lookAnew_44 : decode cX12_lookAnew 44 = .ok (.ishl, 1) := by decide +kernel
theorem dX12_lookAnew_45 : decode cX12_lookAnew 45 = .ok (.iconst 1, 1) := by decide +kernel
theorem dX12_lookAnew_46 : decode cX12_lookAnew 46 = .ok (.isub, 1) := by decide +kernel
theorem dX12_lookAnew_47 : decode cX12_lookAnew 47 = .ok (.iastore, 1) := by decide +kernel
theorem dX12_lookAnew_48 : decode cX12_lookAnew 48 = .ok (.iload_n 1, 1) := by decide +kernel
theorem dX12_lookAnew_49 : decode cX12_lookAnew 49 = .ok (.aload_n 0, 1) := by decide +kernel
theorem dX12_lookAnew_50 : decode cX12_lookAnew 50 = .ok (.getfield 62, 3) := by decide +kernel
theorem dX12_lookAnew_53 : decode cX12_lookAnew 53 = .ok (.iload_n 2, 1) := by decide +kernel
theorem dX12_lookAnew_54 : decode cX12_lookAnew 54 = .ok (.iaload, 1) := by decide +kernel
theorem dX12_lookAnew_55 : decode cX12_lookAnew 55 = .ok (.invokestatic 302, 3) := by decide +kernel
theorem dX12_lookAnew_58 : decode cX12_lookAnew 58 = .ok (.iadd, 1) := by decide +kernel
theorem dX12_lookAnew_59 : decode cX12_lookAnew 59 = .ok (.istore_n 1, 1) := by decide +kernel
theorem dX12_lookAnew_60 : decode cX12_lookAnew 60 = .ok (.iinc 2 1, 3) := by decide +kernel
theorem dX12_lookAnew_63 : decode cX12_lookAnew 63 = .ok (.goto (-59), 3) := by decide +kernel
theorem dX12_lookAnew_66 : decode cX12_lookAnew 66 = .ok (.aload_n 0, 1) := by decide +kernel
theorem dX12_lookAnew_67 : decode cX12_lookAnew 67 = .ok (.iconst 0, 1) := by decide +kernel
theorem dX12_lookAnew_68 : decode cX12_lookAnew 68 = .ok (.putfield 307, 3) := by decide +kernel
theorem dX12_lookAnew_71 : decode cX12_lookAnew 71 = .ok (.aload_n 0, 1) := by decide +kernel
theorem dX12_lookAnew_72 : decode cX12_lookAnew 72 = .ok (.iconst 0, 1) := by decide +kernel
theorem dX12_lookAnew_73 : decode cX12_lookAnew 73 = .ok (.putfield 310, 3) := by decide +kernel
theorem dX12_lookAnew_76 : decode cX12_lookAnew 76 = .ok (.iload_n 1, 1) := by decide +kernel
theorem dX12_lookAnew_77 : decode cX12_lookAnew 77 = .ok (.ireturn, 1) := by decide +kernel
theorem dX12_look__0 : decode cX12_look_ 0 = .ok (.aload_n 0, 1) := by decide +kernel
theorem dX12_look__1 : decode cX12_look_ 1 = .ok (.iconst 0, 1) := by decide +kernel
theorem dX12_look__2 : decode cX12_look_ 2 = .ok (.putfield 83, 3) := by decide +kernel
theorem dX12_look__5 : decode cX12_look_ 5 = .ok (.aload_n 0, 1) := by decide +kernel
theorem dX12_look__6 : decode cX12_look_ 6 = .ok (.invokevirtual 211, 3) := by decide +kernel
theorem dX12_look__9 : decode cX12_look_ 9 = .ok (.ireturn, 1) := by decide +kernel
theorem dX12_possible_0 : decode cX12_possible 0 = .ok (.aload_n 0, 1) := by decide +kernel
theorem dX12_possible_1 : decode cX12_possible 1 = .ok (.iconst 0, 1) := by decide +kernel
theorem dX12_possible_2 : decode cX12_possible 2 = .ok (.putfield 83, 3) := by decide +kernel
theorem dX12_possible_5 : decode cX12_possible 5 = .ok (.aload_n 0, 1) := by decide +kernel
theorem dX12_possible_6 : decode cX12_possible 6 = .ok (.iload_n 1, 1) := by decide +kernel
theorem dX12_possible_7 : decode cX12_possible 7 = .ok (.invokevirtual 280, 3) := by decide +kernel
theorem dX12_possible_10 : decode cX12_possible 10 = .ok (.ifCond .eq 12, 3) := by decide +kernel
theorem dX12_possible_13 : decode cX12_possible 13 = .ok (.aload_n 0, 1) := by decide +kernel
theorem dX12_possible_14 : decode cX12_possible 14 = .ok (.getfield 62, 3) := by decide +kernel
theorem dX12_possible_17 : decode cX12_possible 17 = .ok (.iload_n 1, 1) := by decide +kernel
theorem dX12_possible_18 : decode cX12_possible 18 = .ok (.iaload, 1) := by decide +kernel
theorem dX12_possible_19 : decode cX12_possible 19 = .ok (.goto 8, 3) := by decide +kernel
theorem dX12_possible_22 : decode cX12_possible 22 = .ok (.aload_n 0, 1) := by decide +kernel
theorem dX12_possible_23 : decode cX12_possible 23 = .ok (.iconst 1, 1) := by decide +kernel
theorem dX12_possible_24 : decode cX12_possible 24 = .ok (.invokevirtual 106, 3) := by decide +kernel
theorem dX12_possible_27 : decode cX12_possible 27 = .ok (.ireturn, 1) := by decide +kernel
theorem dX12_canFill_0 : decode cX12_canFill 0 = .ok (.aload_n 0, 1) := by decide +kernel
theorem dX12_canFill_1 : decode cX12_canFill 1 = .ok (.iload_n 1, 1) := by decide +kernel
theorem dX12_canFill_2 : decode cX12_canFill 2 = .ok (.aload_n 0, 1) := by decide +kernel
theorem dX12_canFill_3 : decode cX12_canFill 3 = .ok (.getfield 47, 3) := by decide +kernel
theorem dX12_canFill_6 : decode cX12_canFill 6 = .ok (.invokevirtual 234, 3) := by decide +kernel
theorem dX12_canFill_9 : decode cX12_canFill 9 = .ok (.ifCond .eq 5, 3) := by decide +kernel
theorem dX12_canFill_12 : decode cX12_canFill 12 = .ok (.iconst 0, 1) := by decide +kernel
theorem dX12_canFill_13 : decode cX12_canFill 13 = .ok (.ireturn, 1) := by decide +kernel
theorem dX12_canFill_14 : decode cX12_canFill 14 = .ok (.iload_n 2, 1) := by decide +kernel
theorem dX12_canFill_15 : decode cX12_canFill 15 = .ok (.aload_n 0, 1) := by decide +kernel
theorem dX12_canFill_16 : decode cX12_canFill 16 = .ok (.getfield 38, 3) := by decide +kernel
theorem dX12_canFill_19 : decode cX12_canFill 19 = .ok (.iload_n 1, 1) := by decide +kernel
theorem dX12_canFill_20 : decode cX12_canFill 20 = .ok (.iaload, 1) := by decide +kernel
theorem dX12_canFill_21 : decode cX12_canFill 21 = .ok (.if_icmp .ne 5, 3) := by decide +kernel
theorem dX12_canFill_24 : decode cX12_canFill 24 = .ok (.iconst 1, 1) := by decide +kernel
theorem dX12_canFill_25 : decode cX12_canFill 25 = .ok (.ireturn, 1) := by decide +kernel
theorem dX12_canFill_26 : decode cX12_canFill 26 = .ok (.iload_n 2, 1) := by decide +kernel
theorem dX12_canFill_27 : decode cX12_canFill 27 = .ok (.iload_n 3, 1) := by decide +kernel
theorem dX12_canFill_28 : decode cX12_canFill 28 = .ok (.if_icmp .ne 13, 3) := by decide +kernel
theorem dX12_canFill_31 : decode cX12_canFill 31 = .ok (.aload_n 0, 1) := by decide +kernel
theorem dX12_canFill_32 : decode cX12_canFill 32 = .ok (.iload_n 1, 1) := by decide +kernel
theorem dX12_canFill_33 : decode cX12_canFill 33 = .ok (.iload_n 2, 1) := by decide +kernel
theorem dX12_canFill_34 : decode cX12_canFill 34 = .ok (.iconst 1, 1) := by decide +kernel
theorem dX12_canFill_35 : decode cX12_canFill 35 = .ok (.iadd, 1) := by decide +kernel
theorem dX12_canFill_36 : decode cX12_canFill 36 = .ok (.iload_n 3, 1) := by decide +kernel
theorem dX12_canFill_37 : decode cX12_canFill 37 = .ok (.invokevirtual 313, 3) := by decide +kernel
theorem dX12_canFill_40 : decode cX12_canFill 40 = .ok (.ireturn, 1) := by decide +kernel
theorem dX12_canFill_41 : decode cX12_canFill 41 = .ok (.aload_n 0, 1) := by decide +kernel
theorem dX12_canFill_42 : decode cX12_canFill 42 = .ok (.iload_n 1, 1) := by decide +kernel
theorem dX12_canFill_43 : decode cX12_canFill 43 = .ok (.iload_n 2, 1) := by decide +kernel
theorem dX12_canFill_44 : decode cX12_canFill 44 = .ok (.invokevirtual 214, 3) := by decide +kernel
theorem dX12_canFill_47 : decode cX12_canFill 47 = .ok (.istore 4, 2) := by decide +kernel
theorem dX12_canFill_49 : decode cX12_canFill 49 = .ok (.iconst 0, 1) := by decide +kernel
theorem dX12_canFill_50 : decode cX12_canFill 50 = .ok (.istore 5, 2) := by decide +kernel
theorem dX12_canFill_52 : decode cX12_canFill 52 = .ok (.iconst 1, 1) := by decide +kernel
theorem dX12_canFill_53 : decode cX12_canFill 53 = .ok (.istore 6, 2) := by decide +kernel
theorem dX12_canFill_55 : decode cX12_canFill 55 = .ok (.iload 6, 2) := by decide +kernel
theorem dX12_canFill_57 : decode cX12_canFill 57 = .ok (.aload_n 0, 1) := by decide +kernel
theorem dX12_canFill_58 : decode cX12_canFill 58 = .ok (.getfield 201, 3) := by decide +kernel
theorem dX12_canFill_61 : decode cX12_canFill 61 = .ok (.if_icmp .gt 54, 3) := by decide +kernel
theorem dX12_canFill_64 : decode cX12_canFill 64 = .ok (.iload 5, 2) := by decide +kernel
theorem dX12_canFill_66 : decode cX12_canFill 66 = .ok (.ifCond .ne 49, 3) := by decide +kernel
theorem dX12_canFill_69 : decode cX12_canFill 69 = .ok (.aload_n 0, 1) := by decide +kernel
theorem dX12_canFill_70 : decode cX12_canFill 70 = .ok (.getfield 62, 3) := by decide +kernel
theorem dX12_canFill_73 : decode cX12_canFill 73 = .ok (.iload 4, 2) := by decide +kernel
theorem dX12_canFill_75 : decode cX12_canFill 75 = .ok (.iaload, 1) := by decide +kernel
theorem dX12_canFill_76 : decode cX12_canFill 76 = .ok (.iload 6, 2) := by decide +kernel
theorem dX12_canFill_78 : decode cX12_canFill 78 = .ok (.iconst 1, 1) := by decide +kernel
theorem dX12_canFill_79 : decode cX12_canFill 79 = .ok (.isub, 1) := by decide +kernel
theorem dX12_canFill_80 : decode cX12_canFill 80 = .ok (.ishr, 1) := by decide +kernel
theorem dX12_canFill_81 : decode cX12_canFill 81 = .ok (.iconst 1, 1) := by decide +kernel
theorem dX12_canFill_82 : decode cX12_canFill 82 = .ok (.iand, 1) := by decide +kernel
theorem dX12_canFill_83 : decode cX12_canFill 83 = .ok (.ifCond .ne 6, 3) := by decide +kernel
theorem dX12_canFill_86 : decode cX12_canFill 86 = .ok (.goto 23, 3) := by decide +kernel
theorem dX12_canFill_89 : decode cX12_canFill 89 = .ok (.aload_n 0, 1) := by decide +kernel
theorem dX12_canFill_90 : decode cX12_canFill 90 = .ok (.getfield 47, 3) := by decide +kernel
theorem dX12_canFill_93 : decode cX12_canFill 93 = .ok (.iload 4, 2) := by decide +kernel
theorem dX12_canFill_95 : decode cX12_canFill 95 = .ok (.iload 6, 2) := by decide +kernel
theorem dX12_canFill_97 : decode cX12_canFill 97 = .ok (.iastore, 1) := by decide +kernel
theorem dX12_canFill_98 : decode cX12_canFill 98 = .ok (.aload_n 0, 1) := by decide +kernel
theorem dX12_canFill_99 : decode cX12_canFill 99 = .ok (.iload_n 1, 1) := by decide +kernel
theorem dX12_canFill_100 : decode cX12_canFill 100 = .ok (.iload_n 2, 1) := by decide +kernel
theorem dX12_canFill_101 : decode cX12_canFill 101 = .ok (.iconst 1, 1) := by decide +kernel
theorem dX12_canFill_102 : decode cX12_canFill 102 = .ok (.iadd, 1) := by decide +kernel
theorem dX12_canFill_103 : decode cX12_canFill 103 = .ok (.iload_n 3, 1) := by decide +kernel
theorem dX12_canFill_104 : decode cX12_canFill 104 = .ok (.invokevirtual 313, 3) := by decide +kernel
theorem dX12_canFill_107 : decode cX12_canFill 107 = .ok (.istore 5, 2) := by decide +kernel
theorem dX12_canFill_109 : decode cX12_canFill 109 = .ok (.iinc 6 1, 3) := by decide +kernel
theorem dX12_canFill_112 : decode cX12_canFill 112 = .ok (.goto (-57), 3) := by decide +kernel
theorem dX12_canFill_115 : decode cX12_canFill 115 = .ok (.aload_n 0, 1) := by decide +kernel
theorem dX12_canFill_116 : decode cX12_canFill 116 = .ok (.getfield 47, 3) := by decide +kernel
theorem dX12_canFill_119 : decode cX12_canFill 119 = .ok (.iload 4, 2) := by decide +kernel
theorem dX12_canFill_121 : decode cX12_canFill 121 = .ok (.iconst 0, 1) := by decide +kernel
theorem dX12_canFill_122 : decode cX12_canFill 122 = .ok (.iastore, 1) := by decide +kernel
theorem dX12_canFill_123 : decode cX12_canFill 123 = .ok (.iload 5, 2) := by decide +kernel
theorem dX12_canFill_125 : decode cX12_canFill 125 = .ok (.ireturn, 1) := by decide +kernel
theorem dX12_isPossible_0 : decode cX12_isPossible 0 = .ok (.iconst 0, 1) := by decide +kernel
theorem dX12_isPossible_1 : decode cX12_isPossible 1 = .ok (.istore 4, 2) := by decide +kernel
theorem dX12_isPossible_3 : decode cX12_isPossible 3 = .ok (.iload 4, 2) := by decide +kernel
theorem dX12_isPossible_5 : decode cX12_isPossible 5 = .ok (.bipush 25, 2) := by decide +kernel
theorem dX12_isPossible_7 : decode cX12_isPossible 7 = .ok (.if_icmp .ge 17, 3) := by decide +kernel
theorem dX12_isPossible_10 : decode cX12_isPossible 10 = .ok (.aload_n 0, 1) := by decide +kernel
theorem dX12_isPossible_11 : decode cX12_isPossible 11 = .ok (.getfield 47, 3) := by decide +kernel
theorem dX12_isPossible_14 : decode cX12_isPossible 14 = .ok (.iload 4, 2) := by decide +kernel
theorem dX12_isPossible_16 : decode cX12_isPossible 16 = .ok (.iconst 0, 1) := by decide +kernel
theorem dX12_isPossible_17 : decode cX12_isPossible 17 = .ok (.iastore, 1) := by decide +kernel
theorem dX12_isPossible_18 : decode cX12_isPossible 18 = .ok (.iinc 4 1, 3) := by decide +kernel
theorem dX12_isPossible_21 : decode cX12_isPossible 21 = .ok (.goto (-18), 3) := by decide +kernel
theorem dX12_isPossible_24 : decode cX12_isPossible 24 = .ok (.aload_n 0, 1) := by decide +kernel
theorem dX12_isPossible_25 : decode cX12_isPossible 25 = .ok (.getfield 47, 3) := by decide +kernel
theorem dX12_isPossible_28 : decode cX12_isPossible 28 = .ok (.aload_n 0, 1) := by decide +kernel
theorem dX12_isPossible_29 : decode cX12_isPossible 29 = .ok (.iload_n 1, 1) := by decide +kernel
theorem dX12_isPossible_30 : decode cX12_isPossible 30 = .ok (.iload_n 2, 1) := by decide +kernel
theorem dX12_isPossible_31 : decode cX12_isPossible 31 = .ok (.invokevirtual 214, 3) := by decide +kernel
theorem dX12_isPossible_34 : decode cX12_isPossible 34 = .ok (.iload_n 3, 1) := by decide +kernel
theorem dX12_isPossible_35 : decode cX12_isPossible 35 = .ok (.iastore, 1) := by decide +kernel
theorem dX12_isPossible_36 : decode cX12_isPossible 36 = .ok (.aload_n 0, 1) := by decide +kernel
theorem dX12_isPossible_37 : decode cX12_isPossible 37 = .ok (.iload_n 1, 1) := by decide +kernel
theorem dX12_isPossible_38 : decode cX12_isPossible 38 = .ok (.iconst 0, 1) := by decide +kernel
theorem dX12_isPossible_39 : decode cX12_isPossible 39 = .ok (.iload_n 2, 1) := by decide +kernel
theorem dX12_isPossible_40 : decode cX12_isPossible 40 = .ok (.invokevirtual 313, 3) := by decide +kernel
theorem dX12_isPossible_43 : decode cX12_isPossible 43 = .ok (.ireturn, 1) := by decide +kernel
theorem dX12_gradeOf_0 : decode cX12_gradeOf 0 = .ok (.iconst 0, 1) := by decide +kernel
theorem dX12_gradeOf_1 : decode cX12_gradeOf 1 = .ok (.istore_n 2, 1) := by decide +kernel
theorem dX12_gradeOf_2 : decode cX12_gradeOf 2 = .ok (.iconst 0, 1) := by decide +kernel
theorem dX12_gradeOf_3 : decode cX12_gradeOf 3 = .ok (.istore_n 3, 1) := by decide +kernel
theorem dX12_gradeOf_4 : decode cX12_gradeOf 4 = .ok (.iload_n 3, 1) := by decide +kernel
theorem dX12_gradeOf_5 : decode cX12_gradeOf 5 = .ok (.aload_n 0, 1) := by decide +kernel
theorem dX12_gradeOf_6 : decode cX12_gradeOf 6 = .ok (.getfield 38, 3) := by decide +kernel
theorem dX12_gradeOf_9 : decode cX12_gradeOf 9 = .ok (.iload_n 1, 1) := by decide +kernel
theorem dX12_gradeOf_10 : decode cX12_gradeOf 10 = .ok (.iaload, 1) := by decide +kernel
theorem dX12_gradeOf_11 : decode cX12_gradeOf 11 = .ok (.if_icmp .ge 35, 3) := by decide +kernel
theorem dX12_gradeOf_14 : decode cX12_gradeOf 14 = .ok (.iload_n 2, 1) := by decide +kernel
theorem dX12_gradeOf_15 : decode cX12_gradeOf 15 = .ok (.aload_n 0, 1) := by decide +kernel
theorem dX12_gradeOf_16 : decode cX12_gradeOf 16 = .ok (.getfield 62, 3) := by decide +kernel
theorem dX12_gradeOf_19 : decode cX12_gradeOf 19 = .ok (.aload_n 0, 1) := by decide +kernel
theorem dX12_gradeOf_20 : decode cX12_gradeOf 20 = .ok (.iload_n 1, 1) := by decide +kernel
theorem dX12_gradeOf_21 : decode cX12_gradeOf 21 = .ok (.iload_n 3, 1) := by decide +kernel
theorem dX12_gradeOf_22 : decode cX12_gradeOf 22 = .ok (.invokevirtual 214, 3) := by decide +kernel
theorem dX12_gradeOf_25 : decode cX12_gradeOf 25 = .ok (.iaload, 1) := by decide +kernel
theorem dX12_gradeOf_26 : decode cX12_gradeOf 26 = .ok (.invokestatic 302, 3) := by decide +kernel
theorem dX12_gradeOf_29 : decode cX12_gradeOf 29 = .ok (.iconst 1, 1) := by decide +kernel
theorem dX12_gradeOf_30 : decode cX12_gradeOf 30 = .ok (.if_icmp .le 7, 3) := by decide +kernel
theorem dX12_gradeOf_33 : decode cX12_gradeOf 33 = .ok (.iconst 1, 1) := by decide +kernel
theorem dX12_gradeOf_34 : decode cX12_gradeOf 34 = .ok (.goto 4, 3) := by decide +kernel
theorem dX12_gradeOf_37 : decode cX12_gradeOf 37 = .ok (.iconst 0, 1) := by decide +kernel
theorem dX12_gradeOf_38 : decode cX12_gradeOf 38 = .ok (.iadd, 1) := by decide +kernel
theorem dX12_gradeOf_39 : decode cX12_gradeOf 39 = .ok (.istore_n 2, 1) := by decide +kernel
theorem dX12_gradeOf_40 : decode cX12_gradeOf 40 = .ok (.iinc 3 1, 3) := by decide +kernel
theorem dX12_gradeOf_43 : decode cX12_gradeOf 43 = .ok (.goto (-39), 3) := by decide +kernel
theorem dX12_gradeOf_46 : decode cX12_gradeOf 46 = .ok (.iload_n 2, 1) := by decide +kernel
theorem dX12_gradeOf_47 : decode cX12_gradeOf 47 = .ok (.ireturn, 1) := by decide +kernel
theorem dX12_findHint_0 : decode cX12_findHint 0 = .ok (.iconst 0, 1) := by decide +kernel
theorem dX12_findHint_1 : decode cX12_findHint 1 = .ok (.istore_n 1, 1) := by decide +kernel
theorem dX12_findHint_2 : decode cX12_findHint 2 = .ok (.iload_n 1, 1) := by decide +kernel
theorem dX12_findHint_3 : decode cX12_findHint 3 = .ok (.aload_n 0, 1) := by decide +kernel
theorem dX12_findHint_4 : decode cX12_findHint 4 = .ok (.getfield 100, 3) := by decide +kernel
theorem dX12_findHint_7 : decode cX12_findHint 7 = .ok (.if_icmp .ge 115, 3) := by decide +kernel
theorem dX12_findHint_10 : decode cX12_findHint 10 = .ok (.iconst 0, 1) := by decide +kernel
theorem dX12_findHint_11 : decode cX12_findHint 11 = .ok (.istore_n 2, 1) := by decide +kernel
theorem dX12_findHint_12 : decode cX12_findHint 12 = .ok (.iload_n 2, 1) := by decide +kernel
theorem dX12_findHint_13 : decode cX12_findHint 13 = .ok (.aload_n 0, 1) := by decide +kernel
theorem dX12_findHint_14 : decode cX12_findHint 14 = .ok (.getfield 38, 3) := by decide +kernel
theorem dX12_findHint_17 : decode cX12_findHint 17 = .ok (.iload_n 1, 1) := by decide +kernel
theorem dX12_findHint_18 : decode cX12_findHint 18 = .ok (.iaload, 1) := by decide +kernel
theorem dX12_findHint_19 : decode cX12_findHint 19 = .ok (.if_icmp .ge 97, 3) := by decide +kernel
theorem dX12_findHint_22 : decode cX12_findHint 22 = .ok (.iconst 1, 1) := by decide +kernel
theorem dX12_findHint_23 : decode cX12_findHint 23 = .ok (.istore_n 3, 1) := by decide +kernel
theorem dX12_findHint_24 : decode cX12_findHint 24 = .ok (.iload_n 3, 1) := by decide +kernel
theorem dX12_findHint_25 : decode cX12_findHint 25 = .ok (.aload_n 0, 1) := by decide +kernel
theorem dX12_findHint_26 : decode cX12_findHint 26 = .ok (.getfield 201, 3) := by decide +kernel
theorem dX12_findHint_29 : decode cX12_findHint 29 = .ok (.if_icmp .gt 81, 3) := by decide +kernel
theorem dX12_findHint_32 : decode cX12_findHint 32 = .ok (.aload_n 0, 1) := by decide +kernel
theorem dX12_findHint_33 : decode cX12_findHint 33 = .ok (.getfield 62, 3) := by decide +kernel
theorem dX12_findHint_36 : decode cX12_findHint 36 = .ok (.aload_n 0, 1) := by decide +kernel
theorem dX12_findHint_37 : decode cX12_findHint 37 = .ok (.iload_n 1, 1) := by decide +kernel
theorem dX12_findHint_38 : decode cX12_findHint 38 = .ok (.iload_n 2, 1) := by decide +kernel
theorem dX12_findHint_39 : decode cX12_findHint 39 = .ok (.invokevirtual 214, 3) := by decide +kernel
theorem dX12_findHint_42 : decode cX12_findHint 42 = .ok (.iaload, 1) := by decide +kernel
theorem dX12_findHint_43 : decode cX12_findHint 43 = .ok (.iload_n 3, 1) := by decide +kernel
theorem dX12_findHint_44 : decode cX12_findHint 44 = .ok (.iconst 1, 1) := by decide +kernel
theorem dX12_findHint_45 : decode cX12_findHint 45 = .ok (.isub, 1) := by decide +kernel
theorem dX12_findHint_46 : decode cX12_findHint 46 = .ok (.ishr, 1) := by decide +kernel
theorem dX12_findHint_47 : decode cX12_findHint 47 = .ok (.iconst 1, 1) := by decide +kernel
theorem dX12_findHint_48 : decode cX12_findHint 48 = .ok (.iand, 1) := by decide +kernel
theorem dX12_findHint_49 : decode cX12_findHint 49 = .ok (.ifCond .eq 55, 3) := by decide +kernel
theorem dX12_findHint_52 : decode cX12_findHint 52 = .ok (.aload_n 0, 1) := by decide +kernel
theorem dX12_findHint_53 : decode cX12_findHint 53 = .ok (.iload_n 1, 1) := by decide +kernel
theorem dX12_findHint_54 : decode cX12_findHint 54 = .ok (.iload_n 2, 1) := by decide +kernel
theorem dX12_findHint_55 : decode cX12_findHint 55 = .ok (.iload_n 3, 1) := by decide +kernel
theorem dX12_findHint_56 : decode cX12_findHint 56 = .ok (.invokevirtual 316, 3) := by decide +kernel
theorem dX12_findHint_59 : decode cX12_findHint 59 = .ok (.ifCond .eq 6, 3) := by decide +kernel
theorem dX12_findHint_62 : decode cX12_findHint 62 = .ok (.goto 42, 3) := by decide +kernel
theorem dX12_findHint_65 : decode cX12_findHint 65 = .ok (.aload_n 0, 1) := by decide +kernel
theorem dX12_findHint_66 : decode cX12_findHint 66 = .ok (.getfield 80, 3) := by decide +kernel
theorem dX12_findHint_69 : decode cX12_findHint 69 = .ok (.iconst 0, 1) := by decide +kernel
theorem dX12_findHint_70 : decode cX12_findHint 70 = .ok (.iload_n 1, 1) := by decide +kernel
theorem dX12_findHint_71 : decode cX12_findHint 71 = .ok (.iastore, 1) := by decide +kernel
theorem dX12_findHint_72 : decode cX12_findHint 72 = .ok (.aload_n 0, 1) := by decide +kernel
theorem dX12_findHint_73 : decode cX12_findHint 73 = .ok (.getfield 80, 3) := by decide +kernel
theorem dX12_findHint_76 : decode cX12_findHint 76 = .ok (.iconst 1, 1) := by decide +kernel
theorem dX12_findHint_77 : decode cX12_findHint 77 = .ok (.aload_n 0, 1) := by decide +kernel
theorem dX12_findHint_78 : decode cX12_findHint 78 = .ok (.iload_n 1, 1) := by decide +kernel
theorem dX12_findHint_79 : decode cX12_findHint 79 = .ok (.iload_n 2, 1) := by decide +kernel
theorem dX12_findHint_80 : decode cX12_findHint 80 = .ok (.invokevirtual 214, 3) := by decide +kernel
theorem dX12_findHint_83 : decode cX12_findHint 83 = .ok (.iastore, 1) := by decide +kernel
theorem dX12_findHint_84 : decode cX12_findHint 84 = .ok (.aload_n 0, 1) := by decide +kernel
theorem dX12_findHint_85 : decode cX12_findHint 85 = .ok (.getfield 80, 3) := by decide +kernel
theorem dX12_findHint_88 : decode cX12_findHint 88 = .ok (.iconst 2, 1) := by decide +kernel
theorem dX12_findHint_89 : decode cX12_findHint 89 = .ok (.iload_n 3, 1) := by decide +kernel
theorem dX12_findHint_90 : decode cX12_findHint 90 = .ok (.iastore, 1) := by decide +kernel
theorem dX12_findHint_91 : decode cX12_findHint 91 = .ok (.aload_n 0, 1) := by decide +kernel
theorem dX12_findHint_92 : decode cX12_findHint 92 = .ok (.getfield 80, 3) := by decide +kernel
theorem dX12_findHint_95 : decode cX12_findHint 95 = .ok (.iconst 3, 1) := by decide +kernel
theorem dX12_findHint_96 : decode cX12_findHint 96 = .ok (.aload_n 0, 1) := by decide +kernel
theorem dX12_findHint_97 : decode cX12_findHint 97 = .ok (.iload_n 1, 1) := by decide +kernel
theorem dX12_findHint_98 : decode cX12_findHint 98 = .ok (.invokevirtual 319, 3) := by decide +kernel
theorem dX12_findHint_101 : decode cX12_findHint 101 = .ok (.iastore, 1) := by decide +kernel
theorem dX12_findHint_102 : decode cX12_findHint 102 = .ok (.iconst 1, 1) := by decide +kernel
theorem dX12_findHint_103 : decode cX12_findHint 103 = .ok (.ireturn, 1) := by decide +kernel
theorem dX12_findHint_104 : decode cX12_findHint 104 = .ok (.iinc 3 1, 3) := by decide +kernel
theorem dX12_findHint_107 : decode cX12_findHint 107 = .ok (.goto (-83), 3) := by decide +kernel
theorem dX12_findHint_110 : decode cX12_findHint 110 = .ok (.iinc 2 1, 3) := by decide +kernel
theorem dX12_findHint_113 : decode cX12_findHint 113 = .ok (.goto (-101), 3) := by decide +kernel
theorem dX12_findHint_116 : decode cX12_findHint 116 = .ok (.iinc 1 1, 3) := by decide +kernel
theorem dX12_findHint_119 : decode cX12_findHint 119 = .ok (.goto (-117), 3) := by decide +kernel
theorem dX12_findHint_122 : decode cX12_findHint 122 = .ok (.iconst 0, 1) := by decide +kernel
theorem dX12_findHint_123 : decode cX12_findHint 123 = .ok (.ireturn, 1) := by decide +kernel
theorem dX12_hint_0 : decode cX12_hint 0 = .ok (.aload_n 0, 1) := by decide +kernel
theorem dX12_hint_1 : decode cX12_hint 1 = .ok (.iconst 0, 1) := by decide +kernel
theorem dX12_hint_2 : decode cX12_hint 2 = .ok (.putfield 83, 3) := by decide +kernel
theorem dX12_hint_5 : decode cX12_hint 5 = .ok (.iload_n 1, 1) := by decide +kernel
theorem dX12_hint_6 : decode cX12_hint 6 = .ok (.iconst 0, 1) := by decide +kernel
theorem dX12_hint_7 : decode cX12_hint 7 = .ok (.iconst 3, 1) := by decide +kernel
theorem dX12_hint_8 : decode cX12_hint 8 = .ok (.invokestatic 96, 3) := by decide +kernel
theorem dX12_hint_11 : decode cX12_hint 11 = .ok (.ifCond .ne 9, 3) := by decide +kernel
theorem dX12_hint_14 : decode cX12_hint 14 = .ok (.aload_n 0, 1) := by decide +kernel
theorem dX12_hint_15 : decode cX12_hint 15 = .ok (.iconst 1, 1) := by decide +kernel
theorem dX12_hint_16 : decode cX12_hint 16 = .ok (.invokevirtual 106, 3) := by decide +kernel
theorem dX12_hint_19 : decode cX12_hint 19 = .ok (.ireturn, 1) := by decide +kernel
theorem dX12_hint_20 : decode cX12_hint 20 = .ok (.aload_n 0, 1) := by decide +kernel
theorem dX12_hint_21 : decode cX12_hint 21 = .ok (.invokevirtual 322, 3) := by decide +kernel
theorem dX12_hint_24 : decode cX12_hint 24 = .ok (.ifCond .eq 12, 3) := by decide +kernel
theorem dX12_hint_27 : decode cX12_hint 27 = .ok (.aload_n 0, 1) := by decide +kernel
theorem dX12_hint_28 : decode cX12_hint 28 = .ok (.getfield 80, 3) := by decide +kernel
theorem dX12_hint_31 : decode cX12_hint 31 = .ok (.iload_n 1, 1) := by decide +kernel
theorem dX12_hint_32 : decode cX12_hint 32 = .ok (.iaload, 1) := by decide +kernel
theorem dX12_hint_33 : decode cX12_hint 33 = .ok (.goto 4, 3) := by decide +kernel
theorem dX12_hint_36 : decode cX12_hint 36 = .ok (.iconst (-1), 1) := by decide +kernel
theorem dX12_hint_37 : decode cX12_hint 37 = .ok (.ireturn, 1) := by decide +kernel
theorem dX12_step_0 : decode cX12_step 0 = .ok (.aload_n 0, 1) := by decide +kernel
theorem dX12_step_1 : decode cX12_step 1 = .ok (.iconst 0, 1) := by decide +kernel
theorem dX12_step_2 : decode cX12_step 2 = .ok (.putfield 83, 3) := by decide +kernel
theorem dX12_step_5 : decode cX12_step 5 = .ok (.aload_n 0, 1) := by decide +kernel
theorem dX12_step_6 : decode cX12_step 6 = .ok (.invokevirtual 322, 3) := by decide +kernel
theorem dX12_step_9 : decode cX12_step 9 = .ok (.ifCond .ne 5, 3) := by decide +kernel
theorem dX12_step_12 : decode cX12_step 12 = .ok (.iconst 0, 1) := by decide +kernel
theorem dX12_step_13 : decode cX12_step 13 = .ok (.ireturn, 1) := by decide +kernel
theorem dX12_step_14 : decode cX12_step 14 = .ok (.aload_n 0, 1) := by decide +kernel
theorem dX12_step_15 : decode cX12_step 15 = .ok (.getfield 62, 3) := by decide +kernel
theorem dX12_step_18 : decode cX12_step 18 = .ok (.aload_n 0, 1) := by decide +kernel
theorem dX12_step_19 : decode cX12_step 19 = .ok (.getfield 80, 3) := by decide +kernel
theorem dX12_step_22 : decode cX12_step 22 = .ok (.iconst 1, 1) := by decide +kernel
theorem dX12_step_23 : decode cX12_step 23 = .ok (.iaload, 1) := by decide +kernel
theorem dX12_step_24 : decode cX12_step 24 = .ok (.dup2, 1) := by decide +kernel
theorem dX12_step_25 : decode cX12_step 25 = .ok (.iaload, 1) := by decide +kernel
theorem dX12_step_26 : decode cX12_step 26 = .ok (.iconst 1, 1) := by decide +kernel
theorem dX12_step_27 : decode cX12_step 27 = .ok (.aload_n 0, 1) := by decide +kernel
theorem dX12_step_28 : decode cX12_step 28 = .ok (.getfield 80, 3) := by decide +kernel
theorem dX12_step_31 : decode cX12_step 31 = .ok (.iconst 2, 1) := by decide +kernel
theorem dX12_step_32 : decode cX12_step 32 = .ok (.iaload, 1) := by decide +kernel
theorem dX12_step_33 : decode cX12_step 33 = .ok (.iconst 1, 1) := by decide +kernel
theorem dX12_step_34 : decode cX12_step 34 = .ok (.isub, 1) := by decide +kernel
theorem dX12_step_35 : decode cX12_step 35 = .ok (.ishl, 1) := by decide +kernel
theorem dX12_step_36 : decode cX12_step 36 = .ok (.iconst (-1), 1) := by decide +kernel
theorem dX12_step_37 : decode cX12_step 37 = .ok (.ixor, 1) := by decide +kernel
theorem dX12_step_38 : decode cX12_step 38 = .ok (.iand, 1) := by decide +kernel
theorem dX12_step_39 : decode cX12_step 39 = .ok (.iastore, 1) := by decide +kernel
theorem dX12_step_40 : decode cX12_step 40 = .ok (.iconst 1, 1) := by decide +kernel
theorem dX12_step_41 : decode cX12_step 41 = .ok (.ireturn, 1) := by decide +kernel
theorem dX12_pass_0 : decode cX12_pass 0 = .ok (.iconst 0, 1) := by decide +kernel
theorem dX12_pass_1 : decode cX12_pass 1 = .ok (.istore_n 1, 1) := by decide +kernel
theorem dX12_pass_2 : decode cX12_pass 2 = .ok (.iconst 0, 1) := by decide +kernel
theorem dX12_pass_3 : decode cX12_pass 3 = .ok (.istore_n 2, 1) := by decide +kernel
theorem dX12_pass_4 : decode cX12_pass 4 = .ok (.iload_n 2, 1) := by decide +kernel
theorem dX12_pass_5 : decode cX12_pass 5 = .ok (.aload_n 0, 1) := by decide +kernel
theorem dX12_pass_6 : decode cX12_pass 6 = .ok (.getfield 100, 3) := by decide +kernel
theorem dX12_pass_9 : decode cX12_pass 9 = .ok (.if_icmp .ge 121, 3) := by decide +kernel
theorem dX12_pass_12 : decode cX12_pass 12 = .ok (.iconst 0, 1) := by decide +kernel
theorem dX12_pass_13 : decode cX12_pass 13 = .ok (.istore_n 3, 1) := by decide +kernel
theorem dX12_pass_14 : decode cX12_pass 14 = .ok (.iload_n 3, 1) := by decide +kernel
theorem dX12_pass_15 : decode cX12_pass 15 = .ok (.aload_n 0, 1) := by decide +kernel
theorem dX12_pass_16 : decode cX12_pass 16 = .ok (.getfield 38, 3) := by decide +kernel
theorem dX12_pass_19 : decode cX12_pass 19 = .ok (.iload_n 2, 1) := by decide +kernel
theorem dX12_pass_20 : decode cX12_pass 20 = .ok (.iaload, 1) := by decide +kernel
theorem dX12_pass_21 : decode cX12_pass 21 = .ok (.if_icmp .ge 103, 3) := by decide +kernel
theorem dX12_pass_24 : decode cX12_pass 24 = .ok (.iconst 1, 1) := by decide +kernel
theorem dX12_pass_25 : decode cX12_pass 25 = .ok (.istore 4, 2) := by decide +kernel
theorem dX12_pass_27 : decode cX12_pass 27 = .ok (.iload 4, 2) := by decide +kernel
theorem dX12_pass_29 : decode cX12_pass 29 = .ok (.aload_n 0, 1) := by decide +kernel
theorem dX12_pass_30 : decode cX12_pass 30 = .ok (.getfield 201, 3) := by decide +kernel
theorem dX12_pass_33 : decode cX12_pass 33 = .ok (.if_icmp .gt 85, 3) := by decide +kernel
theorem dX12_pass_36 : decode cX12_pass 36 = .ok (.aload_n 0, 1) := by decide +kernel
theorem dX12_pass_37 : decode cX12_pass 37 = .ok (.iload_n 2, 1) := by decide +kernel
theorem dX12_pass_38 : decode cX12_pass 38 = .ok (.iload_n 3, 1) := by decide +kernel
theorem dX12_pass_39 : decode cX12_pass 39 = .ok (.invokevirtual 214, 3) := by decide +kernel
theorem dX12_pass_42 : decode cX12_pass 42 = .ok (.istore 5, 2) := by decide +kernel
theorem dX12_pass_44 : decode cX12_pass 44 = .ok (.aload_n 0, 1) := by decide +kernel
theorem dX12_pass_45 : decode cX12_pass 45 = .ok (.getfield 62, 3) := by decide +kernel
theorem dX12_pass_48 : decode cX12_pass 48 = .ok (.iload 5, 2) := by decide +kernel
theorem dX12_pass_50 : decode cX12_pass 50 = .ok (.iaload, 1) := by decide +kernel
theorem dX12_pass_51 : decode cX12_pass 51 = .ok (.iload 4, 2) := by decide +kernel
theorem dX12_pass_53 : decode cX12_pass 53 = .ok (.iconst 1, 1) := by decide +kernel
theorem dX12_pass_54 : decode cX12_pass 54 = .ok (.isub, 1) := by decide +kernel
theorem dX12_pass_55 : decode cX12_pass 55 = .ok (.ishr, 1) := by decide +kernel
theorem dX12_pass_56 : decode cX12_pass 56 = .ok (.iconst 1, 1) := by decide +kernel
theorem dX12_pass_57 : decode cX12_pass 57 = .ok (.iand, 1) := by decide +kernel
theorem dX12_pass_58 : decode cX12_pass 58 = .ok (.ifCond .eq 54, 3) := by decide +kernel
theorem dX12_pass_61 : decode cX12_pass 61 = .ok (.aload_n 0, 1) := by decide +kernel
theorem dX12_pass_62 : decode cX12_pass 62 = .ok (.iload_n 2, 1) := by decide +kernel
theorem dX12_pass_63 : decode cX12_pass 63 = .ok (.iload_n 3, 1) := by decide +kernel
theorem dX12_pass_64 : decode cX12_pass 64 = .ok (.iload 4, 2) := by decide +kernel
theorem dX12_pass_66 : decode cX12_pass 66 = .ok (.invokevirtual 316, 3) := by decide +kernel
theorem dX12_pass_69 : decode cX12_pass 69 = .ok (.ifCond .eq 6, 3) := by decide +kernel
theorem dX12_pass_72 : decode cX12_pass 72 = .ok (.goto 40, 3) := by decide +kernel
theorem dX12_pass_75 : decode cX12_pass 75 = .ok (.aload_n 0, 1) := by decide +kernel
theorem dX12_pass_76 : decode cX12_pass 76 = .ok (.aload_n 0, 1) := by decide +kernel
theorem dX12_pass_77 : decode cX12_pass 77 = .ok (.getfield 310, 3) := by decide +kernel
theorem dX12_pass_80 : decode cX12_pass 80 = .ok (.aload_n 0, 1) := by decide +kernel
theorem dX12_pass_81 : decode cX12_pass 81 = .ok (.iload_n 2, 1) := by decide +kernel
theorem dX12_pass_82 : decode cX12_pass 82 = .ok (.invokevirtual 319, 3) := by decide +kernel
theorem dX12_pass_85 : decode cX12_pass 85 = .ok (.invokestatic 218, 3) := by decide +kernel
theorem dX12_pass_88 : decode cX12_pass 88 = .ok (.putfield 310, 3) := by decide +kernel
theorem dX12_pass_91 : decode cX12_pass 91 = .ok (.aload_n 0, 1) := by decide +kernel
theorem dX12_pass_92 : decode cX12_pass 92 = .ok (.getfield 62, 3) := by decide +kernel
theorem dX12_pass_95 : decode cX12_pass 95 = .ok (.iload 5, 2) := by decide +kernel
theorem dX12_pass_97 : decode cX12_pass 97 = .ok (.dup2, 1) := by decide +kernel
theorem dX12_pass_98 : decode cX12_pass 98 = .ok (.iaload, 1) := by decide +kernel
theorem dX12_pass_99 : decode cX12_pass 99 = .ok (.iconst 1, 1) := by decide +kernel
theorem dX12_pass_100 : decode cX12_pass 100 = .ok (.iload 4, 2) := by decide +kernel
theorem dX12_pass_102 : decode cX12_pass 102 = .ok (.iconst 1, 1) := by decide +kernel
theorem dX12_pass_103 : decode cX12_pass 103 = .ok (.isub, 1) := by decide +kernel
theorem dX12_pass_104 : decode cX12_pass 104 = .ok (.ishl, 1) := by decide +kernel
theorem dX12_pass_105 : decode cX12_pass 105 = .ok (.iconst (-1), 1) := by decide +kernel
theorem dX12_pass_106 : decode cX12_pass 106 = .ok (.ixor, 1) := by decide +kernel
theorem dX12_pass_107 : decode cX12_pass 107 = .ok (.iand, 1) := by decide +kernel
theorem dX12_pass_108 : decode cX12_pass 108 = .ok (.iastore, 1) := by decide +kernel
theorem dX12_pass_109 : decode cX12_pass 109 = .ok (.iinc 1 1, 3) := by decide +kernel
theorem dX12_pass_112 : decode cX12_pass 112 = .ok (.iinc 4 1, 3) := by decide +kernel
theorem dX12_pass_115 : decode cX12_pass 115 = .ok (.goto (-88), 3) := by decide +kernel
theorem dX12_pass_118 : decode cX12_pass 118 = .ok (.iinc 3 1, 3) := by decide +kernel
theorem dX12_pass_121 : decode cX12_pass 121 = .ok (.goto (-107), 3) := by decide +kernel
theorem dX12_pass_124 : decode cX12_pass 124 = .ok (.iinc 2 1, 3) := by decide +kernel
theorem dX12_pass_127 : decode cX12_pass 127 = .ok (.goto (-123), 3) := by decide +kernel
theorem dX12_pass_130 : decode cX12_pass 130 = .ok (.iload_n 1, 1) := by decide +kernel
theorem dX12_pass_131 : decode cX12_pass 131 = .ok (.ireturn, 1) := by decide +kernel
theorem dX12_reason_0 : decode cX12_reason 0 = .ok (.aload_n 0, 1) := by decide +kernel
theorem dX12_reason_1 : decode cX12_reason 1 = .ok (.iconst 0, 1) := by decide +kernel
theorem dX12_reason_2 : decode cX12_reason 2 = .ok (.putfield 83, 3) := by decide +kernel
theorem dX12_reason_5 : decode cX12_reason 5 = .ok (.aload_n 0, 1) := by decide +kernel
theorem dX12_reason_6 : decode cX12_reason 6 = .ok (.iconst 0, 1) := by decide +kernel
theorem dX12_reason_7 : decode cX12_reason 7 = .ok (.putfield 307, 3) := by decide +kernel
theorem dX12_reason_10 : decode cX12_reason 10 = .ok (.aload_n 0, 1) := by decide +kernel
theorem dX12_reason_11 : decode cX12_reason 11 = .ok (.iconst 0, 1) := by decide +kernel
theorem dX12_reason_12 : decode cX12_reason 12 = .ok (.putfield 310, 3) := by decide +kernel
theorem dX12_reason_15 : decode cX12_reason 15 = .ok (.iconst 0, 1) := by decide +kernel
theorem dX12_reason_16 : decode cX12_reason 16 = .ok (.istore_n 1, 1) := by decide +kernel
theorem dX12_reason_17 : decode cX12_reason 17 = .ok (.iconst 1, 1) := by decide +kernel
theorem dX12_reason_18 : decode cX12_reason 18 = .ok (.istore_n 2, 1) := by decide +kernel
theorem dX12_reason_19 : decode cX12_reason 19 = .ok (.iload_n 2, 1) := by decide +kernel
theorem dX12_reason_20 : decode cX12_reason 20 = .ok (.ifCond .le 25, 3) := by decide +kernel
theorem dX12_reason_23 : decode cX12_reason 23 = .ok (.aload_n 0, 1) := by decide +kernel
theorem dX12_reason_24 : decode cX12_reason 24 = .ok (.invokevirtual 325, 3) := by decide +kernel
theorem dX12_reason_27 : decode cX12_reason 27 = .ok (.istore_n 2, 1) := by decide +kernel
theorem dX12_reason_28 : decode cX12_reason 28 = .ok (.aload_n 0, 1) := by decide +kernel
theorem dX12_reason_29 : decode cX12_reason 29 = .ok (.dup, 1) := by decide +kernel
theorem dX12_reason_30 : decode cX12_reason 30 = .ok (.getfield 307, 3) := by decide +kernel
theorem dX12_reason_33 : decode cX12_reason 33 = .ok (.iconst 1, 1) := by decide +kernel
theorem dX12_reason_34 : decode cX12_reason 34 = .ok (.iadd, 1) := by decide +kernel
theorem dX12_reason_35 : decode cX12_reason 35 = .ok (.putfield 307, 3) := by decide +kernel
theorem dX12_reason_38 : decode cX12_reason 38 = .ok (.iload_n 1, 1) := by decide +kernel
theorem dX12_reason_39 : decode cX12_reason 39 = .ok (.iload_n 2, 1) := by decide +kernel
theorem dX12_reason_40 : decode cX12_reason 40 = .ok (.iadd, 1) := by decide +kernel
theorem dX12_reason_41 : decode cX12_reason 41 = .ok (.istore_n 1, 1) := by decide +kernel
theorem dX12_reason_42 : decode cX12_reason 42 = .ok (.goto (-23), 3) := by decide +kernel
theorem dX12_reason_45 : decode cX12_reason 45 = .ok (.iload_n 1, 1) := by decide +kernel
theorem dX12_reason_46 : decode cX12_reason 46 = .ok (.ireturn, 1) := by decide +kernel
theorem dX12_withValues_0 : decode cX12_withValues 0 = .ok (.iconst 0, 1) := by decide +kernel
theorem dX12_withValues_1 : decode cX12_withValues 1 = .ok (.istore_n 2, 1) := by decide +kernel
theorem dX12_withValues_2 : decode cX12_withValues 2 = .ok (.iconst 0, 1) := by decide +kernel
theorem dX12_withValues_3 : decode cX12_withValues 3 = .ok (.istore_n 3, 1) := by decide +kernel
theorem dX12_withValues_4 : decode cX12_withValues 4 = .ok (.iload_n 3, 1) := by decide +kernel
theorem dX12_withValues_5 : decode cX12_withValues 5 = .ok (.aload_n 0, 1) := by decide +kernel
theorem dX12_withValues_6 : decode cX12_withValues 6 = .ok (.invokevirtual 92, 3) := by decide +kernel
theorem dX12_withValues_9 : decode cX12_withValues 9 = .ok (.if_icmp .ge 38, 3) := by decide +kernel
theorem dX12_withValues_12 : decode cX12_withValues 12 = .ok (.iload_n 2, 1) := by decide +kernel
theorem dX12_withValues_13 : decode cX12_withValues 13 = .ok (.aload_n 0, 1) := by decide +kernel
theorem dX12_withValues_14 : decode cX12_withValues 14 = .ok (.getfield 62, 3) := by decide +kernel
theorem dX12_withValues_17 : decode cX12_withValues 17 = .ok (.iload_n 3, 1) := by decide +kernel
theorem dX12_withValues_18 : decode cX12_withValues 18 = .ok (.iaload, 1) := by decide +kernel
theorem dX12_withValues_19 : decode cX12_withValues 19 = .ok (.invokestatic 302, 3) := by decide +kernel
theorem dX12_withValues_22 : decode cX12_withValues 22 = .ok (.iload_n 1, 1) := by decide +kernel
theorem dX12_withValues_23 : decode cX12_withValues 23 = .ok (.ifCond .eq 7, 3) := by decide +kernel
theorem dX12_withValues_26 : decode cX12_withValues 26 = .ok (.iconst 0, 1) := by decide +kernel
theorem dX12_withValues_27 : decode cX12_withValues 27 = .ok (.goto 4, 3) := by decide +kernel
theorem dX12_withValues_30 : decode cX12_withValues 30 = .ok (.iconst 1, 1) := by decide +kernel
theorem dX12_withValues_31 : decode cX12_withValues 31 = .ok (.if_icmp .ne 7, 3) := by decide +kernel
theorem dX12_withValues_34 : decode cX12_withValues 34 = .ok (.iconst 1, 1) := by decide +kernel
theorem dX12_withValues_35 : decode cX12_withValues 35 = .ok (.goto 4, 3) := by decide +kernel
theorem dX12_withValues_38 : decode cX12_withValues 38 = .ok (.iconst 0, 1) := by decide +kernel
theorem dX12_withValues_39 : decode cX12_withValues 39 = .ok (.iadd, 1) := by decide +kernel
theorem dX12_withValues_40 : decode cX12_withValues 40 = .ok (.istore_n 2, 1) := by decide +kernel
theorem dX12_withValues_41 : decode cX12_withValues 41 = .ok (.iinc 3 1, 3) := by decide +kernel
theorem dX12_withValues_44 : decode cX12_withValues 44 = .ok (.goto (-40), 3) := by decide +kernel
theorem dX12_withValues_47 : decode cX12_withValues 47 = .ok (.iload_n 2, 1) := by decide +kernel
theorem dX12_withValues_48 : decode cX12_withValues 48 = .ok (.ireturn, 1) := by decide +kernel
theorem dX12_reasonTold_0 : decode cX12_reasonTold 0 = .ok (.iload_n 1, 1) := by decide +kernel
theorem dX12_reasonTold_1 : decode cX12_reasonTold 1 = .ok (.ifCond .ne 10, 3) := by decide +kernel
theorem dX12_reasonTold_4 : decode cX12_reasonTold 4 = .ok (.aload_n 0, 1) := by decide +kernel
theorem dX12_reasonTold_5 : decode cX12_reasonTold 5 = .ok (.getfield 307, 3) := by decide +kernel
theorem dX12_reasonTold_8 : decode cX12_reasonTold 8 = .ok (.goto 29, 3) := by decide +kernel
theorem dX12_reasonTold_11 : decode cX12_reasonTold 11 = .ok (.iload_n 1, 1) := by decide +kernel
theorem dX12_reasonTold_12 : decode cX12_reasonTold 12 = .ok (.iconst 1, 1) := by decide +kernel
theorem dX12_reasonTold_13 : decode cX12_reasonTold 13 = .ok (.if_icmp .ne 10, 3) := by decide +kernel
theorem dX12_reasonTold_16 : decode cX12_reasonTold 16 = .ok (.aload_n 0, 1) := by decide +kernel
theorem dX12_reasonTold_17 : decode cX12_reasonTold 17 = .ok (.getfield 310, 3) := by decide +kernel
theorem dX12_reasonTold_20 : decode cX12_reasonTold 20 = .ok (.goto 17, 3) := by decide +kernel
theorem dX12_reasonTold_23 : decode cX12_reasonTold 23 = .ok (.aload_n 0, 1) := by decide +kernel
theorem dX12_reasonTold_24 : decode cX12_reasonTold 24 = .ok (.iload_n 1, 1) := by decide +kernel
theorem dX12_reasonTold_25 : decode cX12_reasonTold 25 = .ok (.iconst 3, 1) := by decide +kernel
theorem dX12_reasonTold_26 : decode cX12_reasonTold 26 = .ok (.if_icmp .ne 7, 3) := by decide +kernel
theorem dX12_reasonTold_29 : decode cX12_reasonTold 29 = .ok (.iconst 1, 1) := by decide +kernel
theorem dX12_reasonTold_30 : decode cX12_reasonTold 30 = .ok (.goto 4, 3) := by decide +kernel
theorem dX12_reasonTold_33 : decode cX12_reasonTold 33 = .ok (.iconst 0, 1) := by decide +kernel
theorem dX12_reasonTold_34 : decode cX12_reasonTold 34 = .ok (.invokevirtual 328, 3) := by decide +kernel
theorem dX12_reasonTold_37 : decode cX12_reasonTold 37 = .ok (.ireturn, 1) := by decide +kernel
theorem dX12_reasoned_0 : decode cX12_reasoned 0 = .ok (.aload_n 0, 1) := by decide +kernel
theorem dX12_reasoned_1 : decode cX12_reasoned 1 = .ok (.iconst 0, 1) := by decide +kernel
theorem dX12_reasoned_2 : decode cX12_reasoned 2 = .ok (.putfield 83, 3) := by decide +kernel
theorem dX12_reasoned_5 : decode cX12_reasoned 5 = .ok (.iload_n 1, 1) := by decide +kernel
theorem dX12_reasoned_6 : decode cX12_reasoned 6 = .ok (.iconst 0, 1) := by decide +kernel
theorem dX12_reasoned_7 : decode cX12_reasoned 7 = .ok (.iconst 3, 1) := by decide +kernel
theorem dX12_reasoned_8 : decode cX12_reasoned 8 = .ok (.invokestatic 96, 3) := by decide +kernel
theorem dX12_reasoned_11 : decode cX12_reasoned 11 = .ok (.ifCond .eq 11, 3) := by decide +kernel
theorem dX12_reasoned_14 : decode cX12_reasoned 14 = .ok (.aload_n 0, 1) := by decide +kernel
theorem dX12_reasoned_15 : decode cX12_reasoned 15 = .ok (.iload_n 1, 1) := by decide +kernel
theorem dX12_reasoned_16 : decode cX12_reasoned 16 = .ok (.invokevirtual 332, 3) := by decide +kernel
theorem dX12_reasoned_19 : decode cX12_reasoned 19 = .ok (.goto 8, 3) := by decide +kernel
theorem dX12_reasoned_22 : decode cX12_reasoned 22 = .ok (.aload_n 0, 1) := by decide +kernel
theorem dX12_reasoned_23 : decode cX12_reasoned 23 = .ok (.iconst 1, 1) := by decide +kernel
theorem dX12_reasoned_24 : decode cX12_reasoned 24 = .ok (.invokevirtual 106, 3) := by decide +kernel
theorem dX12_reasoned_27 : decode cX12_reasoned 27 = .ok (.ireturn, 1) := by decide +kernel
theorem dX12_drawn_0 : decode cX12_drawn 0 = .ok (.aload_n 0, 1) := by decide +kernel
theorem dX12_drawn_1 : decode cX12_drawn 1 = .ok (.aload_n 0, 1) := by decide +kernel
theorem dX12_drawn_2 : decode cX12_drawn 2 = .ok (.getfield 335, 3) := by decide +kernel
theorem dX12_drawn_5 : decode cX12_drawn 5 = .ok (.sipush 1103, 3) := by decide +kernel
theorem dX12_drawn_8 : decode cX12_drawn 8 = .ok (.imul, 1) := by decide +kernel
theorem dX12_drawn_9 : decode cX12_drawn 9 = .ok (.sipush 12345, 3) := by decide +kernel
theorem dX12_drawn_12 : decode cX12_drawn 12 = .ok (.iadd, 1) := by decide +kernel
theorem dX12_drawn_13 : decode cX12_drawn 13 = .ok (.ldc_w 338, 3) := by decide +kernel
theorem dX12_drawn_16 : decode cX12_drawn 16 = .ok (.irem, 1) := by decide +kernel
theorem dX12_drawn_17 : decode cX12_drawn 17 = .ok (.putfield 335, 3) := by decide +kernel
theorem dX12_drawn_20 : decode cX12_drawn 20 = .ok (.aload_n 0, 1) := by decide +kernel
theorem dX12_drawn_21 : decode cX12_drawn 21 = .ok (.getfield 335, 3) := by decide +kernel
theorem dX12_drawn_24 : decode cX12_drawn 24 = .ok (.bipush 16, 2) := by decide +kernel
theorem dX12_drawn_26 : decode cX12_drawn 26 = .ok (.idiv, 1) := by decide +kernel
theorem dX12_drawn_27 : decode cX12_drawn 27 = .ok (.ireturn, 1) := by decide +kernel
theorem dX12_make_0 : decode cX12_make 0 = .ok (.aload_n 0, 1) := by decide +kernel
theorem dX12_make_1 : decode cX12_make 1 = .ok (.iconst 0, 1) := by decide +kernel
theorem dX12_make_2 : decode cX12_make 2 = .ok (.putfield 83, 3) := by decide +kernel
theorem dX12_make_5 : decode cX12_make 5 = .ok (.iload_n 1, 1) := by decide +kernel
theorem dX12_make_6 : decode cX12_make 6 = .ok (.iconst 0, 1) := by decide +kernel
theorem dX12_make_7 : decode cX12_make 7 = .ok (.ldc_w 339, 3) := by decide +kernel
theorem dX12_make_10 : decode cX12_make 10 = .ok (.invokestatic 96, 3) := by decide +kernel
theorem dX12_make_13 : decode cX12_make 13 = .ok (.ifCond .ne 9, 3) := by decide +kernel
theorem dX12_make_16 : decode cX12_make 16 = .ok (.aload_n 0, 1) := by decide +kernel
theorem dX12_make_17 : decode cX12_make 17 = .ok (.iconst 1, 1) := by decide +kernel
theorem dX12_make_18 : decode cX12_make 18 = .ok (.invokevirtual 106, 3) := by decide +kernel
theorem dX12_make_21 : decode cX12_make 21 = .ok (.ireturn, 1) := by decide +kernel
theorem dX12_make_22 : decode cX12_make 22 = .ok (.aload_n 0, 1) := by decide +kernel
theorem dX12_make_23 : decode cX12_make 23 = .ok (.getfield 86, 3) := by decide +kernel
theorem dX12_make_26 : decode cX12_make 26 = .ok (.ifCond .ne 9, 3) := by decide +kernel
theorem dX12_make_29 : decode cX12_make 29 = .ok (.aload_n 0, 1) := by decide +kernel
theorem dX12_make_30 : decode cX12_make 30 = .ok (.iconst 2, 1) := by decide +kernel
theorem dX12_make_31 : decode cX12_make 31 = .ok (.invokevirtual 106, 3) := by decide +kernel
theorem dX12_make_34 : decode cX12_make 34 = .ok (.ireturn, 1) := by decide +kernel
theorem dX12_make_35 : decode cX12_make 35 = .ok (.aload_n 0, 1) := by decide +kernel
theorem dX12_make_36 : decode cX12_make 36 = .ok (.iload_n 1, 1) := by decide +kernel
theorem dX12_make_37 : decode cX12_make 37 = .ok (.putfield 335, 3) := by decide +kernel
theorem dX12_make_40 : decode cX12_make 40 = .ok (.aload_n 0, 1) := by decide +kernel
theorem dX12_make_41 : decode cX12_make 41 = .ok (.getfield 100, 3) := by decide +kernel
theorem dX12_make_44 : decode cX12_make 44 = .ok (.istore_n 2, 1) := by decide +kernel
theorem dX12_make_45 : decode cX12_make 45 = .ok (.aload_n 0, 1) := by decide +kernel
theorem dX12_make_46 : decode cX12_make 46 = .ok (.aload_n 0, 1) := by decide +kernel
theorem dX12_make_47 : decode cX12_make 47 = .ok (.getfield 100, 3) := by decide +kernel
theorem dX12_make_50 : decode cX12_make 50 = .ok (.putfield 172, 3) := by decide +kernel
theorem dX12_make_53 : decode cX12_make 53 = .ok (.iconst 0, 1) := by decide +kernel
theorem dX12_make_54 : decode cX12_make 54 = .ok (.istore_n 3, 1) := by decide +kernel
theorem dX12_make_55 : decode cX12_make 55 = .ok (.iload_n 3, 1) := by decide +kernel
theorem dX12_make_56 : decode cX12_make 56 = .ok (.aload_n 0, 1) := by decide +kernel
theorem dX12_make_57 : decode cX12_make 57 = .ok (.getfield 100, 3) := by decide +kernel
theorem dX12_make_60 : decode cX12_make 60 = .ok (.if_icmp .ge 94, 3) := by decide +kernel
theorem dX12_make_63 : decode cX12_make 63 = .ok (.aload_n 0, 1) := by decide +kernel
theorem dX12_make_64 : decode cX12_make 64 = .ok (.getfield 65, 3) := by decide +kernel
theorem dX12_make_67 : decode cX12_make 67 = .ok (.iload_n 3, 1) := by decide +kernel
theorem dX12_make_68 : decode cX12_make 68 = .ok (.aload_n 0, 1) := by decide +kernel
theorem dX12_make_69 : decode cX12_make 69 = .ok (.getfield 29, 3) := by decide +kernel
theorem dX12_make_72 : decode cX12_make 72 = .ok (.iload_n 3, 1) := by decide +kernel
theorem dX12_make_73 : decode cX12_make 73 = .ok (.iaload, 1) := by decide +kernel
theorem dX12_make_74 : decode cX12_make 74 = .ok (.iastore, 1) := by decide +kernel
theorem dX12_make_75 : decode cX12_make 75 = .ok (.aload_n 0, 1) := by decide +kernel
theorem dX12_make_76 : decode cX12_make 76 = .ok (.getfield 68, 3) := by decide +kernel
theorem dX12_make_79 : decode cX12_make 79 = .ok (.iload_n 3, 1) := by decide +kernel
theorem dX12_make_80 : decode cX12_make 80 = .ok (.aload_n 0, 1) := by decide +kernel
theorem dX12_make_81 : decode cX12_make 81 = .ok (.getfield 32, 3) := by decide +kernel
theorem dX12_make_84 : decode cX12_make 84 = .ok (.iload_n 3, 1) := by decide +kernel
theorem dX12_make_85 : decode cX12_make 85 = .ok (.iaload, 1) := by decide +kernel
theorem dX12_make_86 : decode cX12_make 86 = .ok (.iastore, 1) := by decide +kernel
theorem dX12_make_87 : decode cX12_make 87 = .ok (.aload_n 0, 1) := by decide +kernel
theorem dX12_make_88 : decode cX12_make 88 = .ok (.getfield 71, 3) := by decide +kernel
theorem dX12_make_91 : decode cX12_make 91 = .ok (.iload_n 3, 1) := by decide +kernel
theorem dX12_make_92 : decode cX12_make 92 = .ok (.aload_n 0, 1) := by decide +kernel
theorem dX12_make_93 : decode cX12_make 93 = .ok (.getfield 35, 3) := by decide +kernel
theorem dX12_make_96 : decode cX12_make 96 = .ok (.iload_n 3, 1) := by decide +kernel
theorem dX12_make_97 : decode cX12_make 97 = .ok (.iaload, 1) := by decide +kernel
theorem dX12_make_98 : decode cX12_make 98 = .ok (.iastore, 1) := by decide +kernel
theorem dX12_make_99 : decode cX12_make 99 = .ok (.aload_n 0, 1) := by decide +kernel
theorem dX12_make_100 : decode cX12_make 100 = .ok (.getfield 74, 3) := by decide +kernel
theorem dX12_make_103 : decode cX12_make 103 = .ok (.iload_n 3, 1) := by decide +kernel
theorem dX12_make_104 : decode cX12_make 104 = .ok (.aload_n 0, 1) := by decide +kernel
theorem dX12_make_105 : decode cX12_make 105 = .ok (.getfield 38, 3) := by decide +kernel
theorem dX12_make_108 : decode cX12_make 108 = .ok (.iload_n 3, 1) := by decide +kernel
theorem dX12_make_109 : decode cX12_make 109 = .ok (.iaload, 1) := by decide +kernel
theorem dX12_make_110 : decode cX12_make 110 = .ok (.iastore, 1) := by decide +kernel
theorem dX12_make_111 : decode cX12_make 111 = .ok (.iconst 0, 1) := by decide +kernel
theorem dX12_make_112 : decode cX12_make 112 = .ok (.istore 4, 2) := by decide +kernel
theorem dX12_make_114 : decode cX12_make 114 = .ok (.iload 4, 2) := by decide +kernel
theorem dX12_make_116 : decode cX12_make 116 = .ok (.iconst 5, 1) := by decide +kernel
theorem dX12_make_117 : decode cX12_make 117 = .ok (.if_icmp .ge 31, 3) := by decide +kernel
theorem dX12_make_120 : decode cX12_make 120 = .ok (.aload_n 0, 1) := by decide +kernel
theorem dX12_make_121 : decode cX12_make 121 = .ok (.getfield 77, 3) := by decide +kernel
theorem dX12_make_124 : decode cX12_make 124 = .ok (.iconst 5, 1) := by decide +kernel
theorem dX12_make_125 : decode cX12_make 125 = .ok (.iload_n 3, 1) := by decide +kernel
theorem dX12_make_126 : decode cX12_make 126 = .ok (.imul, 1) := by decide +kernel
theorem dX12_make_127 : decode cX12_make 127 = .ok (.iload 4, 2) := by decide +kernel
theorem dX12_make_129 : decode cX12_make 129 = .ok (.iadd, 1) := by decide +kernel
theorem dX12_make_130 : decode cX12_make 130 = .ok (.aload_n 0, 1) := by decide +kernel
theorem dX12_make_131 : decode cX12_make 131 = .ok (.getfield 41, 3) := by decide +kernel
theorem dX12_make_134 : decode cX12_make 134 = .ok (.iconst 5, 1) := by decide +kernel
theorem dX12_make_135 : decode cX12_make 135 = .ok (.iload_n 3, 1) := by decide +kernel
theorem dX12_make_136 : decode cX12_make 136 = .ok (.imul, 1) := by decide +kernel
theorem dX12_make_137 : decode cX12_make 137 = .ok (.iload 4, 2) := by decide +kernel
theorem dX12_make_139 : decode cX12_make 139 = .ok (.iadd, 1) := by decide +kernel
theorem dX12_make_140 : decode cX12_make 140 = .ok (.iaload, 1) := by decide +kernel
theorem dX12_make_141 : decode cX12_make 141 = .ok (.iastore, 1) := by decide +kernel
theorem dX12_make_142 : decode cX12_make 142 = .ok (.iinc 4 1, 3) := by decide +kernel
theorem dX12_make_145 : decode cX12_make 145 = .ok (.goto (-31), 3) := by decide +kernel
theorem dX12_make_148 : decode cX12_make 148 = .ok (.iinc 3 1, 3) := by decide +kernel
theorem dX12_make_151 : decode cX12_make 151 = .ok (.goto (-96), 3) := by decide +kernel
theorem dX12_make_154 : decode cX12_make 154 = .ok (.aload_n 0, 1) := by decide +kernel
theorem dX12_make_155 : decode cX12_make 155 = .ok (.getfield 100, 3) := by decide +kernel
theorem dX12_make_158 : decode cX12_make 158 = .ok (.iconst 1, 1) := by decide +kernel
theorem dX12_make_159 : decode cX12_make 159 = .ok (.isub, 1) := by decide +kernel
theorem dX12_make_160 : decode cX12_make 160 = .ok (.istore_n 3, 1) := by decide +kernel
theorem dX12_make_161 : decode cX12_make 161 = .ok (.iload_n 3, 1) := by decide +kernel
theorem dX12_make_162 : decode cX12_make 162 = .ok (.ifCond .lt 25, 3) := by decide +kernel
theorem dX12_make_165 : decode cX12_make 165 = .ok (.aload_n 0, 1) := by decide +kernel
theorem dX12_make_166 : decode cX12_make 166 = .ok (.getfield 29, 3) := by decide +kernel
theorem dX12_make_169 : decode cX12_make 169 = .ok (.iload_n 3, 1) := by decide +kernel
theorem dX12_make_170 : decode cX12_make 170 = .ok (.iaload, 1) := by decide +kernel
theorem dX12_make_171 : decode cX12_make 171 = .ok (.bipush 9, 2) := by decide +kernel
theorem dX12_make_173 : decode cX12_make 173 = .ok (.if_icmp .ne 8, 3) := by decide +kernel
theorem dX12_make_176 : decode cX12_make 176 = .ok (.aload_n 0, 1) := by decide +kernel
theorem dX12_make_177 : decode cX12_make 177 = .ok (.iload_n 3, 1) := by decide +kernel
theorem dX12_make_178 : decode cX12_make 178 = .ok (.invokevirtual 265, 3) := by decide +kernel
theorem dX12_make_181 : decode cX12_make 181 = .ok (.iinc 3 (-1), 3) := by decide +kernel
theorem dX12_make_184 : decode cX12_make 184 = .ok (.goto (-23), 3) := by decide +kernel
theorem dX12_make_187 : decode cX12_make 187 = .ok (.aload_n 0, 1) := by decide +kernel
theorem dX12_make_188 : decode cX12_make 188 = .ok (.iconst 0, 1) := by decide +kernel
theorem dX12_make_189 : decode cX12_make 189 = .ok (.invokevirtual 295, 3) := by decide +kernel
theorem dX12_make_192 : decode cX12_make 192 = .ok (.iconst 0, 1) := by decide +kernel
theorem dX12_make_193 : decode cX12_make 193 = .ok (.istore_n 3, 1) := by decide +kernel
theorem dX12_make_194 : decode cX12_make 194 = .ok (.iload_n 3, 1) := by decide +kernel
theorem dX12_make_195 : decode cX12_make 195 = .ok (.aload_n 0, 1) := by decide +kernel
theorem dX12_make_196 : decode cX12_make 196 = .ok (.invokevirtual 92, 3) := by decide +kernel
theorem dX12_make_199 : decode cX12_make 199 = .ok (.if_icmp .ge 24, 3) := by decide +kernel
theorem dX12_make_202 : decode cX12_make 202 = .ok (.aload_n 0, 1) := by decide +kernel
theorem dX12_make_203 : decode cX12_make 203 = .ok (.getfield 50, 3) := by decide +kernel
theorem dX12_make_206 : decode cX12_make 206 = .ok (.iload_n 3, 1) := by decide +kernel
theorem dX12_make_207 : decode cX12_make 207 = .ok (.aload_n 0, 1) := by decide +kernel
theorem dX12_make_208 : decode cX12_make 208 = .ok (.invokevirtual 340, 3) := by decide +kernel
theorem dX12_make_211 : decode cX12_make 211 = .ok (.aload_n 0, 1) := by decide +kernel
theorem dX12_make_212 : decode cX12_make 212 = .ok (.getfield 201, 3) := by decide +kernel
theorem dX12_make_215 : decode cX12_make 215 = .ok (.irem, 1) := by decide +kernel
theorem dX12_make_216 : decode cX12_make 216 = .ok (.iastore, 1) := by decide +kernel
theorem dX12_make_217 : decode cX12_make 217 = .ok (.iinc 3 1, 3) := by decide +kernel
theorem dX12_make_220 : decode cX12_make 220 = .ok (.goto (-26), 3) := by decide +kernel
theorem dX12_make_223 : decode cX12_make 223 = .ok (.aload_n 0, 1) := by decide +kernel
theorem dX12_make_224 : decode cX12_make 224 = .ok (.iconst 1, 1) := by decide +kernel
theorem dX12_make_225 : decode cX12_make 225 = .ok (.iconst (-1), 1) := by decide +kernel
theorem dX12_make_226 : decode cX12_make 226 = .ok (.invokevirtual 299, 3) := by decide +kernel
theorem dX12_make_229 : decode cX12_make 229 = .ok (.iconst 1, 1) := by decide +kernel
theorem dX12_make_230 : decode cX12_make 230 = .ok (.if_icmp .eq 49, 3) := by decide +kernel
theorem dX12_make_233 : decode cX12_make 233 = .ok (.aload_n 0, 1) := by decide +kernel
theorem dX12_make_234 : decode cX12_make 234 = .ok (.iload_n 2, 1) := by decide +kernel
theorem dX12_make_235 : decode cX12_make 235 = .ok (.putfield 100, 3) := by decide +kernel
theorem dX12_make_238 : decode cX12_make 238 = .ok (.iconst 0, 1) := by decide +kernel
theorem dX12_make_239 : decode cX12_make 239 = .ok (.istore_n 3, 1) := by decide +kernel
theorem dX12_make_240 : decode cX12_make 240 = .ok (.iload_n 3, 1) := by decide +kernel
theorem dX12_make_241 : decode cX12_make 241 = .ok (.iload_n 2, 1) := by decide +kernel
theorem dX12_make_242 : decode cX12_make 242 = .ok (.if_icmp .ge 35, 3) := by decide +kernel
theorem dX12_make_245 : decode cX12_make 245 = .ok (.aload_n 0, 1) := by decide +kernel
theorem dX12_make_246 : decode cX12_make 246 = .ok (.aload_n 0, 1) := by decide +kernel
theorem dX12_make_247 : decode cX12_make 247 = .ok (.getfield 65, 3) := by decide +kernel
theorem dX12_make_250 : decode cX12_make 250 = .ok (.aload_n 0, 1) := by decide +kernel
theorem dX12_make_251 : decode cX12_make 251 = .ok (.getfield 68, 3) := by decide +kernel
theorem dX12_make_254 : decode cX12_make 254 = .ok (.aload_n 0, 1) := by decide +kernel
theorem dX12_make_255 : decode cX12_make 255 = .ok (.getfield 71, 3) := by decide +kernel
theorem dX12_make_258 : decode cX12_make 258 = .ok (.aload_n 0, 1) := by decide +kernel
theorem dX12_make_259 : decode cX12_make 259 = .ok (.getfield 74, 3) := by decide +kernel
theorem dX12_make_262 : decode cX12_make 262 = .ok (.aload_n 0, 1) := by decide +kernel
theorem dX12_make_263 : decode cX12_make 263 = .ok (.getfield 77, 3) := by decide +kernel
theorem dX12_make_266 : decode cX12_make 266 = .ok (.iload_n 3, 1) := by decide +kernel
theorem dX12_make_267 : decode cX12_make 267 = .ok (.iload_n 3, 1) := by decide +kernel
theorem dX12_make_268 : decode cX12_make 268 = .ok (.invokevirtual 204, 3) := by decide +kernel
theorem dX12_make_271 : decode cX12_make 271 = .ok (.iinc 3 1, 3) := by decide +kernel
theorem dX12_make_274 : decode cX12_make 274 = .ok (.goto (-34), 3) := by decide +kernel
theorem dX12_make_277 : decode cX12_make 277 = .ok (.iconst (-1), 1) := by decide +kernel
theorem dX12_make_278 : decode cX12_make 278 = .ok (.ireturn, 1) := by decide +kernel
theorem dX12_make_279 : decode cX12_make 279 = .ok (.bipush 25, 2) := by decide +kernel
theorem dX12_make_281 : decode cX12_make 281 = .ok (.newarray .int, 2) := by decide +kernel
theorem dX12_make_283 : decode cX12_make 283 = .ok (.astore_n 3, 1) := by decide +kernel
theorem dX12_make_284 : decode cX12_make 284 = .ok (.iconst 0, 1) := by decide +kernel
theorem dX12_make_285 : decode cX12_make 285 = .ok (.istore 4, 2) := by decide +kernel
theorem dX12_make_287 : decode cX12_make 287 = .ok (.iload 4, 2) := by decide +kernel
theorem dX12_make_289 : decode cX12_make 289 = .ok (.aload_n 0, 1) := by decide +kernel
theorem dX12_make_290 : decode cX12_make 290 = .ok (.invokevirtual 92, 3) := by decide +kernel
theorem dX12_make_293 : decode cX12_make 293 = .ok (.if_icmp .ge 20, 3) := by decide +kernel
theorem dX12_make_296 : decode cX12_make 296 = .ok (.aload_n 3, 1) := by decide +kernel
theorem dX12_make_297 : decode cX12_make 297 = .ok (.iload 4, 2) := by decide +kernel
theorem dX12_make_299 : decode cX12_make 299 = .ok (.aload_n 0, 1) := by decide +kernel
theorem dX12_make_300 : decode cX12_make 300 = .ok (.getfield 56, 3) := by decide +kernel
theorem dX12_make_303 : decode cX12_make 303 = .ok (.iload 4, 2) := by decide +kernel
theorem dX12_make_305 : decode cX12_make 305 = .ok (.iaload, 1) := by decide +kernel
theorem dX12_make_306 : decode cX12_make 306 = .ok (.iastore, 1) := by decide +kernel
theorem dX12_make_307 : decode cX12_make 307 = .ok (.iinc 4 1, 3) := by decide +kernel
theorem dX12_make_310 : decode cX12_make 310 = .ok (.goto (-23), 3) := by decide +kernel
theorem dX12_make_313 : decode cX12_make 313 = .ok (.iconst 0, 1) := by decide +kernel
theorem dX12_make_314 : decode cX12_make 314 = .ok (.istore 4, 2) := by decide +kernel
theorem dX12_make_316 : decode cX12_make 316 = .ok (.iload 4, 2) := by decide +kernel
theorem dX12_make_318 : decode cX12_make 318 = .ok (.bipush 25, 2) := by decide +kernel
theorem dX12_make_320 : decode cX12_make 320 = .ok (.if_icmp .ge 17, 3) := by decide +kernel
theorem dX12_make_323 : decode cX12_make 323 = .ok (.aload_n 0, 1) := by decide +kernel
theorem dX12_make_324 : decode cX12_make 324 = .ok (.getfield 44, 3) := by decide +kernel
theorem dX12_make_327 : decode cX12_make 327 = .ok (.iload 4, 2) := by decide +kernel
theorem dX12_make_329 : decode cX12_make 329 = .ok (.iconst 0, 1) := by decide +kernel
theorem dX12_make_330 : decode cX12_make 330 = .ok (.iastore, 1) := by decide +kernel
theorem dX12_make_331 : decode cX12_make 331 = .ok (.iinc 4 1, 3) := by decide +kernel
theorem dX12_make_334 : decode cX12_make 334 = .ok (.goto (-18), 3) := by decide +kernel
theorem dX12_make_337 : decode cX12_make 337 = .ok (.aload_n 0, 1) := by decide +kernel
theorem dX12_make_338 : decode cX12_make 338 = .ok (.getfield 100, 3) := by decide +kernel
theorem dX12_make_341 : decode cX12_make 341 = .ok (.istore 4, 2) := by decide +kernel
theorem dX12_make_343 : decode cX12_make 343 = .ok (.iconst 0, 1) := by decide +kernel
theorem dX12_make_344 : decode cX12_make 344 = .ok (.istore 5, 2) := by decide +kernel
theorem dX12_make_346 : decode cX12_make 346 = .ok (.iload 5, 2) := by decide +kernel
theorem dX12_make_348 : decode cX12_make 348 = .ok (.aload_n 0, 1) := by decide +kernel
theorem dX12_make_349 : decode cX12_make 349 = .ok (.invokevirtual 92, 3) := by decide +kernel
theorem dX12_make_352 : decode cX12_make 352 = .ok (.if_icmp .ge 76, 3) := by decide +kernel
theorem dX12_make_355 : decode cX12_make 355 = .ok (.aload_n 0, 1) := by decide +kernel
theorem dX12_make_356 : decode cX12_make 356 = .ok (.getfield 29, 3) := by decide +kernel
theorem dX12_make_359 : decode cX12_make 359 = .ok (.aload_n 0, 1) := by decide +kernel
theorem dX12_make_360 : decode cX12_make 360 = .ok (.getfield 100, 3) := by decide +kernel
theorem dX12_make_363 : decode cX12_make 363 = .ok (.bipush 9, 2) := by decide +kernel
theorem dX12_make_365 : decode cX12_make 365 = .ok (.iastore, 1) := by decide +kernel
theorem dX12_make_366 : decode cX12_make 366 = .ok (.aload_n 0, 1) := by decide +kernel
theorem dX12_make_367 : decode cX12_make 367 = .ok (.getfield 32, 3) := by decide +kernel
theorem dX12_make_370 : decode cX12_make 370 = .ok (.aload_n 0, 1) := by decide +kernel
theorem dX12_make_371 : decode cX12_make 371 = .ok (.getfield 100, 3) := by decide +kernel
theorem dX12_make_374 : decode cX12_make 374 = .ok (.aload_n 3, 1) := by decide +kernel
theorem dX12_make_375 : decode cX12_make 375 = .ok (.iload 5, 2) := by decide +kernel
theorem dX12_make_377 : decode cX12_make 377 = .ok (.iaload, 1) := by decide +kernel
theorem dX12_make_378 : decode cX12_make 378 = .ok (.iastore, 1) := by decide +kernel
theorem dX12_make_379 : decode cX12_make 379 = .ok (.aload_n 0, 1) := by decide +kernel
theorem dX12_make_380 : decode cX12_make 380 = .ok (.getfield 35, 3) := by decide +kernel
theorem dX12_make_383 : decode cX12_make 383 = .ok (.aload_n 0, 1) := by decide +kernel
theorem dX12_make_384 : decode cX12_make 384 = .ok (.getfield 100, 3) := by decide +kernel
theorem dX12_make_387 : decode cX12_make 387 = .ok (.iconst 0, 1) := by decide +kernel
theorem dX12_make_388 : decode cX12_make 388 = .ok (.iastore, 1) := by decide +kernel
theorem dX12_make_389 : decode cX12_make 389 = .ok (.aload_n 0, 1) := by decide +kernel
theorem dX12_make_390 : decode cX12_make 390 = .ok (.getfield 38, 3) := by decide +kernel
theorem dX12_make_393 : decode cX12_make 393 = .ok (.aload_n 0, 1) := by decide +kernel
theorem dX12_make_394 : decode cX12_make 394 = .ok (.getfield 100, 3) := by decide +kernel
theorem dX12_make_397 : decode cX12_make 397 = .ok (.iconst 1, 1) := by decide +kernel
theorem dX12_make_398 : decode cX12_make 398 = .ok (.iastore, 1) := by decide +kernel
theorem dX12_make_399 : decode cX12_make 399 = .ok (.aload_n 0, 1) := by decide +kernel
theorem dX12_make_400 : decode cX12_make 400 = .ok (.getfield 41, 3) := by decide +kernel
theorem dX12_make_403 : decode cX12_make 403 = .ok (.iconst 5, 1) := by decide +kernel
theorem dX12_make_404 : decode cX12_make 404 = .ok (.aload_n 0, 1) := by decide +kernel
theorem dX12_make_405 : decode cX12_make 405 = .ok (.getfield 100, 3) := by decide +kernel
theorem dX12_make_408 : decode cX12_make 408 = .ok (.imul, 1) := by decide +kernel
theorem dX12_make_409 : decode cX12_make 409 = .ok (.iload 5, 2) := by decide +kernel
theorem dX12_make_411 : decode cX12_make 411 = .ok (.iastore, 1) := by decide +kernel
theorem dX12_make_412 : decode cX12_make 412 = .ok (.aload_n 0, 1) := by decide +kernel
theorem dX12_make_413 : decode cX12_make 413 = .ok (.dup, 1) := by decide +kernel
theorem dX12_make_414 : decode cX12_make 414 = .ok (.getfield 100, 3) := by decide +kernel
theorem dX12_make_417 : decode cX12_make 417 = .ok (.iconst 1, 1) := by decide +kernel
theorem dX12_make_418 : decode cX12_make 418 = .ok (.iadd, 1) := by decide +kernel
theorem dX12_make_419 : decode cX12_make 419 = .ok (.putfield 100, 3) := by decide +kernel
theorem dX12_make_422 : decode cX12_make 422 = .ok (.iinc 5 1, 3) := by decide +kernel
theorem dX12_make_425 : decode cX12_make 425 = .ok (.goto (-79), 3) := by decide +kernel
theorem dX12_make_428 : decode cX12_make 428 = .ok (.aload_n 0, 1) := by decide +kernel
theorem dX12_make_429 : decode cX12_make 429 = .ok (.iload 4, 2) := by decide +kernel
theorem dX12_make_431 : decode cX12_make 431 = .ok (.invokevirtual 343, 3) := by decide +kernel
theorem dX12_make_434 : decode cX12_make 434 = .ok (.aload_n 0, 1) := by decide +kernel
theorem dX12_make_435 : decode cX12_make 435 = .ok (.iconst 0, 1) := by decide +kernel
theorem dX12_make_436 : decode cX12_make 436 = .ok (.putfield 208, 3) := by decide +kernel
theorem dX12_make_439 : decode cX12_make 439 = .ok (.aload_n 0, 1) := by decide +kernel
theorem dX12_make_440 : decode cX12_make 440 = .ok (.invokevirtual 211, 3) := by decide +kernel
theorem dX12_make_443 : decode cX12_make 443 = .ok (.pop, 1) := by decide +kernel
theorem dX12_make_444 : decode cX12_make 444 = .ok (.aload_n 0, 1) := by decide +kernel
theorem dX12_make_445 : decode cX12_make 445 = .ok (.invokevirtual 237, 3) := by decide +kernel
theorem dX12_make_448 : decode cX12_make 448 = .ok (.ireturn, 1) := by decide +kernel
theorem dX12_thinOut_0 : decode cX12_thinOut 0 = .ok (.aload_n 0, 1) := by decide +kernel
theorem dX12_thinOut_1 : decode cX12_thinOut 1 = .ok (.iconst 0, 1) := by decide +kernel
theorem dX12_thinOut_2 : decode cX12_thinOut 2 = .ok (.invokevirtual 295, 3) := by decide +kernel
theorem dX12_thinOut_5 : decode cX12_thinOut 5 = .ok (.aload_n 0, 1) := by decide +kernel
theorem dX12_thinOut_6 : decode cX12_thinOut 6 = .ok (.invokevirtual 340, 3) := by decide +kernel
theorem dX12_thinOut_9 : decode cX12_thinOut 9 = .ok (.aload_n 0, 1) := by decide +kernel
theorem dX12_thinOut_10 : decode cX12_thinOut 10 = .ok (.invokevirtual 92, 3) := by decide +kernel
theorem dX12_thinOut_13 : decode cX12_thinOut 13 = .ok (.irem, 1) := by decide +kernel
theorem dX12_thinOut_14 : decode cX12_thinOut 14 = .ok (.istore_n 2, 1) := by decide +kernel
theorem dX12_thinOut_15 : decode cX12_thinOut 15 = .ok (.iconst 0, 1) := by decide +kernel
theorem dX12_thinOut_16 : decode cX12_thinOut 16 = .ok (.istore_n 3, 1) := by decide +kernel
theorem dX12_thinOut_17 : decode cX12_thinOut 17 = .ok (.iload_n 3, 1) := by decide +kernel
theorem dX12_thinOut_18 : decode cX12_thinOut 18 = .ok (.aload_n 0, 1) := by decide +kernel
theorem dX12_thinOut_19 : decode cX12_thinOut 19 = .ok (.invokevirtual 92, 3) := by decide +kernel
theorem dX12_thinOut_22 : decode cX12_thinOut 22 = .ok (.if_icmp .ge 67, 3) := by decide +kernel
theorem dX12_thinOut_25 : decode cX12_thinOut 25 = .ok (.iload_n 1, 1) := by decide +kernel
theorem dX12_thinOut_26 : decode cX12_thinOut 26 = .ok (.istore 4, 2) := by decide +kernel
theorem dX12_thinOut_28 : decode cX12_thinOut 28 = .ok (.iload 4, 2) := by decide +kernel
theorem dX12_thinOut_30 : decode cX12_thinOut 30 = .ok (.aload_n 0, 1) := by decide +kernel
theorem dX12_thinOut_31 : decode cX12_thinOut 31 = .ok (.getfield 100, 3) := by decide +kernel
theorem dX12_thinOut_34 : decode cX12_thinOut 34 = .ok (.if_icmp .ge 22, 3) := by decide +kernel
theorem dX12_thinOut_37 : decode cX12_thinOut 37 = .ok (.aload_n 0, 1) := by decide +kernel
theorem dX12_thinOut_38 : decode cX12_thinOut 38 = .ok (.getfield 41, 3) := by decide +kernel
theorem dX12_thinOut_41 : decode cX12_thinOut 41 = .ok (.iconst 5, 1) := by decide +kernel
theorem dX12_thinOut_42 : decode cX12_thinOut 42 = .ok (.iload 4, 2) := by decide +kernel
theorem dX12_thinOut_44 : decode cX12_thinOut 44 = .ok (.imul, 1) := by decide +kernel
theorem dX12_thinOut_45 : decode cX12_thinOut 45 = .ok (.iaload, 1) := by decide +kernel
theorem dX12_thinOut_46 : decode cX12_thinOut 46 = .ok (.iload_n 2, 1) := by decide +kernel
theorem dX12_thinOut_47 : decode cX12_thinOut 47 = .ok (.if_icmp .eq 9, 3) := by decide +kernel
theorem dX12_thinOut_50 : decode cX12_thinOut 50 = .ok (.iinc 4 1, 3) := by decide +kernel
theorem dX12_thinOut_53 : decode cX12_thinOut 53 = .ok (.goto (-25), 3) := by decide +kernel
theorem dX12_thinOut_56 : decode cX12_thinOut 56 = .ok (.aload_n 0, 1) := by decide +kernel
theorem dX12_thinOut_57 : decode cX12_thinOut 57 = .ok (.iconst 2, 1) := by decide +kernel
theorem dX12_thinOut_58 : decode cX12_thinOut 58 = .ok (.iload 4, 2) := by decide +kernel
theorem dX12_thinOut_60 : decode cX12_thinOut 60 = .ok (.invokevirtual 299, 3) := by decide +kernel
theorem dX12_thinOut_63 : decode cX12_thinOut 63 = .ok (.iconst 1, 1) := by decide +kernel
theorem dX12_thinOut_64 : decode cX12_thinOut 64 = .ok (.if_icmp .ne 9, 3) := by decide +kernel
theorem dX12_thinOut_67 : decode cX12_thinOut 67 = .ok (.aload_n 0, 1) := by decide +kernel
theorem dX12_thinOut_68 : decode cX12_thinOut 68 = .ok (.iload 4, 2) := by decide +kernel
theorem dX12_thinOut_70 : decode cX12_thinOut 70 = .ok (.invokevirtual 265, 3) := by decide +kernel
theorem dX12_thinOut_73 : decode cX12_thinOut 73 = .ok (.iload_n 2, 1) := by decide +kernel
theorem dX12_thinOut_74 : decode cX12_thinOut 74 = .ok (.bipush 7, 2) := by decide +kernel
theorem dX12_thinOut_76 : decode cX12_thinOut 76 = .ok (.iadd, 1) := by decide +kernel
theorem dX12_thinOut_77 : decode cX12_thinOut 77 = .ok (.aload_n 0, 1) := by decide +kernel
theorem dX12_thinOut_78 : decode cX12_thinOut 78 = .ok (.invokevirtual 92, 3) := by decide +kernel
theorem dX12_thinOut_81 : decode cX12_thinOut 81 = .ok (.irem, 1) := by decide +kernel
theorem dX12_thinOut_82 : decode cX12_thinOut 82 = .ok (.istore_n 2, 1) := by decide +kernel
theorem dX12_thinOut_83 : decode cX12_thinOut 83 = .ok (.iinc 3 1, 3) := by decide +kernel
theorem dX12_thinOut_86 : decode cX12_thinOut 86 = .ok (.goto (-69), 3) := by decide +kernel
theorem dX12_thinOut_89 : decode cX12_thinOut 89 = .ok (.return_, 1) := by decide +kernel
theorem dX12_change_0 : decode cX12_change 0 = .ok (.aload_n 0, 1) := by decide +kernel
theorem dX12_change_1 : decode cX12_change 1 = .ok (.iconst 0, 1) := by decide +kernel
theorem dX12_change_2 : decode cX12_change 2 = .ok (.putfield 83, 3) := by decide +kernel
theorem dX12_change_5 : decode cX12_change 5 = .ok (.iload_n 1, 1) := by decide +kernel
theorem dX12_change_6 : decode cX12_change 6 = .ok (.iconst 0, 1) := by decide +kernel
theorem dX12_change_7 : decode cX12_change 7 = .ok (.iconst 1, 1) := by decide +kernel
theorem dX12_change_8 : decode cX12_change 8 = .ok (.invokestatic 96, 3) := by decide +kernel
theorem dX12_change_11 : decode cX12_change 11 = .ok (.ifCond .ne 9, 3) := by decide +kernel
theorem dX12_change_14 : decode cX12_change 14 = .ok (.aload_n 0, 1) := by decide +kernel
theorem dX12_change_15 : decode cX12_change 15 = .ok (.iconst 1, 1) := by decide +kernel
theorem dX12_change_16 : decode cX12_change 16 = .ok (.invokevirtual 106, 3) := by decide +kernel
theorem dX12_change_19 : decode cX12_change 19 = .ok (.ireturn, 1) := by decide +kernel
theorem dX12_change_20 : decode cX12_change 20 = .ok (.aload_n 0, 1) := by decide +kernel
theorem dX12_change_21 : decode cX12_change 21 = .ok (.getfield 86, 3) := by decide +kernel
theorem dX12_change_24 : decode cX12_change 24 = .ok (.ifCond .ne 9, 3) := by decide +kernel
theorem dX12_change_27 : decode cX12_change 27 = .ok (.aload_n 0, 1) := by decide +kernel
theorem dX12_change_28 : decode cX12_change 28 = .ok (.iconst 2, 1) := by decide +kernel
theorem dX12_change_29 : decode cX12_change 29 = .ok (.invokevirtual 106, 3) := by decide +kernel
theorem dX12_change_32 : decode cX12_change 32 = .ok (.ireturn, 1) := by decide +kernel
theorem dX12_change_33 : decode cX12_change 33 = .ok (.bipush 25, 2) := by decide +kernel
theorem dX12_change_35 : decode cX12_change 35 = .ok (.newarray .int, 2) := by decide +kernel
theorem dX12_change_37 : decode cX12_change 37 = .ok (.astore_n 2, 1) := by decide +kernel
theorem dX12_change_38 : decode cX12_change 38 = .ok (.bipush 25, 2) := by decide +kernel
theorem dX12_change_40 : decode cX12_change 40 = .ok (.newarray .int, 2) := by decide +kernel
theorem dX12_change_42 : decode cX12_change 42 = .ok (.astore_n 3, 1) := by decide +kernel
theorem dX12_change_43 : decode cX12_change 43 = .ok (.iconst 0, 1) := by decide +kernel
theorem dX12_change_44 : decode cX12_change 44 = .ok (.istore 4, 2) := by decide +kernel
theorem dX12_change_46 : decode cX12_change 46 = .ok (.iload 4, 2) := by decide +kernel
theorem dX12_change_48 : decode cX12_change 48 = .ok (.aload_n 0, 1) := by decide +kernel
theorem dX12_change_49 : decode cX12_change 49 = .ok (.invokevirtual 92, 3) := by decide +kernel
theorem dX12_change_52 : decode cX12_change 52 = .ok (.if_icmp .ge 85, 3) := by decide +kernel
theorem dX12_change_55 : decode cX12_change 55 = .ok (.iload 4, 2) := by decide +kernel
theorem dX12_change_57 : decode cX12_change 57 = .ok (.aload_n 0, 1) := by decide +kernel
theorem dX12_change_58 : decode cX12_change 58 = .ok (.getfield 86, 3) := by decide +kernel
theorem dX12_change_61 : decode cX12_change 61 = .ok (.irem, 1) := by decide +kernel
theorem dX12_change_62 : decode cX12_change 62 = .ok (.istore 5, 2) := by decide +kernel
theorem dX12_change_64 : decode cX12_change 64 = .ok (.iload 4, 2) := by decide +kernel
theorem dX12_change_66 : decode cX12_change 66 = .ok (.aload_n 0, 1) := by decide +kernel
theorem dX12_change_67 : decode cX12_change 67 = .ok (.getfield 86, 3) := by decide +kernel
theorem dX12_change_70 : decode cX12_change 70 = .ok (.idiv, 1) := by decide +kernel
theorem dX12_change_71 : decode cX12_change 71 = .ok (.istore 6, 2) := by decide +kernel
theorem dX12_change_73 : decode cX12_change 73 = .ok (.aload_n 2, 1) := by decide +kernel
theorem dX12_change_74 : decode cX12_change 74 = .ok (.iload 4, 2) := by decide +kernel
theorem dX12_change_76 : decode cX12_change 76 = .ok (.iload_n 1, 1) := by decide +kernel
theorem dX12_change_77 : decode cX12_change 77 = .ok (.ifCond .ne 23, 3) := by decide +kernel
theorem dX12_change_80 : decode cX12_change 80 = .ok (.aload_n 0, 1) := by decide +kernel
