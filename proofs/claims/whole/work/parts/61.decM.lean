theorem dJ0_coder_7d493_0 : decode cJ0_coder_7d493 0 = .ok (.getstatic 38, 3) := by decide +kernel
theorem dJ0_coder_7d493_3 : decode cJ0_coder_7d493 3 = .ok (.ifCond .eq 10, 3) := by decide +kernel
theorem dJ0_coder_7d493_6 : decode cJ0_coder_7d493 6 = .ok (.aload_n 0, 1) := by decide +kernel
theorem dJ0_coder_7d493_7 : decode cJ0_coder_7d493 7 = .ok (.getfield 15, 3) := by decide +kernel
theorem dJ0_coder_7d493_10 : decode cJ0_coder_7d493 10 = .ok (.goto 4, 3) := by decide +kernel
theorem dJ0_coder_7d493_13 : decode cJ0_coder_7d493 13 = .ok (.iconst 1, 1) := by decide +kernel
theorem dJ0_coder_7d493_14 : decode cJ0_coder_7d493 14 = .ok (.ireturn, 1) := by decide +kernel
theorem dJ0_isLatin1_aae02_0 : decode cJ0_isLatin1_aae02 0 = .ok (.getstatic 38, 3) := by decide +kernel
theorem dJ0_isLatin1_aae02_3 : decode cJ0_isLatin1_aae02 3 = .ok (.ifCond .eq 14, 3) := by decide +kernel
theorem dJ0_isLatin1_aae02_6 : decode cJ0_isLatin1_aae02 6 = .ok (.aload_n 0, 1) := by decide +kernel
theorem dJ0_isLatin1_aae02_7 : decode cJ0_isLatin1_aae02 7 = .ok (.getfield 15, 3) := by decide +kernel
theorem dJ0_isLatin1_aae02_10 : decode cJ0_isLatin1_aae02 10 = .ok (.ifCond .ne 7, 3) := by decide +kernel
theorem dJ0_isLatin1_aae02_13 : decode cJ0_isLatin1_aae02 13 = .ok (.iconst 1, 1) := by decide +kernel
theorem dJ0_isLatin1_aae02_14 : decode cJ0_isLatin1_aae02 14 = .ok (.goto 4, 3) := by decide +kernel
theorem dJ0_isLatin1_aae02_17 : decode cJ0_isLatin1_aae02 17 = .ok (.iconst 0, 1) := by decide +kernel
theorem dJ0_isLatin1_aae02_18 : decode cJ0_isLatin1_aae02 18 = .ok (.ireturn, 1) := by decide +kernel
theorem dJ0_length_8abf5_0 : decode cJ0_length_8abf5 0 = .ok (.aload_n 0, 1) := by decide +kernel
theorem dJ0_length_8abf5_1 : decode cJ0_length_8abf5 1 = .ok (.getfield 9, 3) := by decide +kernel
theorem dJ0_length_8abf5_4 : decode cJ0_length_8abf5 4 = .ok (.arraylength, 1) := by decide +kernel
theorem dJ0_length_8abf5_5 : decode cJ0_length_8abf5 5 = .ok (.aload_n 0, 1) := by decide +kernel
theorem dJ0_length_8abf5_6 : decode cJ0_length_8abf5 6 = .ok (.invokevirtual 335, 3) := by decide +kernel
theorem dJ0_length_8abf5_9 : decode cJ0_length_8abf5 9 = .ok (.ishr, 1) := by decide +kernel
theorem dJ0_length_8abf5_10 : decode cJ0_length_8abf5 10 = .ok (.ireturn, 1) := by decide +kernel
theorem dJ3_checkIndex_8e157_0 : decode cJ3_checkIndex_8e157 0 = .ok (.iload_n 0, 1) := by decide +kernel
theorem dJ3_checkIndex_8e157_1 : decode cJ3_checkIndex_8e157 1 = .ok (.ifCond .lt 8, 3) := by decide +kernel
theorem dJ3_checkIndex_8e157_4 : decode cJ3_checkIndex_8e157 4 = .ok (.iload_n 0, 1) := by decide +kernel
theorem dJ3_checkIndex_8e157_5 : decode cJ3_checkIndex_8e157 5 = .ok (.iload_n 1, 1) := by decide +kernel
theorem dJ3_checkIndex_8e157_6 : decode cJ3_checkIndex_8e157 6 = .ok (.if_icmp .lt 10, 3) := by decide +kernel
theorem dJ3_checkIndex_8e157_9 : decode cJ3_checkIndex_8e157 9 = .ok (.aload_n 2, 1) := by decide +kernel
theorem dJ3_checkIndex_8e157_10 : decode cJ3_checkIndex_8e157 10 = .ok (.iload_n 0, 1) := by decide +kernel
theorem dJ3_checkIndex_8e157_11 : decode cJ3_checkIndex_8e157 11 = .ok (.iload_n 1, 1) := by decide +kernel
theorem dJ3_checkIndex_8e157_12 : decode cJ3_checkIndex_8e157 12 = .ok (.invokestatic 95, 3) := by decide +kernel
theorem dJ3_checkIndex_8e157_15 : decode cJ3_checkIndex_8e157 15 = .ok (.athrow, 1) := by decide +kernel
theorem dJ3_checkIndex_8e157_16 : decode cJ3_checkIndex_8e157 16 = .ok (.iload_n 0, 1) := by decide +kernel
theorem dJ3_checkIndex_8e157_17 : decode cJ3_checkIndex_8e157 17 = .ok (.ireturn, 1) := by decide +kernel
theorem dJ0_checkIndex_df160_0 : decode cJ0_checkIndex_df160 0 = .ok (.iload_n 0, 1) := by decide +kernel
theorem dJ0_checkIndex_df160_1 : decode cJ0_checkIndex_df160 1 = .ok (.iload_n 1, 1) := by decide +kernel
theorem dJ0_checkIndex_df160_2 : decode cJ0_checkIndex_df160 2 = .ok (.getstatic 1053, 3) := by decide +kernel
theorem dJ0_checkIndex_df160_5 : decode cJ0_checkIndex_df160 5 = .ok (.invokestatic 1059, 3) := by decide +kernel
theorem dJ0_checkIndex_df160_8 : decode cJ0_checkIndex_df160 8 = .ok (.pop, 1) := by decide +kernel
theorem dJ0_checkIndex_df160_9 : decode cJ0_checkIndex_df160 9 = .ok (.return_, 1) := by decide +kernel
theorem dJ1_charAt_3b067_0 : decode cJ1_charAt_3b067 0 = .ok (.iload_n 1, 1) := by decide +kernel
theorem dJ1_charAt_3b067_1 : decode cJ1_charAt_3b067 1 = .ok (.aload_n 0, 1) := by decide +kernel
theorem dJ1_charAt_3b067_2 : decode cJ1_charAt_3b067 2 = .ok (.arraylength, 1) := by decide +kernel
theorem dJ1_charAt_3b067_3 : decode cJ1_charAt_3b067 3 = .ok (.invokestatic 9, 3) := by decide +kernel
theorem dJ1_charAt_3b067_6 : decode cJ1_charAt_3b067 6 = .ok (.aload_n 0, 1) := by decide +kernel
theorem dJ1_charAt_3b067_7 : decode cJ1_charAt_3b067 7 = .ok (.iload_n 1, 1) := by decide +kernel
theorem dJ1_charAt_3b067_8 : decode cJ1_charAt_3b067 8 = .ok (.baload, 1) := by decide +kernel
theorem dJ1_charAt_3b067_9 : decode cJ1_charAt_3b067 9 = .ok (.sipush 255, 3) := by decide +kernel
theorem dJ1_charAt_3b067_12 : decode cJ1_charAt_3b067 12 = .ok (.iand, 1) := by decide +kernel
theorem dJ1_charAt_3b067_13 : decode cJ1_charAt_3b067 13 = .ok (.i2c, 1) := by decide +kernel
theorem dJ1_charAt_3b067_14 : decode cJ1_charAt_3b067 14 = .ok (.ireturn, 1) := by decide +kernel
theorem dJ0_charAt_5068e_0 : decode cJ0_charAt_5068e 0 = .ok (.aload_n 0, 1) := by decide +kernel
theorem dJ0_charAt_5068e_1 : decode cJ0_charAt_5068e 1 = .ok (.invokevirtual 492, 3) := by decide +kernel
theorem dJ0_charAt_5068e_4 : decode cJ0_charAt_5068e 4 = .ok (.ifCond .eq 12, 3) := by decide +kernel
theorem dJ0_charAt_5068e_7 : decode cJ0_charAt_5068e 7 = .ok (.aload_n 0, 1) := by decide +kernel
theorem dJ0_charAt_5068e_8 : decode cJ0_charAt_5068e 8 = .ok (.getfield 9, 3) := by decide +kernel
theorem dJ0_charAt_5068e_11 : decode cJ0_charAt_5068e 11 = .ok (.iload_n 1, 1) := by decide +kernel
theorem dJ0_charAt_5068e_12 : decode cJ0_charAt_5068e 12 = .ok (.invokestatic 495, 3) := by decide +kernel
theorem dJ0_charAt_5068e_15 : decode cJ0_charAt_5068e 15 = .ok (.ireturn, 1) := by decide +kernel
theorem dJ0_charAt_5068e_16 : decode cJ0_charAt_5068e 16 = .ok (.aload_n 0, 1) := by decide +kernel
theorem dJ0_charAt_5068e_17 : decode cJ0_charAt_5068e 17 = .ok (.getfield 9, 3) := by decide +kernel
theorem dJ0_charAt_5068e_20 : decode cJ0_charAt_5068e 20 = .ok (.iload_n 1, 1) := by decide +kernel
theorem dJ0_charAt_5068e_21 : decode cJ0_charAt_5068e 21 = .ok (.invokestatic 498, 3) := by decide +kernel
theorem dJ0_charAt_5068e_24 : decode cJ0_charAt_5068e 24 = .ok (.ireturn, 1) := by decide +kernel
theorem dX11_thrown_0 : decode cX11_thrown 0 = .ok (.aload_n 0, 1) := by decide +kernel
theorem dX11_thrown_1 : decode cX11_thrown 1 = .ok (.getfield 3, 3) := by decide +kernel
theorem dX11_thrown_4 : decode cX11_thrown 4 = .ok (.ireturn, 1) := by decide +kernel
theorem dX11_throwsIf_0 : decode cX11_throwsIf 0 = .ok (.iload_n 1, 1) := by decide +kernel
theorem dX11_throwsIf_1 : decode cX11_throwsIf 1 = .ok (.ifCond .eq 8, 3) := by decide +kernel
theorem dX11_throwsIf_4 : decode cX11_throwsIf 4 = .ok (.aload_n 0, 1) := by decide +kernel
theorem dX11_throwsIf_5 : decode cX11_throwsIf 5 = .ok (.iload_n 2, 1) := by decide +kernel
theorem dX11_throwsIf_6 : decode cX11_throwsIf 6 = .ok (.putfield 3, 3) := by decide +kernel
theorem dX11_throwsIf_9 : decode cX11_throwsIf 9 = .ok (.iload_n 1, 1) := by decide +kernel
theorem dX11_throwsIf_10 : decode cX11_throwsIf 10 = .ok (.ireturn, 1) := by decide +kernel
theorem dX11_in_0 : decode cX11_in 0 = .ok (.iload_n 0, 1) := by decide +kernel
theorem dX11_in_1 : decode cX11_in 1 = .ok (.iload_n 1, 1) := by decide +kernel
theorem dX11_in_2 : decode cX11_in 2 = .ok (.if_icmp .lt 12, 3) := by decide +kernel
theorem dX11_in_5 : decode cX11_in 5 = .ok (.iload_n 0, 1) := by decide +kernel
theorem dX11_in_6 : decode cX11_in 6 = .ok (.iload_n 2, 1) := by decide +kernel
theorem dX11_in_7 : decode cX11_in 7 = .ok (.if_icmp .gt 7, 3) := by decide +kernel
theorem dX11_in_10 : decode cX11_in 10 = .ok (.iconst 1, 1) := by decide +kernel
theorem dX11_in_11 : decode cX11_in 11 = .ok (.goto 4, 3) := by decide +kernel
theorem dX11_in_14 : decode cX11_in 14 = .ok (.iconst 0, 1) := by decide +kernel
theorem dX11_in_15 : decode cX11_in 15 = .ok (.ireturn, 1) := by decide +kernel
theorem dX11_has_0 : decode cX11_has 0 = .ok (.iload_n 0, 1) := by decide +kernel
theorem dX11_has_1 : decode cX11_has 1 = .ok (.iload_n 1, 1) := by decide +kernel
theorem dX11_has_2 : decode cX11_has 2 = .ok (.ishr, 1) := by decide +kernel
theorem dX11_has_3 : decode cX11_has 3 = .ok (.iconst 1, 1) := by decide +kernel
theorem dX11_has_4 : decode cX11_has 4 = .ok (.iand, 1) := by decide +kernel
theorem dX11_has_5 : decode cX11_has 5 = .ok (.iconst 1, 1) := by decide +kernel
theorem dX11_has_6 : decode cX11_has 6 = .ok (.if_icmp .ne 7, 3) := by decide +kernel
theorem dX11_has_9 : decode cX11_has 9 = .ok (.iconst 1, 1) := by decide +kernel
theorem dX11_has_10 : decode cX11_has 10 = .ok (.goto 4, 3) := by decide +kernel
theorem dX11_has_13 : decode cX11_has 13 = .ok (.iconst 0, 1) := by decide +kernel
theorem dX11_has_14 : decode cX11_has 14 = .ok (.ireturn, 1) := by decide +kernel
theorem dX11_image_0 : decode cX11_image 0 = .ok (.aload_n 0, 1) := by decide +kernel
theorem dX11_image_1 : decode cX11_image 1 = .ok (.iconst 0, 1) := by decide +kernel
theorem dX11_image_2 : decode cX11_image 2 = .ok (.putfield 3, 3) := by decide +kernel
theorem dX11_image_5 : decode cX11_image 5 = .ok (.iconst 0, 1) := by decide +kernel
theorem dX11_image_6 : decode cX11_image 6 = .ok (.istore_n 1, 1) := by decide +kernel
theorem dX11_image_7 : decode cX11_image 7 = .ok (.iload_n 1, 1) := by decide +kernel
theorem dX11_image_8 : decode cX11_image 8 = .ok (.sipush 6277, 3) := by decide +kernel
theorem dX11_image_11 : decode cX11_image 11 = .ok (.if_icmp .ge 21, 3) := by decide +kernel
theorem dX11_image_14 : decode cX11_image 14 = .ok (.aload_n 0, 1) := by decide +kernel
theorem dX11_image_15 : decode cX11_image 15 = .ok (.getfield 17, 3) := by decide +kernel
theorem dX11_image_18 : decode cX11_image 18 = .ok (.iload_n 1, 1) := by decide +kernel
theorem dX11_image_19 : decode cX11_image 19 = .ok (.aload_n 0, 1) := by decide +kernel
theorem dX11_image_20 : decode cX11_image 20 = .ok (.getfield 13, 3) := by decide +kernel
theorem dX11_image_23 : decode cX11_image 23 = .ok (.iload_n 1, 1) := by decide +kernel
theorem dX11_image_24 : decode cX11_image 24 = .ok (.iaload, 1) := by decide +kernel
theorem dX11_image_25 : decode cX11_image 25 = .ok (.iastore, 1) := by decide +kernel
theorem dX11_image_26 : decode cX11_image 26 = .ok (.iinc 1 1, 3) := by decide +kernel
theorem dX11_image_29 : decode cX11_image 29 = .ok (.goto (-22), 3) := by decide +kernel
theorem dX11_image_32 : decode cX11_image 32 = .ok (.aload_n 0, 1) := by decide +kernel
theorem dX11_image_33 : decode cX11_image 33 = .ok (.iconst 1, 1) := by decide +kernel
theorem dX11_image_34 : decode cX11_image 34 = .ok (.putfield 95, 3) := by decide +kernel
theorem dX11_image_37 : decode cX11_image 37 = .ok (.return_, 1) := by decide +kernel
theorem dX11_back_0 : decode cX11_back 0 = .ok (.aload_n 0, 1) := by decide +kernel
theorem dX11_back_1 : decode cX11_back 1 = .ok (.iconst 0, 1) := by decide +kernel
theorem dX11_back_2 : decode cX11_back 2 = .ok (.putfield 3, 3) := by decide +kernel
theorem dX11_back_5 : decode cX11_back 5 = .ok (.aload_n 0, 1) := by decide +kernel
theorem dX11_back_6 : decode cX11_back 6 = .ok (.getfield 95, 3) := by decide +kernel
theorem dX11_back_9 : decode cX11_back 9 = .ok (.ifCond .ne 5, 3) := by decide +kernel
theorem dX11_back_12 : decode cX11_back 12 = .ok (.iconst 0, 1) := by decide +kernel
theorem dX11_back_13 : decode cX11_back 13 = .ok (.ireturn, 1) := by decide +kernel
theorem dX11_back_14 : decode cX11_back 14 = .ok (.iconst 0, 1) := by decide +kernel
theorem dX11_back_15 : decode cX11_back 15 = .ok (.istore_n 1, 1) := by decide +kernel
theorem dX11_back_16 : decode cX11_back 16 = .ok (.iload_n 1, 1) := by decide +kernel
theorem dX11_back_17 : decode cX11_back 17 = .ok (.sipush 6277, 3) := by decide +kernel
theorem dX11_back_20 : decode cX11_back 20 = .ok (.if_icmp .ge 21, 3) := by decide +kernel
theorem dX11_back_23 : decode cX11_back 23 = .ok (.aload_n 0, 1) := by decide +kernel
theorem dX11_back_24 : decode cX11_back 24 = .ok (.getfield 13, 3) := by decide +kernel
theorem dX11_back_27 : decode cX11_back 27 = .ok (.iload_n 1, 1) := by decide +kernel
theorem dX11_back_28 : decode cX11_back 28 = .ok (.aload_n 0, 1) := by decide +kernel
theorem dX11_back_29 : decode cX11_back 29 = .ok (.getfield 17, 3) := by decide +kernel
theorem dX11_back_32 : decode cX11_back 32 = .ok (.iload_n 1, 1) := by decide +kernel
theorem dX11_back_33 : decode cX11_back 33 = .ok (.iaload, 1) := by decide +kernel
theorem dX11_back_34 : decode cX11_back 34 = .ok (.iastore, 1) := by decide +kernel
theorem dX11_back_35 : decode cX11_back 35 = .ok (.iinc 1 1, 3) := by decide +kernel
theorem dX11_back_38 : decode cX11_back 38 = .ok (.goto (-22), 3) := by decide +kernel
theorem dX11_back_41 : decode cX11_back 41 = .ok (.aload_n 0, 1) := by decide +kernel
theorem dX11_back_42 : decode cX11_back 42 = .ok (.iconst 0, 1) := by decide +kernel
theorem dX11_back_43 : decode cX11_back 43 = .ok (.putfield 99, 3) := by decide +kernel
theorem dX11_back_46 : decode cX11_back 46 = .ok (.iconst 1, 1) := by decide +kernel
theorem dX11_back_47 : decode cX11_back 47 = .ok (.ireturn, 1) := by decide +kernel
theorem dX11_remembers_0 : decode cX11_remembers 0 = .ok (.aload_n 0, 1) := by decide +kernel
theorem dX11_remembers_1 : decode cX11_remembers 1 = .ok (.getfield 99, 3) := by decide +kernel
theorem dX11_remembers_4 : decode cX11_remembers 4 = .ok (.bipush 8, 2) := by decide +kernel
theorem dX11_remembers_6 : decode cX11_remembers 6 = .ok (.if_icmp .ne 36, 3) := by decide +kernel
theorem dX11_remembers_9 : decode cX11_remembers 9 = .ok (.iconst 0, 1) := by decide +kernel
theorem dX11_remembers_10 : decode cX11_remembers 10 = .ok (.istore_n 1, 1) := by decide +kernel
theorem dX11_remembers_11 : decode cX11_remembers 11 = .ok (.iload_n 1, 1) := by decide +kernel
theorem dX11_remembers_12 : decode cX11_remembers 12 = .ok (.ldc 102, 2) := by decide +kernel
theorem dX11_remembers_14 : decode cX11_remembers 14 = .ok (.if_icmp .ge 25, 3) := by decide +kernel
theorem dX11_remembers_17 : decode cX11_remembers 17 = .ok (.aload_n 0, 1) := by decide +kernel
theorem dX11_remembers_18 : decode cX11_remembers 18 = .ok (.getfield 27, 3) := by decide +kernel
theorem dX11_remembers_21 : decode cX11_remembers 21 = .ok (.iload_n 1, 1) := by decide +kernel
theorem dX11_remembers_22 : decode cX11_remembers 22 = .ok (.aload_n 0, 1) := by decide +kernel
theorem dX11_remembers_23 : decode cX11_remembers 23 = .ok (.getfield 27, 3) := by decide +kernel
theorem dX11_remembers_26 : decode cX11_remembers 26 = .ok (.iload_n 1, 1) := by decide +kernel
theorem dX11_remembers_27 : decode cX11_remembers 27 = .ok (.sipush 5440, 3) := by decide +kernel
theorem dX11_remembers_30 : decode cX11_remembers 30 = .ok (.iadd, 1) := by decide +kernel
theorem dX11_remembers_31 : decode cX11_remembers 31 = .ok (.iaload, 1) := by decide +kernel
theorem dX11_remembers_32 : decode cX11_remembers 32 = .ok (.iastore, 1) := by decide +kernel
theorem dX11_remembers_33 : decode cX11_remembers 33 = .ok (.iinc 1 1, 3) := by decide +kernel
theorem dX11_remembers_36 : decode cX11_remembers 36 = .ok (.goto (-25), 3) := by decide +kernel
theorem dX11_remembers_39 : decode cX11_remembers 39 = .ok (.goto 13, 3) := by decide +kernel
theorem dX11_remembers_42 : decode cX11_remembers 42 = .ok (.aload_n 0, 1) := by decide +kernel
theorem dX11_remembers_43 : decode cX11_remembers 43 = .ok (.dup, 1) := by decide +kernel
theorem dX11_remembers_44 : decode cX11_remembers 44 = .ok (.getfield 99, 3) := by decide +kernel
theorem dX11_remembers_47 : decode cX11_remembers 47 = .ok (.iconst 1, 1) := by decide +kernel
theorem dX11_remembers_48 : decode cX11_remembers 48 = .ok (.iadd, 1) := by decide +kernel
theorem dX11_remembers_49 : decode cX11_remembers 49 = .ok (.putfield 99, 3) := by decide +kernel
theorem dX11_remembers_52 : decode cX11_remembers 52 = .ok (.iconst 0, 1) := by decide +kernel
theorem dX11_remembers_53 : decode cX11_remembers 53 = .ok (.istore_n 1, 1) := by decide +kernel
theorem dX11_remembers_54 : decode cX11_remembers 54 = .ok (.iload_n 1, 1) := by decide +kernel
theorem dX11_remembers_55 : decode cX11_remembers 55 = .ok (.sipush 5440, 3) := by decide +kernel
theorem dX11_remembers_58 : decode cX11_remembers 58 = .ok (.if_icmp .ge 32, 3) := by decide +kernel
theorem dX11_remembers_61 : decode cX11_remembers 61 = .ok (.aload_n 0, 1) := by decide +kernel
theorem dX11_remembers_62 : decode cX11_remembers 62 = .ok (.getfield 27, 3) := by decide +kernel
theorem dX11_remembers_65 : decode cX11_remembers 65 = .ok (.sipush 5440, 3) := by decide +kernel
theorem dX11_remembers_68 : decode cX11_remembers 68 = .ok (.aload_n 0, 1) := by decide +kernel
theorem dX11_remembers_69 : decode cX11_remembers 69 = .ok (.getfield 99, 3) := by decide +kernel
theorem dX11_remembers_72 : decode cX11_remembers 72 = .ok (.iconst 1, 1) := by decide +kernel
theorem dX11_remembers_73 : decode cX11_remembers 73 = .ok (.isub, 1) := by decide +kernel
theorem dX11_remembers_74 : decode cX11_remembers 74 = .ok (.imul, 1) := by decide +kernel
theorem dX11_remembers_75 : decode cX11_remembers 75 = .ok (.iload_n 1, 1) := by decide +kernel
theorem dX11_remembers_76 : decode cX11_remembers 76 = .ok (.iadd, 1) := by decide +kernel
theorem dX11_remembers_77 : decode cX11_remembers 77 = .ok (.aload_n 0, 1) := by decide +kernel
theorem dX11_remembers_78 : decode cX11_remembers 78 = .ok (.getfield 13, 3) := by decide +kernel
theorem dX11_remembers_81 : decode cX11_remembers 81 = .ok (.iload_n 1, 1) := by decide +kernel
theorem dX11_remembers_82 : decode cX11_remembers 82 = .ok (.iaload, 1) := by decide +kernel
theorem dX11_remembers_83 : decode cX11_remembers 83 = .ok (.iastore, 1) := by decide +kernel
theorem dX11_remembers_84 : decode cX11_remembers 84 = .ok (.iinc 1 1, 3) := by decide +kernel
theorem dX11_remembers_87 : decode cX11_remembers 87 = .ok (.goto (-33), 3) := by decide +kernel
theorem dX11_remembers_90 : decode cX11_remembers 90 = .ok (.aload_n 0, 1) := by decide +kernel
theorem dX11_remembers_91 : decode cX11_remembers 91 = .ok (.getfield 13, 3) := by decide +kernel
theorem dX11_remembers_94 : decode cX11_remembers 94 = .ok (.bipush 7, 2) := by decide +kernel
theorem dX11_remembers_96 : decode cX11_remembers 96 = .ok (.iconst 1, 1) := by decide +kernel
theorem dX11_remembers_97 : decode cX11_remembers 97 = .ok (.iastore, 1) := by decide +kernel
theorem dX11_remembers_98 : decode cX11_remembers 98 = .ok (.return_, 1) := by decide +kernel
theorem dX11_undo_0 : decode cX11_undo 0 = .ok (.aload_n 0, 1) := by decide +kernel
theorem dX11_undo_1 : decode cX11_undo 1 = .ok (.iconst 0, 1) := by decide +kernel
theorem dX11_undo_2 : decode cX11_undo 2 = .ok (.putfield 3, 3) := by decide +kernel
theorem dX11_undo_5 : decode cX11_undo 5 = .ok (.aload_n 0, 1) := by decide +kernel
theorem dX11_undo_6 : decode cX11_undo 6 = .ok (.getfield 99, 3) := by decide +kernel
theorem dX11_undo_9 : decode cX11_undo 9 = .ok (.ifCond .ne 5, 3) := by decide +kernel
theorem dX11_undo_12 : decode cX11_undo 12 = .ok (.iconst 0, 1) := by decide +kernel
theorem dX11_undo_13 : decode cX11_undo 13 = .ok (.ireturn, 1) := by decide +kernel
theorem dX11_undo_14 : decode cX11_undo 14 = .ok (.aload_n 0, 1) := by decide +kernel
theorem dX11_undo_15 : decode cX11_undo 15 = .ok (.dup, 1) := by decide +kernel
theorem dX11_undo_16 : decode cX11_undo 16 = .ok (.getfield 99, 3) := by decide +kernel
theorem dX11_undo_19 : decode cX11_undo 19 = .ok (.iconst 1, 1) := by decide +kernel
theorem dX11_undo_20 : decode cX11_undo 20 = .ok (.isub, 1) := by decide +kernel
theorem dX11_undo_21 : decode cX11_undo 21 = .ok (.putfield 99, 3) := by decide +kernel
theorem dX11_undo_24 : decode cX11_undo 24 = .ok (.iconst 0, 1) := by decide +kernel
theorem dX11_undo_25 : decode cX11_undo 25 = .ok (.istore_n 1, 1) := by decide +kernel
theorem dX11_undo_26 : decode cX11_undo 26 = .ok (.iload_n 1, 1) := by decide +kernel
theorem dX11_undo_27 : decode cX11_undo 27 = .ok (.sipush 5440, 3) := by decide +kernel
theorem dX11_undo_30 : decode cX11_undo 30 = .ok (.if_icmp .ge 30, 3) := by decide +kernel
theorem dX11_undo_33 : decode cX11_undo 33 = .ok (.aload_n 0, 1) := by decide +kernel
theorem dX11_undo_34 : decode cX11_undo 34 = .ok (.getfield 13, 3) := by decide +kernel
theorem dX11_undo_37 : decode cX11_undo 37 = .ok (.iload_n 1, 1) := by decide +kernel
theorem dX11_undo_38 : decode cX11_undo 38 = .ok (.aload_n 0, 1) := by decide +kernel
theorem dX11_undo_39 : decode cX11_undo 39 = .ok (.getfield 27, 3) := by decide +kernel
theorem dX11_undo_42 : decode cX11_undo 42 = .ok (.sipush 5440, 3) := by decide +kernel
theorem dX11_undo_45 : decode cX11_undo 45 = .ok (.aload_n 0, 1) := by decide +kernel
theorem dX11_undo_46 : decode cX11_undo 46 = .ok (.getfield 99, 3) := by decide +kernel
theorem dX11_undo_49 : decode cX11_undo 49 = .ok (.imul, 1) := by decide +kernel
theorem dX11_undo_50 : decode cX11_undo 50 = .ok (.iload_n 1, 1) := by decide +kernel
theorem dX11_undo_51 : decode cX11_undo 51 = .ok (.iadd, 1) := by decide +kernel
theorem dX11_undo_52 : decode cX11_undo 52 = .ok (.iaload, 1) := by decide +kernel
theorem dX11_undo_53 : decode cX11_undo 53 = .ok (.iastore, 1) := by decide +kernel
theorem dX11_undo_54 : decode cX11_undo 54 = .ok (.iinc 1 1, 3) := by decide +kernel
theorem dX11_undo_57 : decode cX11_undo 57 = .ok (.goto (-31), 3) := by decide +kernel
theorem dX11_undo_60 : decode cX11_undo 60 = .ok (.aload_n 0, 1) := by decide +kernel
theorem dX11_undo_61 : decode cX11_undo 61 = .ok (.getfield 13, 3) := by decide +kernel
theorem dX11_undo_64 : decode cX11_undo 64 = .ok (.bipush 7, 2) := by decide +kernel
theorem dX11_undo_66 : decode cX11_undo 66 = .ok (.iconst 1, 1) := by decide +kernel
theorem dX11_undo_67 : decode cX11_undo 67 = .ok (.iastore, 1) := by decide +kernel
theorem dX11_undo_68 : decode cX11_undo 68 = .ok (.iconst 1, 1) := by decide +kernel
theorem dX11_undo_69 : decode cX11_undo 69 = .ok (.ireturn, 1) := by decide +kernel
theorem dX11_values_0 : decode cX11_values 0 = .ok (.aload_n 0, 1) := by decide +kernel
theorem dX11_values_1 : decode cX11_values 1 = .ok (.getfield 13, 3) := by decide +kernel
theorem dX11_values_4 : decode cX11_values 4 = .ok (.iconst 0, 1) := by decide +kernel
theorem dX11_values_5 : decode cX11_values 5 = .ok (.iaload, 1) := by decide +kernel
theorem dX11_values_6 : decode cX11_values 6 = .ok (.ireturn, 1) := by decide +kernel
theorem dX11_people_0 : decode cX11_people 0 = .ok (.aload_n 0, 1) := by decide +kernel
theorem dX11_people_1 : decode cX11_people 1 = .ok (.getfield 13, 3) := by decide +kernel
theorem dX11_people_4 : decode cX11_people 4 = .ok (.iconst 1, 1) := by decide +kernel
theorem dX11_people_5 : decode cX11_people 5 = .ok (.iaload, 1) := by decide +kernel
theorem dX11_people_6 : decode cX11_people 6 = .ok (.ireturn, 1) := by decide +kernel
theorem dX11_worlds_0 : decode cX11_worlds 0 = .ok (.aload_n 0, 1) := by decide +kernel
theorem dX11_worlds_1 : decode cX11_worlds 1 = .ok (.getfield 13, 3) := by decide +kernel
theorem dX11_worlds_4 : decode cX11_worlds 4 = .ok (.bipush 10, 2) := by decide +kernel
theorem dX11_worlds_6 : decode cX11_worlds 6 = .ok (.iaload, 1) := by decide +kernel
theorem dX11_worlds_7 : decode cX11_worlds 7 = .ok (.ireturn, 1) := by decide +kernel
theorem dX11_here_0 : decode cX11_here 0 = .ok (.aload_n 0, 1) := by decide +kernel
theorem dX11_here_1 : decode cX11_here 1 = .ok (.getfield 13, 3) := by decide +kernel
theorem dX11_here_4 : decode cX11_here 4 = .ok (.bipush 6, 2) := by decide +kernel
theorem dX11_here_6 : decode cX11_here 6 = .ok (.iaload, 1) := by decide +kernel
theorem dX11_here_7 : decode cX11_here 7 = .ok (.ireturn, 1) := by decide +kernel
theorem dX11_isLeft_0 : decode cX11_isLeft 0 = .ok (.aload_n 0, 1) := by decide +kernel
theorem dX11_isLeft_1 : decode cX11_isLeft 1 = .ok (.getfield 13, 3) := by decide +kernel
theorem dX11_isLeft_4 : decode cX11_isLeft 4 = .ok (.bipush 20, 2) := by decide +kernel
theorem dX11_isLeft_6 : decode cX11_isLeft 6 = .ok (.iload_n 1, 1) := by decide +kernel
theorem dX11_isLeft_7 : decode cX11_isLeft 7 = .ok (.iadd, 1) := by decide +kernel
theorem dX11_isLeft_8 : decode cX11_isLeft 8 = .ok (.iaload, 1) := by decide +kernel
theorem dX11_isLeft_9 : decode cX11_isLeft 9 = .ok (.iconst 1, 1) := by decide +kernel
theorem dX11_isLeft_10 : decode cX11_isLeft 10 = .ok (.if_icmp .ne 7, 3) := by decide +kernel
theorem dX11_isLeft_13 : decode cX11_isLeft 13 = .ok (.iconst 1, 1) := by decide +kernel
theorem dX11_isLeft_14 : decode cX11_isLeft 14 = .ok (.goto 4, 3) := by decide +kernel
theorem dX11_isLeft_17 : decode cX11_isLeft 17 = .ok (.iconst 0, 1) := by decide +kernel
theorem dX11_isLeft_18 : decode cX11_isLeft 18 = .ok (.ireturn, 1) := by decide +kernel
theorem dX11_label_0 : decode cX11_label 0 = .ok (.aload_n 0, 1) := by decide +kernel
theorem dX11_label_1 : decode cX11_label 1 = .ok (.getfield 13, 3) := by decide +kernel
theorem dX11_label_4 : decode cX11_label 4 = .ok (.sipush 532, 3) := by decide +kernel
theorem dX11_label_7 : decode cX11_label 7 = .ok (.sipush 512, 3) := by decide +kernel
theorem dX11_label_10 : decode cX11_label 10 = .ok (.iload_n 1, 1) := by decide +kernel
theorem dX11_label_11 : decode cX11_label 11 = .ok (.imul, 1) := by decide +kernel
theorem dX11_label_12 : decode cX11_label 12 = .ok (.iadd, 1) := by decide +kernel
theorem dX11_label_13 : decode cX11_label 13 = .ok (.iload_n 2, 1) := by decide +kernel
theorem dX11_label_14 : decode cX11_label 14 = .ok (.iadd, 1) := by decide +kernel
theorem dX11_label_15 : decode cX11_label 15 = .ok (.iaload, 1) := by decide +kernel
theorem dX11_label_16 : decode cX11_label 16 = .ok (.ireturn, 1) := by decide +kernel
theorem dX11_isSeeing_0 : decode cX11_isSeeing 0 = .ok (.aload_n 0, 1) := by decide +kernel
theorem dX11_isSeeing_1 : decode cX11_isSeeing 1 = .ok (.getfield 13, 3) := by decide +kernel
theorem dX11_isSeeing_4 : decode cX11_isSeeing 4 = .ok (.bipush 11, 2) := by decide +kernel
theorem dX11_isSeeing_6 : decode cX11_isSeeing 6 = .ok (.iload_n 1, 1) := by decide +kernel
theorem dX11_isSeeing_7 : decode cX11_isSeeing 7 = .ok (.iadd, 1) := by decide +kernel
theorem dX11_isSeeing_8 : decode cX11_isSeeing 8 = .ok (.iaload, 1) := by decide +kernel
theorem dX11_isSeeing_9 : decode cX11_isSeeing 9 = .ok (.iload_n 2, 1) := by decide +kernel
theorem dX11_isSeeing_10 : decode cX11_isSeeing 10 = .ok (.invokestatic 103, 3) := by decide +kernel
theorem dX11_isSeeing_13 : decode cX11_isSeeing 13 = .ok (.ireturn, 1) := by decide +kernel
theorem dX11_noPerson_0 : decode cX11_noPerson 0 = .ok (.iload_n 1, 1) := by decide +kernel
theorem dX11_noPerson_1 : decode cX11_noPerson 1 = .ok (.iconst 0, 1) := by decide +kernel
theorem dX11_noPerson_2 : decode cX11_noPerson 2 = .ok (.aload_n 0, 1) := by decide +kernel
theorem dX11_noPerson_3 : decode cX11_noPerson 3 = .ok (.invokevirtual 107, 3) := by decide +kernel
theorem dX11_noPerson_6 : decode cX11_noPerson 6 = .ok (.iconst 1, 1) := by decide +kernel
theorem dX11_noPerson_7 : decode cX11_noPerson 7 = .ok (.isub, 1) := by decide +kernel
theorem dX11_noPerson_8 : decode cX11_noPerson 8 = .ok (.invokestatic 111, 3) := by decide +kernel
theorem dX11_noPerson_11 : decode cX11_noPerson 11 = .ok (.ifCond .ne 7, 3) := by decide +kernel
theorem dX11_noPerson_14 : decode cX11_noPerson 14 = .ok (.iconst 1, 1) := by decide +kernel
theorem dX11_noPerson_15 : decode cX11_noPerson 15 = .ok (.goto 4, 3) := by decide +kernel
theorem dX11_noPerson_18 : decode cX11_noPerson 18 = .ok (.iconst 0, 1) := by decide +kernel
theorem dX11_noPerson_19 : decode cX11_noPerson 19 = .ok (.ireturn, 1) := by decide +kernel
theorem dX11_noWorld_0 : decode cX11_noWorld 0 = .ok (.iload_n 1, 1) := by decide +kernel
theorem dX11_noWorld_1 : decode cX11_noWorld 1 = .ok (.iconst 0, 1) := by decide +kernel
theorem dX11_noWorld_2 : decode cX11_noWorld 2 = .ok (.aload_n 0, 1) := by decide +kernel
theorem dX11_noWorld_3 : decode cX11_noWorld 3 = .ok (.invokevirtual 115, 3) := by decide +kernel
theorem dX11_noWorld_6 : decode cX11_noWorld 6 = .ok (.iconst 1, 1) := by decide +kernel
theorem dX11_noWorld_7 : decode cX11_noWorld 7 = .ok (.isub, 1) := by decide +kernel
theorem dX11_noWorld_8 : decode cX11_noWorld 8 = .ok (.invokestatic 111, 3) := by decide +kernel
theorem dX11_noWorld_11 : decode cX11_noWorld 11 = .ok (.ifCond .ne 7, 3) := by decide +kernel
theorem dX11_noWorld_14 : decode cX11_noWorld 14 = .ok (.iconst 1, 1) := by decide +kernel
theorem dX11_noWorld_15 : decode cX11_noWorld 15 = .ok (.goto 4, 3) := by decide +kernel
theorem dX11_noWorld_18 : decode cX11_noWorld 18 = .ok (.iconst 0, 1) := by decide +kernel
theorem dX11_noWorld_19 : decode cX11_noWorld 19 = .ok (.ireturn, 1) := by decide +kernel
theorem dX11_noticeIn_0 : decode cX11_noticeIn 0 = .ok (.iload_n 2, 1) := by decide +kernel
theorem dX11_noticeIn_1 : decode cX11_noticeIn 1 = .ok (.istore_n 3, 1) := by decide +kernel
theorem dX11_noticeIn_2 : decode cX11_noticeIn 2 = .ok (.aload_n 0, 1) := by decide +kernel
theorem dX11_noticeIn_3 : decode cX11_noticeIn 3 = .ok (.invokevirtual 107, 3) := by decide +kernel
theorem dX11_noticeIn_6 : decode cX11_noticeIn 6 = .ok (.iconst 1, 1) := by decide +kernel
theorem dX11_noticeIn_7 : decode cX11_noticeIn 7 = .ok (.isub, 1) := by decide +kernel
theorem dX11_noticeIn_8 : decode cX11_noticeIn 8 = .ok (.istore 4, 2) := by decide +kernel
theorem dX11_noticeIn_10 : decode cX11_noticeIn 10 = .ok (.iload 4, 2) := by decide +kernel
theorem dX11_noticeIn_12 : decode cX11_noticeIn 12 = .ok (.iload_n 1, 1) := by decide +kernel
theorem dX11_noticeIn_13 : decode cX11_noticeIn 13 = .ok (.if_icmp .le 16, 3) := by decide +kernel
theorem dX11_noticeIn_16 : decode cX11_noticeIn 16 = .ok (.iload_n 3, 1) := by decide +kernel
theorem dX11_noticeIn_17 : decode cX11_noticeIn 17 = .ok (.aload_n 0, 1) := by decide +kernel
theorem dX11_noticeIn_18 : decode cX11_noticeIn 18 = .ok (.invokevirtual 118, 3) := by decide +kernel
theorem dX11_noticeIn_21 : decode cX11_noticeIn 21 = .ok (.idiv, 1) := by decide +kernel
theorem dX11_noticeIn_22 : decode cX11_noticeIn 22 = .ok (.istore_n 3, 1) := by decide +kernel
theorem dX11_noticeIn_23 : decode cX11_noticeIn 23 = .ok (.iinc 4 (-1), 3) := by decide +kernel
theorem dX11_noticeIn_26 : decode cX11_noticeIn 26 = .ok (.goto (-16), 3) := by decide +kernel
theorem dX11_noticeIn_29 : decode cX11_noticeIn 29 = .ok (.iload_n 3, 1) := by decide +kernel
theorem dX11_noticeIn_30 : decode cX11_noticeIn 30 = .ok (.aload_n 0, 1) := by decide +kernel
theorem dX11_noticeIn_31 : decode cX11_noticeIn 31 = .ok (.invokevirtual 118, 3) := by decide +kernel
theorem dX11_noticeIn_34 : decode cX11_noticeIn 34 = .ok (.irem, 1) := by decide +kernel
theorem dX11_noticeIn_35 : decode cX11_noticeIn 35 = .ok (.ireturn, 1) := by decide +kernel
theorem dX11_notice_0 : decode cX11_notice 0 = .ok (.aload_n 0, 1) := by decide +kernel
theorem dX11_notice_1 : decode cX11_notice 1 = .ok (.iload_n 1, 1) := by decide +kernel
theorem dX11_notice_2 : decode cX11_notice 2 = .ok (.aload_n 0, 1) := by decide +kernel
theorem dX11_notice_3 : decode cX11_notice 3 = .ok (.invokevirtual 121, 3) := by decide +kernel
theorem dX11_notice_6 : decode cX11_notice 6 = .ok (.invokevirtual 124, 3) := by decide +kernel
theorem dX11_notice_9 : decode cX11_notice 9 = .ok (.ireturn, 1) := by decide +kernel
theorem dX11_lays_0 : decode cX11_lays 0 = .ok (.iconst 0, 1) := by decide +kernel
theorem dX11_lays_1 : decode cX11_lays 1 = .ok (.istore_n 3, 1) := by decide +kernel
theorem dX11_lays_2 : decode cX11_lays 2 = .ok (.iload_n 3, 1) := by decide +kernel
theorem dX11_lays_3 : decode cX11_lays 3 = .ok (.sipush 512, 3) := by decide +kernel
theorem dX11_lays_6 : decode cX11_lays 6 = .ok (.if_icmp .ge 16, 3) := by decide +kernel
theorem dX11_lays_9 : decode cX11_lays 9 = .ok (.aload_n 0, 1) := by decide +kernel
theorem dX11_lays_10 : decode cX11_lays 10 = .ok (.getfield 30, 3) := by decide +kernel
theorem dX11_lays_13 : decode cX11_lays 13 = .ok (.iload_n 3, 1) := by decide +kernel
theorem dX11_lays_14 : decode cX11_lays 14 = .ok (.iconst 0, 1) := by decide +kernel
theorem dX11_lays_15 : decode cX11_lays 15 = .ok (.iastore, 1) := by decide +kernel
theorem dX11_lays_16 : decode cX11_lays 16 = .ok (.iinc 3 1, 3) := by decide +kernel
theorem dX11_lays_19 : decode cX11_lays 19 = .ok (.goto (-17), 3) := by decide +kernel
theorem dX11_lays_22 : decode cX11_lays 22 = .ok (.iconst 0, 1) := by decide +kernel
theorem dX11_lays_23 : decode cX11_lays 23 = .ok (.istore_n 3, 1) := by decide +kernel
theorem dX11_lays_24 : decode cX11_lays 24 = .ok (.iload_n 3, 1) := by decide +kernel
theorem dX11_lays_25 : decode cX11_lays 25 = .ok (.aload_n 0, 1) := by decide +kernel
theorem dX11_lays_26 : decode cX11_lays 26 = .ok (.invokevirtual 115, 3) := by decide +kernel
theorem dX11_lays_29 : decode cX11_lays 29 = .ok (.if_icmp .ge 39, 3) := by decide +kernel
theorem dX11_lays_32 : decode cX11_lays 32 = .ok (.aload_n 0, 1) := by decide +kernel
theorem dX11_lays_33 : decode cX11_lays 33 = .ok (.iload_n 3, 1) := by decide +kernel
theorem dX11_lays_34 : decode cX11_lays 34 = .ok (.invokevirtual 128, 3) := by decide +kernel
theorem dX11_lays_37 : decode cX11_lays 37 = .ok (.ifCond .eq 25, 3) := by decide +kernel
theorem dX11_lays_40 : decode cX11_lays 40 = .ok (.aload_n 0, 1) := by decide +kernel
theorem dX11_lays_41 : decode cX11_lays 41 = .ok (.getfield 30, 3) := by decide +kernel
theorem dX11_lays_44 : decode cX11_lays 44 = .ok (.aload_n 0, 1) := by decide +kernel
theorem dX11_lays_45 : decode cX11_lays 45 = .ok (.iload_n 1, 1) := by decide +kernel
theorem dX11_lays_46 : decode cX11_lays 46 = .ok (.iload_n 3, 1) := by decide +kernel
theorem dX11_lays_47 : decode cX11_lays 47 = .ok (.invokevirtual 132, 3) := by decide +kernel
theorem dX11_lays_50 : decode cX11_lays 50 = .ok (.dup2, 1) := by decide +kernel
theorem dX11_lays_51 : decode cX11_lays 51 = .ok (.iaload, 1) := by decide +kernel
theorem dX11_lays_52 : decode cX11_lays 52 = .ok (.iconst 1, 1) := by decide +kernel
theorem dX11_lays_53 : decode cX11_lays 53 = .ok (.aload_n 0, 1) := by decide +kernel
theorem dX11_lays_54 : decode cX11_lays 54 = .ok (.iload_n 2, 1) := by decide +kernel
theorem dX11_lays_55 : decode cX11_lays 55 = .ok (.iload_n 3, 1) := by decide +kernel
theorem dX11_lays_56 : decode cX11_lays 56 = .ok (.invokevirtual 124, 3) := by decide +kernel
theorem dX11_lays_59 : decode cX11_lays 59 = .ok (.ishl, 1) := by decide +kernel
theorem dX11_lays_60 : decode cX11_lays 60 = .ok (.ior, 1) := by decide +kernel
theorem dX11_lays_61 : decode cX11_lays 61 = .ok (.iastore, 1) := by decide +kernel
theorem dX11_lays_62 : decode cX11_lays 62 = .ok (.iinc 3 1, 3) := by decide +kernel
theorem dX11_lays_65 : decode cX11_lays 65 = .ok (.goto (-41), 3) := by decide +kernel
theorem dX11_lays_68 : decode cX11_lays 68 = .ok (.return_, 1) := by decide +kernel
theorem dX11_possibleOf_0 : decode cX11_possibleOf 0 = .ok (.aload_n 0, 1) := by decide +kernel
theorem dX11_possibleOf_1 : decode cX11_possibleOf 1 = .ok (.iload_n 1, 1) := by decide +kernel
theorem dX11_possibleOf_2 : decode cX11_possibleOf 2 = .ok (.iload_n 2, 1) := by decide +kernel
theorem dX11_possibleOf_3 : decode cX11_possibleOf 3 = .ok (.invokevirtual 135, 3) := by decide +kernel
theorem dX11_possibleOf_6 : decode cX11_possibleOf 6 = .ok (.aload_n 0, 1) := by decide +kernel
theorem dX11_possibleOf_7 : decode cX11_possibleOf 7 = .ok (.getfield 30, 3) := by decide +kernel
theorem dX11_possibleOf_10 : decode cX11_possibleOf 10 = .ok (.aload_n 0, 1) := by decide +kernel
theorem dX11_possibleOf_11 : decode cX11_possibleOf 11 = .ok (.iload_n 1, 1) := by decide +kernel
theorem dX11_possibleOf_12 : decode cX11_possibleOf 12 = .ok (.iload_n 3, 1) := by decide +kernel
theorem dX11_possibleOf_13 : decode cX11_possibleOf 13 = .ok (.invokevirtual 132, 3) := by decide +kernel
theorem dX11_possibleOf_16 : decode cX11_possibleOf 16 = .ok (.iaload, 1) := by decide +kernel
theorem dX11_possibleOf_17 : decode cX11_possibleOf 17 = .ok (.ireturn, 1) := by decide +kernel
theorem dX11_isOne_0 : decode cX11_isOne 0 = .ok (.iload_n 0, 1) := by decide +kernel
theorem dX11_isOne_1 : decode cX11_isOne 1 = .ok (.iload_n 0, 1) := by decide +kernel
theorem dX11_isOne_2 : decode cX11_isOne 2 = .ok (.iconst 1, 1) := by decide +kernel
theorem dX11_isOne_3 : decode cX11_isOne 3 = .ok (.isub, 1) := by decide +kernel
theorem dX11_isOne_4 : decode cX11_isOne 4 = .ok (.iand, 1) := by decide +kernel
theorem dX11_isOne_5 : decode cX11_isOne 5 = .ok (.ifCond .ne 7, 3) := by decide +kernel
theorem dX11_isOne_8 : decode cX11_isOne 8 = .ok (.iconst 1, 1) := by decide +kernel
theorem dX11_isOne_9 : decode cX11_isOne 9 = .ok (.goto 4, 3) := by decide +kernel
theorem dX11_isOne_12 : decode cX11_isOne 12 = .ok (.iconst 0, 1) := by decide +kernel
theorem dX11_isOne_13 : decode cX11_isOne 13 = .ok (.ireturn, 1) := by decide +kernel
theorem dX11_isSure_0 : decode cX11_isSure 0 = .ok (.aload_n 0, 1) := by decide +kernel
theorem dX11_isSure_1 : decode cX11_isSure 1 = .ok (.iload_n 1, 1) := by decide +kernel
theorem dX11_isSure_2 : decode cX11_isSure 2 = .ok (.iload_n 1, 1) := by decide +kernel
theorem dX11_isSure_3 : decode cX11_isSure 3 = .ok (.iload_n 2, 1) := by decide +kernel
theorem dX11_isSure_4 : decode cX11_isSure 4 = .ok (.invokevirtual 139, 3) := by decide +kernel
theorem dX11_isSure_7 : decode cX11_isSure 7 = .ok (.invokestatic 143, 3) := by decide +kernel
theorem dX11_isSure_10 : decode cX11_isSure 10 = .ok (.ireturn, 1) := by decide +kernel
theorem dX11_sureOnes_0 : decode cX11_sureOnes 0 = .ok (.iconst 0, 1) := by decide +kernel
theorem dX11_sureOnes_1 : decode cX11_sureOnes 1 = .ok (.istore_n 2, 1) := by decide +kernel
theorem dX11_sureOnes_2 : decode cX11_sureOnes 2 = .ok (.iconst 0, 1) := by decide +kernel
theorem dX11_sureOnes_3 : decode cX11_sureOnes 3 = .ok (.istore_n 3, 1) := by decide +kernel
theorem dX11_sureOnes_4 : decode cX11_sureOnes 4 = .ok (.iload_n 3, 1) := by decide +kernel
theorem dX11_sureOnes_5 : decode cX11_sureOnes 5 = .ok (.aload_n 0, 1) := by decide +kernel
theorem dX11_sureOnes_6 : decode cX11_sureOnes 6 = .ok (.invokevirtual 107, 3) := by decide +kernel
theorem dX11_sureOnes_9 : decode cX11_sureOnes 9 = .ok (.if_icmp .ge 28, 3) := by decide +kernel
theorem dX11_sureOnes_12 : decode cX11_sureOnes 12 = .ok (.iload_n 2, 1) := by decide +kernel
theorem dX11_sureOnes_13 : decode cX11_sureOnes 13 = .ok (.aload_n 0, 1) := by decide +kernel
theorem dX11_sureOnes_14 : decode cX11_sureOnes 14 = .ok (.iload_n 3, 1) := by decide +kernel
theorem dX11_sureOnes_15 : decode cX11_sureOnes 15 = .ok (.iload_n 1, 1) := by decide +kernel
theorem dX11_sureOnes_16 : decode cX11_sureOnes 16 = .ok (.invokevirtual 146, 3) := by decide +kernel
theorem dX11_sureOnes_19 : decode cX11_sureOnes 19 = .ok (.ifCond .eq 9, 3) := by decide +kernel
theorem dX11_sureOnes_22 : decode cX11_sureOnes 22 = .ok (.iconst 1, 1) := by decide +kernel
theorem dX11_sureOnes_23 : decode cX11_sureOnes 23 = .ok (.iload_n 3, 1) := by decide +kernel
theorem dX11_sureOnes_24 : decode cX11_sureOnes 24 = .ok (.ishl, 1) := by decide +kernel
theorem dX11_sureOnes_25 : decode cX11_sureOnes 25 = .ok (.goto 4, 3) := by decide +kernel
theorem dX11_sureOnes_28 : decode cX11_sureOnes 28 = .ok (.iconst 0, 1) := by decide +kernel
theorem dX11_sureOnes_29 : decode cX11_sureOnes 29 = .ok (.ior, 1) := by decide +kernel
theorem dX11_sureOnes_30 : decode cX11_sureOnes 30 = .ok (.istore_n 2, 1) := by decide +kernel
theorem dX11_sureOnes_31 : decode cX11_sureOnes 31 = .ok (.iinc 3 1, 3) := by decide +kernel
theorem dX11_sureOnes_34 : decode cX11_sureOnes 34 = .ok (.goto (-30), 3) := by decide +kernel
theorem dX11_sureOnes_37 : decode cX11_sureOnes 37 = .ok (.iload_n 2, 1) := by decide +kernel
theorem dX11_sureOnes_38 : decode cX11_sureOnes 38 = .ok (.ireturn, 1) := by decide +kernel
theorem dX11_parts_0 : decode cX11_parts 0 = .ok (.iconst 0, 1) := by decide +kernel
theorem dX11_parts_1 : decode cX11_parts 1 = .ok (.istore_n 2, 1) := by decide +kernel
theorem dX11_parts_2 : decode cX11_parts 2 = .ok (.iload_n 2, 1) := by decide +kernel
theorem dX11_parts_3 : decode cX11_parts 3 = .ok (.aload_n 0, 1) := by decide +kernel
theorem dX11_parts_4 : decode cX11_parts 4 = .ok (.getfield 36, 3) := by decide +kernel
theorem dX11_parts_7 : decode cX11_parts 7 = .ok (.arraylength, 1) := by decide +kernel
theorem dX11_parts_8 : decode cX11_parts 8 = .ok (.if_icmp .ge 16, 3) := by decide +kernel
theorem dX11_parts_11 : decode cX11_parts 11 = .ok (.aload_n 0, 1) := by decide +kernel
theorem dX11_parts_12 : decode cX11_parts 12 = .ok (.getfield 36, 3) := by decide +kernel
theorem dX11_parts_15 : decode cX11_parts 15 = .ok (.iload_n 2, 1) := by decide +kernel
theorem dX11_parts_16 : decode cX11_parts 16 = .ok (.iconst 0, 1) := by decide +kernel
theorem dX11_parts_17 : decode cX11_parts 17 = .ok (.iastore, 1) := by decide +kernel
theorem dX11_parts_18 : decode cX11_parts 18 = .ok (.iinc 2 1, 3) := by decide +kernel
theorem dX11_parts_21 : decode cX11_parts 21 = .ok (.goto (-19), 3) := by decide +kernel
theorem dX11_parts_24 : decode cX11_parts 24 = .ok (.iconst 0, 1) := by decide +kernel
theorem dX11_parts_25 : decode cX11_parts 25 = .ok (.istore_n 2, 1) := by decide +kernel
theorem dX11_parts_26 : decode cX11_parts 26 = .ok (.iconst 0, 1) := by decide +kernel
theorem dX11_parts_27 : decode cX11_parts 27 = .ok (.istore_n 3, 1) := by decide +kernel
theorem dX11_parts_28 : decode cX11_parts 28 = .ok (.iload_n 3, 1) := by decide +kernel
theorem dX11_parts_29 : decode cX11_parts 29 = .ok (.aload_n 0, 1) := by decide +kernel
theorem dX11_parts_30 : decode cX11_parts 30 = .ok (.invokevirtual 115, 3) := by decide +kernel
theorem dX11_parts_33 : decode cX11_parts 33 = .ok (.if_icmp .ge 84, 3) := by decide +kernel
theorem dX11_parts_36 : decode cX11_parts 36 = .ok (.aload_n 0, 1) := by decide +kernel
theorem dX11_parts_37 : decode cX11_parts 37 = .ok (.iload_n 3, 1) := by decide +kernel
theorem dX11_parts_38 : decode cX11_parts 38 = .ok (.invokevirtual 128, 3) := by decide +kernel
theorem dX11_parts_41 : decode cX11_parts 41 = .ok (.ifCond .ne 6, 3) := by decide +kernel
theorem dX11_parts_44 : decode cX11_parts 44 = .ok (.goto 67, 3) := by decide +kernel
theorem dX11_parts_47 : decode cX11_parts 47 = .ok (.bipush 8, 2) := by decide +kernel
theorem dX11_parts_49 : decode cX11_parts 49 = .ok (.aload_n 0, 1) := by decide +kernel
theorem dX11_parts_50 : decode cX11_parts 50 = .ok (.iload_n 1, 1) := by decide +kernel
theorem dX11_parts_51 : decode cX11_parts 51 = .ok (.iload_n 3, 1) := by decide +kernel
theorem dX11_parts_52 : decode cX11_parts 52 = .ok (.invokevirtual 132, 3) := by decide +kernel
theorem dX11_parts_55 : decode cX11_parts 55 = .ok (.imul, 1) := by decide +kernel
theorem dX11_parts_56 : decode cX11_parts 56 = .ok (.aload_n 0, 1) := by decide +kernel
theorem dX11_parts_57 : decode cX11_parts 57 = .ok (.getfield 33, 3) := by decide +kernel
theorem dX11_parts_60 : decode cX11_parts 60 = .ok (.iload_n 3, 1) := by decide +kernel
theorem dX11_parts_61 : decode cX11_parts 61 = .ok (.iaload, 1) := by decide +kernel
theorem dX11_parts_62 : decode cX11_parts 62 = .ok (.iadd, 1) := by decide +kernel
theorem dX11_parts_63 : decode cX11_parts 63 = .ok (.istore 4, 2) := by decide +kernel
theorem dX11_parts_65 : decode cX11_parts 65 = .ok (.aload_n 0, 1) := by decide +kernel
theorem dX11_parts_66 : decode cX11_parts 66 = .ok (.getfield 36, 3) := by decide +kernel
theorem dX11_parts_69 : decode cX11_parts 69 = .ok (.iload 4, 2) := by decide +kernel
theorem dX11_parts_71 : decode cX11_parts 71 = .ok (.iaload, 1) := by decide +kernel
theorem dX11_parts_72 : decode cX11_parts 72 = .ok (.ifCond .ne 14, 3) := by decide +kernel
theorem dX11_parts_75 : decode cX11_parts 75 = .ok (.iinc 2 1, 3) := by decide +kernel
theorem dX11_parts_78 : decode cX11_parts 78 = .ok (.aload_n 0, 1) := by decide +kernel
theorem dX11_parts_79 : decode cX11_parts 79 = .ok (.getfield 36, 3) := by decide +kernel
theorem dX11_parts_82 : decode cX11_parts 82 = .ok (.iload 4, 2) := by decide +kernel
theorem dX11_parts_84 : decode cX11_parts 84 = .ok (.iload_n 2, 1) := by decide +kernel
theorem dX11_parts_85 : decode cX11_parts 85 = .ok (.iastore, 1) := by decide +kernel
theorem dX11_parts_86 : decode cX11_parts 86 = .ok (.aload_n 0, 1) := by decide +kernel
theorem dX11_parts_87 : decode cX11_parts 87 = .ok (.getfield 13, 3) := by decide +kernel
theorem dX11_parts_90 : decode cX11_parts 90 = .ok (.sipush 532, 3) := by decide +kernel
theorem dX11_parts_93 : decode cX11_parts 93 = .ok (.sipush 512, 3) := by decide +kernel
theorem dX11_parts_96 : decode cX11_parts 96 = .ok (.iload_n 1, 1) := by decide +kernel
theorem dX11_parts_97 : decode cX11_parts 97 = .ok (.imul, 1) := by decide +kernel
theorem dX11_parts_98 : decode cX11_parts 98 = .ok (.iadd, 1) := by decide +kernel
theorem dX11_parts_99 : decode cX11_parts 99 = .ok (.iload_n 3, 1) := by decide +kernel
theorem dX11_parts_100 : decode cX11_parts 100 = .ok (.iadd, 1) := by decide +kernel
theorem dX11_parts_101 : decode cX11_parts 101 = .ok (.aload_n 0, 1) := by decide +kernel
theorem dX11_parts_102 : decode cX11_parts 102 = .ok (.getfield 36, 3) := by decide +kernel
theorem dX11_parts_105 : decode cX11_parts 105 = .ok (.iload 4, 2) := by decide +kernel
theorem dX11_parts_107 : decode cX11_parts 107 = .ok (.iaload, 1) := by decide +kernel
theorem dX11_parts_108 : decode cX11_parts 108 = .ok (.iconst 1, 1) := by decide +kernel
theorem dX11_parts_109 : decode cX11_parts 109 = .ok (.isub, 1) := by decide +kernel
theorem dX11_parts_110 : decode cX11_parts 110 = .ok (.iastore, 1) := by decide +kernel
theorem dX11_parts_111 : decode cX11_parts 111 = .ok (.iinc 3 1, 3) := by decide +kernel
theorem dX11_parts_114 : decode cX11_parts 114 = .ok (.goto (-86), 3) := by decide +kernel
theorem dX11_parts_117 : decode cX11_parts 117 = .ok (.return_, 1) := by decide +kernel
theorem dX11_drops_0 : decode cX11_drops 0 = .ok (.iconst 0, 1) := by decide +kernel
theorem dX11_drops_1 : decode cX11_drops 1 = .ok (.istore_n 1, 1) := by decide +kernel
theorem dX11_drops_2 : decode cX11_drops 2 = .ok (.iload_n 1, 1) := by decide +kernel
theorem dX11_drops_3 : decode cX11_drops 3 = .ok (.aload_n 0, 1) := by decide +kernel
theorem dX11_drops_4 : decode cX11_drops 4 = .ok (.invokevirtual 115, 3) := by decide +kernel
theorem dX11_drops_7 : decode cX11_drops 7 = .ok (.if_icmp .ge 37, 3) := by decide +kernel
theorem dX11_drops_10 : decode cX11_drops 10 = .ok (.aload_n 0, 1) := by decide +kernel
theorem dX11_drops_11 : decode cX11_drops 11 = .ok (.getfield 33, 3) := by decide +kernel
theorem dX11_drops_14 : decode cX11_drops 14 = .ok (.iload_n 1, 1) := by decide +kernel
theorem dX11_drops_15 : decode cX11_drops 15 = .ok (.iaload, 1) := by decide +kernel
theorem dX11_drops_16 : decode cX11_drops 16 = .ok (.aload_n 0, 1) := by decide +kernel
theorem dX11_drops_17 : decode cX11_drops 17 = .ok (.getfield 33, 3) := by decide +kernel
theorem dX11_drops_20 : decode cX11_drops 20 = .ok (.aload_n 0, 1) := by decide +kernel
theorem dX11_drops_21 : decode cX11_drops 21 = .ok (.invokevirtual 121, 3) := by decide +kernel
theorem dX11_drops_24 : decode cX11_drops 24 = .ok (.iaload, 1) := by decide +kernel
theorem dX11_drops_25 : decode cX11_drops 25 = .ok (.if_icmp .eq 13, 3) := by decide +kernel
theorem dX11_drops_28 : decode cX11_drops 28 = .ok (.aload_n 0, 1) := by decide +kernel
theorem dX11_drops_29 : decode cX11_drops 29 = .ok (.getfield 13, 3) := by decide +kernel
theorem dX11_drops_32 : decode cX11_drops 32 = .ok (.bipush 20, 2) := by decide +kernel
theorem dX11_drops_34 : decode cX11_drops 34 = .ok (.iload_n 1, 1) := by decide +kernel
theorem dX11_drops_35 : decode cX11_drops 35 = .ok (.iadd, 1) := by decide +kernel
theorem dX11_drops_36 : decode cX11_drops 36 = .ok (.iconst 0, 1) := by decide +kernel
theorem dX11_drops_37 : decode cX11_drops 37 = .ok (.iastore, 1) := by decide +kernel
theorem dX11_drops_38 : decode cX11_drops 38 = .ok (.iinc 1 1, 3) := by decide +kernel
theorem dX11_drops_41 : decode cX11_drops 41 = .ok (.goto (-39), 3) := by decide +kernel
theorem dX11_drops_44 : decode cX11_drops 44 = .ok (.return_, 1) := by decide +kernel
theorem dX11_noticesCome_0 : decode cX11_noticesCome 0 = .ok (.iconst 0, 1) := by decide +kernel
theorem dX11_noticesCome_1 : decode cX11_noticesCome 1 = .ok (.istore_n 2, 1) := by decide +kernel
theorem dX11_noticesCome_2 : decode cX11_noticesCome 2 = .ok (.iload_n 2, 1) := by decide +kernel
theorem dX11_noticesCome_3 : decode cX11_noticesCome 3 = .ok (.aload_n 0, 1) := by decide +kernel
theorem dX11_noticesCome_4 : decode cX11_noticesCome 4 = .ok (.invokevirtual 115, 3) := by decide +kernel
theorem dX11_noticesCome_7 : decode cX11_noticesCome 7 = .ok (.if_icmp .ge 21, 3) := by decide +kernel
theorem dX11_noticesCome_10 : decode cX11_noticesCome 10 = .ok (.aload_n 0, 1) := by decide +kernel
theorem dX11_noticesCome_11 : decode cX11_noticesCome 11 = .ok (.getfield 33, 3) := by decide +kernel
theorem dX11_noticesCome_14 : decode cX11_noticesCome 14 = .ok (.iload_n 2, 1) := by decide +kernel
theorem dX11_noticesCome_15 : decode cX11_noticesCome 15 = .ok (.aload_n 0, 1) := by decide +kernel
theorem dX11_noticesCome_16 : decode cX11_noticesCome 16 = .ok (.iload_n 1, 1) := by decide +kernel
theorem dX11_noticesCome_17 : decode cX11_noticesCome 17 = .ok (.iload_n 2, 1) := by decide +kernel
theorem dX11_noticesCome_18 : decode cX11_noticesCome 18 = .ok (.invokevirtual 124, 3) := by decide +kernel
theorem dX11_noticesCome_21 : decode cX11_noticesCome 21 = .ok (.iastore, 1) := by decide +kernel
theorem dX11_noticesCome_22 : decode cX11_noticesCome 22 = .ok (.iinc 2 1, 3) := by decide +kernel
theorem dX11_noticesCome_25 : decode cX11_noticesCome 25 = .ok (.goto (-23), 3) := by decide +kernel
theorem dX11_noticesCome_28 : decode cX11_noticesCome 28 = .ok (.return_, 1) := by decide +kernel
theorem dX11_seesFrom_0 : decode cX11_seesFrom 0 = .ok (.aload_n 0, 1) := by decide +kernel
theorem dX11_seesFrom_1 : decode cX11_seesFrom 1 = .ok (.getfield 13, 3) := by decide +kernel
theorem dX11_seesFrom_4 : decode cX11_seesFrom 4 = .ok (.bipush 11, 2) := by decide +kernel
theorem dX11_seesFrom_6 : decode cX11_seesFrom 6 = .ok (.iload_n 1, 1) := by decide +kernel
theorem dX11_seesFrom_7 : decode cX11_seesFrom 7 = .ok (.iadd, 1) := by decide +kernel
theorem dX11_seesFrom_8 : decode cX11_seesFrom 8 = .ok (.dup2, 1) := by decide +kernel
theorem dX11_seesFrom_9 : decode cX11_seesFrom 9 = .ok (.iaload, 1) := by decide +kernel
theorem dX11_seesFrom_10 : decode cX11_seesFrom 10 = .ok (.iconst 1, 1) := by decide +kernel
theorem dX11_seesFrom_11 : decode cX11_seesFrom 11 = .ok (.iload_n 2, 1) := by decide +kernel
theorem dX11_seesFrom_12 : decode cX11_seesFrom 12 = .ok (.ishl, 1) := by decide +kernel
theorem dX11_seesFrom_13 : decode cX11_seesFrom 13 = .ok (.ior, 1) := by decide +kernel
theorem dX11_seesFrom_14 : decode cX11_seesFrom 14 = .ok (.iastore, 1) := by decide +kernel
theorem dX11_seesFrom_15 : decode cX11_seesFrom 15 = .ok (.aload_n 0, 1) := by decide +kernel
theorem dX11_seesFrom_16 : decode cX11_seesFrom 16 = .ok (.iload_n 2, 1) := by decide +kernel
theorem dX11_seesFrom_17 : decode cX11_seesFrom 17 = .ok (.invokevirtual 149, 3) := by decide +kernel
theorem dX11_seesFrom_20 : decode cX11_seesFrom 20 = .ok (.aload_n 0, 1) := by decide +kernel
theorem dX11_seesFrom_21 : decode cX11_seesFrom 21 = .ok (.iload_n 1, 1) := by decide +kernel
theorem dX11_seesFrom_22 : decode cX11_seesFrom 22 = .ok (.invokevirtual 153, 3) := by decide +kernel
theorem dX11_seesFrom_25 : decode cX11_seesFrom 25 = .ok (.return_, 1) := by decide +kernel
theorem dX11_feed_0 : decode cX11_feed 0 = .ok (.aload_n 0, 1) := by decide +kernel
theorem dX11_feed_1 : decode cX11_feed 1 = .ok (.iconst 0, 1) := by decide +kernel
theorem dX11_feed_2 : decode cX11_feed 2 = .ok (.putfield 3, 3) := by decide +kernel
theorem dX11_feed_5 : decode cX11_feed 5 = .ok (.aload_n 0, 1) := by decide +kernel
theorem dX11_feed_6 : decode cX11_feed 6 = .ok (.getfield 156, 3) := by decide +kernel
theorem dX11_feed_9 : decode cX11_feed 9 = .ok (.bipush 20, 2) := by decide +kernel
theorem dX11_feed_11 : decode cX11_feed 11 = .ok (.iadd, 1) := by decide +kernel
theorem dX11_feed_12 : decode cX11_feed 12 = .ok (.sipush 400, 3) := by decide +kernel
theorem dX11_feed_15 : decode cX11_feed 15 = .ok (.if_icmp .le 5, 3) := by decide +kernel
theorem dX11_feed_18 : decode cX11_feed 18 = .ok (.iconst (-1), 1) := by decide +kernel
theorem dX11_feed_19 : decode cX11_feed 19 = .ok (.ireturn, 1) := by decide +kernel
theorem dX11_feed_20 : decode cX11_feed 20 = .ok (.aload_n 0, 1) := by decide +kernel
theorem dX11_feed_21 : decode cX11_feed 21 = .ok (.getfield 46, 3) := by decide +kernel
theorem dX11_feed_24 : decode cX11_feed 24 = .ok (.iconst 0, 1) := by decide +kernel
theorem dX11_feed_25 : decode cX11_feed 25 = .ok (.iload_n 1, 1) := by decide +kernel
theorem dX11_feed_26 : decode cX11_feed 26 = .ok (.iastore, 1) := by decide +kernel
theorem dX11_feed_27 : decode cX11_feed 27 = .ok (.aload_n 0, 1) := by decide +kernel
theorem dX11_feed_28 : decode cX11_feed 28 = .ok (.getfield 46, 3) := by decide +kernel
theorem dX11_feed_31 : decode cX11_feed 31 = .ok (.iconst 1, 1) := by decide +kernel
theorem dX11_feed_32 : decode cX11_feed 32 = .ok (.iload_n 2, 1) := by decide +kernel
theorem dX11_feed_33 : decode cX11_feed 33 = .ok (.iastore, 1) := by decide +kernel
theorem dX11_feed_34 : decode cX11_feed 34 = .ok (.aload_n 0, 1) := by decide +kernel
theorem dX11_feed_35 : decode cX11_feed 35 = .ok (.getfield 46, 3) := by decide +kernel
theorem dX11_feed_38 : decode cX11_feed 38 = .ok (.iconst 2, 1) := by decide +kernel
theorem dX11_feed_39 : decode cX11_feed 39 = .ok (.iload_n 3, 1) := by decide +kernel
theorem dX11_feed_40 : decode cX11_feed 40 = .ok (.iastore, 1) := by decide +kernel
theorem dX11_feed_41 : decode cX11_feed 41 = .ok (.aload_n 0, 1) := by decide +kernel
theorem dX11_feed_42 : decode cX11_feed 42 = .ok (.getfield 46, 3) := by decide +kernel
theorem dX11_feed_45 : decode cX11_feed 45 = .ok (.iconst 3, 1) := by decide +kernel
theorem dX11_feed_46 : decode cX11_feed 46 = .ok (.iload 4, 2) := by decide +kernel
theorem dX11_feed_48 : decode cX11_feed 48 = .ok (.iastore, 1) := by decide +kernel
theorem dX11_feed_49 : decode cX11_feed 49 = .ok (.aload_n 0, 1) := by decide +kernel
theorem dX11_feed_50 : decode cX11_feed 50 = .ok (.getfield 46, 3) := by decide +kernel
theorem dX11_feed_53 : decode cX11_feed 53 = .ok (.iconst 4, 1) := by decide +kernel
theorem dX11_feed_54 : decode cX11_feed 54 = .ok (.iload 5, 2) := by decide +kernel
theorem dX11_feed_56 : decode cX11_feed 56 = .ok (.iastore, 1) := by decide +kernel
theorem dX11_feed_57 : decode cX11_feed 57 = .ok (.iconst 0, 1) := by decide +kernel
theorem dX11_feed_58 : decode cX11_feed 58 = .ok (.istore 6, 2) := by decide +kernel
theorem dX11_feed_60 : decode cX11_feed 60 = .ok (.iload 6, 2) := by decide +kernel
theorem dX11_feed_62 : decode cX11_feed 62 = .ok (.bipush 20, 2) := by decide +kernel
theorem dX11_feed_64 : decode cX11_feed 64 = .ok (.if_icmp .ge 42, 3) := by decide +kernel
theorem dX11_feed_67 : decode cX11_feed 67 = .ok (.aload_n 0, 1) := by decide +kernel
theorem dX11_feed_68 : decode cX11_feed 68 = .ok (.getfield 39, 3) := by decide +kernel
theorem dX11_feed_71 : decode cX11_feed 71 = .ok (.aload_n 0, 1) := by decide +kernel
theorem dX11_feed_72 : decode cX11_feed 72 = .ok (.getfield 156, 3) := by decide +kernel
theorem dX11_feed_75 : decode cX11_feed 75 = .ok (.iload 6, 2) := by decide +kernel
theorem dX11_feed_77 : decode cX11_feed 77 = .ok (.iadd, 1) := by decide +kernel
theorem dX11_feed_78 : decode cX11_feed 78 = .ok (.aload_n 0, 1) := by decide +kernel
theorem dX11_feed_79 : decode cX11_feed 79 = .ok (.getfield 46, 3) := by decide +kernel
theorem dX11_feed_82 : decode cX11_feed 82 = .ok (.iload 6, 2) := by decide +kernel
theorem dX11_feed_84 : decode cX11_feed 84 = .ok (.iconst 4, 1) := by decide +kernel
theorem dX11_feed_85 : decode cX11_feed 85 = .ok (.idiv, 1) := by decide +kernel
theorem dX11_feed_86 : decode cX11_feed 86 = .ok (.iaload, 1) := by decide +kernel
theorem dX11_feed_87 : decode cX11_feed 87 = .ok (.bipush 24, 2) := by decide +kernel
theorem dX11_feed_89 : decode cX11_feed 89 = .ok (.bipush 8, 2) := by decide +kernel
theorem dX11_feed_91 : decode cX11_feed 91 = .ok (.iload 6, 2) := by decide +kernel
theorem dX11_feed_93 : decode cX11_feed 93 = .ok (.iconst 4, 1) := by decide +kernel
theorem dX11_feed_94 : decode cX11_feed 94 = .ok (.irem, 1) := by decide +kernel
theorem dX11_feed_95 : decode cX11_feed 95 = .ok (.imul, 1) := by decide +kernel
theorem dX11_feed_96 : decode cX11_feed 96 = .ok (.isub, 1) := by decide +kernel
theorem dX11_feed_97 : decode cX11_feed 97 = .ok (.ishr, 1) := by decide +kernel
theorem dX11_feed_98 : decode cX11_feed 98 = .ok (.i2b, 1) := by decide +kernel
theorem dX11_feed_99 : decode cX11_feed 99 = .ok (.bastore, 1) := by decide +kernel
theorem dX11_feed_100 : decode cX11_feed 100 = .ok (.iinc 6 1, 3) := by decide +kernel
theorem dX11_feed_103 : decode cX11_feed 103 = .ok (.goto (-43), 3) := by decide +kernel
theorem dX11_feed_106 : decode cX11_feed 106 = .ok (.aload_n 0, 1) := by decide +kernel
theorem dX11_feed_107 : decode cX11_feed 107 = .ok (.dup, 1) := by decide +kernel
theorem dX11_feed_108 : decode cX11_feed 108 = .ok (.getfield 156, 3) := by decide +kernel
theorem dX11_feed_111 : decode cX11_feed 111 = .ok (.bipush 20, 2) := by decide +kernel
theorem dX11_feed_113 : decode cX11_feed 113 = .ok (.iadd, 1) := by decide +kernel
theorem dX11_feed_114 : decode cX11_feed 114 = .ok (.putfield 156, 3) := by decide +kernel
theorem dX11_feed_117 : decode cX11_feed 117 = .ok (.aload_n 0, 1) := by decide +kernel
theorem dX11_feed_118 : decode cX11_feed 118 = .ok (.getfield 156, 3) := by decide +kernel
theorem dX11_feed_121 : decode cX11_feed 121 = .ok (.ireturn, 1) := by decide +kernel
theorem dX11_end_0 : decode cX11_end 0 = .ok (.aload_n 0, 1) := by decide +kernel
theorem dX11_end_1 : decode cX11_end 1 = .ok (.iconst 0, 1) := by decide +kernel
theorem dX11_end_2 : decode cX11_end 2 = .ok (.putfield 3, 3) := by decide +kernel
theorem dX11_end_5 : decode cX11_end 5 = .ok (.iload_n 1, 1) := by decide +kernel
theorem dX11_end_6 : decode cX11_end 6 = .ok (.ifCond .lt 11, 3) := by decide +kernel
theorem dX11_end_9 : decode cX11_end 9 = .ok (.iload_n 1, 1) := by decide +kernel
theorem dX11_end_10 : decode cX11_end 10 = .ok (.aload_n 0, 1) := by decide +kernel
theorem dX11_end_11 : decode cX11_end 11 = .ok (.getfield 156, 3) := by decide +kernel
theorem dX11_end_14 : decode cX11_end 14 = .ok (.if_icmp .le 5, 3) := by decide +kernel
theorem dX11_end_17 : decode cX11_end 17 = .ok (.iconst 0, 1) := by decide +kernel
theorem dX11_end_18 : decode cX11_end 18 = .ok (.ireturn, 1) := by decide +kernel
theorem dX11_end_19 : decode cX11_end 19 = .ok (.aload_n 0, 1) := by decide +kernel
theorem dX11_end_20 : decode cX11_end 20 = .ok (.iload_n 1, 1) := by decide +kernel
theorem dX11_end_21 : decode cX11_end 21 = .ok (.putfield 156, 3) := by decide +kernel
theorem dX11_end_24 : decode cX11_end 24 = .ok (.iconst 1, 1) := by decide +kernel
theorem dX11_end_25 : decode cX11_end 25 = .ok (.ireturn, 1) := by decide +kernel
theorem dX11_isAt_0 : decode cX11_isAt 0 = .ok (.aload_n 0, 1) := by decide +kernel
theorem dX11_isAt_1 : decode cX11_isAt 1 = .ok (.getfield 159, 3) := by decide +kernel
theorem dX11_isAt_4 : decode cX11_isAt 4 = .ok (.aload_n 0, 1) := by decide +kernel
theorem dX11_isAt_5 : decode cX11_isAt 5 = .ok (.getfield 162, 3) := by decide +kernel
theorem dX11_isAt_8 : decode cX11_isAt 8 = .ok (.if_icmp .ge 33, 3) := by decide +kernel
theorem dX11_isAt_11 : decode cX11_isAt 11 = .ok (.aload_n 0, 1) := by decide +kernel
theorem dX11_isAt_12 : decode cX11_isAt 12 = .ok (.getfield 39, 3) := by decide +kernel
theorem dX11_isAt_15 : decode cX11_isAt 15 = .ok (.aload_n 0, 1) := by decide +kernel
theorem dX11_isAt_16 : decode cX11_isAt 16 = .ok (.getfield 159, 3) := by decide +kernel
theorem dX11_isAt_19 : decode cX11_isAt 19 = .ok (.baload, 1) := by decide +kernel
theorem dX11_isAt_20 : decode cX11_isAt 20 = .ok (.iload_n 1, 1) := by decide +kernel
theorem dX11_isAt_21 : decode cX11_isAt 21 = .ok (.if_icmp .lt 20, 3) := by decide +kernel
theorem dX11_isAt_24 : decode cX11_isAt 24 = .ok (.aload_n 0, 1) := by decide +kernel
theorem dX11_isAt_25 : decode cX11_isAt 25 = .ok (.getfield 39, 3) := by decide +kernel
theorem dX11_isAt_28 : decode cX11_isAt 28 = .ok (.aload_n 0, 1) := by decide +kernel
theorem dX11_isAt_29 : decode cX11_isAt 29 = .ok (.getfield 159, 3) := by decide +kernel
theorem dX11_isAt_32 : decode cX11_isAt 32 = .ok (.baload, 1) := by decide +kernel
theorem dX11_isAt_33 : decode cX11_isAt 33 = .ok (.iload_n 2, 1) := by decide +kernel
theorem dX11_isAt_34 : decode cX11_isAt 34 = .ok (.if_icmp .gt 7, 3) := by decide +kernel
theorem dX11_isAt_37 : decode cX11_isAt 37 = .ok (.iconst 1, 1) := by decide +kernel
theorem dX11_isAt_38 : decode cX11_isAt 38 = .ok (.goto 4, 3) := by decide +kernel
theorem dX11_isAt_41 : decode cX11_isAt 41 = .ok (.iconst 0, 1) := by decide +kernel
theorem dX11_isAt_42 : decode cX11_isAt 42 = .ok (.ireturn, 1) := by decide +kernel
theorem dX11_blanks_0 : decode cX11_blanks 0 = .ok (.aload_n 0, 1) := by decide +kernel
theorem dX11_blanks_1 : decode cX11_blanks 1 = .ok (.bipush 32, 2) := by decide +kernel
theorem dX11_blanks_3 : decode cX11_blanks 3 = .ok (.bipush 32, 2) := by decide +kernel
theorem dX11_blanks_5 : decode cX11_blanks 5 = .ok (.invokevirtual 165, 3) := by decide +kernel
theorem dX11_blanks_8 : decode cX11_blanks 8 = .ok (.ifCond .eq 16, 3) := by decide +kernel
theorem dX11_blanks_11 : decode cX11_blanks 11 = .ok (.aload_n 0, 1) := by decide +kernel
theorem dX11_blanks_12 : decode cX11_blanks 12 = .ok (.dup, 1) := by decide +kernel
theorem dX11_blanks_13 : decode cX11_blanks 13 = .ok (.getfield 159, 3) := by decide +kernel
theorem dX11_blanks_16 : decode cX11_blanks 16 = .ok (.iconst 1, 1) := by decide +kernel
theorem dX11_blanks_17 : decode cX11_blanks 17 = .ok (.iadd, 1) := by decide +kernel
theorem dX11_blanks_18 : decode cX11_blanks 18 = .ok (.putfield 159, 3) := by decide +kernel
theorem dX11_blanks_21 : decode cX11_blanks 21 = .ok (.goto (-21), 3) := by decide +kernel
theorem dX11_blanks_24 : decode cX11_blanks 24 = .ok (.aload_n 0, 1) := by decide +kernel
theorem dX11_blanks_25 : decode cX11_blanks 25 = .ok (.aload_n 0, 1) := by decide +kernel
theorem dX11_blanks_26 : decode cX11_blanks 26 = .ok (.getfield 159, 3) := by decide +kernel
theorem dX11_blanks_29 : decode cX11_blanks 29 = .ok (.putfield 168, 3) := by decide +kernel
theorem dX11_blanks_32 : decode cX11_blanks 32 = .ok (.return_, 1) := by decide +kernel
theorem dX11_letters_0 : decode cX11_letters 0 = .ok (.aload_n 0, 1) := by decide +kernel
theorem dX11_letters_1 : decode cX11_letters 1 = .ok (.invokevirtual 171, 3) := by decide +kernel
theorem dX11_letters_4 : decode cX11_letters 4 = .ok (.aload_n 0, 1) := by decide +kernel
theorem dX11_letters_5 : decode cX11_letters 5 = .ok (.bipush 97, 2) := by decide +kernel
theorem dX11_letters_7 : decode cX11_letters 7 = .ok (.bipush 122, 2) := by decide +kernel
theorem dX11_letters_9 : decode cX11_letters 9 = .ok (.invokevirtual 165, 3) := by decide +kernel
theorem dX11_letters_12 : decode cX11_letters 12 = .ok (.ifCond .eq 16, 3) := by decide +kernel
theorem dX11_letters_15 : decode cX11_letters 15 = .ok (.aload_n 0, 1) := by decide +kernel
theorem dX11_letters_16 : decode cX11_letters 16 = .ok (.dup, 1) := by decide +kernel
theorem dX11_letters_17 : decode cX11_letters 17 = .ok (.getfield 159, 3) := by decide +kernel
theorem dX11_letters_20 : decode cX11_letters 20 = .ok (.iconst 1, 1) := by decide +kernel
theorem dX11_letters_21 : decode cX11_letters 21 = .ok (.iadd, 1) := by decide +kernel
theorem dX11_letters_22 : decode cX11_letters 22 = .ok (.putfield 159, 3) := by decide +kernel
theorem dX11_letters_25 : decode cX11_letters 25 = .ok (.goto (-21), 3) := by decide +kernel
theorem dX11_letters_28 : decode cX11_letters 28 = .ok (.return_, 1) := by decide +kernel
theorem dX11_isWord_0 : decode cX11_isWord 0 = .ok (.aload_n 0, 1) := by decide +kernel
theorem dX11_isWord_1 : decode cX11_isWord 1 = .ok (.getfield 159, 3) := by decide +kernel
theorem dX11_isWord_4 : decode cX11_isWord 4 = .ok (.aload_n 0, 1) := by decide +kernel
theorem dX11_isWord_5 : decode cX11_isWord 5 = .ok (.getfield 168, 3) := by decide +kernel
theorem dX11_isWord_8 : decode cX11_isWord 8 = .ok (.isub, 1) := by decide +kernel
theorem dX11_isWord_9 : decode cX11_isWord 9 = .ok (.aload_n 1, 1) := by decide +kernel
theorem dX11_isWord_10 : decode cX11_isWord 10 = .ok (.invokevirtual 174, 3) := by decide +kernel
theorem dX11_isWord_13 : decode cX11_isWord 13 = .ok (.if_icmp .ne 7, 3) := by decide +kernel
theorem dX11_isWord_16 : decode cX11_isWord 16 = .ok (.iconst 1, 1) := by decide +kernel
theorem dX11_isWord_17 : decode cX11_isWord 17 = .ok (.goto 4, 3) := by decide +kernel
theorem dX11_isWord_20 : decode cX11_isWord 20 = .ok (.iconst 0, 1) := by decide +kernel
theorem dX11_isWord_21 : decode cX11_isWord 21 = .ok (.istore_n 2, 1) := by decide +kernel
theorem dX11_isWord_22 : decode cX11_isWord 22 = .ok (.iconst 0, 1) := by decide +kernel
theorem dX11_isWord_23 : decode cX11_isWord 23 = .ok (.istore_n 3, 1) := by decide +kernel
theorem dX11_isWord_24 : decode cX11_isWord 24 = .ok (.iload_n 2, 1) := by decide +kernel
theorem dX11_isWord_25 : decode cX11_isWord 25 = .ok (.ifCond .eq 42, 3) := by decide +kernel
theorem dX11_isWord_28 : decode cX11_isWord 28 = .ok (.iload_n 3, 1) := by decide +kernel
theorem dX11_isWord_29 : decode cX11_isWord 29 = .ok (.aload_n 1, 1) := by decide +kernel
theorem dX11_isWord_30 : decode cX11_isWord 30 = .ok (.invokevirtual 174, 3) := by decide +kernel
theorem dX11_isWord_33 : decode cX11_isWord 33 = .ok (.if_icmp .ge 34, 3) := by decide +kernel
theorem dX11_isWord_36 : decode cX11_isWord 36 = .ok (.aload_n 0, 1) := by decide +kernel
theorem dX11_isWord_37 : decode cX11_isWord 37 = .ok (.getfield 39, 3) := by decide +kernel
theorem dX11_isWord_40 : decode cX11_isWord 40 = .ok (.aload_n 0, 1) := by decide +kernel
theorem dX11_isWord_41 : decode cX11_isWord 41 = .ok (.getfield 168, 3) := by decide +kernel
theorem dX11_isWord_44 : decode cX11_isWord 44 = .ok (.iload_n 3, 1) := by decide +kernel
theorem dX11_isWord_45 : decode cX11_isWord 45 = .ok (.iadd, 1) := by decide +kernel
theorem dX11_isWord_46 : decode cX11_isWord 46 = .ok (.baload, 1) := by decide +kernel
theorem dX11_isWord_47 : decode cX11_isWord 47 = .ok (.aload_n 1, 1) := by decide +kernel
theorem dX11_isWord_48 : decode cX11_isWord 48 = .ok (.iload_n 3, 1) := by decide +kernel
theorem dX11_isWord_49 : decode cX11_isWord 49 = .ok (.invokevirtual 179, 3) := by decide +kernel
theorem dX11_isWord_52 : decode cX11_isWord 52 = .ok (.if_icmp .ne 7, 3) := by decide +kernel
theorem dX11_isWord_55 : decode cX11_isWord 55 = .ok (.iconst 1, 1) := by decide +kernel
theorem dX11_isWord_56 : decode cX11_isWord 56 = .ok (.goto 4, 3) := by decide +kernel
theorem dX11_isWord_59 : decode cX11_isWord 59 = .ok (.iconst 0, 1) := by decide +kernel
theorem dX11_isWord_60 : decode cX11_isWord 60 = .ok (.istore_n 2, 1) := by decide +kernel
theorem dX11_isWord_61 : decode cX11_isWord 61 = .ok (.iinc 3 1, 3) := by decide +kernel
theorem dX11_isWord_64 : decode cX11_isWord 64 = .ok (.goto (-40), 3) := by decide +kernel
theorem dX11_isWord_67 : decode cX11_isWord 67 = .ok (.iload_n 2, 1) := by decide +kernel
theorem dX11_isWord_68 : decode cX11_isWord 68 = .ok (.ireturn, 1) := by decide +kernel
theorem dX11_passes_0 : decode cX11_passes 0 = .ok (.aload_n 0, 1) := by decide +kernel
theorem dX11_passes_1 : decode cX11_passes 1 = .ok (.invokevirtual 183, 3) := by decide +kernel
theorem dX11_passes_4 : decode cX11_passes 4 = .ok (.aload_n 0, 1) := by decide +kernel
theorem dX11_passes_5 : decode cX11_passes 5 = .ok (.aload_n 1, 1) := by decide +kernel
theorem dX11_passes_6 : decode cX11_passes 6 = .ok (.invokevirtual 186, 3) := by decide +kernel
theorem dX11_passes_9 : decode cX11_passes 9 = .ok (.ifCond .eq 5, 3) := by decide +kernel
theorem dX11_passes_12 : decode cX11_passes 12 = .ok (.iconst 1, 1) := by decide +kernel
theorem dX11_passes_13 : decode cX11_passes 13 = .ok (.ireturn, 1) := by decide +kernel
theorem dX11_passes_14 : decode cX11_passes 14 = .ok (.aload_n 0, 1) := by decide +kernel
theorem dX11_passes_15 : decode cX11_passes 15 = .ok (.aload_n 0, 1) := by decide +kernel
theorem dX11_passes_16 : decode cX11_passes 16 = .ok (.getfield 168, 3) := by decide +kernel
theorem dX11_passes_19 : decode cX11_passes 19 = .ok (.putfield 159, 3) := by decide +kernel
theorem dX11_passes_22 : decode cX11_passes 22 = .ok (.iconst 0, 1) := by decide +kernel
theorem dX11_passes_23 : decode cX11_passes 23 = .ok (.ireturn, 1) := by decide +kernel
theorem dX11_sign_0 : decode cX11_sign 0 = .ok (.aload_n 0, 1) := by decide +kernel
theorem dX11_sign_1 : decode cX11_sign 1 = .ok (.invokevirtual 171, 3) := by decide +kernel
theorem dX11_sign_4 : decode cX11_sign 4 = .ok (.aload_n 0, 1) := by decide +kernel
theorem dX11_sign_5 : decode cX11_sign 5 = .ok (.iload_n 1, 1) := by decide +kernel
theorem dX11_sign_6 : decode cX11_sign 6 = .ok (.iload_n 1, 1) := by decide +kernel
theorem dX11_sign_7 : decode cX11_sign 7 = .ok (.invokevirtual 165, 3) := by decide +kernel
theorem dX11_sign_10 : decode cX11_sign 10 = .ok (.ifCond .ne 5, 3) := by decide +kernel
theorem dX11_sign_13 : decode cX11_sign 13 = .ok (.iconst 0, 1) := by decide +kernel
theorem dX11_sign_14 : decode cX11_sign 14 = .ok (.ireturn, 1) := by decide +kernel
theorem dX11_sign_15 : decode cX11_sign 15 = .ok (.aload_n 0, 1) := by decide +kernel
theorem dX11_sign_16 : decode cX11_sign 16 = .ok (.dup, 1) := by decide +kernel
theorem dX11_sign_17 : decode cX11_sign 17 = .ok (.getfield 159, 3) := by decide +kernel
theorem dX11_sign_20 : decode cX11_sign 20 = .ok (.iconst 1, 1) := by decide +kernel
theorem dX11_sign_21 : decode cX11_sign 21 = .ok (.iadd, 1) := by decide +kernel
theorem dX11_sign_22 : decode cX11_sign 22 = .ok (.putfield 159, 3) := by decide +kernel
theorem dX11_sign_25 : decode cX11_sign 25 = .ok (.iconst 1, 1) := by decide +kernel
theorem dX11_sign_26 : decode cX11_sign 26 = .ok (.ireturn, 1) := by decide +kernel
theorem dX11_number_0 : decode cX11_number 0 = .ok (.aload_n 0, 1) := by decide +kernel
theorem dX11_number_1 : decode cX11_number 1 = .ok (.invokevirtual 171, 3) := by decide +kernel
theorem dX11_number_4 : decode cX11_number 4 = .ok (.iconst 0, 1) := by decide +kernel
theorem dX11_number_5 : decode cX11_number 5 = .ok (.istore_n 3, 1) := by decide +kernel
theorem dX11_number_6 : decode cX11_number 6 = .ok (.aload_n 0, 1) := by decide +kernel
theorem dX11_number_7 : decode cX11_number 7 = .ok (.bipush 48, 2) := by decide +kernel
theorem dX11_number_9 : decode cX11_number 9 = .ok (.bipush 57, 2) := by decide +kernel
theorem dX11_number_11 : decode cX11_number 11 = .ok (.invokevirtual 165, 3) := by decide +kernel
theorem dX11_number_14 : decode cX11_number 14 = .ok (.ifCond .eq 51, 3) := by decide +kernel
theorem dX11_number_17 : decode cX11_number 17 = .ok (.aload_n 0, 1) := by decide +kernel
theorem dX11_number_18 : decode cX11_number 18 = .ok (.getfield 159, 3) := by decide +kernel
theorem dX11_number_21 : decode cX11_number 21 = .ok (.aload_n 0, 1) := by decide +kernel
theorem dX11_number_22 : decode cX11_number 22 = .ok (.getfield 168, 3) := by decide +kernel
theorem dX11_number_25 : decode cX11_number 25 = .ok (.isub, 1) := by decide +kernel
theorem dX11_number_26 : decode cX11_number 26 = .ok (.iconst 3, 1) := by decide +kernel
theorem dX11_number_27 : decode cX11_number 27 = .ok (.if_icmp .ge 23, 3) := by decide +kernel
theorem dX11_number_30 : decode cX11_number 30 = .ok (.bipush 10, 2) := by decide +kernel
theorem dX11_number_32 : decode cX11_number 32 = .ok (.iload_n 3, 1) := by decide +kernel
theorem dX11_number_33 : decode cX11_number 33 = .ok (.imul, 1) := by decide +kernel
theorem dX11_number_34 : decode cX11_number 34 = .ok (.aload_n 0, 1) := by decide +kernel
theorem dX11_number_35 : decode cX11_number 35 = .ok (.getfield 39, 3) := by decide +kernel
theorem dX11_number_38 : decode cX11_number 38 = .ok (.aload_n 0, 1) := by decide +kernel
theorem dX11_number_39 : decode cX11_number 39 = .ok (.getfield 159, 3) := by decide +kernel
theorem dX11_number_42 : decode cX11_number 42 = .ok (.baload, 1) := by decide +kernel
theorem dX11_number_43 : decode cX11_number 43 = .ok (.iadd, 1) := by decide +kernel
theorem dX11_number_44 : decode cX11_number 44 = .ok (.bipush 48, 2) := by decide +kernel
theorem dX11_number_46 : decode cX11_number 46 = .ok (.isub, 1) := by decide +kernel
theorem dX11_number_47 : decode cX11_number 47 = .ok (.goto 4, 3) := by decide +kernel
theorem dX11_number_50 : decode cX11_number 50 = .ok (.iload_n 3, 1) := by decide +kernel
theorem dX11_number_51 : decode cX11_number 51 = .ok (.istore_n 3, 1) := by decide +kernel
theorem dX11_number_52 : decode cX11_number 52 = .ok (.aload_n 0, 1) := by decide +kernel
theorem dX11_number_53 : decode cX11_number 53 = .ok (.dup, 1) := by decide +kernel
theorem dX11_number_54 : decode cX11_number 54 = .ok (.getfield 159, 3) := by decide +kernel
theorem dX11_number_57 : decode cX11_number 57 = .ok (.iconst 1, 1) := by decide +kernel
theorem dX11_number_58 : decode cX11_number 58 = .ok (.iadd, 1) := by decide +kernel
theorem dX11_number_59 : decode cX11_number 59 = .ok (.putfield 159, 3) := by decide +kernel
theorem dX11_number_62 : decode cX11_number 62 = .ok (.goto (-56), 3) := by decide +kernel
theorem dX11_number_65 : decode cX11_number 65 = .ok (.aload_n 0, 1) := by decide +kernel
theorem dX11_number_66 : decode cX11_number 66 = .ok (.getfield 159, 3) := by decide +kernel
theorem dX11_number_69 : decode cX11_number 69 = .ok (.aload_n 0, 1) := by decide +kernel
theorem dX11_number_70 : decode cX11_number 70 = .ok (.getfield 168, 3) := by decide +kernel
theorem dX11_number_73 : decode cX11_number 73 = .ok (.if_icmp .eq 26, 3) := by decide +kernel
theorem dX11_number_76 : decode cX11_number 76 = .ok (.aload_n 0, 1) := by decide +kernel
theorem dX11_number_77 : decode cX11_number 77 = .ok (.getfield 159, 3) := by decide +kernel
theorem dX11_number_80 : decode cX11_number 80 = .ok (.aload_n 0, 1) := by decide +kernel
theorem dX11_number_81 : decode cX11_number 81 = .ok (.getfield 168, 3) := by decide +kernel
theorem dX11_number_84 : decode cX11_number 84 = .ok (.isub, 1) := by decide +kernel
theorem dX11_number_85 : decode cX11_number 85 = .ok (.iconst 3, 1) := by decide +kernel
theorem dX11_number_86 : decode cX11_number 86 = .ok (.if_icmp .gt 13, 3) := by decide +kernel
theorem dX11_number_89 : decode cX11_number 89 = .ok (.iload_n 3, 1) := by decide +kernel
theorem dX11_number_90 : decode cX11_number 90 = .ok (.iload_n 1, 1) := by decide +kernel
theorem dX11_number_91 : decode cX11_number 91 = .ok (.if_icmp .lt 8, 3) := by decide +kernel
theorem dX11_number_94 : decode cX11_number 94 = .ok (.iload_n 3, 1) := by decide +kernel
theorem dX11_number_95 : decode cX11_number 95 = .ok (.iload_n 2, 1) := by decide +kernel
theorem dX11_number_96 : decode cX11_number 96 = .ok (.if_icmp .le 7, 3) := by decide +kernel
theorem dX11_number_99 : decode cX11_number 99 = .ok (.iconst (-1), 1) := by decide +kernel
theorem dX11_number_100 : decode cX11_number 100 = .ok (.goto 4, 3) := by decide +kernel
theorem dX11_number_103 : decode cX11_number 103 = .ok (.iload_n 3, 1) := by decide +kernel
theorem dX11_number_104 : decode cX11_number 104 = .ok (.ireturn, 1) := by decide +kernel
theorem dX11_after_0 : decode cX11_after 0 = .ok (.aload_n 0, 1) := by decide +kernel
theorem dX11_after_1 : decode cX11_after 1 = .ok (.invokevirtual 183, 3) := by decide +kernel
theorem dX11_after_4 : decode cX11_after 4 = .ok (.aload_n 0, 1) := by decide +kernel
theorem dX11_after_5 : decode cX11_after 5 = .ok (.aload_n 1, 1) := by decide +kernel
theorem dX11_after_6 : decode cX11_after 6 = .ok (.invokevirtual 186, 3) := by decide +kernel
theorem dX11_after_9 : decode cX11_after 9 = .ok (.ifCond .eq 12, 3) := by decide +kernel
theorem dX11_after_12 : decode cX11_after 12 = .ok (.aload_n 0, 1) := by decide +kernel
theorem dX11_after_13 : decode cX11_after 13 = .ok (.iload_n 2, 1) := by decide +kernel
theorem dX11_after_14 : decode cX11_after 14 = .ok (.iload_n 3, 1) := by decide +kernel
theorem dX11_after_15 : decode cX11_after 15 = .ok (.invokevirtual 190, 3) := by decide +kernel
theorem dX11_after_18 : decode cX11_after 18 = .ok (.goto 4, 3) := by decide +kernel
theorem dX11_after_21 : decode cX11_after 21 = .ok (.iconst (-1), 1) := by decide +kernel
theorem dX11_after_22 : decode cX11_after 22 = .ok (.ireturn, 1) := by decide +kernel
theorem dX11_fault_0 : decode cX11_fault 0 = .ok (.aload_n 0, 1) := by decide +kernel
theorem dX11_fault_1 : decode cX11_fault 1 = .ok (.iconst 0, 1) := by decide +kernel
theorem dX11_fault_2 : decode cX11_fault 2 = .ok (.putfield 3, 3) := by decide +kernel
theorem dX11_fault_5 : decode cX11_fault 5 = .ok (.aload_n 0, 1) := by decide +kernel
theorem dX11_fault_6 : decode cX11_fault 6 = .ok (.getfield 43, 3) := by decide +kernel
theorem dX11_fault_9 : decode cX11_fault 9 = .ok (.ireturn, 1) := by decide +kernel
theorem dX11_uses_0 : decode cX11_uses 0 = .ok (.aload_n 0, 1) := by decide +kernel
theorem dX11_uses_1 : decode cX11_uses 1 = .ok (.iconst 0, 1) := by decide +kernel
theorem dX11_uses_2 : decode cX11_uses 2 = .ok (.putfield 3, 3) := by decide +kernel
theorem dX11_uses_5 : decode cX11_uses 5 = .ok (.aload_n 0, 1) := by decide +kernel
theorem dX11_uses_6 : decode cX11_uses 6 = .ok (.aload_n 0, 1) := by decide +kernel
theorem dX11_uses_7 : decode cX11_uses 7 = .ok (.getfield 156, 3) := by decide +kernel
theorem dX11_uses_10 : decode cX11_uses 10 = .ok (.putfield 162, 3) := by decide +kernel
theorem dX11_uses_13 : decode cX11_uses 13 = .ok (.aload_n 0, 1) := by decide +kernel
theorem dX11_uses_14 : decode cX11_uses 14 = .ok (.iconst 0, 1) := by decide +kernel
theorem dX11_uses_15 : decode cX11_uses 15 = .ok (.putfield 156, 3) := by decide +kernel
theorem dX11_uses_18 : decode cX11_uses 18 = .ok (.aload_n 0, 1) := by decide +kernel
theorem dX11_uses_19 : decode cX11_uses 19 = .ok (.iconst 0, 1) := by decide +kernel
theorem dX11_uses_20 : decode cX11_uses 20 = .ok (.putfield 159, 3) := by decide +kernel
theorem dX11_uses_23 : decode cX11_uses 23 = .ok (.return_, 1) := by decide +kernel
theorem dX11_personTold_0 : decode cX11_personTold 0 = .ok (.aload_n 0, 1) := by decide +kernel
theorem dX11_personTold_1 : decode cX11_personTold 1 = .ok (.iconst 0, 1) := by decide +kernel
theorem dX11_personTold_2 : decode cX11_personTold 2 = .ok (.aload_n 0, 1) := by decide +kernel
theorem dX11_personTold_3 : decode cX11_personTold 3 = .ok (.invokevirtual 107, 3) := by decide +kernel
theorem dX11_personTold_6 : decode cX11_personTold 6 = .ok (.iconst 1, 1) := by decide +kernel
theorem dX11_personTold_7 : decode cX11_personTold 7 = .ok (.isub, 1) := by decide +kernel
theorem dX11_personTold_8 : decode cX11_personTold 8 = .ok (.invokevirtual 190, 3) := by decide +kernel
theorem dX11_personTold_11 : decode cX11_personTold 11 = .ok (.ireturn, 1) := by decide +kernel
theorem dX11_isEarly_0 : decode cX11_isEarly 0 = .ok (.aload_n 0, 1) := by decide +kernel
theorem dX11_isEarly_1 : decode cX11_isEarly 1 = .ok (.getfield 13, 3) := by decide +kernel
theorem dX11_isEarly_4 : decode cX11_isEarly 4 = .ok (.bipush 7, 2) := by decide +kernel
theorem dX11_isEarly_6 : decode cX11_isEarly 6 = .ok (.iaload, 1) := by decide +kernel
theorem dX11_isEarly_7 : decode cX11_isEarly 7 = .ok (.aload_n 0, 1) := by decide +kernel
theorem dX11_isEarly_8 : decode cX11_isEarly 8 = .ok (.getfield 13, 3) := by decide +kernel
theorem dX11_isEarly_11 : decode cX11_isEarly 11 = .ok (.bipush 8, 2) := by decide +kernel
theorem dX11_isEarly_13 : decode cX11_isEarly 13 = .ok (.iaload, 1) := by decide +kernel
theorem dX11_isEarly_14 : decode cX11_isEarly 14 = .ok (.iadd, 1) := by decide +kernel
theorem dX11_isEarly_15 : decode cX11_isEarly 15 = .ok (.ifCond .ne 7, 3) := by decide +kernel
theorem dX11_isEarly_18 : decode cX11_isEarly 18 = .ok (.iconst 1, 1) := by decide +kernel
theorem dX11_isEarly_19 : decode cX11_isEarly 19 = .ok (.goto 4, 3) := by decide +kernel
theorem dX11_isEarly_22 : decode cX11_isEarly 22 = .ok (.iconst 0, 1) := by decide +kernel
theorem dX11_isEarly_23 : decode cX11_isEarly 23 = .ok (.ireturn, 1) := by decide +kernel
theorem dX11_readValues_0 : decode cX11_readValues 0 = .ok (.aload_n 0, 1) := by decide +kernel
theorem dX11_readValues_1 : decode cX11_readValues 1 = .ok (.invokevirtual 193, 3) := by decide +kernel
theorem dX11_readValues_4 : decode cX11_readValues 4 = .ok (.ifCond .eq 10, 3) := by decide +kernel
theorem dX11_readValues_7 : decode cX11_readValues 7 = .ok (.aload_n 0, 1) := by decide +kernel
theorem dX11_readValues_8 : decode cX11_readValues 8 = .ok (.invokevirtual 107, 3) := by decide +kernel
theorem dX11_readValues_11 : decode cX11_readValues 11 = .ok (.ifCond .le 5, 3) := by decide +kernel
theorem dX11_readValues_14 : decode cX11_readValues 14 = .ok (.iconst 0, 1) := by decide +kernel
theorem dX11_readValues_15 : decode cX11_readValues 15 = .ok (.ireturn, 1) := by decide +kernel
theorem dX11_readValues_16 : decode cX11_readValues 16 = .ok (.aload_n 0, 1) := by decide +kernel
theorem dX11_readValues_17 : decode cX11_readValues 17 = .ok (.iconst 2, 1) := by decide +kernel
theorem dX11_readValues_18 : decode cX11_readValues 18 = .ok (.iconst 4, 1) := by decide +kernel
theorem dX11_readValues_19 : decode cX11_readValues 19 = .ok (.invokevirtual 190, 3) := by decide +kernel
theorem dX11_readValues_22 : decode cX11_readValues 22 = .ok (.istore_n 1, 1) := by decide +kernel
theorem dX11_readValues_23 : decode cX11_readValues 23 = .ok (.iload_n 1, 1) := by decide +kernel
theorem dX11_readValues_24 : decode cX11_readValues 24 = .ok (.ifCond .lt 10, 3) := by decide +kernel
theorem dX11_readValues_27 : decode cX11_readValues 27 = .ok (.aload_n 0, 1) := by decide +kernel
theorem dX11_readValues_28 : decode cX11_readValues 28 = .ok (.getfield 13, 3) := by decide +kernel
theorem dX11_readValues_31 : decode cX11_readValues 31 = .ok (.iconst 0, 1) := by decide +kernel
theorem dX11_readValues_32 : decode cX11_readValues 32 = .ok (.iload_n 1, 1) := by decide +kernel
theorem dX11_readValues_33 : decode cX11_readValues 33 = .ok (.iastore, 1) := by decide +kernel
theorem dX11_readValues_34 : decode cX11_readValues 34 = .ok (.iload_n 1, 1) := by decide +kernel
theorem dX11_readValues_35 : decode cX11_readValues 35 = .ok (.ifCond .lt 7, 3) := by decide +kernel
theorem dX11_readValues_38 : decode cX11_readValues 38 = .ok (.iconst 1, 1) := by decide +kernel
theorem dX11_readValues_39 : decode cX11_readValues 39 = .ok (.goto 4, 3) := by decide +kernel
theorem dX11_readValues_42 : decode cX11_readValues 42 = .ok (.iconst 0, 1) := by decide +kernel
theorem dX11_readValues_43 : decode cX11_readValues 43 = .ok (.ireturn, 1) := by decide +kernel
theorem dX11_readPerson_0 : decode cX11_readPerson 0 = .ok (.aload_n 0, 1) := by decide +kernel
theorem dX11_readPerson_1 : decode cX11_readPerson 1 = .ok (.invokevirtual 193, 3) := by decide +kernel
theorem dX11_readPerson_4 : decode cX11_readPerson 4 = .ok (.ifCond .eq 18, 3) := by decide +kernel
theorem dX11_readPerson_7 : decode cX11_readPerson 7 = .ok (.aload_n 0, 1) := by decide +kernel
theorem dX11_readPerson_8 : decode cX11_readPerson 8 = .ok (.invokevirtual 115, 3) := by decide +kernel
theorem dX11_readPerson_11 : decode cX11_readPerson 11 = .ok (.aload_n 0, 1) := by decide +kernel
theorem dX11_readPerson_12 : decode cX11_readPerson 12 = .ok (.invokevirtual 118, 3) := by decide +kernel
theorem dX11_readPerson_15 : decode cX11_readPerson 15 = .ok (.imul, 1) := by decide +kernel
theorem dX11_readPerson_16 : decode cX11_readPerson 16 = .ok (.sipush 512, 3) := by decide +kernel
theorem dX11_readPerson_19 : decode cX11_readPerson 19 = .ok (.if_icmp .le 5, 3) := by decide +kernel
theorem dX11_readPerson_22 : decode cX11_readPerson 22 = .ok (.iconst 0, 1) := by decide +kernel
theorem dX11_readPerson_23 : decode cX11_readPerson 23 = .ok (.ireturn, 1) := by decide +kernel
theorem dX11_readPerson_24 : decode cX11_readPerson 24 = .ok (.aload_n 0, 1) := by decide +kernel
theorem dX11_readPerson_25 : decode cX11_readPerson 25 = .ok (.iconst 0, 1) := by decide +kernel
theorem dX11_readPerson_26 : decode cX11_readPerson 26 = .ok (.aload_n 0, 1) := by decide +kernel
theorem dX11_readPerson_27 : decode cX11_readPerson 27 = .ok (.invokevirtual 118, 3) := by decide +kernel
theorem dX11_readPerson_30 : decode cX11_readPerson 30 = .ok (.iconst 1, 1) := by decide +kernel
theorem dX11_readPerson_31 : decode cX11_readPerson 31 = .ok (.isub, 1) := by decide +kernel
theorem dX11_readPerson_32 : decode cX11_readPerson 32 = .ok (.invokevirtual 190, 3) := by decide +kernel
theorem dX11_readPerson_35 : decode cX11_readPerson 35 = .ok (.istore_n 1, 1) := by decide +kernel
theorem dX11_readPerson_36 : decode cX11_readPerson 36 = .ok (.iload_n 1, 1) := by decide +kernel
theorem dX11_readPerson_37 : decode cX11_readPerson 37 = .ok (.ifCond .ge 5, 3) := by decide +kernel
theorem dX11_readPerson_40 : decode cX11_readPerson 40 = .ok (.iconst 0, 1) := by decide +kernel
theorem dX11_readPerson_41 : decode cX11_readPerson 41 = .ok (.ireturn, 1) := by decide +kernel
theorem dX11_readPerson_42 : decode cX11_readPerson 42 = .ok (.aload_n 0, 1) := by decide +kernel
theorem dX11_readPerson_43 : decode cX11_readPerson 43 = .ok (.getfield 13, 3) := by decide +kernel
theorem dX11_readPerson_46 : decode cX11_readPerson 46 = .ok (.iconst 1, 1) := by decide +kernel
theorem dX11_readPerson_47 : decode cX11_readPerson 47 = .ok (.dup2, 1) := by decide +kernel
theorem dX11_readPerson_48 : decode cX11_readPerson 48 = .ok (.iaload, 1) := by decide +kernel
theorem dX11_readPerson_49 : decode cX11_readPerson 49 = .ok (.iconst 1, 1) := by decide +kernel
theorem dX11_readPerson_50 : decode cX11_readPerson 50 = .ok (.iadd, 1) := by decide +kernel
theorem dX11_readPerson_51 : decode cX11_readPerson 51 = .ok (.iastore, 1) := by decide +kernel
theorem dX11_readPerson_52 : decode cX11_readPerson 52 = .ok (.aload_n 0, 1) := by decide +kernel
theorem dX11_readPerson_53 : decode cX11_readPerson 53 = .ok (.getfield 13, 3) := by decide +kernel
theorem dX11_readPerson_56 : decode cX11_readPerson 56 = .ok (.bipush 10, 2) := by decide +kernel
theorem dX11_readPerson_58 : decode cX11_readPerson 58 = .ok (.dup2, 1) := by decide +kernel
theorem dX11_readPerson_59 : decode cX11_readPerson 59 = .ok (.iaload, 1) := by decide +kernel
theorem dX11_readPerson_60 : decode cX11_readPerson 60 = .ok (.aload_n 0, 1) := by decide +kernel
theorem dX11_readPerson_61 : decode cX11_readPerson 61 = .ok (.invokevirtual 118, 3) := by decide +kernel
theorem dX11_readPerson_64 : decode cX11_readPerson 64 = .ok (.imul, 1) := by decide +kernel
theorem dX11_readPerson_65 : decode cX11_readPerson 65 = .ok (.iastore, 1) := by decide +kernel
theorem dX11_readPerson_66 : decode cX11_readPerson 66 = .ok (.aload_n 0, 1) := by decide +kernel
theorem dX11_readPerson_67 : decode cX11_readPerson 67 = .ok (.getfield 13, 3) := by decide +kernel
theorem dX11_readPerson_70 : decode cX11_readPerson 70 = .ok (.bipush 6, 2) := by decide +kernel
theorem dX11_readPerson_72 : decode cX11_readPerson 72 = .ok (.aload_n 0, 1) := by decide +kernel
theorem dX11_readPerson_73 : decode cX11_readPerson 73 = .ok (.getfield 13, 3) := by decide +kernel
theorem dX11_readPerson_76 : decode cX11_readPerson 76 = .ok (.bipush 6, 2) := by decide +kernel
theorem dX11_readPerson_78 : decode cX11_readPerson 78 = .ok (.iaload, 1) := by decide +kernel
theorem dX11_readPerson_79 : decode cX11_readPerson 79 = .ok (.aload_n 0, 1) := by decide +kernel
theorem dX11_readPerson_80 : decode cX11_readPerson 80 = .ok (.invokevirtual 118, 3) := by decide +kernel
theorem dX11_readPerson_83 : decode cX11_readPerson 83 = .ok (.imul, 1) := by decide +kernel
theorem dX11_readPerson_84 : decode cX11_readPerson 84 = .ok (.iload_n 1, 1) := by decide +kernel
theorem dX11_readPerson_85 : decode cX11_readPerson 85 = .ok (.iadd, 1) := by decide +kernel
theorem dX11_readPerson_86 : decode cX11_readPerson 86 = .ok (.iastore, 1) := by decide +kernel
theorem dX11_readPerson_87 : decode cX11_readPerson 87 = .ok (.iconst 0, 1) := by decide +kernel
theorem dX11_readPerson_88 : decode cX11_readPerson 88 = .ok (.istore_n 2, 1) := by decide +kernel
theorem dX11_readPerson_89 : decode cX11_readPerson 89 = .ok (.iload_n 2, 1) := by decide +kernel
theorem dX11_readPerson_90 : decode cX11_readPerson 90 = .ok (.aload_n 0, 1) := by decide +kernel
theorem dX11_readPerson_91 : decode cX11_readPerson 91 = .ok (.invokevirtual 115, 3) := by decide +kernel
theorem dX11_readPerson_94 : decode cX11_readPerson 94 = .ok (.if_icmp .ge 19, 3) := by decide +kernel
theorem dX11_readPerson_97 : decode cX11_readPerson 97 = .ok (.aload_n 0, 1) := by decide +kernel
theorem dX11_readPerson_98 : decode cX11_readPerson 98 = .ok (.getfield 13, 3) := by decide +kernel
theorem dX11_readPerson_101 : decode cX11_readPerson 101 = .ok (.bipush 20, 2) := by decide +kernel
theorem dX11_readPerson_103 : decode cX11_readPerson 103 = .ok (.iload_n 2, 1) := by decide +kernel
theorem dX11_readPerson_104 : decode cX11_readPerson 104 = .ok (.iadd, 1) := by decide +kernel
theorem dX11_readPerson_105 : decode cX11_readPerson 105 = .ok (.iconst 1, 1) := by decide +kernel
theorem dX11_readPerson_106 : decode cX11_readPerson 106 = .ok (.iastore, 1) := by decide +kernel
theorem dX11_readPerson_107 : decode cX11_readPerson 107 = .ok (.iinc 2 1, 3) := by decide +kernel
theorem dX11_readPerson_110 : decode cX11_readPerson 110 = .ok (.goto (-21), 3) := by decide +kernel
theorem dX11_readPerson_113 : decode cX11_readPerson 113 = .ok (.iconst 1, 1) := by decide +kernel
theorem dX11_readPerson_114 : decode cX11_readPerson 114 = .ok (.ireturn, 1) := by decide +kernel
theorem dX11_readTwo_0 : decode cX11_readTwo 0 = .ok (.aload_n 0, 1) := by decide +kernel
theorem dX11_readTwo_1 : decode cX11_readTwo 1 = .ok (.aload_n 0, 1) := by decide +kernel
theorem dX11_readTwo_2 : decode cX11_readTwo 2 = .ok (.invokevirtual 197, 3) := by decide +kernel
theorem dX11_readTwo_5 : decode cX11_readTwo 5 = .ok (.putfield 200, 3) := by decide +kernel
theorem dX11_readTwo_8 : decode cX11_readTwo 8 = .ok (.aload_n 0, 1) := by decide +kernel
theorem dX11_readTwo_9 : decode cX11_readTwo 9 = .ok (.getfield 200, 3) := by decide +kernel
theorem dX11_readTwo_12 : decode cX11_readTwo 12 = .ok (.ifCond .ge 5, 3) := by decide +kernel
theorem dX11_readTwo_15 : decode cX11_readTwo 15 = .ok (.iconst 0, 1) := by decide +kernel
theorem dX11_readTwo_16 : decode cX11_readTwo 16 = .ok (.ireturn, 1) := by decide +kernel
theorem dX11_readTwo_17 : decode cX11_readTwo 17 = .ok (.aload_n 0, 1) := by decide +kernel
theorem dX11_readTwo_18 : decode cX11_readTwo 18 = .ok (.aload_n 0, 1) := by decide +kernel
theorem dX11_readTwo_19 : decode cX11_readTwo 19 = .ok (.invokevirtual 197, 3) := by decide +kernel
theorem dX11_readTwo_22 : decode cX11_readTwo 22 = .ok (.putfield 203, 3) := by decide +kernel
theorem dX11_readTwo_25 : decode cX11_readTwo 25 = .ok (.aload_n 0, 1) := by decide +kernel
theorem dX11_readTwo_26 : decode cX11_readTwo 26 = .ok (.getfield 203, 3) := by decide +kernel
theorem dX11_readTwo_29 : decode cX11_readTwo 29 = .ok (.ifCond .lt 18, 3) := by decide +kernel
theorem dX11_readTwo_32 : decode cX11_readTwo 32 = .ok (.aload_n 0, 1) := by decide +kernel
theorem dX11_readTwo_33 : decode cX11_readTwo 33 = .ok (.getfield 203, 3) := by decide +kernel
theorem dX11_readTwo_36 : decode cX11_readTwo 36 = .ok (.aload_n 0, 1) := by decide +kernel
theorem dX11_readTwo_37 : decode cX11_readTwo 37 = .ok (.getfield 200, 3) := by decide +kernel
theorem dX11_readTwo_40 : decode cX11_readTwo 40 = .ok (.if_icmp .eq 7, 3) := by decide +kernel
theorem dX11_readTwo_43 : decode cX11_readTwo 43 = .ok (.iconst 1, 1) := by decide +kernel
theorem dX11_readTwo_44 : decode cX11_readTwo 44 = .ok (.goto 4, 3) := by decide +kernel
theorem dX11_readTwo_47 : decode cX11_readTwo 47 = .ok (.iconst 0, 1) := by decide +kernel
theorem dX11_readTwo_48 : decode cX11_readTwo 48 = .ok (.ireturn, 1) := by decide +kernel
theorem dX11_haveIn_0 : decode cX11_haveIn 0 = .ok (.iconst 0, 1) := by decide +kernel
theorem dX11_haveIn_1 : decode cX11_haveIn 1 = .ok (.istore_n 3, 1) := by decide +kernel
theorem dX11_haveIn_2 : decode cX11_haveIn 2 = .ok (.iconst 0, 1) := by decide +kernel
theorem dX11_haveIn_3 : decode cX11_haveIn 3 = .ok (.istore 4, 2) := by decide +kernel
theorem dX11_haveIn_5 : decode cX11_haveIn 5 = .ok (.iload 4, 2) := by decide +kernel
theorem dX11_haveIn_7 : decode cX11_haveIn 7 = .ok (.aload_n 0, 1) := by decide +kernel
theorem dX11_haveIn_8 : decode cX11_haveIn 8 = .ok (.invokevirtual 107, 3) := by decide +kernel
theorem dX11_haveIn_11 : decode cX11_haveIn 11 = .ok (.if_icmp .ge 28, 3) := by decide +kernel
theorem dX11_haveIn_14 : decode cX11_haveIn 14 = .ok (.iload_n 3, 1) := by decide +kernel
theorem dX11_haveIn_15 : decode cX11_haveIn 15 = .ok (.aload_n 0, 1) := by decide +kernel
theorem dX11_haveIn_16 : decode cX11_haveIn 16 = .ok (.iload 4, 2) := by decide +kernel
theorem dX11_haveIn_18 : decode cX11_haveIn 18 = .ok (.iload_n 1, 1) := by decide +kernel
theorem dX11_haveIn_19 : decode cX11_haveIn 19 = .ok (.invokevirtual 124, 3) := by decide +kernel
theorem dX11_haveIn_22 : decode cX11_haveIn 22 = .ok (.iload_n 2, 1) := by decide +kernel
theorem dX11_haveIn_23 : decode cX11_haveIn 23 = .ok (.if_icmp .ne 7, 3) := by decide +kernel
theorem dX11_haveIn_26 : decode cX11_haveIn 26 = .ok (.iconst 1, 1) := by decide +kernel
theorem dX11_haveIn_27 : decode cX11_haveIn 27 = .ok (.goto 4, 3) := by decide +kernel
theorem dX11_haveIn_30 : decode cX11_haveIn 30 = .ok (.iconst 0, 1) := by decide +kernel
theorem dX11_haveIn_31 : decode cX11_haveIn 31 = .ok (.iadd, 1) := by decide +kernel
theorem dX11_haveIn_32 : decode cX11_haveIn 32 = .ok (.istore_n 3, 1) := by decide +kernel
theorem dX11_haveIn_33 : decode cX11_haveIn 33 = .ok (.iinc 4 1, 3) := by decide +kernel
theorem dX11_haveIn_36 : decode cX11_haveIn 36 = .ok (.goto (-31), 3) := by decide +kernel
theorem dX11_haveIn_39 : decode cX11_haveIn 39 = .ok (.iload_n 3, 1) := by decide +kernel
theorem dX11_haveIn_40 : decode cX11_haveIn 40 = .ok (.ireturn, 1) := by decide +kernel
theorem dX11_isSo_0 : decode cX11_isSo 0 = .ok (.aload_n 0, 1) := by decide +kernel
theorem dX11_isSo_1 : decode cX11_isSo 1 = .ok (.getfield 33, 3) := by decide +kernel
theorem dX11_isSo_4 : decode cX11_isSo 4 = .ok (.aload_n 0, 1) := by decide +kernel
theorem dX11_isSo_5 : decode cX11_isSo 5 = .ok (.invokevirtual 121, 3) := by decide +kernel
theorem dX11_isSo_8 : decode cX11_isSo 8 = .ok (.iaload, 1) := by decide +kernel
theorem dX11_isSo_9 : decode cX11_isSo 9 = .ok (.iconst 1, 1) := by decide +kernel
theorem dX11_isSo_10 : decode cX11_isSo 10 = .ok (.if_icmp .ne 9, 3) := by decide +kernel
theorem dX11_isSo_13 : decode cX11_isSo 13 = .ok (.aload_n 0, 1) := by decide +kernel
theorem dX11_isSo_14 : decode cX11_isSo 14 = .ok (.invokevirtual 206, 3) := by decide +kernel
theorem dX11_isSo_17 : decode cX11_isSo 17 = .ok (.iconst 1, 1) := by decide +kernel
theorem dX11_isSo_18 : decode cX11_isSo 18 = .ok (.ireturn, 1) := by decide +kernel
theorem dX11_isSo_19 : decode cX11_isSo 19 = .ok (.aload_n 0, 1) := by decide +kernel
theorem dX11_isSo_20 : decode cX11_isSo 20 = .ok (.iload_n 1, 1) := by decide +kernel
theorem dX11_isSo_21 : decode cX11_isSo 21 = .ok (.putfield 168, 3) := by decide +kernel
theorem dX11_isSo_24 : decode cX11_isSo 24 = .ok (.iconst 0, 1) := by decide +kernel
theorem dX11_isSo_25 : decode cX11_isSo 25 = .ok (.ireturn, 1) := by decide +kernel
theorem dX11_readMany_0 : decode cX11_readMany 0 = .ok (.aload_n 0, 1) := by decide +kernel
theorem dX11_readMany_1 : decode cX11_readMany 1 = .ok (.getfield 168, 3) := by decide +kernel
theorem dX11_readMany_4 : decode cX11_readMany 4 = .ok (.istore_n 2, 1) := by decide +kernel
theorem dX11_readMany_5 : decode cX11_readMany 5 = .ok (.aload_n 0, 1) := by decide +kernel
theorem dX11_readMany_6 : decode cX11_readMany 6 = .ok (.iconst 0, 1) := by decide +kernel
theorem dX11_readMany_7 : decode cX11_readMany 7 = .ok (.bipush 9, 2) := by decide +kernel
theorem dX11_readMany_9 : decode cX11_readMany 9 = .ok (.invokevirtual 190, 3) := by decide +kernel
theorem dX11_readMany_12 : decode cX11_readMany 12 = .ok (.istore_n 3, 1) := by decide +kernel
theorem dX11_readMany_13 : decode cX11_readMany 13 = .ok (.iload_n 3, 1) := by decide +kernel
theorem dX11_readMany_14 : decode cX11_readMany 14 = .ok (.ifCond .ge 7, 3) := by decide +kernel
theorem dX11_readMany_17 : decode cX11_readMany 17 = .ok (.iconst (-1), 1) := by decide +kernel
theorem dX11_readMany_18 : decode cX11_readMany 18 = .ok (.goto 16, 3) := by decide +kernel
theorem dX11_readMany_21 : decode cX11_readMany 21 = .ok (.aload_n 0, 1) := by decide +kernel
theorem dX11_readMany_22 : decode cX11_readMany 22 = .ok (.ldc 209, 2) := by decide +kernel
theorem dX11_readMany_24 : decode cX11_readMany 24 = .ok (.iconst 0, 1) := by decide +kernel
theorem dX11_readMany_25 : decode cX11_readMany 25 = .ok (.aload_n 0, 1) := by decide +kernel
theorem dX11_readMany_26 : decode cX11_readMany 26 = .ok (.invokevirtual 118, 3) := by decide +kernel
theorem dX11_readMany_29 : decode cX11_readMany 29 = .ok (.iconst 1, 1) := by decide +kernel
theorem dX11_readMany_30 : decode cX11_readMany 30 = .ok (.isub, 1) := by decide +kernel
theorem dX11_readMany_31 : decode cX11_readMany 31 = .ok (.invokevirtual 211, 3) := by decide +kernel
theorem dX11_readMany_34 : decode cX11_readMany 34 = .ok (.istore 4, 2) := by decide +kernel
theorem dX11_readMany_36 : decode cX11_readMany 36 = .ok (.iload 4, 2) := by decide +kernel
theorem dX11_readMany_38 : decode cX11_readMany 38 = .ok (.ifCond .ge 5, 3) := by decide +kernel
theorem dX11_readMany_41 : decode cX11_readMany 41 = .ok (.iconst 0, 1) := by decide +kernel
theorem dX11_readMany_42 : decode cX11_readMany 42 = .ok (.ireturn, 1) := by decide +kernel
theorem dX11_readMany_43 : decode cX11_readMany 43 = .ok (.iconst 0, 1) := by decide +kernel
theorem dX11_readMany_44 : decode cX11_readMany 44 = .ok (.istore 5, 2) := by decide +kernel
theorem dX11_readMany_46 : decode cX11_readMany 46 = .ok (.iload 5, 2) := by decide +kernel
theorem dX11_readMany_48 : decode cX11_readMany 48 = .ok (.aload_n 0, 1) := by decide +kernel
theorem dX11_readMany_49 : decode cX11_readMany 49 = .ok (.invokevirtual 115, 3) := by decide +kernel
theorem dX11_readMany_52 : decode cX11_readMany 52 = .ok (.if_icmp .ge 52, 3) := by decide +kernel
theorem dX11_readMany_55 : decode cX11_readMany 55 = .ok (.aload_n 0, 1) := by decide +kernel
theorem dX11_readMany_56 : decode cX11_readMany 56 = .ok (.getfield 33, 3) := by decide +kernel
theorem dX11_readMany_59 : decode cX11_readMany 59 = .ok (.iload 5, 2) := by decide +kernel
theorem dX11_readMany_61 : decode cX11_readMany 61 = .ok (.iload_n 1, 1) := by decide +kernel
theorem dX11_readMany_62 : decode cX11_readMany 62 = .ok (.ifCond .eq 18, 3) := by decide +kernel
theorem dX11_readMany_65 : decode cX11_readMany 65 = .ok (.aload_n 0, 1) := by decide +kernel
theorem dX11_readMany_66 : decode cX11_readMany 66 = .ok (.iload 5, 2) := by decide +kernel
theorem dX11_readMany_68 : decode cX11_readMany 68 = .ok (.iload 4, 2) := by decide +kernel
theorem dX11_readMany_70 : decode cX11_readMany 70 = .ok (.invokevirtual 215, 3) := by decide +kernel
theorem dX11_readMany_73 : decode cX11_readMany 73 = .ok (.iload_n 3, 1) := by decide +kernel
theorem dX11_readMany_74 : decode cX11_readMany 74 = .ok (.if_icmp .lt 22, 3) := by decide +kernel
theorem dX11_readMany_77 : decode cX11_readMany 77 = .ok (.goto 15, 3) := by decide +kernel
theorem dX11_readMany_80 : decode cX11_readMany 80 = .ok (.aload_n 0, 1) := by decide +kernel
theorem dX11_readMany_81 : decode cX11_readMany 81 = .ok (.iload 5, 2) := by decide +kernel
theorem dX11_readMany_83 : decode cX11_readMany 83 = .ok (.iload 4, 2) := by decide +kernel
theorem dX11_readMany_85 : decode cX11_readMany 85 = .ok (.invokevirtual 215, 3) := by decide +kernel
theorem dX11_readMany_88 : decode cX11_readMany 88 = .ok (.iload_n 3, 1) := by decide +kernel
theorem dX11_readMany_89 : decode cX11_readMany 89 = .ok (.if_icmp .gt 7, 3) := by decide +kernel
theorem dX11_readMany_92 : decode cX11_readMany 92 = .ok (.iconst 1, 1) := by decide +kernel
theorem dX11_readMany_93 : decode cX11_readMany 93 = .ok (.goto 4, 3) := by decide +kernel
theorem dX11_readMany_96 : decode cX11_readMany 96 = .ok (.iconst 0, 1) := by decide +kernel
theorem dX11_readMany_97 : decode cX11_readMany 97 = .ok (.iastore, 1) := by decide +kernel
theorem dX11_readMany_98 : decode cX11_readMany 98 = .ok (.iinc 5 1, 3) := by decide +kernel
theorem dX11_readMany_101 : decode cX11_readMany 101 = .ok (.goto (-55), 3) := by decide +kernel
theorem dX11_readMany_104 : decode cX11_readMany 104 = .ok (.aload_n 0, 1) := by decide +kernel
theorem dX11_readMany_105 : decode cX11_readMany 105 = .ok (.iload_n 2, 1) := by decide +kernel
theorem dX11_readMany_106 : decode cX11_readMany 106 = .ok (.invokevirtual 218, 3) := by decide +kernel
theorem dX11_readMany_109 : decode cX11_readMany 109 = .ok (.ireturn, 1) := by decide +kernel
theorem dX11_readAlike_0 : decode cX11_readAlike 0 = .ok (.aload_n 0, 1) := by decide +kernel
theorem dX11_readAlike_1 : decode cX11_readAlike 1 = .ok (.getfield 168, 3) := by decide +kernel
theorem dX11_readAlike_4 : decode cX11_readAlike 4 = .ok (.istore_n 2, 1) := by decide +kernel
theorem dX11_readAlike_5 : decode cX11_readAlike 5 = .ok (.aload_n 0, 1) := by decide +kernel
theorem dX11_readAlike_6 : decode cX11_readAlike 6 = .ok (.invokevirtual 221, 3) := by decide +kernel
theorem dX11_readAlike_9 : decode cX11_readAlike 9 = .ok (.ifCond .ne 5, 3) := by decide +kernel
theorem dX11_readAlike_12 : decode cX11_readAlike 12 = .ok (.iconst 0, 1) := by decide +kernel
theorem dX11_readAlike_13 : decode cX11_readAlike 13 = .ok (.ireturn, 1) := by decide +kernel
theorem dX11_readAlike_14 : decode cX11_readAlike 14 = .ok (.iconst 0, 1) := by decide +kernel
theorem dX11_readAlike_15 : decode cX11_readAlike 15 = .ok (.istore_n 3, 1) := by decide +kernel
theorem dX11_readAlike_16 : decode cX11_readAlike 16 = .ok (.iload_n 3, 1) := by decide +kernel
theorem dX11_readAlike_17 : decode cX11_readAlike 17 = .ok (.aload_n 0, 1) := by decide +kernel
theorem dX11_readAlike_18 : decode cX11_readAlike 18 = .ok (.invokevirtual 115, 3) := by decide +kernel
theorem dX11_readAlike_21 : decode cX11_readAlike 21 = .ok (.if_icmp .ge 50, 3) := by decide +kernel
theorem dX11_readAlike_24 : decode cX11_readAlike 24 = .ok (.aload_n 0, 1) := by decide +kernel
theorem dX11_readAlike_25 : decode cX11_readAlike 25 = .ok (.getfield 33, 3) := by decide +kernel
theorem dX11_readAlike_28 : decode cX11_readAlike 28 = .ok (.iload_n 3, 1) := by decide +kernel
theorem dX11_readAlike_29 : decode cX11_readAlike 29 = .ok (.iload_n 1, 1) := by decide +kernel
theorem dX11_readAlike_30 : decode cX11_readAlike 30 = .ok (.aload_n 0, 1) := by decide +kernel
theorem dX11_readAlike_31 : decode cX11_readAlike 31 = .ok (.aload_n 0, 1) := by decide +kernel
theorem dX11_readAlike_32 : decode cX11_readAlike 32 = .ok (.getfield 200, 3) := by decide +kernel
theorem dX11_readAlike_35 : decode cX11_readAlike 35 = .ok (.iload_n 3, 1) := by decide +kernel
theorem dX11_readAlike_36 : decode cX11_readAlike 36 = .ok (.invokevirtual 124, 3) := by decide +kernel
theorem dX11_readAlike_39 : decode cX11_readAlike 39 = .ok (.aload_n 0, 1) := by decide +kernel
theorem dX11_readAlike_40 : decode cX11_readAlike 40 = .ok (.aload_n 0, 1) := by decide +kernel
theorem dX11_readAlike_41 : decode cX11_readAlike 41 = .ok (.getfield 203, 3) := by decide +kernel
theorem dX11_readAlike_44 : decode cX11_readAlike 44 = .ok (.iload_n 3, 1) := by decide +kernel
theorem dX11_readAlike_45 : decode cX11_readAlike 45 = .ok (.invokevirtual 124, 3) := by decide +kernel
theorem dX11_readAlike_48 : decode cX11_readAlike 48 = .ok (.if_icmp .ne 7, 3) := by decide +kernel
theorem dX11_readAlike_51 : decode cX11_readAlike 51 = .ok (.iconst 1, 1) := by decide +kernel
theorem dX11_readAlike_52 : decode cX11_readAlike 52 = .ok (.goto 4, 3) := by decide +kernel
theorem dX11_readAlike_55 : decode cX11_readAlike 55 = .ok (.iconst 0, 1) := by decide +kernel
theorem dX11_readAlike_56 : decode cX11_readAlike 56 = .ok (.if_icmp .ne 7, 3) := by decide +kernel
theorem dX11_readAlike_59 : decode cX11_readAlike 59 = .ok (.iconst 1, 1) := by decide +kernel
theorem dX11_readAlike_60 : decode cX11_readAlike 60 = .ok (.goto 4, 3) := by decide +kernel
theorem dX11_readAlike_63 : decode cX11_readAlike 63 = .ok (.iconst 0, 1) := by decide +kernel
theorem dX11_readAlike_64 : decode cX11_readAlike 64 = .ok (.iastore, 1) := by decide +kernel
theorem dX11_readAlike_65 : decode cX11_readAlike 65 = .ok (.iinc 3 1, 3) := by decide +kernel
theorem dX11_readAlike_68 : decode cX11_readAlike 68 = .ok (.goto (-52), 3) := by decide +kernel
theorem dX11_readAlike_71 : decode cX11_readAlike 71 = .ok (.aload_n 0, 1) := by decide +kernel
theorem dX11_readAlike_72 : decode cX11_readAlike 72 = .ok (.iload_n 2, 1) := by decide +kernel
theorem dX11_readAlike_73 : decode cX11_readAlike 73 = .ok (.invokevirtual 218, 3) := by decide +kernel
theorem dX11_readAlike_76 : decode cX11_readAlike 76 = .ok (.ireturn, 1) := by decide +kernel
theorem dX11_readVillageLine_0 : decode cX11_readVillageLine 0 = .ok (.aload_n 0, 1) := by decide +kernel
theorem dX11_readVillageLine_1 : decode cX11_readVillageLine 1 = .ok (.ldc 224, 2) := by decide +kernel
theorem dX11_readVillageLine_3 : decode cX11_readVillageLine 3 = .ok (.invokevirtual 186, 3) := by decide +kernel
theorem dX11_readVillageLine_6 : decode cX11_readVillageLine 6 = .ok (.ifCond .eq 8, 3) := by decide +kernel
theorem dX11_readVillageLine_9 : decode cX11_readVillageLine 9 = .ok (.aload_n 0, 1) := by decide +kernel
theorem dX11_readVillageLine_10 : decode cX11_readVillageLine 10 = .ok (.invokevirtual 225, 3) := by decide +kernel
theorem dX11_readVillageLine_13 : decode cX11_readVillageLine 13 = .ok (.ireturn, 1) := by decide +kernel
theorem dX11_readVillageLine_14 : decode cX11_readVillageLine 14 = .ok (.aload_n 0, 1) := by decide +kernel
theorem dX11_readVillageLine_15 : decode cX11_readVillageLine 15 = .ok (.ldc 228, 2) := by decide +kernel
theorem dX11_readVillageLine_17 : decode cX11_readVillageLine 17 = .ok (.invokevirtual 186, 3) := by decide +kernel
theorem dX11_readVillageLine_20 : decode cX11_readVillageLine 20 = .ok (.ifCond .eq 8, 3) := by decide +kernel
theorem dX11_readVillageLine_23 : decode cX11_readVillageLine 23 = .ok (.aload_n 0, 1) := by decide +kernel
theorem dX11_readVillageLine_24 : decode cX11_readVillageLine 24 = .ok (.invokevirtual 230, 3) := by decide +kernel
theorem dX11_readVillageLine_27 : decode cX11_readVillageLine 27 = .ok (.ireturn, 1) := by decide +kernel
theorem dX11_readVillageLine_28 : decode cX11_readVillageLine 28 = .ok (.aload_n 0, 1) := by decide +kernel
theorem dX11_readVillageLine_29 : decode cX11_readVillageLine 29 = .ok (.ldc 233, 2) := by decide +kernel
theorem dX11_readVillageLine_31 : decode cX11_readVillageLine 31 = .ok (.invokevirtual 186, 3) := by decide +kernel
theorem dX11_readVillageLine_34 : decode cX11_readVillageLine 34 = .ok (.istore_n 1, 1) := by decide +kernel
theorem dX11_readVillageLine_35 : decode cX11_readVillageLine 35 = .ok (.aload_n 0, 1) := by decide +kernel
theorem dX11_readVillageLine_36 : decode cX11_readVillageLine 36 = .ok (.ldc 235, 2) := by decide +kernel
theorem dX11_readVillageLine_38 : decode cX11_readVillageLine 38 = .ok (.invokevirtual 186, 3) := by decide +kernel
theorem dX11_readVillageLine_41 : decode cX11_readVillageLine 41 = .ok (.istore_n 2, 1) := by decide +kernel
theorem dX11_readVillageLine_42 : decode cX11_readVillageLine 42 = .ok (.iload_n 1, 1) := by decide +kernel
theorem dX11_readVillageLine_43 : decode cX11_readVillageLine 43 = .ok (.ifCond .ne 12, 3) := by decide +kernel
theorem dX11_readVillageLine_46 : decode cX11_readVillageLine 46 = .ok (.aload_n 0, 1) := by decide +kernel
theorem dX11_readVillageLine_47 : decode cX11_readVillageLine 47 = .ok (.ldc 237, 2) := by decide +kernel
theorem dX11_readVillageLine_49 : decode cX11_readVillageLine 49 = .ok (.invokevirtual 186, 3) := by decide +kernel
theorem dX11_readVillageLine_52 : decode cX11_readVillageLine 52 = .ok (.ifCond .eq 7, 3) := by decide +kernel
theorem dX11_readVillageLine_55 : decode cX11_readVillageLine 55 = .ok (.iconst 1, 1) := by decide +kernel
theorem dX11_readVillageLine_56 : decode cX11_readVillageLine 56 = .ok (.goto 4, 3) := by decide +kernel
theorem dX11_readVillageLine_59 : decode cX11_readVillageLine 59 = .ok (.iconst 0, 1) := by decide +kernel
theorem dX11_readVillageLine_60 : decode cX11_readVillageLine 60 = .ok (.istore_n 3, 1) := by decide +kernel
theorem dX11_readVillageLine_61 : decode cX11_readVillageLine 61 = .ok (.iload_n 2, 1) := by decide +kernel
theorem dX11_readVillageLine_62 : decode cX11_readVillageLine 62 = .ok (.ifCond .ne 12, 3) := by decide +kernel
theorem dX11_readVillageLine_65 : decode cX11_readVillageLine 65 = .ok (.aload_n 0, 1) := by decide +kernel
theorem dX11_readVillageLine_66 : decode cX11_readVillageLine 66 = .ok (.ldc 239, 2) := by decide +kernel
theorem dX11_readVillageLine_68 : decode cX11_readVillageLine 68 = .ok (.invokevirtual 186, 3) := by decide +kernel
theorem dX11_readVillageLine_71 : decode cX11_readVillageLine 71 = .ok (.ifCond .eq 7, 3) := by decide +kernel
theorem dX11_readVillageLine_74 : decode cX11_readVillageLine 74 = .ok (.iconst 1, 1) := by decide +kernel
theorem dX11_readVillageLine_75 : decode cX11_readVillageLine 75 = .ok (.goto 4, 3) := by decide +kernel
theorem dX11_readVillageLine_78 : decode cX11_readVillageLine 78 = .ok (.iconst 0, 1) := by decide +kernel
theorem dX11_readVillageLine_79 : decode cX11_readVillageLine 79 = .ok (.istore 4, 2) := by decide +kernel
theorem dX11_readVillageLine_81 : decode cX11_readVillageLine 81 = .ok (.iload_n 3, 1) := by decide +kernel
theorem dX11_readVillageLine_82 : decode cX11_readVillageLine 82 = .ok (.ifCond .ne 19, 3) := by decide +kernel
theorem dX11_readVillageLine_85 : decode cX11_readVillageLine 85 = .ok (.iload 4, 2) := by decide +kernel
theorem dX11_readVillageLine_87 : decode cX11_readVillageLine 87 = .ok (.ifCond .ne 14, 3) := by decide +kernel
theorem dX11_readVillageLine_90 : decode cX11_readVillageLine 90 = .ok (.aload_n 0, 1) := by decide +kernel
theorem dX11_readVillageLine_91 : decode cX11_readVillageLine 91 = .ok (.ldc 241, 2) := by decide +kernel
theorem dX11_readVillageLine_93 : decode cX11_readVillageLine 93 = .ok (.invokevirtual 186, 3) := by decide +kernel
theorem dX11_readVillageLine_96 : decode cX11_readVillageLine 96 = .ok (.ifCond .ne 5, 3) := by decide +kernel
theorem dX11_readVillageLine_99 : decode cX11_readVillageLine 99 = .ok (.iconst 0, 1) := by decide +kernel
theorem dX11_readVillageLine_100 : decode cX11_readVillageLine 100 = .ok (.ireturn, 1) := by decide +kernel
theorem dX11_readVillageLine_101 : decode cX11_readVillageLine 101 = .ok (.aload_n 0, 1) := by decide +kernel
theorem dX11_readVillageLine_102 : decode cX11_readVillageLine 102 = .ok (.getfield 13, 3) := by decide +kernel
theorem dX11_readVillageLine_105 : decode cX11_readVillageLine 105 = .ok (.bipush 8, 2) := by decide +kernel
theorem dX11_readVillageLine_107 : decode cX11_readVillageLine 107 = .ok (.iconst 1, 1) := by decide +kernel
theorem dX11_readVillageLine_108 : decode cX11_readVillageLine 108 = .ok (.iastore, 1) := by decide +kernel
theorem dX11_readVillageLine_109 : decode cX11_readVillageLine 109 = .ok (.iload_n 3, 1) := by decide +kernel
theorem dX11_readVillageLine_110 : decode cX11_readVillageLine 110 = .ok (.ifCond .eq 9, 3) := by decide +kernel
theorem dX11_readVillageLine_113 : decode cX11_readVillageLine 113 = .ok (.aload_n 0, 1) := by decide +kernel
theorem dX11_readVillageLine_114 : decode cX11_readVillageLine 114 = .ok (.iload_n 1, 1) := by decide +kernel
theorem dX11_readVillageLine_115 : decode cX11_readVillageLine 115 = .ok (.invokevirtual 243, 3) := by decide +kernel
theorem dX11_readVillageLine_118 : decode cX11_readVillageLine 118 = .ok (.ireturn, 1) := by decide +kernel
theorem dX11_readVillageLine_119 : decode cX11_readVillageLine 119 = .ok (.iload 4, 2) := by decide +kernel
theorem dX11_readVillageLine_121 : decode cX11_readVillageLine 121 = .ok (.ifCond .eq 9, 3) := by decide +kernel
theorem dX11_readVillageLine_124 : decode cX11_readVillageLine 124 = .ok (.aload_n 0, 1) := by decide +kernel
theorem dX11_readVillageLine_125 : decode cX11_readVillageLine 125 = .ok (.iload_n 2, 1) := by decide +kernel
theorem dX11_readVillageLine_126 : decode cX11_readVillageLine 126 = .ok (.invokevirtual 247, 3) := by decide +kernel
theorem dX11_readVillageLine_129 : decode cX11_readVillageLine 129 = .ok (.ireturn, 1) := by decide +kernel
theorem dX11_readVillageLine_130 : decode cX11_readVillageLine 130 = .ok (.aload_n 0, 1) := by decide +kernel
theorem dX11_readVillageLine_131 : decode cX11_readVillageLine 131 = .ok (.invokevirtual 221, 3) := by decide +kernel
theorem dX11_readVillageLine_134 : decode cX11_readVillageLine 134 = .ok (.ifCond .ne 5, 3) := by decide +kernel
theorem dX11_readVillageLine_137 : decode cX11_readVillageLine 137 = .ok (.iconst 0, 1) := by decide +kernel
theorem dX11_readVillageLine_138 : decode cX11_readVillageLine 138 = .ok (.ireturn, 1) := by decide +kernel
theorem dX11_readVillageLine_139 : decode cX11_readVillageLine 139 = .ok (.aload_n 0, 1) := by decide +kernel
theorem dX11_readVillageLine_140 : decode cX11_readVillageLine 140 = .ok (.aload_n 0, 1) := by decide +kernel
theorem dX11_readVillageLine_141 : decode cX11_readVillageLine 141 = .ok (.getfield 200, 3) := by decide +kernel
theorem dX11_readVillageLine_144 : decode cX11_readVillageLine 144 = .ok (.aload_n 0, 1) := by decide +kernel
theorem dX11_readVillageLine_145 : decode cX11_readVillageLine 145 = .ok (.getfield 203, 3) := by decide +kernel
theorem dX11_readVillageLine_148 : decode cX11_readVillageLine 148 = .ok (.invokevirtual 250, 3) := by decide +kernel
theorem dX11_readVillageLine_151 : decode cX11_readVillageLine 151 = .ok (.iconst 1, 1) := by decide +kernel
theorem dX11_readVillageLine_152 : decode cX11_readVillageLine 152 = .ok (.ireturn, 1) := by decide +kernel
theorem dX11_emits_0 : decode cX11_emits 0 = .ok (.aload_n 0, 1) := by decide +kernel
theorem dX11_emits_1 : decode cX11_emits 1 = .ok (.getfield 13, 3) := by decide +kernel
theorem dX11_emits_4 : decode cX11_emits 4 = .ok (.sipush 6314, 3) := by decide +kernel
theorem dX11_emits_7 : decode cX11_emits 7 = .ok (.iconst 2, 1) := by decide +kernel
theorem dX11_emits_8 : decode cX11_emits 8 = .ok (.aload_n 0, 1) := by decide +kernel
theorem dX11_emits_9 : decode cX11_emits 9 = .ok (.getfield 253, 3) := by decide +kernel
theorem dX11_emits_12 : decode cX11_emits 12 = .ok (.imul, 1) := by decide +kernel
theorem dX11_emits_13 : decode cX11_emits 13 = .ok (.iadd, 1) := by decide +kernel
theorem dX11_emits_14 : decode cX11_emits 14 = .ok (.iload_n 1, 1) := by decide +kernel
theorem dX11_emits_15 : decode cX11_emits 15 = .ok (.iastore, 1) := by decide +kernel
theorem dX11_emits_16 : decode cX11_emits 16 = .ok (.aload_n 0, 1) := by decide +kernel
theorem dX11_emits_17 : decode cX11_emits 17 = .ok (.getfield 13, 3) := by decide +kernel
theorem dX11_emits_20 : decode cX11_emits 20 = .ok (.sipush 6314, 3) := by decide +kernel
theorem dX11_emits_23 : decode cX11_emits 23 = .ok (.iconst 2, 1) := by decide +kernel
theorem dX11_emits_24 : decode cX11_emits 24 = .ok (.aload_n 0, 1) := by decide +kernel
theorem dX11_emits_25 : decode cX11_emits 25 = .ok (.getfield 253, 3) := by decide +kernel
theorem dX11_emits_28 : decode cX11_emits 28 = .ok (.imul, 1) := by decide +kernel
theorem dX11_emits_29 : decode cX11_emits 29 = .ok (.iadd, 1) := by decide +kernel
theorem dX11_emits_30 : decode cX11_emits 30 = .ok (.iconst 1, 1) := by decide +kernel
theorem dX11_emits_31 : decode cX11_emits 31 = .ok (.iadd, 1) := by decide +kernel
theorem dX11_emits_32 : decode cX11_emits 32 = .ok (.iload_n 2, 1) := by decide +kernel
theorem dX11_emits_33 : decode cX11_emits 33 = .ok (.iastore, 1) := by decide +kernel
theorem dX11_emits_34 : decode cX11_emits 34 = .ok (.aload_n 0, 1) := by decide +kernel
theorem dX11_emits_35 : decode cX11_emits 35 = .ok (.dup, 1) := by decide +kernel
theorem dX11_emits_36 : decode cX11_emits 36 = .ok (.getfield 253, 3) := by decide +kernel
theorem dX11_emits_39 : decode cX11_emits 39 = .ok (.iconst 1, 1) := by decide +kernel
theorem dX11_emits_40 : decode cX11_emits 40 = .ok (.iadd, 1) := by decide +kernel
theorem dX11_emits_41 : decode cX11_emits 41 = .ok (.putfield 253, 3) := by decide +kernel
theorem dX11_emits_44 : decode cX11_emits 44 = .ok (.return_, 1) := by decide +kernel
theorem dX11_readPart_0 : decode cX11_readPart 0 = .ok (.aload_n 0, 1) := by decide +kernel
theorem dX11_readPart_1 : decode cX11_readPart 1 = .ok (.invokevirtual 183, 3) := by decide +kernel
theorem dX11_readPart_4 : decode cX11_readPart 4 = .ok (.aload_n 0, 1) := by decide +kernel
theorem dX11_readPart_5 : decode cX11_readPart 5 = .ok (.getfield 159, 3) := by decide +kernel
theorem dX11_readPart_8 : decode cX11_readPart 8 = .ok (.aload_n 0, 1) := by decide +kernel
theorem dX11_readPart_9 : decode cX11_readPart 9 = .ok (.getfield 168, 3) := by decide +kernel
theorem dX11_readPart_12 : decode cX11_readPart 12 = .ok (.if_icmp .ne 22, 3) := by decide +kernel
theorem dX11_readPart_15 : decode cX11_readPart 15 = .ok (.aload_n 0, 1) := by decide +kernel
theorem dX11_readPart_16 : decode cX11_readPart 16 = .ok (.iconst 0, 1) := by decide +kernel
theorem dX11_readPart_17 : decode cX11_readPart 17 = .ok (.sipush 999, 3) := by decide +kernel
theorem dX11_readPart_20 : decode cX11_readPart 20 = .ok (.invokevirtual 190, 3) := by decide +kernel
theorem dX11_readPart_23 : decode cX11_readPart 23 = .ok (.istore_n 1, 1) := by decide +kernel
theorem dX11_readPart_24 : decode cX11_readPart 24 = .ok (.aload_n 0, 1) := by decide +kernel
theorem dX11_readPart_25 : decode cX11_readPart 25 = .ok (.bipush 6, 2) := by decide +kernel
theorem dX11_readPart_27 : decode cX11_readPart 27 = .ok (.iload_n 1, 1) := by decide +kernel
theorem dX11_readPart_28 : decode cX11_readPart 28 = .ok (.invokevirtual 256, 3) := by decide +kernel
theorem dX11_readPart_31 : decode cX11_readPart 31 = .ok (.goto 67, 3) := by decide +kernel
theorem dX11_readPart_34 : decode cX11_readPart 34 = .ok (.aload_n 0, 1) := by decide +kernel
theorem dX11_readPart_35 : decode cX11_readPart 35 = .ok (.ldc_w 259, 3) := by decide +kernel
theorem dX11_readPart_38 : decode cX11_readPart 38 = .ok (.invokevirtual 186, 3) := by decide +kernel
theorem dX11_readPart_41 : decode cX11_readPart 41 = .ok (.ifCond .eq 7, 3) := by decide +kernel
theorem dX11_readPart_44 : decode cX11_readPart 44 = .ok (.iconst 0, 1) := by decide +kernel
theorem dX11_readPart_45 : decode cX11_readPart 45 = .ok (.goto 46, 3) := by decide +kernel
theorem dX11_readPart_48 : decode cX11_readPart 48 = .ok (.aload_n 0, 1) := by decide +kernel
theorem dX11_readPart_49 : decode cX11_readPart 49 = .ok (.ldc_w 261, 3) := by decide +kernel
theorem dX11_readPart_52 : decode cX11_readPart 52 = .ok (.invokevirtual 186, 3) := by decide +kernel
theorem dX11_readPart_55 : decode cX11_readPart 55 = .ok (.ifCond .eq 7, 3) := by decide +kernel
theorem dX11_readPart_58 : decode cX11_readPart 58 = .ok (.iconst 1, 1) := by decide +kernel
theorem dX11_readPart_59 : decode cX11_readPart 59 = .ok (.goto 32, 3) := by decide +kernel
theorem dX11_readPart_62 : decode cX11_readPart 62 = .ok (.aload_n 0, 1) := by decide +kernel
theorem dX11_readPart_63 : decode cX11_readPart 63 = .ok (.ldc_w 263, 3) := by decide +kernel
theorem dX11_readPart_66 : decode cX11_readPart 66 = .ok (.invokevirtual 186, 3) := by decide +kernel
theorem dX11_readPart_69 : decode cX11_readPart 69 = .ok (.ifCond .eq 7, 3) := by decide +kernel
theorem dX11_readPart_72 : decode cX11_readPart 72 = .ok (.iconst 2, 1) := by decide +kernel
theorem dX11_readPart_73 : decode cX11_readPart 73 = .ok (.goto 18, 3) := by decide +kernel
theorem dX11_readPart_76 : decode cX11_readPart 76 = .ok (.aload_n 0, 1) := by decide +kernel
theorem dX11_readPart_77 : decode cX11_readPart 77 = .ok (.ldc_w 265, 3) := by decide +kernel
theorem dX11_readPart_80 : decode cX11_readPart 80 = .ok (.invokevirtual 186, 3) := by decide +kernel
theorem dX11_readPart_83 : decode cX11_readPart 83 = .ok (.ifCond .eq 7, 3) := by decide +kernel
theorem dX11_readPart_86 : decode cX11_readPart 86 = .ok (.iconst 3, 1) := by decide +kernel
theorem dX11_readPart_87 : decode cX11_readPart 87 = .ok (.goto 4, 3) := by decide +kernel
theorem dX11_readPart_90 : decode cX11_readPart 90 = .ok (.iconst (-1), 1) := by decide +kernel
theorem dX11_readPart_91 : decode cX11_readPart 91 = .ok (.istore_n 1, 1) := by decide +kernel
theorem dX11_readPart_92 : decode cX11_readPart 92 = .ok (.aload_n 0, 1) := by decide +kernel
theorem dX11_readPart_93 : decode cX11_readPart 93 = .ok (.iload_n 1, 1) := by decide +kernel
theorem dX11_readPart_94 : decode cX11_readPart 94 = .ok (.iconst 0, 1) := by decide +kernel
theorem dX11_readPart_95 : decode cX11_readPart 95 = .ok (.invokevirtual 256, 3) := by decide +kernel
theorem dX11_readPart_98 : decode cX11_readPart 98 = .ok (.iload_n 1, 1) := by decide +kernel
theorem dX11_readPart_99 : decode cX11_readPart 99 = .ok (.ifCond .lt 7, 3) := by decide +kernel
theorem dX11_readPart_102 : decode cX11_readPart 102 = .ok (.iconst 1, 1) := by decide +kernel
theorem dX11_readPart_103 : decode cX11_readPart 103 = .ok (.goto 4, 3) := by decide +kernel
theorem dX11_readPart_106 : decode cX11_readPart 106 = .ok (.iconst 0, 1) := by decide +kernel
theorem dX11_readPart_107 : decode cX11_readPart 107 = .ok (.ireturn, 1) := by decide +kernel
theorem dX11_readSum_0 : decode cX11_readSum 0 = .ok (.aload_n 0, 1) := by decide +kernel
theorem dX11_readSum_1 : decode cX11_readSum 1 = .ok (.invokevirtual 267, 3) := by decide +kernel
theorem dX11_readSum_4 : decode cX11_readSum 4 = .ok (.ifCond .ne 5, 3) := by decide +kernel
theorem dX11_readSum_7 : decode cX11_readSum 7 = .ok (.iconst 0, 1) := by decide +kernel
theorem dX11_readSum_8 : decode cX11_readSum 8 = .ok (.ireturn, 1) := by decide +kernel
theorem dX11_readSum_9 : decode cX11_readSum 9 = .ok (.aload_n 0, 1) := by decide +kernel
theorem dX11_readSum_10 : decode cX11_readSum 10 = .ok (.bipush 43, 2) := by decide +kernel
theorem dX11_readSum_12 : decode cX11_readSum 12 = .ok (.invokevirtual 270, 3) := by decide +kernel
theorem dX11_readSum_15 : decode cX11_readSum 15 = .ok (.ifCond .eq 22, 3) := by decide +kernel
theorem dX11_readSum_18 : decode cX11_readSum 18 = .ok (.aload_n 0, 1) := by decide +kernel
theorem dX11_readSum_19 : decode cX11_readSum 19 = .ok (.invokevirtual 267, 3) := by decide +kernel
theorem dX11_readSum_22 : decode cX11_readSum 22 = .ok (.ifCond .ne 5, 3) := by decide +kernel
theorem dX11_readSum_25 : decode cX11_readSum 25 = .ok (.iconst 0, 1) := by decide +kernel
theorem dX11_readSum_26 : decode cX11_readSum 26 = .ok (.ireturn, 1) := by decide +kernel
theorem dX11_readSum_27 : decode cX11_readSum 27 = .ok (.aload_n 0, 1) := by decide +kernel
theorem dX11_readSum_28 : decode cX11_readSum 28 = .ok (.bipush 7, 2) := by decide +kernel
theorem dX11_readSum_30 : decode cX11_readSum 30 = .ok (.iconst 0, 1) := by decide +kernel
theorem dX11_readSum_31 : decode cX11_readSum 31 = .ok (.invokevirtual 256, 3) := by decide +kernel
theorem dX11_readSum_34 : decode cX11_readSum 34 = .ok (.goto (-25), 3) := by decide +kernel
theorem dX11_readSum_37 : decode cX11_readSum 37 = .ok (.iconst 1, 1) := by decide +kernel
theorem dX11_readSum_38 : decode cX11_readSum 38 = .ok (.ireturn, 1) := by decide +kernel
theorem dX11_readAtom_0 : decode cX11_readAtom 0 = .ok (.aload_n 0, 1) := by decide +kernel
theorem dX11_readAtom_1 : decode cX11_readAtom 1 = .ok (.bipush 40, 2) := by decide +kernel
theorem dX11_readAtom_3 : decode cX11_readAtom 3 = .ok (.invokevirtual 270, 3) := by decide +kernel
theorem dX11_readAtom_6 : decode cX11_readAtom 6 = .ok (.ifCond .eq 50, 3) := by decide +kernel
theorem dX11_readAtom_9 : decode cX11_readAtom 9 = .ok (.aload_n 0, 1) := by decide +kernel
theorem dX11_readAtom_10 : decode cX11_readAtom 10 = .ok (.getfield 273, 3) := by decide +kernel
theorem dX11_readAtom_13 : decode cX11_readAtom 13 = .ok (.bipush 6, 2) := by decide +kernel
theorem dX11_readAtom_15 : decode cX11_readAtom 15 = .ok (.if_icmp .ne 5, 3) := by decide +kernel
theorem dX11_readAtom_18 : decode cX11_readAtom 18 = .ok (.iconst 0, 1) := by decide +kernel
theorem dX11_readAtom_19 : decode cX11_readAtom 19 = .ok (.ireturn, 1) := by decide +kernel
theorem dX11_readAtom_20 : decode cX11_readAtom 20 = .ok (.aload_n 0, 1) := by decide +kernel
theorem dX11_readAtom_21 : decode cX11_readAtom 21 = .ok (.dup, 1) := by decide +kernel
theorem dX11_readAtom_22 : decode cX11_readAtom 22 = .ok (.getfield 273, 3) := by decide +kernel
theorem dX11_readAtom_25 : decode cX11_readAtom 25 = .ok (.iconst 1, 1) := by decide +kernel
theorem dX11_readAtom_26 : decode cX11_readAtom 26 = .ok (.iadd, 1) := by decide +kernel
theorem dX11_readAtom_27 : decode cX11_readAtom 27 = .ok (.putfield 273, 3) := by decide +kernel
theorem dX11_readAtom_30 : decode cX11_readAtom 30 = .ok (.aload_n 0, 1) := by decide +kernel
theorem dX11_readAtom_31 : decode cX11_readAtom 31 = .ok (.invokevirtual 276, 3) := by decide +kernel
theorem dX11_readAtom_34 : decode cX11_readAtom 34 = .ok (.ifCond .ne 5, 3) := by decide +kernel
theorem dX11_readAtom_37 : decode cX11_readAtom 37 = .ok (.iconst 0, 1) := by decide +kernel
theorem dX11_readAtom_38 : decode cX11_readAtom 38 = .ok (.ireturn, 1) := by decide +kernel
theorem dX11_readAtom_39 : decode cX11_readAtom 39 = .ok (.aload_n 0, 1) := by decide +kernel
theorem dX11_readAtom_40 : decode cX11_readAtom 40 = .ok (.dup, 1) := by decide +kernel
theorem dX11_readAtom_41 : decode cX11_readAtom 41 = .ok (.getfield 273, 3) := by decide +kernel
theorem dX11_readAtom_44 : decode cX11_readAtom 44 = .ok (.iconst 1, 1) := by decide +kernel
theorem dX11_readAtom_45 : decode cX11_readAtom 45 = .ok (.isub, 1) := by decide +kernel
theorem dX11_readAtom_46 : decode cX11_readAtom 46 = .ok (.putfield 273, 3) := by decide +kernel
theorem dX11_readAtom_49 : decode cX11_readAtom 49 = .ok (.aload_n 0, 1) := by decide +kernel
theorem dX11_readAtom_50 : decode cX11_readAtom 50 = .ok (.bipush 41, 2) := by decide +kernel
theorem dX11_readAtom_52 : decode cX11_readAtom 52 = .ok (.invokevirtual 270, 3) := by decide +kernel
theorem dX11_readAtom_55 : decode cX11_readAtom 55 = .ok (.ireturn, 1) := by decide +kernel
theorem dX11_readAtom_56 : decode cX11_readAtom 56 = .ok (.aload_n 0, 1) := by decide +kernel
theorem dX11_readAtom_57 : decode cX11_readAtom 57 = .ok (.ldc_w 279, 3) := by decide +kernel
theorem dX11_readAtom_60 : decode cX11_readAtom 60 = .ok (.invokevirtual 281, 3) := by decide +kernel
theorem dX11_readAtom_63 : decode cX11_readAtom 63 = .ok (.ifCond .eq 52, 3) := by decide +kernel
theorem dX11_readAtom_66 : decode cX11_readAtom 66 = .ok (.aload_n 0, 1) := by decide +kernel
theorem dX11_readAtom_67 : decode cX11_readAtom 67 = .ok (.getfield 273, 3) := by decide +kernel
theorem dX11_readAtom_70 : decode cX11_readAtom 70 = .ok (.bipush 6, 2) := by decide +kernel
theorem dX11_readAtom_72 : decode cX11_readAtom 72 = .ok (.if_icmp .ne 5, 3) := by decide +kernel
theorem dX11_readAtom_75 : decode cX11_readAtom 75 = .ok (.iconst 0, 1) := by decide +kernel
theorem dX11_readAtom_76 : decode cX11_readAtom 76 = .ok (.ireturn, 1) := by decide +kernel
theorem dX11_readAtom_77 : decode cX11_readAtom 77 = .ok (.aload_n 0, 1) := by decide +kernel
theorem dX11_readAtom_78 : decode cX11_readAtom 78 = .ok (.dup, 1) := by decide +kernel
theorem dX11_readAtom_79 : decode cX11_readAtom 79 = .ok (.getfield 273, 3) := by decide +kernel
theorem dX11_readAtom_82 : decode cX11_readAtom 82 = .ok (.iconst 1, 1) := by decide +kernel
theorem dX11_readAtom_83 : decode cX11_readAtom 83 = .ok (.iadd, 1) := by decide +kernel
theorem dX11_readAtom_84 : decode cX11_readAtom 84 = .ok (.putfield 273, 3) := by decide +kernel
theorem dX11_readAtom_87 : decode cX11_readAtom 87 = .ok (.aload_n 0, 1) := by decide +kernel
theorem dX11_readAtom_88 : decode cX11_readAtom 88 = .ok (.invokevirtual 284, 3) := by decide +kernel
theorem dX11_readAtom_91 : decode cX11_readAtom 91 = .ok (.ifCond .ne 5, 3) := by decide +kernel
theorem dX11_readAtom_94 : decode cX11_readAtom 94 = .ok (.iconst 0, 1) := by decide +kernel
theorem dX11_readAtom_95 : decode cX11_readAtom 95 = .ok (.ireturn, 1) := by decide +kernel
theorem dX11_readAtom_96 : decode cX11_readAtom 96 = .ok (.aload_n 0, 1) := by decide +kernel
theorem dX11_readAtom_97 : decode cX11_readAtom 97 = .ok (.dup, 1) := by decide +kernel
theorem dX11_readAtom_98 : decode cX11_readAtom 98 = .ok (.getfield 273, 3) := by decide +kernel
theorem dX11_readAtom_101 : decode cX11_readAtom 101 = .ok (.iconst 1, 1) := by decide +kernel
theorem dX11_readAtom_102 : decode cX11_readAtom 102 = .ok (.isub, 1) := by decide +kernel
theorem dX11_readAtom_103 : decode cX11_readAtom 103 = .ok (.putfield 273, 3) := by decide +kernel
theorem dX11_readAtom_106 : decode cX11_readAtom 106 = .ok (.aload_n 0, 1) := by decide +kernel
theorem dX11_readAtom_107 : decode cX11_readAtom 107 = .ok (.bipush 10, 2) := by decide +kernel
theorem dX11_readAtom_109 : decode cX11_readAtom 109 = .ok (.iconst 0, 1) := by decide +kernel
theorem dX11_readAtom_110 : decode cX11_readAtom 110 = .ok (.invokevirtual 256, 3) := by decide +kernel
theorem dX11_readAtom_113 : decode cX11_readAtom 113 = .ok (.iconst 1, 1) := by decide +kernel
theorem dX11_readAtom_114 : decode cX11_readAtom 114 = .ok (.ireturn, 1) := by decide +kernel
theorem dX11_readAtom_115 : decode cX11_readAtom 115 = .ok (.aload_n 0, 1) := by decide +kernel
theorem dX11_readAtom_116 : decode cX11_readAtom 116 = .ok (.ldc_w 287, 3) := by decide +kernel
theorem dX11_readAtom_119 : decode cX11_readAtom 119 = .ok (.invokevirtual 281, 3) := by decide +kernel
theorem dX11_readAtom_122 : decode cX11_readAtom 122 = .ok (.istore_n 1, 1) := by decide +kernel
theorem dX11_readAtom_123 : decode cX11_readAtom 123 = .ok (.iload_n 1, 1) := by decide +kernel
theorem dX11_readAtom_124 : decode cX11_readAtom 124 = .ok (.ifCond .ne 13, 3) := by decide +kernel
theorem dX11_readAtom_127 : decode cX11_readAtom 127 = .ok (.aload_n 0, 1) := by decide +kernel
theorem dX11_readAtom_128 : decode cX11_readAtom 128 = .ok (.ldc_w 289, 3) := by decide +kernel
theorem dX11_readAtom_131 : decode cX11_readAtom 131 = .ok (.invokevirtual 281, 3) := by decide +kernel
theorem dX11_readAtom_134 : decode cX11_readAtom 134 = .ok (.ifCond .eq 19, 3) := by decide +kernel
theorem dX11_readAtom_137 : decode cX11_readAtom 137 = .ok (.aload_n 0, 1) := by decide +kernel
theorem dX11_readAtom_138 : decode cX11_readAtom 138 = .ok (.iload_n 1, 1) := by decide +kernel
theorem dX11_readAtom_139 : decode cX11_readAtom 139 = .ok (.ifCond .eq 7, 3) := by decide +kernel
theorem dX11_readAtom_142 : decode cX11_readAtom 142 = .ok (.iconst 4, 1) := by decide +kernel
theorem dX11_readAtom_143 : decode cX11_readAtom 143 = .ok (.goto 4, 3) := by decide +kernel
theorem dX11_readAtom_146 : decode cX11_readAtom 146 = .ok (.iconst 5, 1) := by decide +kernel
theorem dX11_readAtom_147 : decode cX11_readAtom 147 = .ok (.iconst 0, 1) := by decide +kernel
theorem dX11_readAtom_148 : decode cX11_readAtom 148 = .ok (.invokevirtual 256, 3) := by decide +kernel
theorem dX11_readAtom_151 : decode cX11_readAtom 151 = .ok (.iconst 1, 1) := by decide +kernel
theorem dX11_readAtom_152 : decode cX11_readAtom 152 = .ok (.ireturn, 1) := by decide +kernel
theorem dX11_readAtom_153 : decode cX11_readAtom 153 = .ok (.aload_n 0, 1) := by decide +kernel
theorem dX11_readAtom_154 : decode cX11_readAtom 154 = .ok (.invokevirtual 291, 3) := by decide +kernel
theorem dX11_readAtom_157 : decode cX11_readAtom 157 = .ok (.ifCond .ne 5, 3) := by decide +kernel
theorem dX11_readAtom_160 : decode cX11_readAtom 160 = .ok (.iconst 0, 1) := by decide +kernel
theorem dX11_readAtom_161 : decode cX11_readAtom 161 = .ok (.ireturn, 1) := by decide +kernel
theorem dX11_readAtom_162 : decode cX11_readAtom 162 = .ok (.aload_n 0, 1) := by decide +kernel
theorem dX11_readAtom_163 : decode cX11_readAtom 163 = .ok (.bipush 60, 2) := by decide +kernel
theorem dX11_readAtom_165 : decode cX11_readAtom 165 = .ok (.invokevirtual 270, 3) := by decide +kernel
theorem dX11_readAtom_168 : decode cX11_readAtom 168 = .ok (.istore_n 2, 1) := by decide +kernel
theorem dX11_readAtom_169 : decode cX11_readAtom 169 = .ok (.iload_n 2, 1) := by decide +kernel
theorem dX11_readAtom_170 : decode cX11_readAtom 170 = .ok (.ifCond .ne 12, 3) := by decide +kernel
theorem dX11_readAtom_173 : decode cX11_readAtom 173 = .ok (.aload_n 0, 1) := by decide +kernel
theorem dX11_readAtom_174 : decode cX11_readAtom 174 = .ok (.bipush 62, 2) := by decide +kernel
theorem dX11_readAtom_176 : decode cX11_readAtom 176 = .ok (.invokevirtual 270, 3) := by decide +kernel
theorem dX11_readAtom_179 : decode cX11_readAtom 179 = .ok (.ifCond .eq 10, 3) := by decide +kernel
theorem dX11_readAtom_182 : decode cX11_readAtom 182 = .ok (.aload_n 0, 1) := by decide +kernel
theorem dX11_readAtom_183 : decode cX11_readAtom 183 = .ok (.invokevirtual 291, 3) := by decide +kernel
theorem dX11_readAtom_186 : decode cX11_readAtom 186 = .ok (.ifCond .ne 5, 3) := by decide +kernel
theorem dX11_readAtom_189 : decode cX11_readAtom 189 = .ok (.iconst 0, 1) := by decide +kernel
theorem dX11_readAtom_190 : decode cX11_readAtom 190 = .ok (.ireturn, 1) := by decide +kernel
theorem dX11_readAtom_191 : decode cX11_readAtom 191 = .ok (.aload_n 0, 1) := by decide +kernel
theorem dX11_readAtom_192 : decode cX11_readAtom 192 = .ok (.iload_n 2, 1) := by decide +kernel
theorem dX11_readAtom_193 : decode cX11_readAtom 193 = .ok (.ifCond .eq 8, 3) := by decide +kernel
theorem dX11_readAtom_196 : decode cX11_readAtom 196 = .ok (.bipush 8, 2) := by decide +kernel
theorem dX11_readAtom_198 : decode cX11_readAtom 198 = .ok (.goto 5, 3) := by decide +kernel
theorem dX11_readAtom_201 : decode cX11_readAtom 201 = .ok (.bipush 9, 2) := by decide +kernel
theorem dX11_readAtom_203 : decode cX11_readAtom 203 = .ok (.iconst 0, 1) := by decide +kernel
theorem dX11_readAtom_204 : decode cX11_readAtom 204 = .ok (.invokevirtual 256, 3) := by decide +kernel
theorem dX11_readAtom_207 : decode cX11_readAtom 207 = .ok (.iconst 1, 1) := by decide +kernel
theorem dX11_readAtom_208 : decode cX11_readAtom 208 = .ok (.ireturn, 1) := by decide +kernel
theorem dX11_readAllOf_0 : decode cX11_readAllOf 0 = .ok (.aload_n 0, 1) := by decide +kernel
theorem dX11_readAllOf_1 : decode cX11_readAllOf 1 = .ok (.invokevirtual 284, 3) := by decide +kernel
theorem dX11_readAllOf_4 : decode cX11_readAllOf 4 = .ok (.ifCond .ne 5, 3) := by decide +kernel
theorem dX11_readAllOf_7 : decode cX11_readAllOf 7 = .ok (.iconst 0, 1) := by decide +kernel
theorem dX11_readAllOf_8 : decode cX11_readAllOf 8 = .ok (.ireturn, 1) := by decide +kernel
theorem dX11_readAllOf_9 : decode cX11_readAllOf 9 = .ok (.aload_n 0, 1) := by decide +kernel
theorem dX11_readAllOf_10 : decode cX11_readAllOf 10 = .ok (.ldc_w 294, 3) := by decide +kernel
theorem dX11_readAllOf_13 : decode cX11_readAllOf 13 = .ok (.invokevirtual 281, 3) := by decide +kernel
theorem dX11_readAllOf_16 : decode cX11_readAllOf 16 = .ok (.ifCond .eq 22, 3) := by decide +kernel
theorem dX11_readAllOf_19 : decode cX11_readAllOf 19 = .ok (.aload_n 0, 1) := by decide +kernel
theorem dX11_readAllOf_20 : decode cX11_readAllOf 20 = .ok (.invokevirtual 284, 3) := by decide +kernel
theorem dX11_readAllOf_23 : decode cX11_readAllOf 23 = .ok (.ifCond .ne 5, 3) := by decide +kernel
theorem dX11_readAllOf_26 : decode cX11_readAllOf 26 = .ok (.iconst 0, 1) := by decide +kernel
theorem dX11_readAllOf_27 : decode cX11_readAllOf 27 = .ok (.ireturn, 1) := by decide +kernel
theorem dX11_readAllOf_28 : decode cX11_readAllOf 28 = .ok (.aload_n 0, 1) := by decide +kernel
theorem dX11_readAllOf_29 : decode cX11_readAllOf 29 = .ok (.bipush 11, 2) := by decide +kernel
theorem dX11_readAllOf_31 : decode cX11_readAllOf 31 = .ok (.iconst 0, 1) := by decide +kernel
theorem dX11_readAllOf_32 : decode cX11_readAllOf 32 = .ok (.invokevirtual 256, 3) := by decide +kernel
theorem dX11_readAllOf_35 : decode cX11_readAllOf 35 = .ok (.goto (-26), 3) := by decide +kernel
theorem dX11_readAllOf_38 : decode cX11_readAllOf 38 = .ok (.iconst 1, 1) := by decide +kernel
theorem dX11_readAllOf_39 : decode cX11_readAllOf 39 = .ok (.ireturn, 1) := by decide +kernel
theorem dX11_readCond_0 : decode cX11_readCond 0 = .ok (.aload_n 0, 1) := by decide +kernel
theorem dX11_readCond_1 : decode cX11_readCond 1 = .ok (.invokevirtual 296, 3) := by decide +kernel
theorem dX11_readCond_4 : decode cX11_readCond 4 = .ok (.ifCond .ne 5, 3) := by decide +kernel
theorem dX11_readCond_7 : decode cX11_readCond 7 = .ok (.iconst 0, 1) := by decide +kernel
theorem dX11_readCond_8 : decode cX11_readCond 8 = .ok (.ireturn, 1) := by decide +kernel
theorem dX11_readCond_9 : decode cX11_readCond 9 = .ok (.aload_n 0, 1) := by decide +kernel
theorem dX11_readCond_10 : decode cX11_readCond 10 = .ok (.ldc_w 299, 3) := by decide +kernel
theorem dX11_readCond_13 : decode cX11_readCond 13 = .ok (.invokevirtual 281, 3) := by decide +kernel
theorem dX11_readCond_16 : decode cX11_readCond 16 = .ok (.ifCond .eq 22, 3) := by decide +kernel
theorem dX11_readCond_19 : decode cX11_readCond 19 = .ok (.aload_n 0, 1) := by decide +kernel
theorem dX11_readCond_20 : decode cX11_readCond 20 = .ok (.invokevirtual 296, 3) := by decide +kernel
theorem dX11_readCond_23 : decode cX11_readCond 23 = .ok (.ifCond .ne 5, 3) := by decide +kernel
theorem dX11_readCond_26 : decode cX11_readCond 26 = .ok (.iconst 0, 1) := by decide +kernel
theorem dX11_readCond_27 : decode cX11_readCond 27 = .ok (.ireturn, 1) := by decide +kernel
theorem dX11_readCond_28 : decode cX11_readCond 28 = .ok (.aload_n 0, 1) := by decide +kernel
theorem dX11_readCond_29 : decode cX11_readCond 29 = .ok (.bipush 12, 2) := by decide +kernel
theorem dX11_readCond_31 : decode cX11_readCond 31 = .ok (.iconst 0, 1) := by decide +kernel
theorem dX11_readCond_32 : decode cX11_readCond 32 = .ok (.invokevirtual 256, 3) := by decide +kernel
theorem dX11_readCond_35 : decode cX11_readCond 35 = .ok (.goto (-26), 3) := by decide +kernel
theorem dX11_readCond_38 : decode cX11_readCond 38 = .ok (.iconst 1, 1) := by decide +kernel
theorem dX11_readCond_39 : decode cX11_readCond 39 = .ok (.ireturn, 1) := by decide +kernel
theorem dX11_readLawLine_0 : decode cX11_readLawLine 0 = .ok (.sipush 6278, 3) := by decide +kernel
theorem dX11_readLawLine_3 : decode cX11_readLawLine 3 = .ok (.iconst 3, 1) := by decide +kernel
theorem dX11_readLawLine_4 : decode cX11_readLawLine 4 = .ok (.iload_n 1, 1) := by decide +kernel
theorem dX11_readLawLine_5 : decode cX11_readLawLine 5 = .ok (.imul, 1) := by decide +kernel
theorem dX11_readLawLine_6 : decode cX11_readLawLine 6 = .ok (.iadd, 1) := by decide +kernel
theorem dX11_readLawLine_7 : decode cX11_readLawLine 7 = .ok (.istore_n 2, 1) := by decide +kernel
theorem dX11_readLawLine_8 : decode cX11_readLawLine 8 = .ok (.aload_n 0, 1) := by decide +kernel
theorem dX11_readLawLine_9 : decode cX11_readLawLine 9 = .ok (.ldc_w 301, 3) := by decide +kernel
theorem dX11_readLawLine_12 : decode cX11_readLawLine 12 = .ok (.invokevirtual 186, 3) := by decide +kernel
theorem dX11_readLawLine_15 : decode cX11_readLawLine 15 = .ok (.ifCond .ne 5, 3) := by decide +kernel
theorem dX11_readLawLine_18 : decode cX11_readLawLine 18 = .ok (.iconst 0, 1) := by decide +kernel
theorem dX11_readLawLine_19 : decode cX11_readLawLine 19 = .ok (.ireturn, 1) := by decide +kernel
theorem dX11_readLawLine_20 : decode cX11_readLawLine 20 = .ok (.aload_n 0, 1) := by decide +kernel
theorem dX11_readLawLine_21 : decode cX11_readLawLine 21 = .ok (.getfield 13, 3) := by decide +kernel
theorem dX11_readLawLine_24 : decode cX11_readLawLine 24 = .ok (.iload_n 2, 1) := by decide +kernel
theorem dX11_readLawLine_25 : decode cX11_readLawLine 25 = .ok (.aload_n 0, 1) := by decide +kernel
theorem dX11_readLawLine_26 : decode cX11_readLawLine 26 = .ok (.iconst 0, 1) := by decide +kernel
theorem dX11_readLawLine_27 : decode cX11_readLawLine 27 = .ok (.sipush 999, 3) := by decide +kernel
theorem dX11_readLawLine_30 : decode cX11_readLawLine 30 = .ok (.invokevirtual 190, 3) := by decide +kernel
theorem dX11_readLawLine_33 : decode cX11_readLawLine 33 = .ok (.iastore, 1) := by decide +kernel
theorem dX11_readLawLine_34 : decode cX11_readLawLine 34 = .ok (.aload_n 0, 1) := by decide +kernel
theorem dX11_readLawLine_35 : decode cX11_readLawLine 35 = .ok (.getfield 13, 3) := by decide +kernel
theorem dX11_readLawLine_38 : decode cX11_readLawLine 38 = .ok (.iload_n 2, 1) := by decide +kernel
theorem dX11_readLawLine_39 : decode cX11_readLawLine 39 = .ok (.iaload, 1) := by decide +kernel
theorem dX11_readLawLine_40 : decode cX11_readLawLine 40 = .ok (.ifCond .ge 5, 3) := by decide +kernel
theorem dX11_readLawLine_43 : decode cX11_readLawLine 43 = .ok (.iconst 0, 1) := by decide +kernel
theorem dX11_readLawLine_44 : decode cX11_readLawLine 44 = .ok (.ireturn, 1) := by decide +kernel
theorem dX11_readLawLine_45 : decode cX11_readLawLine 45 = .ok (.aload_n 0, 1) := by decide +kernel
theorem dX11_readLawLine_46 : decode cX11_readLawLine 46 = .ok (.getfield 13, 3) := by decide +kernel
theorem dX11_readLawLine_49 : decode cX11_readLawLine 49 = .ok (.iload_n 2, 1) := by decide +kernel
theorem dX11_readLawLine_50 : decode cX11_readLawLine 50 = .ok (.iconst 1, 1) := by decide +kernel
theorem dX11_readLawLine_51 : decode cX11_readLawLine 51 = .ok (.iadd, 1) := by decide +kernel
theorem dX11_readLawLine_52 : decode cX11_readLawLine 52 = .ok (.aload_n 0, 1) := by decide +kernel
theorem dX11_readLawLine_53 : decode cX11_readLawLine 53 = .ok (.getfield 253, 3) := by decide +kernel
theorem dX11_readLawLine_56 : decode cX11_readLawLine 56 = .ok (.iastore, 1) := by decide +kernel
theorem dX11_readLawLine_57 : decode cX11_readLawLine 57 = .ok (.aload_n 0, 1) := by decide +kernel
theorem dX11_readLawLine_58 : decode cX11_readLawLine 58 = .ok (.iconst 0, 1) := by decide +kernel
theorem dX11_readLawLine_59 : decode cX11_readLawLine 59 = .ok (.putfield 273, 3) := by decide +kernel
theorem dX11_readLawLine_62 : decode cX11_readLawLine 62 = .ok (.aload_n 0, 1) := by decide +kernel
theorem dX11_readLawLine_63 : decode cX11_readLawLine 63 = .ok (.ldc_w 303, 3) := by decide +kernel
theorem dX11_readLawLine_66 : decode cX11_readLawLine 66 = .ok (.invokevirtual 281, 3) := by decide +kernel
theorem dX11_readLawLine_69 : decode cX11_readLawLine 69 = .ok (.ifCond .eq 12, 3) := by decide +kernel
theorem dX11_readLawLine_72 : decode cX11_readLawLine 72 = .ok (.aload_n 0, 1) := by decide +kernel
theorem dX11_readLawLine_73 : decode cX11_readLawLine 73 = .ok (.invokevirtual 276, 3) := by decide +kernel
theorem dX11_readLawLine_76 : decode cX11_readLawLine 76 = .ok (.ifCond .ne 5, 3) := by decide +kernel
theorem dX11_readLawLine_79 : decode cX11_readLawLine 79 = .ok (.iconst 0, 1) := by decide +kernel
theorem dX11_readLawLine_80 : decode cX11_readLawLine 80 = .ok (.ireturn, 1) := by decide +kernel
theorem dX11_readLawLine_81 : decode cX11_readLawLine 81 = .ok (.aload_n 0, 1) := by decide +kernel
theorem dX11_readLawLine_82 : decode cX11_readLawLine 82 = .ok (.getfield 13, 3) := by decide +kernel
theorem dX11_readLawLine_85 : decode cX11_readLawLine 85 = .ok (.iload_n 2, 1) := by decide +kernel
theorem dX11_readLawLine_86 : decode cX11_readLawLine 86 = .ok (.iconst 2, 1) := by decide +kernel
theorem dX11_readLawLine_87 : decode cX11_readLawLine 87 = .ok (.iadd, 1) := by decide +kernel
theorem dX11_readLawLine_88 : decode cX11_readLawLine 88 = .ok (.aload_n 0, 1) := by decide +kernel
theorem dX11_readLawLine_89 : decode cX11_readLawLine 89 = .ok (.getfield 253, 3) := by decide +kernel
theorem dX11_readLawLine_92 : decode cX11_readLawLine 92 = .ok (.iastore, 1) := by decide +kernel
theorem dX11_readLawLine_93 : decode cX11_readLawLine 93 = .ok (.iconst 1, 1) := by decide +kernel
theorem dX11_readLawLine_94 : decode cX11_readLawLine 94 = .ok (.ireturn, 1) := by decide +kernel
theorem dX11_readLine_0 : decode cX11_readLine 0 = .ok (.aload_n 0, 1) := by decide +kernel
theorem dX11_readLine_1 : decode cX11_readLine 1 = .ok (.invokevirtual 183, 3) := by decide +kernel
theorem dX11_readLine_4 : decode cX11_readLine 4 = .ok (.iload_n 2, 1) := by decide +kernel
theorem dX11_readLine_5 : decode cX11_readLine 5 = .ok (.iload_n 1, 1) := by decide +kernel
theorem dX11_readLine_6 : decode cX11_readLine 6 = .ok (.ifCond .eq 8, 3) := by decide +kernel
theorem dX11_readLine_9 : decode cX11_readLine 9 = .ok (.bipush 14, 2) := by decide +kernel
theorem dX11_readLine_11 : decode cX11_readLine 11 = .ok (.goto 5, 3) := by decide +kernel
theorem dX11_readLine_14 : decode cX11_readLine 14 = .ok (.bipush 12, 2) := by decide +kernel
theorem dX11_readLine_16 : decode cX11_readLine 16 = .ok (.if_icmp .ge 29, 3) := by decide +kernel
theorem dX11_readLine_19 : decode cX11_readLine 19 = .ok (.iload_n 1, 1) := by decide +kernel
theorem dX11_readLine_20 : decode cX11_readLine 20 = .ok (.ifCond .eq 13, 3) := by decide +kernel
theorem dX11_readLine_23 : decode cX11_readLine 23 = .ok (.aload_n 0, 1) := by decide +kernel
theorem dX11_readLine_24 : decode cX11_readLine 24 = .ok (.invokevirtual 305, 3) := by decide +kernel
theorem dX11_readLine_27 : decode cX11_readLine 27 = .ok (.ifCond .eq 18, 3) := by decide +kernel
theorem dX11_readLine_30 : decode cX11_readLine 30 = .ok (.goto 11, 3) := by decide +kernel
theorem dX11_readLine_33 : decode cX11_readLine 33 = .ok (.aload_n 0, 1) := by decide +kernel
theorem dX11_readLine_34 : decode cX11_readLine 34 = .ok (.iload_n 2, 1) := by decide +kernel
theorem dX11_readLine_35 : decode cX11_readLine 35 = .ok (.invokevirtual 308, 3) := by decide +kernel
theorem dX11_readLine_38 : decode cX11_readLine 38 = .ok (.ifCond .eq 7, 3) := by decide +kernel
theorem dX11_readLine_41 : decode cX11_readLine 41 = .ok (.iconst 1, 1) := by decide +kernel
theorem dX11_readLine_42 : decode cX11_readLine 42 = .ok (.goto 4, 3) := by decide +kernel
theorem dX11_readLine_45 : decode cX11_readLine 45 = .ok (.iconst 0, 1) := by decide +kernel
theorem dX11_readLine_46 : decode cX11_readLine 46 = .ok (.ireturn, 1) := by decide +kernel
theorem dX11_readAll_0 : decode cX11_readAll 0 = .ok (.aload_n 0, 1) := by decide +kernel
theorem dX11_readAll_1 : decode cX11_readAll 1 = .ok (.invokevirtual 311, 3) := by decide +kernel
theorem dX11_readAll_4 : decode cX11_readAll 4 = .ok (.aload_n 0, 1) := by decide +kernel
theorem dX11_readAll_5 : decode cX11_readAll 5 = .ok (.iconst 0, 1) := by decide +kernel
theorem dX11_readAll_6 : decode cX11_readAll 6 = .ok (.putfield 253, 3) := by decide +kernel
theorem dX11_readAll_9 : decode cX11_readAll 9 = .ok (.aload_n 0, 1) := by decide +kernel
theorem dX11_readAll_10 : decode cX11_readAll 10 = .ok (.invokevirtual 171, 3) := by decide +kernel
theorem dX11_readAll_13 : decode cX11_readAll 13 = .ok (.aload_n 0, 1) := by decide +kernel
theorem dX11_readAll_14 : decode cX11_readAll 14 = .ok (.getfield 159, 3) := by decide +kernel
theorem dX11_readAll_17 : decode cX11_readAll 17 = .ok (.aload_n 0, 1) := by decide +kernel
theorem dX11_readAll_18 : decode cX11_readAll 18 = .ok (.getfield 162, 3) := by decide +kernel
theorem dX11_readAll_21 : decode cX11_readAll 21 = .ok (.if_icmp .ne 5, 3) := by decide +kernel
theorem dX11_readAll_24 : decode cX11_readAll 24 = .ok (.iconst 0, 1) := by decide +kernel
theorem dX11_readAll_25 : decode cX11_readAll 25 = .ok (.ireturn, 1) := by decide +kernel
theorem dX11_readAll_26 : decode cX11_readAll 26 = .ok (.iconst 0, 1) := by decide +kernel
theorem dX11_readAll_27 : decode cX11_readAll 27 = .ok (.istore_n 2, 1) := by decide +kernel
theorem dX11_readAll_28 : decode cX11_readAll 28 = .ok (.aload_n 0, 1) := by decide +kernel
theorem dX11_readAll_29 : decode cX11_readAll 29 = .ok (.iload_n 1, 1) := by decide +kernel
theorem dX11_readAll_30 : decode cX11_readAll 30 = .ok (.iload_n 2, 1) := by decide +kernel
theorem dX11_readAll_31 : decode cX11_readAll 31 = .ok (.invokevirtual 314, 3) := by decide +kernel
theorem dX11_readAll_34 : decode cX11_readAll 34 = .ok (.ifCond .ne 5, 3) := by decide +kernel
theorem dX11_readAll_37 : decode cX11_readAll 37 = .ok (.iconst (-1), 1) := by decide +kernel
theorem dX11_readAll_38 : decode cX11_readAll 38 = .ok (.ireturn, 1) := by decide +kernel
theorem dX11_readAll_39 : decode cX11_readAll 39 = .ok (.aload_n 0, 1) := by decide +kernel
theorem dX11_readAll_40 : decode cX11_readAll 40 = .ok (.invokevirtual 171, 3) := by decide +kernel
theorem dX11_readAll_43 : decode cX11_readAll 43 = .ok (.aload_n 0, 1) := by decide +kernel
theorem dX11_readAll_44 : decode cX11_readAll 44 = .ok (.getfield 159, 3) := by decide +kernel
theorem dX11_readAll_47 : decode cX11_readAll 47 = .ok (.aload_n 0, 1) := by decide +kernel
theorem dX11_readAll_48 : decode cX11_readAll 48 = .ok (.getfield 162, 3) := by decide +kernel
theorem dX11_readAll_51 : decode cX11_readAll 51 = .ok (.if_icmp .ne 7, 3) := by decide +kernel
theorem dX11_readAll_54 : decode cX11_readAll 54 = .ok (.iload_n 2, 1) := by decide +kernel
theorem dX11_readAll_55 : decode cX11_readAll 55 = .ok (.iconst 1, 1) := by decide +kernel
theorem dX11_readAll_56 : decode cX11_readAll 56 = .ok (.iadd, 1) := by decide +kernel
theorem dX11_readAll_57 : decode cX11_readAll 57 = .ok (.ireturn, 1) := by decide +kernel
theorem dX11_readAll_58 : decode cX11_readAll 58 = .ok (.aload_n 0, 1) := by decide +kernel
theorem dX11_readAll_59 : decode cX11_readAll 59 = .ok (.bipush 59, 2) := by decide +kernel
theorem dX11_readAll_61 : decode cX11_readAll 61 = .ok (.bipush 59, 2) := by decide +kernel
theorem dX11_readAll_63 : decode cX11_readAll 63 = .ok (.invokevirtual 165, 3) := by decide +kernel
theorem dX11_readAll_66 : decode cX11_readAll 66 = .ok (.ifCond .ne 5, 3) := by decide +kernel
theorem dX11_readAll_69 : decode cX11_readAll 69 = .ok (.iconst (-1), 1) := by decide +kernel
theorem dX11_readAll_70 : decode cX11_readAll 70 = .ok (.ireturn, 1) := by decide +kernel
theorem dX11_readAll_71 : decode cX11_readAll 71 = .ok (.aload_n 0, 1) := by decide +kernel
theorem dX11_readAll_72 : decode cX11_readAll 72 = .ok (.dup, 1) := by decide +kernel
theorem dX11_readAll_73 : decode cX11_readAll 73 = .ok (.getfield 159, 3) := by decide +kernel
theorem dX11_readAll_76 : decode cX11_readAll 76 = .ok (.iconst 1, 1) := by decide +kernel
theorem dX11_readAll_77 : decode cX11_readAll 77 = .ok (.iadd, 1) := by decide +kernel
theorem dX11_readAll_78 : decode cX11_readAll 78 = .ok (.putfield 159, 3) := by decide +kernel
theorem dX11_readAll_81 : decode cX11_readAll 81 = .ok (.iinc 2 1, 3) := by decide +kernel
theorem dX11_readAll_84 : decode cX11_readAll 84 = .ok (.goto (-56), 3) := by decide +kernel
theorem dX11_village_0 : decode cX11_village 0 = .ok (.iconst 0, 1) := by decide +kernel
theorem dX11_village_1 : decode cX11_village 1 = .ok (.istore_n 1, 1) := by decide +kernel
theorem dX11_village_2 : decode cX11_village 2 = .ok (.iload_n 1, 1) := by decide +kernel
theorem dX11_village_3 : decode cX11_village 3 = .ok (.sipush 6277, 3) := by decide +kernel
theorem dX11_village_6 : decode cX11_village 6 = .ok (.if_icmp .ge 21, 3) := by decide +kernel
theorem dX11_village_9 : decode cX11_village 9 = .ok (.aload_n 0, 1) := by decide +kernel
theorem dX11_village_10 : decode cX11_village 10 = .ok (.getfield 20, 3) := by decide +kernel
theorem dX11_village_13 : decode cX11_village 13 = .ok (.iload_n 1, 1) := by decide +kernel
theorem dX11_village_14 : decode cX11_village 14 = .ok (.aload_n 0, 1) := by decide +kernel
theorem dX11_village_15 : decode cX11_village 15 = .ok (.getfield 13, 3) := by decide +kernel
theorem dX11_village_18 : decode cX11_village 18 = .ok (.iload_n 1, 1) := by decide +kernel
theorem dX11_village_19 : decode cX11_village 19 = .ok (.iaload, 1) := by decide +kernel
theorem dX11_village_20 : decode cX11_village 20 = .ok (.iastore, 1) := by decide +kernel
theorem dX11_village_21 : decode cX11_village 21 = .ok (.iinc 1 1, 3) := by decide +kernel
theorem dX11_village_24 : decode cX11_village 24 = .ok (.goto (-22), 3) := by decide +kernel
theorem dX11_village_27 : decode cX11_village 27 = .ok (.aload_n 0, 1) := by decide +kernel
theorem dX11_village_28 : decode cX11_village 28 = .ok (.iconst 1, 1) := by decide +kernel
theorem dX11_village_29 : decode cX11_village 29 = .ok (.invokevirtual 318, 3) := by decide +kernel
theorem dX11_village_32 : decode cX11_village 32 = .ok (.istore_n 1, 1) := by decide +kernel
theorem dX11_village_33 : decode cX11_village 33 = .ok (.aload_n 0, 1) := by decide +kernel
theorem dX11_village_34 : decode cX11_village 34 = .ok (.iload_n 1, 1) := by decide +kernel
theorem dX11_village_35 : decode cX11_village 35 = .ok (.ifCond .ge 10, 3) := by decide +kernel
theorem dX11_village_38 : decode cX11_village 38 = .ok (.aload_n 0, 1) := by decide +kernel
theorem dX11_village_39 : decode cX11_village 39 = .ok (.getfield 168, 3) := by decide +kernel
theorem dX11_village_42 : decode cX11_village 42 = .ok (.goto 4, 3) := by decide +kernel
theorem dX11_village_45 : decode cX11_village 45 = .ok (.iconst (-1), 1) := by decide +kernel
theorem dX11_village_46 : decode cX11_village 46 = .ok (.putfield 43, 3) := by decide +kernel
theorem dX11_village_49 : decode cX11_village 49 = .ok (.aload_n 0, 1) := by decide +kernel
theorem dX11_village_50 : decode cX11_village 50 = .ok (.iload_n 1, 1) := by decide +kernel
theorem dX11_village_51 : decode cX11_village 51 = .ok (.ifCond .ge 7, 3) := by decide +kernel
theorem dX11_village_54 : decode cX11_village 54 = .ok (.iconst 1, 1) := by decide +kernel
theorem dX11_village_55 : decode cX11_village 55 = .ok (.goto 4, 3) := by decide +kernel
theorem dX11_village_58 : decode cX11_village 58 = .ok (.iconst 0, 1) := by decide +kernel
theorem dX11_village_59 : decode cX11_village 59 = .ok (.iconst 1, 1) := by decide +kernel
theorem dX11_village_60 : decode cX11_village 60 = .ok (.invokevirtual 322, 3) := by decide +kernel
theorem dX11_village_63 : decode cX11_village 63 = .ok (.ifCond .ne 27, 3) := by decide +kernel
theorem dX11_village_66 : decode cX11_village 66 = .ok (.aload_n 0, 1) := by decide +kernel
theorem dX11_village_67 : decode cX11_village 67 = .ok (.aload_n 0, 1) := by decide +kernel
theorem dX11_village_68 : decode cX11_village 68 = .ok (.getfield 13, 3) := by decide +kernel
theorem dX11_village_71 : decode cX11_village 71 = .ok (.iconst 2, 1) := by decide +kernel
theorem dX11_village_72 : decode cX11_village 72 = .ok (.iaload, 1) := by decide +kernel
theorem dX11_village_73 : decode cX11_village 73 = .ok (.bipush 12, 2) := by decide +kernel
theorem dX11_village_75 : decode cX11_village 75 = .ok (.if_icmp .ne 7, 3) := by decide +kernel
theorem dX11_village_78 : decode cX11_village 78 = .ok (.iconst 1, 1) := by decide +kernel
theorem dX11_village_79 : decode cX11_village 79 = .ok (.goto 4, 3) := by decide +kernel
theorem dX11_village_82 : decode cX11_village 82 = .ok (.iconst 0, 1) := by decide +kernel
theorem dX11_village_83 : decode cX11_village 83 = .ok (.iconst 2, 1) := by decide +kernel
theorem dX11_village_84 : decode cX11_village 84 = .ok (.invokevirtual 322, 3) := by decide +kernel
theorem dX11_village_87 : decode cX11_village 87 = .ok (.ifCond .eq 32, 3) := by decide +kernel
theorem dX11_village_90 : decode cX11_village 90 = .ok (.iconst 0, 1) := by decide +kernel
theorem dX11_village_91 : decode cX11_village 91 = .ok (.istore_n 2, 1) := by decide +kernel
theorem dX11_village_92 : decode cX11_village 92 = .ok (.iload_n 2, 1) := by decide +kernel
theorem dX11_village_93 : decode cX11_village 93 = .ok (.sipush 6277, 3) := by decide +kernel
theorem dX11_village_96 : decode cX11_village 96 = .ok (.if_icmp .ge 21, 3) := by decide +kernel
theorem dX11_village_99 : decode cX11_village 99 = .ok (.aload_n 0, 1) := by decide +kernel
theorem dX11_village_100 : decode cX11_village 100 = .ok (.getfield 13, 3) := by decide +kernel
theorem dX11_village_103 : decode cX11_village 103 = .ok (.iload_n 2, 1) := by decide +kernel
theorem dX11_village_104 : decode cX11_village 104 = .ok (.aload_n 0, 1) := by decide +kernel
theorem dX11_village_105 : decode cX11_village 105 = .ok (.getfield 20, 3) := by decide +kernel
theorem dX11_village_108 : decode cX11_village 108 = .ok (.iload_n 2, 1) := by decide +kernel
theorem dX11_village_109 : decode cX11_village 109 = .ok (.iaload, 1) := by decide +kernel
theorem dX11_village_110 : decode cX11_village 110 = .ok (.iastore, 1) := by decide +kernel
theorem dX11_village_111 : decode cX11_village 111 = .ok (.iinc 2 1, 3) := by decide +kernel
theorem dX11_village_114 : decode cX11_village 114 = .ok (.goto (-22), 3) := by decide +kernel
theorem dX11_village_117 : decode cX11_village 117 = .ok (.iconst 0, 1) := by decide +kernel
theorem dX11_village_118 : decode cX11_village 118 = .ok (.ireturn, 1) := by decide +kernel
theorem dX11_village_119 : decode cX11_village 119 = .ok (.aload_n 0, 1) := by decide +kernel
theorem dX11_village_120 : decode cX11_village 120 = .ok (.getfield 13, 3) := by decide +kernel
theorem dX11_village_123 : decode cX11_village 123 = .ok (.iconst 2, 1) := by decide +kernel
theorem dX11_village_124 : decode cX11_village 124 = .ok (.dup2, 1) := by decide +kernel
theorem dX11_village_125 : decode cX11_village 125 = .ok (.iaload, 1) := by decide +kernel
theorem dX11_village_126 : decode cX11_village 126 = .ok (.iconst 1, 1) := by decide +kernel
theorem dX11_village_127 : decode cX11_village 127 = .ok (.iadd, 1) := by decide +kernel
theorem dX11_village_128 : decode cX11_village 128 = .ok (.iastore, 1) := by decide +kernel
theorem dX11_village_129 : decode cX11_village 129 = .ok (.aload_n 0, 1) := by decide +kernel
theorem dX11_village_130 : decode cX11_village 130 = .ok (.iconst 0, 1) := by decide +kernel
theorem dX11_village_131 : decode cX11_village 131 = .ok (.putfield 99, 3) := by decide +kernel
theorem dX11_village_134 : decode cX11_village 134 = .ok (.aload_n 0, 1) := by decide +kernel
theorem dX11_village_135 : decode cX11_village 135 = .ok (.getfield 13, 3) := by decide +kernel
theorem dX11_village_138 : decode cX11_village 138 = .ok (.iconst 2, 1) := by decide +kernel
theorem dX11_village_139 : decode cX11_village 139 = .ok (.iaload, 1) := by decide +kernel
theorem dX11_village_140 : decode cX11_village 140 = .ok (.ireturn, 1) := by decide +kernel
theorem dX11_law_0 : decode cX11_law 0 = .ok (.aload_n 0, 1) := by decide +kernel
theorem dX11_law_1 : decode cX11_law 1 = .ok (.iconst 0, 1) := by decide +kernel
theorem dX11_law_2 : decode cX11_law 2 = .ok (.invokevirtual 318, 3) := by decide +kernel
theorem dX11_law_5 : decode cX11_law 5 = .ok (.istore_n 1, 1) := by decide +kernel
theorem dX11_law_6 : decode cX11_law 6 = .ok (.aload_n 0, 1) := by decide +kernel
theorem dX11_law_7 : decode cX11_law 7 = .ok (.iload_n 1, 1) := by decide +kernel
theorem dX11_law_8 : decode cX11_law 8 = .ok (.ifCond .ge 10, 3) := by decide +kernel
theorem dX11_law_11 : decode cX11_law 11 = .ok (.aload_n 0, 1) := by decide +kernel
theorem dX11_law_12 : decode cX11_law 12 = .ok (.getfield 168, 3) := by decide +kernel
theorem dX11_law_15 : decode cX11_law 15 = .ok (.goto 4, 3) := by decide +kernel
theorem dX11_law_18 : decode cX11_law 18 = .ok (.iconst (-1), 1) := by decide +kernel
theorem dX11_law_19 : decode cX11_law 19 = .ok (.putfield 43, 3) := by decide +kernel
theorem dX11_law_22 : decode cX11_law 22 = .ok (.aload_n 0, 1) := by decide +kernel
theorem dX11_law_23 : decode cX11_law 23 = .ok (.iload_n 1, 1) := by decide +kernel
theorem dX11_law_24 : decode cX11_law 24 = .ok (.ifCond .ge 7, 3) := by decide +kernel
theorem dX11_law_27 : decode cX11_law 27 = .ok (.iconst 1, 1) := by decide +kernel
theorem dX11_law_28 : decode cX11_law 28 = .ok (.goto 4, 3) := by decide +kernel
theorem dX11_law_31 : decode cX11_law 31 = .ok (.iconst 0, 1) := by decide +kernel
theorem dX11_law_32 : decode cX11_law 32 = .ok (.iconst 1, 1) := by decide +kernel
theorem dX11_law_33 : decode cX11_law 33 = .ok (.invokevirtual 322, 3) := by decide +kernel
theorem dX11_law_36 : decode cX11_law 36 = .ok (.ifCond .eq 5, 3) := by decide +kernel
theorem dX11_law_39 : decode cX11_law 39 = .ok (.iconst 0, 1) := by decide +kernel
theorem dX11_law_40 : decode cX11_law 40 = .ok (.ireturn, 1) := by decide +kernel
theorem dX11_law_41 : decode cX11_law 41 = .ok (.aload_n 0, 1) := by decide +kernel
theorem dX11_law_42 : decode cX11_law 42 = .ok (.getfield 13, 3) := by decide +kernel
theorem dX11_law_45 : decode cX11_law 45 = .ok (.sipush 6277, 3) := by decide +kernel
theorem dX11_law_48 : decode cX11_law 48 = .ok (.iload_n 1, 1) := by decide +kernel
theorem dX11_law_49 : decode cX11_law 49 = .ok (.iastore, 1) := by decide +kernel
theorem dX11_law_50 : decode cX11_law 50 = .ok (.iconst 0, 1) := by decide +kernel
theorem dX11_law_51 : decode cX11_law 51 = .ok (.istore_n 2, 1) := by decide +kernel
theorem dX11_law_52 : decode cX11_law 52 = .ok (.iload_n 2, 1) := by decide +kernel
theorem dX11_law_53 : decode cX11_law 53 = .ok (.sipush 837, 3) := by decide +kernel
theorem dX11_law_56 : decode cX11_law 56 = .ok (.if_icmp .ge 29, 3) := by decide +kernel
theorem dX11_law_59 : decode cX11_law 59 = .ok (.aload_n 0, 1) := by decide +kernel
theorem dX11_law_60 : decode cX11_law 60 = .ok (.getfield 13, 3) := by decide +kernel
theorem dX11_law_63 : decode cX11_law 63 = .ok (.sipush 5440, 3) := by decide +kernel
theorem dX11_law_66 : decode cX11_law 66 = .ok (.iload_n 2, 1) := by decide +kernel
theorem dX11_law_67 : decode cX11_law 67 = .ok (.iadd, 1) := by decide +kernel
theorem dX11_law_68 : decode cX11_law 68 = .ok (.aload_n 0, 1) := by decide +kernel
theorem dX11_law_69 : decode cX11_law 69 = .ok (.getfield 13, 3) := by decide +kernel
theorem dX11_law_72 : decode cX11_law 72 = .ok (.sipush 6277, 3) := by decide +kernel
theorem dX11_law_75 : decode cX11_law 75 = .ok (.iload_n 2, 1) := by decide +kernel
theorem dX11_law_76 : decode cX11_law 76 = .ok (.iadd, 1) := by decide +kernel
theorem dX11_law_77 : decode cX11_law 77 = .ok (.iaload, 1) := by decide +kernel
theorem dX11_law_78 : decode cX11_law 78 = .ok (.iastore, 1) := by decide +kernel
theorem dX11_law_79 : decode cX11_law 79 = .ok (.iinc 2 1, 3) := by decide +kernel
theorem dX11_law_82 : decode cX11_law 82 = .ok (.goto (-30), 3) := by decide +kernel
theorem dX11_law_85 : decode cX11_law 85 = .ok (.aload_n 0, 1) := by decide +kernel
theorem dX11_law_86 : decode cX11_law 86 = .ok (.getfield 13, 3) := by decide +kernel
theorem dX11_law_89 : decode cX11_law 89 = .ok (.iconst 3, 1) := by decide +kernel
theorem dX11_law_90 : decode cX11_law 90 = .ok (.iconst 1, 1) := by decide +kernel
theorem dX11_law_91 : decode cX11_law 91 = .ok (.iastore, 1) := by decide +kernel
theorem dX11_law_92 : decode cX11_law 92 = .ok (.aload_n 0, 1) := by decide +kernel
theorem dX11_law_93 : decode cX11_law 93 = .ok (.iconst 0, 1) := by decide +kernel
theorem dX11_law_94 : decode cX11_law 94 = .ok (.putfield 99, 3) := by decide +kernel
theorem dX11_law_97 : decode cX11_law 97 = .ok (.iload_n 1, 1) := by decide +kernel
theorem dX11_law_98 : decode cX11_law 98 = .ok (.ireturn, 1) := by decide +kernel
theorem dX11_factOf_0 : decode cX11_factOf 0 = .ok (.iload_n 1, 1) := by decide +kernel
theorem dX11_factOf_1 : decode cX11_factOf 1 = .ok (.tableswitch 81 0 5 #[39, 42, 44, 47, 54, 65], 39) := by decide +kernel
theorem dX11_factOf_40 : decode cX11_factOf 40 = .ok (.iload 5, 2) := by decide +kernel
theorem dX11_factOf_42 : decode cX11_factOf 42 = .ok (.ireturn, 1) := by decide +kernel
theorem dX11_factOf_43 : decode cX11_factOf 43 = .ok (.iload_n 3, 1) := by decide +kernel
theorem dX11_factOf_44 : decode cX11_factOf 44 = .ok (.ireturn, 1) := by decide +kernel
theorem dX11_factOf_45 : decode cX11_factOf 45 = .ok (.iload 4, 2) := by decide +kernel
theorem dX11_factOf_47 : decode cX11_factOf 47 = .ok (.ireturn, 1) := by decide +kernel
theorem dX11_factOf_48 : decode cX11_factOf 48 = .ok (.aload_n 0, 1) := by decide +kernel
theorem dX11_factOf_49 : decode cX11_factOf 49 = .ok (.getfield 13, 3) := by decide +kernel
theorem dX11_factOf_52 : decode cX11_factOf 52 = .ok (.iconst 4, 1) := by decide +kernel
theorem dX11_factOf_53 : decode cX11_factOf 53 = .ok (.iaload, 1) := by decide +kernel
theorem dX11_factOf_54 : decode cX11_factOf 54 = .ok (.ireturn, 1) := by decide +kernel
theorem dX11_factOf_55 : decode cX11_factOf 55 = .ok (.iload 6, 2) := by decide +kernel
theorem dX11_factOf_57 : decode cX11_factOf 57 = .ok (.ifCond .eq 7, 3) := by decide +kernel
theorem dX11_factOf_60 : decode cX11_factOf 60 = .ok (.iconst 1, 1) := by decide +kernel
theorem dX11_factOf_61 : decode cX11_factOf 61 = .ok (.goto 4, 3) := by decide +kernel
theorem dX11_factOf_64 : decode cX11_factOf 64 = .ok (.iconst 0, 1) := by decide +kernel
theorem dX11_factOf_65 : decode cX11_factOf 65 = .ok (.ireturn, 1) := by decide +kernel
theorem dX11_factOf_66 : decode cX11_factOf 66 = .ok (.aload_n 0, 1) := by decide +kernel
theorem dX11_factOf_67 : decode cX11_factOf 67 = .ok (.iload 4, 2) := by decide +kernel
theorem dX11_factOf_69 : decode cX11_factOf 69 = .ok (.iload_n 3, 1) := by decide +kernel
theorem dX11_factOf_70 : decode cX11_factOf 70 = .ok (.invokevirtual 325, 3) := by decide +kernel
theorem dX11_factOf_73 : decode cX11_factOf 73 = .ok (.ifCond .eq 7, 3) := by decide +kernel
theorem dX11_factOf_76 : decode cX11_factOf 76 = .ok (.iconst 1, 1) := by decide +kernel
theorem dX11_factOf_77 : decode cX11_factOf 77 = .ok (.goto 4, 3) := by decide +kernel
theorem dX11_factOf_80 : decode cX11_factOf 80 = .ok (.iconst 0, 1) := by decide +kernel
theorem dX11_factOf_81 : decode cX11_factOf 81 = .ok (.ireturn, 1) := by decide +kernel
theorem dX11_factOf_82 : decode cX11_factOf 82 = .ok (.iload_n 2, 1) := by decide +kernel
theorem dX11_factOf_83 : decode cX11_factOf 83 = .ok (.ireturn, 1) := by decide +kernel
theorem dX11_holdsLine_0 : decode cX11_holdsLine 0 = .ok (.iconst 0, 1) := by decide +kernel
theorem dX11_holdsLine_1 : decode cX11_holdsLine 1 = .ok (.istore 6, 2) := by decide +kernel
theorem dX11_holdsLine_3 : decode cX11_holdsLine 3 = .ok (.sipush 5441, 3) := by decide +kernel
theorem dX11_holdsLine_6 : decode cX11_holdsLine 6 = .ok (.iconst 3, 1) := by decide +kernel
theorem dX11_holdsLine_7 : decode cX11_holdsLine 7 = .ok (.iload_n 1, 1) := by decide +kernel
theorem dX11_holdsLine_8 : decode cX11_holdsLine 8 = .ok (.imul, 1) := by decide +kernel
theorem dX11_holdsLine_9 : decode cX11_holdsLine 9 = .ok (.iadd, 1) := by decide +kernel
theorem dX11_holdsLine_10 : decode cX11_holdsLine 10 = .ok (.istore 7, 2) := by decide +kernel
theorem dX11_holdsLine_12 : decode cX11_holdsLine 12 = .ok (.aload_n 0, 1) := by decide +kernel
theorem dX11_holdsLine_13 : decode cX11_holdsLine 13 = .ok (.getfield 13, 3) := by decide +kernel
theorem dX11_holdsLine_16 : decode cX11_holdsLine 16 = .ok (.iload 7, 2) := by decide +kernel
theorem dX11_holdsLine_18 : decode cX11_holdsLine 18 = .ok (.iconst 1, 1) := by decide +kernel
theorem dX11_holdsLine_19 : decode cX11_holdsLine 19 = .ok (.iadd, 1) := by decide +kernel
theorem dX11_holdsLine_20 : decode cX11_holdsLine 20 = .ok (.iaload, 1) := by decide +kernel
theorem dX11_holdsLine_21 : decode cX11_holdsLine 21 = .ok (.istore 8, 2) := by decide +kernel
theorem dX11_holdsLine_23 : decode cX11_holdsLine 23 = .ok (.iload 8, 2) := by decide +kernel
theorem dX11_holdsLine_25 : decode cX11_holdsLine 25 = .ok (.aload_n 0, 1) := by decide +kernel
theorem dX11_holdsLine_26 : decode cX11_holdsLine 26 = .ok (.getfield 13, 3) := by decide +kernel
theorem dX11_holdsLine_29 : decode cX11_holdsLine 29 = .ok (.iload 7, 2) := by decide +kernel
theorem dX11_holdsLine_31 : decode cX11_holdsLine 31 = .ok (.iconst 2, 1) := by decide +kernel
theorem dX11_holdsLine_32 : decode cX11_holdsLine 32 = .ok (.iadd, 1) := by decide +kernel
theorem dX11_holdsLine_33 : decode cX11_holdsLine 33 = .ok (.iaload, 1) := by decide +kernel
theorem dX11_holdsLine_34 : decode cX11_holdsLine 34 = .ok (.if_icmp .ge 241, 3) := by decide +kernel
theorem dX11_holdsLine_37 : decode cX11_holdsLine 37 = .ok (.aload_n 0, 1) := by decide +kernel
theorem dX11_holdsLine_38 : decode cX11_holdsLine 38 = .ok (.getfield 13, 3) := by decide +kernel
theorem dX11_holdsLine_41 : decode cX11_holdsLine 41 = .ok (.sipush 5477, 3) := by decide +kernel
theorem dX11_holdsLine_44 : decode cX11_holdsLine 44 = .ok (.iconst 2, 1) := by decide +kernel
theorem dX11_holdsLine_45 : decode cX11_holdsLine 45 = .ok (.iload 8, 2) := by decide +kernel
theorem dX11_holdsLine_47 : decode cX11_holdsLine 47 = .ok (.imul, 1) := by decide +kernel
theorem dX11_holdsLine_48 : decode cX11_holdsLine 48 = .ok (.iadd, 1) := by decide +kernel
theorem dX11_holdsLine_49 : decode cX11_holdsLine 49 = .ok (.iaload, 1) := by decide +kernel
theorem dX11_holdsLine_50 : decode cX11_holdsLine 50 = .ok (.istore 9, 2) := by decide +kernel
theorem dX11_holdsLine_52 : decode cX11_holdsLine 52 = .ok (.iload 9, 2) := by decide +kernel
theorem dX11_holdsLine_54 : decode cX11_holdsLine 54 = .ok (.bipush 6, 2) := by decide +kernel
theorem dX11_holdsLine_56 : decode cX11_holdsLine 56 = .ok (.if_icmp .gt 43, 3) := by decide +kernel
theorem dX11_holdsLine_59 : decode cX11_holdsLine 59 = .ok (.aload_n 0, 1) := by decide +kernel
theorem dX11_holdsLine_60 : decode cX11_holdsLine 60 = .ok (.getfield 49, 3) := by decide +kernel
theorem dX11_holdsLine_63 : decode cX11_holdsLine 63 = .ok (.iload 6, 2) := by decide +kernel
theorem dX11_holdsLine_65 : decode cX11_holdsLine 65 = .ok (.aload_n 0, 1) := by decide +kernel
theorem dX11_holdsLine_66 : decode cX11_holdsLine 66 = .ok (.iload 9, 2) := by decide +kernel
theorem dX11_holdsLine_68 : decode cX11_holdsLine 68 = .ok (.aload_n 0, 1) := by decide +kernel
theorem dX11_holdsLine_69 : decode cX11_holdsLine 69 = .ok (.getfield 13, 3) := by decide +kernel
theorem dX11_holdsLine_72 : decode cX11_holdsLine 72 = .ok (.sipush 5477, 3) := by decide +kernel
theorem dX11_holdsLine_75 : decode cX11_holdsLine 75 = .ok (.iconst 2, 1) := by decide +kernel
theorem dX11_holdsLine_76 : decode cX11_holdsLine 76 = .ok (.iload 8, 2) := by decide +kernel
theorem dX11_holdsLine_78 : decode cX11_holdsLine 78 = .ok (.imul, 1) := by decide +kernel
theorem dX11_holdsLine_79 : decode cX11_holdsLine 79 = .ok (.iadd, 1) := by decide +kernel
theorem dX11_holdsLine_80 : decode cX11_holdsLine 80 = .ok (.iconst 1, 1) := by decide +kernel
theorem dX11_holdsLine_81 : decode cX11_holdsLine 81 = .ok (.iadd, 1) := by decide +kernel
theorem dX11_holdsLine_82 : decode cX11_holdsLine 82 = .ok (.iaload, 1) := by decide +kernel
theorem dX11_holdsLine_83 : decode cX11_holdsLine 83 = .ok (.iload_n 2, 1) := by decide +kernel
theorem dX11_holdsLine_84 : decode cX11_holdsLine 84 = .ok (.iload_n 3, 1) := by decide +kernel
theorem dX11_holdsLine_85 : decode cX11_holdsLine 85 = .ok (.iload 4, 2) := by decide +kernel
theorem dX11_holdsLine_87 : decode cX11_holdsLine 87 = .ok (.iload 5, 2) := by decide +kernel
theorem dX11_holdsLine_89 : decode cX11_holdsLine 89 = .ok (.invokevirtual 328, 3) := by decide +kernel
theorem dX11_holdsLine_92 : decode cX11_holdsLine 92 = .ok (.iastore, 1) := by decide +kernel
theorem dX11_holdsLine_93 : decode cX11_holdsLine 93 = .ok (.iinc 6 1, 3) := by decide +kernel
theorem dX11_holdsLine_96 : decode cX11_holdsLine 96 = .ok (.goto 173, 3) := by decide +kernel
theorem dX11_holdsLine_99 : decode cX11_holdsLine 99 = .ok (.iload 9, 2) := by decide +kernel
theorem dX11_holdsLine_101 : decode cX11_holdsLine 101 = .ok (.bipush 10, 2) := by decide +kernel
theorem dX11_holdsLine_103 : decode cX11_holdsLine 103 = .ok (.if_icmp .ne 26, 3) := by decide +kernel
theorem dX11_holdsLine_106 : decode cX11_holdsLine 106 = .ok (.aload_n 0, 1) := by decide +kernel
theorem dX11_holdsLine_107 : decode cX11_holdsLine 107 = .ok (.getfield 49, 3) := by decide +kernel
theorem dX11_holdsLine_110 : decode cX11_holdsLine 110 = .ok (.iload 6, 2) := by decide +kernel
theorem dX11_holdsLine_112 : decode cX11_holdsLine 112 = .ok (.iconst 1, 1) := by decide +kernel
theorem dX11_holdsLine_113 : decode cX11_holdsLine 113 = .ok (.isub, 1) := by decide +kernel
theorem dX11_holdsLine_114 : decode cX11_holdsLine 114 = .ok (.iconst 1, 1) := by decide +kernel
theorem dX11_holdsLine_115 : decode cX11_holdsLine 115 = .ok (.aload_n 0, 1) := by decide +kernel
theorem dX11_holdsLine_116 : decode cX11_holdsLine 116 = .ok (.getfield 49, 3) := by decide +kernel
theorem dX11_holdsLine_119 : decode cX11_holdsLine 119 = .ok (.iload 6, 2) := by decide +kernel
theorem dX11_holdsLine_121 : decode cX11_holdsLine 121 = .ok (.iconst 1, 1) := by decide +kernel
theorem dX11_holdsLine_122 : decode cX11_holdsLine 122 = .ok (.isub, 1) := by decide +kernel
theorem dX11_holdsLine_123 : decode cX11_holdsLine 123 = .ok (.iaload, 1) := by decide +kernel
theorem dX11_holdsLine_124 : decode cX11_holdsLine 124 = .ok (.isub, 1) := by decide +kernel
theorem dX11_holdsLine_125 : decode cX11_holdsLine 125 = .ok (.iastore, 1) := by decide +kernel
theorem dX11_holdsLine_126 : decode cX11_holdsLine 126 = .ok (.goto 143, 3) := by decide +kernel
theorem dX11_holdsLine_129 : decode cX11_holdsLine 129 = .ok (.iinc 6 (-1), 3) := by decide +kernel
theorem dX11_holdsLine_132 : decode cX11_holdsLine 132 = .ok (.aload_n 0, 1) := by decide +kernel
theorem dX11_holdsLine_133 : decode cX11_holdsLine 133 = .ok (.getfield 49, 3) := by decide +kernel
theorem dX11_holdsLine_136 : decode cX11_holdsLine 136 = .ok (.iload 6, 2) := by decide +kernel
theorem dX11_holdsLine_138 : decode cX11_holdsLine 138 = .ok (.iconst 1, 1) := by decide +kernel
theorem dX11_holdsLine_139 : decode cX11_holdsLine 139 = .ok (.isub, 1) := by decide +kernel
theorem dX11_holdsLine_140 : decode cX11_holdsLine 140 = .ok (.iaload, 1) := by decide +kernel
theorem dX11_holdsLine_141 : decode cX11_holdsLine 141 = .ok (.istore 10, 2) := by decide +kernel
theorem dX11_holdsLine_143 : decode cX11_holdsLine 143 = .ok (.aload_n 0, 1) := by decide +kernel
theorem dX11_holdsLine_144 : decode cX11_holdsLine 144 = .ok (.getfield 49, 3) := by decide +kernel
theorem dX11_holdsLine_147 : decode cX11_holdsLine 147 = .ok (.iload 6, 2) := by decide +kernel
theorem dX11_holdsLine_149 : decode cX11_holdsLine 149 = .ok (.iaload, 1) := by decide +kernel
theorem dX11_holdsLine_150 : decode cX11_holdsLine 150 = .ok (.istore 11, 2) := by decide +kernel
theorem dX11_holdsLine_152 : decode cX11_holdsLine 152 = .ok (.iload 9, 2) := by decide +kernel
theorem dX11_holdsLine_154 : decode cX11_holdsLine 154 = .ok (.bipush 8, 2) := by decide +kernel
theorem dX11_holdsLine_156 : decode cX11_holdsLine 156 = .ok (.if_icmp .ne 18, 3) := by decide +kernel
theorem dX11_holdsLine_159 : decode cX11_holdsLine 159 = .ok (.iload 10, 2) := by decide +kernel
theorem dX11_holdsLine_161 : decode cX11_holdsLine 161 = .ok (.iload 11, 2) := by decide +kernel
theorem dX11_holdsLine_163 : decode cX11_holdsLine 163 = .ok (.if_icmp .ge 7, 3) := by decide +kernel
theorem dX11_holdsLine_166 : decode cX11_holdsLine 166 = .ok (.iconst 1, 1) := by decide +kernel
theorem dX11_holdsLine_167 : decode cX11_holdsLine 167 = .ok (.goto 66, 3) := by decide +kernel
theorem dX11_holdsLine_170 : decode cX11_holdsLine 170 = .ok (.iconst 0, 1) := by decide +kernel
theorem dX11_holdsLine_171 : decode cX11_holdsLine 171 = .ok (.goto 62, 3) := by decide +kernel
theorem dX11_holdsLine_174 : decode cX11_holdsLine 174 = .ok (.iload 9, 2) := by decide +kernel
theorem dX11_holdsLine_176 : decode cX11_holdsLine 176 = .ok (.bipush 9, 2) := by decide +kernel
theorem dX11_holdsLine_178 : decode cX11_holdsLine 178 = .ok (.if_icmp .ne 18, 3) := by decide +kernel
theorem dX11_holdsLine_181 : decode cX11_holdsLine 181 = .ok (.iload 10, 2) := by decide +kernel
theorem dX11_holdsLine_183 : decode cX11_holdsLine 183 = .ok (.iload 11, 2) := by decide +kernel
theorem dX11_holdsLine_185 : decode cX11_holdsLine 185 = .ok (.if_icmp .le 7, 3) := by decide +kernel
theorem dX11_holdsLine_188 : decode cX11_holdsLine 188 = .ok (.iconst 1, 1) := by decide +kernel
theorem dX11_holdsLine_189 : decode cX11_holdsLine 189 = .ok (.goto 44, 3) := by decide +kernel
theorem dX11_holdsLine_192 : decode cX11_holdsLine 192 = .ok (.iconst 0, 1) := by decide +kernel
theorem dX11_holdsLine_193 : decode cX11_holdsLine 193 = .ok (.goto 40, 3) := by decide +kernel
theorem dX11_holdsLine_196 : decode cX11_holdsLine 196 = .ok (.iload 9, 2) := by decide +kernel
theorem dX11_holdsLine_198 : decode cX11_holdsLine 198 = .ok (.bipush 11, 2) := by decide +kernel
theorem dX11_holdsLine_200 : decode cX11_holdsLine 200 = .ok (.if_icmp .ne 20, 3) := by decide +kernel
theorem dX11_holdsLine_203 : decode cX11_holdsLine 203 = .ok (.iload 10, 2) := by decide +kernel
theorem dX11_holdsLine_205 : decode cX11_holdsLine 205 = .ok (.iload 11, 2) := by decide +kernel
theorem dX11_holdsLine_207 : decode cX11_holdsLine 207 = .ok (.iadd, 1) := by decide +kernel
theorem dX11_holdsLine_208 : decode cX11_holdsLine 208 = .ok (.iconst 2, 1) := by decide +kernel
theorem dX11_holdsLine_209 : decode cX11_holdsLine 209 = .ok (.if_icmp .ne 7, 3) := by decide +kernel
theorem dX11_holdsLine_212 : decode cX11_holdsLine 212 = .ok (.iconst 1, 1) := by decide +kernel
theorem dX11_holdsLine_213 : decode cX11_holdsLine 213 = .ok (.goto 20, 3) := by decide +kernel
theorem dX11_holdsLine_216 : decode cX11_holdsLine 216 = .ok (.iconst 0, 1) := by decide +kernel
theorem dX11_holdsLine_217 : decode cX11_holdsLine 217 = .ok (.goto 16, 3) := by decide +kernel
theorem dX11_holdsLine_220 : decode cX11_holdsLine 220 = .ok (.iload 10, 2) := by decide +kernel
theorem dX11_holdsLine_222 : decode cX11_holdsLine 222 = .ok (.iload 11, 2) := by decide +kernel
theorem dX11_holdsLine_224 : decode cX11_holdsLine 224 = .ok (.iadd, 1) := by decide +kernel
theorem dX11_holdsLine_225 : decode cX11_holdsLine 225 = .ok (.ifCond .le 7, 3) := by decide +kernel
theorem dX11_holdsLine_228 : decode cX11_holdsLine 228 = .ok (.iconst 1, 1) := by decide +kernel
theorem dX11_holdsLine_229 : decode cX11_holdsLine 229 = .ok (.goto 4, 3) := by decide +kernel
theorem dX11_holdsLine_232 : decode cX11_holdsLine 232 = .ok (.iconst 0, 1) := by decide +kernel
theorem dX11_holdsLine_233 : decode cX11_holdsLine 233 = .ok (.istore 12, 2) := by decide +kernel
theorem dX11_holdsLine_235 : decode cX11_holdsLine 235 = .ok (.aload_n 0, 1) := by decide +kernel
theorem dX11_holdsLine_236 : decode cX11_holdsLine 236 = .ok (.getfield 49, 3) := by decide +kernel
theorem dX11_holdsLine_239 : decode cX11_holdsLine 239 = .ok (.iload 6, 2) := by decide +kernel
theorem dX11_holdsLine_241 : decode cX11_holdsLine 241 = .ok (.iconst 1, 1) := by decide +kernel
theorem dX11_holdsLine_242 : decode cX11_holdsLine 242 = .ok (.isub, 1) := by decide +kernel
theorem dX11_holdsLine_243 : decode cX11_holdsLine 243 = .ok (.iload 9, 2) := by decide +kernel
theorem dX11_holdsLine_245 : decode cX11_holdsLine 245 = .ok (.bipush 7, 2) := by decide +kernel
theorem dX11_holdsLine_247 : decode cX11_holdsLine 247 = .ok (.if_icmp .ne 11, 3) := by decide +kernel
theorem dX11_holdsLine_250 : decode cX11_holdsLine 250 = .ok (.iload 10, 2) := by decide +kernel
theorem dX11_holdsLine_252 : decode cX11_holdsLine 252 = .ok (.iload 11, 2) := by decide +kernel
theorem dX11_holdsLine_254 : decode cX11_holdsLine 254 = .ok (.iadd, 1) := by decide +kernel
theorem dX11_holdsLine_255 : decode cX11_holdsLine 255 = .ok (.goto 13, 3) := by decide +kernel
theorem dX11_holdsLine_258 : decode cX11_holdsLine 258 = .ok (.iload 12, 2) := by decide +kernel
theorem dX11_holdsLine_260 : decode cX11_holdsLine 260 = .ok (.ifCond .eq 7, 3) := by decide +kernel
theorem dX11_holdsLine_263 : decode cX11_holdsLine 263 = .ok (.iconst 1, 1) := by decide +kernel
theorem dX11_holdsLine_264 : decode cX11_holdsLine 264 = .ok (.goto 4, 3) := by decide +kernel
theorem dX11_holdsLine_267 : decode cX11_holdsLine 267 = .ok (.iconst 0, 1) := by decide +kernel
theorem dX11_holdsLine_268 : decode cX11_holdsLine 268 = .ok (.iastore, 1) := by decide +kernel
theorem dX11_holdsLine_269 : decode cX11_holdsLine 269 = .ok (.iinc 8 1, 3) := by decide +kernel
theorem dX11_holdsLine_272 : decode cX11_holdsLine 272 = .ok (.goto (-249), 3) := by decide +kernel
theorem dX11_holdsLine_275 : decode cX11_holdsLine 275 = .ok (.iload 6, 2) := by decide +kernel
theorem dX11_holdsLine_277 : decode cX11_holdsLine 277 = .ok (.ifCond .eq 13, 3) := by decide +kernel
theorem dX11_holdsLine_280 : decode cX11_holdsLine 280 = .ok (.aload_n 0, 1) := by decide +kernel
theorem dX11_holdsLine_281 : decode cX11_holdsLine 281 = .ok (.getfield 49, 3) := by decide +kernel
theorem dX11_holdsLine_284 : decode cX11_holdsLine 284 = .ok (.iconst 0, 1) := by decide +kernel
theorem dX11_holdsLine_285 : decode cX11_holdsLine 285 = .ok (.iaload, 1) := by decide +kernel
theorem dX11_holdsLine_286 : decode cX11_holdsLine 286 = .ok (.iconst 1, 1) := by decide +kernel
theorem dX11_holdsLine_287 : decode cX11_holdsLine 287 = .ok (.if_icmp .ne 7, 3) := by decide +kernel
theorem dX11_holdsLine_290 : decode cX11_holdsLine 290 = .ok (.iconst 1, 1) := by decide +kernel
theorem dX11_holdsLine_291 : decode cX11_holdsLine 291 = .ok (.goto 4, 3) := by decide +kernel
theorem dX11_holdsLine_294 : decode cX11_holdsLine 294 = .ok (.iconst 0, 1) := by decide +kernel
theorem dX11_holdsLine_295 : decode cX11_holdsLine 295 = .ok (.ireturn, 1) := by decide +kernel
theorem dX11_mannerBy_0 : decode cX11_mannerBy 0 = .ok (.iconst 0, 1) := by decide +kernel
theorem dX11_mannerBy_1 : decode cX11_mannerBy 1 = .ok (.istore 5, 2) := by decide +kernel
theorem dX11_mannerBy_3 : decode cX11_mannerBy 3 = .ok (.iconst 0, 1) := by decide +kernel
theorem dX11_mannerBy_4 : decode cX11_mannerBy 4 = .ok (.istore 6, 2) := by decide +kernel
theorem dX11_mannerBy_6 : decode cX11_mannerBy 6 = .ok (.aload_n 0, 1) := by decide +kernel
theorem dX11_mannerBy_7 : decode cX11_mannerBy 7 = .ok (.getfield 13, 3) := by decide +kernel
theorem dX11_mannerBy_10 : decode cX11_mannerBy 10 = .ok (.iconst 3, 1) := by decide +kernel
theorem dX11_mannerBy_11 : decode cX11_mannerBy 11 = .ok (.iaload, 1) := by decide +kernel
theorem dX11_mannerBy_12 : decode cX11_mannerBy 12 = .ok (.iconst 1, 1) := by decide +kernel
theorem dX11_mannerBy_13 : decode cX11_mannerBy 13 = .ok (.if_icmp .ne 58, 3) := by decide +kernel
theorem dX11_mannerBy_16 : decode cX11_mannerBy 16 = .ok (.iload 6, 2) := by decide +kernel
theorem dX11_mannerBy_18 : decode cX11_mannerBy 18 = .ok (.aload_n 0, 1) := by decide +kernel
theorem dX11_mannerBy_19 : decode cX11_mannerBy 19 = .ok (.getfield 13, 3) := by decide +kernel
theorem dX11_mannerBy_22 : decode cX11_mannerBy 22 = .ok (.sipush 5440, 3) := by decide +kernel
theorem dX11_mannerBy_25 : decode cX11_mannerBy 25 = .ok (.iaload, 1) := by decide +kernel
theorem dX11_mannerBy_26 : decode cX11_mannerBy 26 = .ok (.if_icmp .ge 45, 3) := by decide +kernel
theorem dX11_mannerBy_29 : decode cX11_mannerBy 29 = .ok (.iload 5, 2) := by decide +kernel
theorem dX11_mannerBy_31 : decode cX11_mannerBy 31 = .ok (.aload_n 0, 1) := by decide +kernel
theorem dX11_mannerBy_32 : decode cX11_mannerBy 32 = .ok (.iload 6, 2) := by decide +kernel
theorem dX11_mannerBy_34 : decode cX11_mannerBy 34 = .ok (.iload_n 1, 1) := by decide +kernel
theorem dX11_mannerBy_35 : decode cX11_mannerBy 35 = .ok (.iload_n 2, 1) := by decide +kernel
theorem dX11_mannerBy_36 : decode cX11_mannerBy 36 = .ok (.iload_n 3, 1) := by decide +kernel
theorem dX11_mannerBy_37 : decode cX11_mannerBy 37 = .ok (.iload 4, 2) := by decide +kernel
theorem dX11_mannerBy_39 : decode cX11_mannerBy 39 = .ok (.invokevirtual 332, 3) := by decide +kernel
theorem dX11_mannerBy_42 : decode cX11_mannerBy 42 = .ok (.ifCond .eq 19, 3) := by decide +kernel
theorem dX11_mannerBy_45 : decode cX11_mannerBy 45 = .ok (.aload_n 0, 1) := by decide +kernel
theorem dX11_mannerBy_46 : decode cX11_mannerBy 46 = .ok (.getfield 13, 3) := by decide +kernel
theorem dX11_mannerBy_49 : decode cX11_mannerBy 49 = .ok (.sipush 5441, 3) := by decide +kernel
theorem dX11_mannerBy_52 : decode cX11_mannerBy 52 = .ok (.iconst 3, 1) := by decide +kernel
theorem dX11_mannerBy_53 : decode cX11_mannerBy 53 = .ok (.iload 6, 2) := by decide +kernel
theorem dX11_mannerBy_55 : decode cX11_mannerBy 55 = .ok (.imul, 1) := by decide +kernel
theorem dX11_mannerBy_56 : decode cX11_mannerBy 56 = .ok (.iadd, 1) := by decide +kernel
theorem dX11_mannerBy_57 : decode cX11_mannerBy 57 = .ok (.iaload, 1) := by decide +kernel
theorem dX11_mannerBy_58 : decode cX11_mannerBy 58 = .ok (.goto 4, 3) := by decide +kernel
theorem dX11_mannerBy_61 : decode cX11_mannerBy 61 = .ok (.iconst 0, 1) := by decide +kernel
theorem dX11_mannerBy_62 : decode cX11_mannerBy 62 = .ok (.iadd, 1) := by decide +kernel
theorem dX11_mannerBy_63 : decode cX11_mannerBy 63 = .ok (.istore 5, 2) := by decide +kernel
theorem dX11_mannerBy_65 : decode cX11_mannerBy 65 = .ok (.iinc 6 1, 3) := by decide +kernel
theorem dX11_mannerBy_68 : decode cX11_mannerBy 68 = .ok (.goto (-62), 3) := by decide +kernel
theorem dX11_mannerBy_71 : decode cX11_mannerBy 71 = .ok (.iload 5, 2) := by decide +kernel
theorem dX11_mannerBy_73 : decode cX11_mannerBy 73 = .ok (.ireturn, 1) := by decide +kernel
theorem dX11_mannersCome_0 : decode cX11_mannersCome 0 = .ok (.iconst 0, 1) := by decide +kernel
theorem dX11_mannersCome_1 : decode cX11_mannersCome 1 = .ok (.istore_n 3, 1) := by decide +kernel
theorem dX11_mannersCome_2 : decode cX11_mannersCome 2 = .ok (.iload_n 3, 1) := by decide +kernel
theorem dX11_mannersCome_3 : decode cX11_mannersCome 3 = .ok (.iconst 2, 1) := by decide +kernel
theorem dX11_mannersCome_4 : decode cX11_mannersCome 4 = .ok (.aload_n 0, 1) := by decide +kernel
theorem dX11_mannersCome_5 : decode cX11_mannersCome 5 = .ok (.invokevirtual 118, 3) := by decide +kernel
theorem dX11_mannersCome_8 : decode cX11_mannersCome 8 = .ok (.imul, 1) := by decide +kernel
theorem dX11_mannersCome_9 : decode cX11_mannersCome 9 = .ok (.if_icmp .ge 76, 3) := by decide +kernel
theorem dX11_mannersCome_12 : decode cX11_mannersCome 12 = .ok (.aload_n 0, 1) := by decide +kernel
theorem dX11_mannersCome_13 : decode cX11_mannersCome 13 = .ok (.getfield 52, 3) := by decide +kernel
theorem dX11_mannersCome_16 : decode cX11_mannersCome 16 = .ok (.iload_n 3, 1) := by decide +kernel
theorem dX11_mannersCome_17 : decode cX11_mannersCome 17 = .ok (.aload_n 0, 1) := by decide +kernel
theorem dX11_mannersCome_18 : decode cX11_mannersCome 18 = .ok (.iload_n 1, 1) := by decide +kernel
theorem dX11_mannersCome_19 : decode cX11_mannersCome 19 = .ok (.iload_n 2, 1) := by decide +kernel
theorem dX11_mannersCome_20 : decode cX11_mannersCome 20 = .ok (.iload_n 3, 1) := by decide +kernel
theorem dX11_mannersCome_21 : decode cX11_mannersCome 21 = .ok (.iconst 2, 1) := by decide +kernel
theorem dX11_mannersCome_22 : decode cX11_mannersCome 22 = .ok (.idiv, 1) := by decide +kernel
theorem dX11_mannersCome_23 : decode cX11_mannersCome 23 = .ok (.iload_n 3, 1) := by decide +kernel
theorem dX11_mannersCome_24 : decode cX11_mannersCome 24 = .ok (.iconst 2, 1) := by decide +kernel
theorem dX11_mannersCome_25 : decode cX11_mannersCome 25 = .ok (.irem, 1) := by decide +kernel
theorem dX11_mannersCome_26 : decode cX11_mannersCome 26 = .ok (.iconst 1, 1) := by decide +kernel
theorem dX11_mannersCome_27 : decode cX11_mannersCome 27 = .ok (.if_icmp .ne 7, 3) := by decide +kernel
theorem dX11_mannersCome_30 : decode cX11_mannersCome 30 = .ok (.iconst 1, 1) := by decide +kernel
theorem dX11_mannersCome_31 : decode cX11_mannersCome 31 = .ok (.goto 4, 3) := by decide +kernel
theorem dX11_mannersCome_34 : decode cX11_mannersCome 34 = .ok (.iconst 0, 1) := by decide +kernel
theorem dX11_mannersCome_35 : decode cX11_mannersCome 35 = .ok (.invokevirtual 336, 3) := by decide +kernel
theorem dX11_mannersCome_38 : decode cX11_mannersCome 38 = .ok (.iastore, 1) := by decide +kernel
theorem dX11_mannersCome_39 : decode cX11_mannersCome 39 = .ok (.aload_n 0, 1) := by decide +kernel
theorem dX11_mannersCome_40 : decode cX11_mannersCome 40 = .ok (.getfield 55, 3) := by decide +kernel
theorem dX11_mannersCome_43 : decode cX11_mannersCome 43 = .ok (.iload_n 3, 1) := by decide +kernel
theorem dX11_mannersCome_44 : decode cX11_mannersCome 44 = .ok (.iconst 0, 1) := by decide +kernel
theorem dX11_mannersCome_45 : decode cX11_mannersCome 45 = .ok (.iastore, 1) := by decide +kernel
theorem dX11_mannersCome_46 : decode cX11_mannersCome 46 = .ok (.aload_n 0, 1) := by decide +kernel
theorem dX11_mannersCome_47 : decode cX11_mannersCome 47 = .ok (.getfield 52, 3) := by decide +kernel
theorem dX11_mannersCome_50 : decode cX11_mannersCome 50 = .ok (.aload_n 0, 1) := by decide +kernel
theorem dX11_mannersCome_51 : decode cX11_mannersCome 51 = .ok (.getfield 55, 3) := by decide +kernel
theorem dX11_mannersCome_54 : decode cX11_mannersCome 54 = .ok (.iload_n 3, 1) := by decide +kernel
theorem dX11_mannersCome_55 : decode cX11_mannersCome 55 = .ok (.iaload, 1) := by decide +kernel
theorem dX11_mannersCome_56 : decode cX11_mannersCome 56 = .ok (.iaload, 1) := by decide +kernel
theorem dX11_mannersCome_57 : decode cX11_mannersCome 57 = .ok (.aload_n 0, 1) := by decide +kernel
theorem dX11_mannersCome_58 : decode cX11_mannersCome 58 = .ok (.getfield 52, 3) := by decide +kernel
theorem dX11_mannersCome_61 : decode cX11_mannersCome 61 = .ok (.iload_n 3, 1) := by decide +kernel
theorem dX11_mannersCome_62 : decode cX11_mannersCome 62 = .ok (.iaload, 1) := by decide +kernel
theorem dX11_mannersCome_63 : decode cX11_mannersCome 63 = .ok (.if_icmp .eq 16, 3) := by decide +kernel
theorem dX11_mannersCome_66 : decode cX11_mannersCome 66 = .ok (.aload_n 0, 1) := by decide +kernel
theorem dX11_mannersCome_67 : decode cX11_mannersCome 67 = .ok (.getfield 55, 3) := by decide +kernel
theorem dX11_mannersCome_70 : decode cX11_mannersCome 70 = .ok (.iload_n 3, 1) := by decide +kernel
theorem dX11_mannersCome_71 : decode cX11_mannersCome 71 = .ok (.dup2, 1) := by decide +kernel
theorem dX11_mannersCome_72 : decode cX11_mannersCome 72 = .ok (.iaload, 1) := by decide +kernel
theorem dX11_mannersCome_73 : decode cX11_mannersCome 73 = .ok (.iconst 1, 1) := by decide +kernel
theorem dX11_mannersCome_74 : decode cX11_mannersCome 74 = .ok (.iadd, 1) := by decide +kernel
theorem dX11_mannersCome_75 : decode cX11_mannersCome 75 = .ok (.iastore, 1) := by decide +kernel
theorem dX11_mannersCome_76 : decode cX11_mannersCome 76 = .ok (.goto (-30), 3) := by decide +kernel
theorem dX11_mannersCome_79 : decode cX11_mannersCome 79 = .ok (.iinc 3 1, 3) := by decide +kernel
theorem dX11_mannersCome_82 : decode cX11_mannersCome 82 = .ok (.goto (-80), 3) := by decide +kernel
theorem dX11_mannersCome_85 : decode cX11_mannersCome 85 = .ok (.aload_n 0, 1) := by decide +kernel
theorem dX11_mannersCome_86 : decode cX11_mannersCome 86 = .ok (.iload_n 1, 1) := by decide +kernel
theorem dX11_mannersCome_87 : decode cX11_mannersCome 87 = .ok (.iload_n 1, 1) := by decide +kernel
theorem dX11_mannersCome_88 : decode cX11_mannersCome 88 = .ok (.invokevirtual 135, 3) := by decide +kernel
theorem dX11_mannersCome_91 : decode cX11_mannersCome 91 = .ok (.iconst 0, 1) := by decide +kernel
theorem dX11_mannersCome_92 : decode cX11_mannersCome 92 = .ok (.istore_n 3, 1) := by decide +kernel
theorem dX11_mannersCome_93 : decode cX11_mannersCome 93 = .ok (.iload_n 3, 1) := by decide +kernel
theorem dX11_mannersCome_94 : decode cX11_mannersCome 94 = .ok (.aload_n 0, 1) := by decide +kernel
theorem dX11_mannersCome_95 : decode cX11_mannersCome 95 = .ok (.invokevirtual 115, 3) := by decide +kernel
theorem dX11_mannersCome_98 : decode cX11_mannersCome 98 = .ok (.if_icmp .ge 63, 3) := by decide +kernel
theorem dX11_mannersCome_101 : decode cX11_mannersCome 101 = .ok (.aload_n 0, 1) := by decide +kernel
theorem dX11_mannersCome_102 : decode cX11_mannersCome 102 = .ok (.getfield 33, 3) := by decide +kernel
theorem dX11_mannersCome_105 : decode cX11_mannersCome 105 = .ok (.iload_n 3, 1) := by decide +kernel
theorem dX11_mannersCome_106 : decode cX11_mannersCome 106 = .ok (.aload_n 0, 1) := by decide +kernel
theorem dX11_mannersCome_107 : decode cX11_mannersCome 107 = .ok (.iload_n 3, 1) := by decide +kernel
theorem dX11_mannersCome_108 : decode cX11_mannersCome 108 = .ok (.invokevirtual 128, 3) := by decide +kernel
theorem dX11_mannersCome_111 : decode cX11_mannersCome 111 = .ok (.ifCond .eq 42, 3) := by decide +kernel
theorem dX11_mannersCome_114 : decode cX11_mannersCome 114 = .ok (.aload_n 0, 1) := by decide +kernel
theorem dX11_mannersCome_115 : decode cX11_mannersCome 115 = .ok (.getfield 55, 3) := by decide +kernel
theorem dX11_mannersCome_118 : decode cX11_mannersCome 118 = .ok (.iconst 2, 1) := by decide +kernel
theorem dX11_mannersCome_119 : decode cX11_mannersCome 119 = .ok (.aload_n 0, 1) := by decide +kernel
theorem dX11_mannersCome_120 : decode cX11_mannersCome 120 = .ok (.iload_n 2, 1) := by decide +kernel
theorem dX11_mannersCome_121 : decode cX11_mannersCome 121 = .ok (.iload_n 3, 1) := by decide +kernel
theorem dX11_mannersCome_122 : decode cX11_mannersCome 122 = .ok (.invokevirtual 124, 3) := by decide +kernel
theorem dX11_mannersCome_125 : decode cX11_mannersCome 125 = .ok (.imul, 1) := by decide +kernel
theorem dX11_mannersCome_126 : decode cX11_mannersCome 126 = .ok (.aload_n 0, 1) := by decide +kernel
theorem dX11_mannersCome_127 : decode cX11_mannersCome 127 = .ok (.getfield 30, 3) := by decide +kernel
theorem dX11_mannersCome_130 : decode cX11_mannersCome 130 = .ok (.aload_n 0, 1) := by decide +kernel
theorem dX11_mannersCome_131 : decode cX11_mannersCome 131 = .ok (.iload_n 1, 1) := by decide +kernel
theorem dX11_mannersCome_132 : decode cX11_mannersCome 132 = .ok (.iload_n 3, 1) := by decide +kernel
theorem dX11_mannersCome_133 : decode cX11_mannersCome 133 = .ok (.invokevirtual 132, 3) := by decide +kernel
theorem dX11_mannersCome_136 : decode cX11_mannersCome 136 = .ok (.iaload, 1) := by decide +kernel
theorem dX11_mannersCome_137 : decode cX11_mannersCome 137 = .ok (.invokestatic 143, 3) := by decide +kernel
theorem dX11_mannersCome_140 : decode cX11_mannersCome 140 = .ok (.ifCond .eq 7, 3) := by decide +kernel
theorem dX11_mannersCome_143 : decode cX11_mannersCome 143 = .ok (.iconst 1, 1) := by decide +kernel
theorem dX11_mannersCome_144 : decode cX11_mannersCome 144 = .ok (.goto 4, 3) := by decide +kernel
theorem dX11_mannersCome_147 : decode cX11_mannersCome 147 = .ok (.iconst 0, 1) := by decide +kernel
theorem dX11_mannersCome_148 : decode cX11_mannersCome 148 = .ok (.iadd, 1) := by decide +kernel
theorem dX11_mannersCome_149 : decode cX11_mannersCome 149 = .ok (.iaload, 1) := by decide +kernel
theorem dX11_mannersCome_150 : decode cX11_mannersCome 150 = .ok (.goto 4, 3) := by decide +kernel
theorem dX11_mannersCome_153 : decode cX11_mannersCome 153 = .ok (.iconst 0, 1) := by decide +kernel
theorem dX11_mannersCome_154 : decode cX11_mannersCome 154 = .ok (.iastore, 1) := by decide +kernel
theorem dX11_mannersCome_155 : decode cX11_mannersCome 155 = .ok (.iinc 3 1, 3) := by decide +kernel
theorem dX11_mannersCome_158 : decode cX11_mannersCome 158 = .ok (.goto (-65), 3) := by decide +kernel
theorem dX11_mannersCome_161 : decode cX11_mannersCome 161 = .ok (.return_, 1) := by decide +kernel
theorem dX11_mannerIn_0 : decode cX11_mannerIn 0 = .ok (.aload_n 0, 1) := by decide +kernel
theorem dX11_mannerIn_1 : decode cX11_mannerIn 1 = .ok (.iload_n 1, 1) := by decide +kernel
theorem dX11_mannerIn_2 : decode cX11_mannerIn 2 = .ok (.iload_n 2, 1) := by decide +kernel
theorem dX11_mannerIn_3 : decode cX11_mannerIn 3 = .ok (.aload_n 0, 1) := by decide +kernel
theorem dX11_mannerIn_4 : decode cX11_mannerIn 4 = .ok (.iload_n 2, 1) := by decide +kernel
theorem dX11_mannerIn_5 : decode cX11_mannerIn 5 = .ok (.iload_n 3, 1) := by decide +kernel
theorem dX11_mannerIn_6 : decode cX11_mannerIn 6 = .ok (.invokevirtual 124, 3) := by decide +kernel
theorem dX11_mannerIn_9 : decode cX11_mannerIn 9 = .ok (.aload_n 0, 1) := by decide +kernel
theorem dX11_mannerIn_10 : decode cX11_mannerIn 10 = .ok (.iload_n 1, 1) := by decide +kernel
theorem dX11_mannerIn_11 : decode cX11_mannerIn 11 = .ok (.iload_n 3, 1) := by decide +kernel
theorem dX11_mannerIn_12 : decode cX11_mannerIn 12 = .ok (.invokevirtual 146, 3) := by decide +kernel
theorem dX11_mannerIn_15 : decode cX11_mannerIn 15 = .ok (.invokevirtual 336, 3) := by decide +kernel
theorem dX11_mannerIn_18 : decode cX11_mannerIn 18 = .ok (.ireturn, 1) := by decide +kernel
theorem dX11_tells_0 : decode cX11_tells 0 = .ok (.sipush 299, 3) := by decide +kernel
theorem dX11_tells_3 : decode cX11_tells 3 = .ok (.istore 5, 2) := by decide +kernel
theorem dX11_tells_5 : decode cX11_tells 5 = .ok (.iload 5, 2) := by decide +kernel
theorem dX11_tells_7 : decode cX11_tells 7 = .ok (.iconst 5, 1) := by decide +kernel
theorem dX11_tells_8 : decode cX11_tells 8 = .ok (.if_icmp .lt 33, 3) := by decide +kernel
theorem dX11_tells_11 : decode cX11_tells 11 = .ok (.aload_n 0, 1) := by decide +kernel
theorem dX11_tells_12 : decode cX11_tells 12 = .ok (.getfield 13, 3) := by decide +kernel
theorem dX11_tells_15 : decode cX11_tells 15 = .ok (.sipush 5140, 3) := by decide +kernel
theorem dX11_tells_18 : decode cX11_tells 18 = .ok (.iload 5, 2) := by decide +kernel
theorem dX11_tells_20 : decode cX11_tells 20 = .ok (.iadd, 1) := by decide +kernel
theorem dX11_tells_21 : decode cX11_tells 21 = .ok (.aload_n 0, 1) := by decide +kernel
theorem dX11_tells_22 : decode cX11_tells 22 = .ok (.getfield 13, 3) := by decide +kernel
theorem dX11_tells_25 : decode cX11_tells 25 = .ok (.sipush 5140, 3) := by decide +kernel
theorem dX11_tells_28 : decode cX11_tells 28 = .ok (.iload 5, 2) := by decide +kernel
theorem dX11_tells_30 : decode cX11_tells 30 = .ok (.iadd, 1) := by decide +kernel
theorem dX11_tells_31 : decode cX11_tells 31 = .ok (.iconst 5, 1) := by decide +kernel
theorem dX11_tells_32 : decode cX11_tells 32 = .ok (.isub, 1) := by decide +kernel
theorem dX11_tells_33 : decode cX11_tells 33 = .ok (.iaload, 1) := by decide +kernel
theorem dX11_tells_34 : decode cX11_tells 34 = .ok (.iastore, 1) := by decide +kernel
theorem dX11_tells_35 : decode cX11_tells 35 = .ok (.iinc 5 (-1), 3) := by decide +kernel
theorem dX11_tells_38 : decode cX11_tells 38 = .ok (.goto (-33), 3) := by decide +kernel
theorem dX11_tells_41 : decode cX11_tells 41 = .ok (.aload_n 0, 1) := by decide +kernel
theorem dX11_tells_42 : decode cX11_tells 42 = .ok (.getfield 13, 3) := by decide +kernel
theorem dX11_tells_45 : decode cX11_tells 45 = .ok (.sipush 5140, 3) := by decide +kernel
theorem dX11_tells_48 : decode cX11_tells 48 = .ok (.iload_n 1, 1) := by decide +kernel
theorem dX11_tells_49 : decode cX11_tells 49 = .ok (.iastore, 1) := by decide +kernel
theorem dX11_tells_50 : decode cX11_tells 50 = .ok (.aload_n 0, 1) := by decide +kernel
theorem dX11_tells_51 : decode cX11_tells 51 = .ok (.getfield 13, 3) := by decide +kernel
theorem dX11_tells_54 : decode cX11_tells 54 = .ok (.sipush 5141, 3) := by decide +kernel
theorem dX11_tells_57 : decode cX11_tells 57 = .ok (.iload_n 2, 1) := by decide +kernel
theorem dX11_tells_58 : decode cX11_tells 58 = .ok (.iastore, 1) := by decide +kernel
theorem dX11_tells_59 : decode cX11_tells 59 = .ok (.aload_n 0, 1) := by decide +kernel
theorem dX11_tells_60 : decode cX11_tells 60 = .ok (.getfield 13, 3) := by decide +kernel
theorem dX11_tells_63 : decode cX11_tells 63 = .ok (.sipush 5142, 3) := by decide +kernel
theorem dX11_tells_66 : decode cX11_tells 66 = .ok (.iload_n 3, 1) := by decide +kernel
theorem dX11_tells_67 : decode cX11_tells 67 = .ok (.iastore, 1) := by decide +kernel
theorem dX11_tells_68 : decode cX11_tells 68 = .ok (.aload_n 0, 1) := by decide +kernel
theorem dX11_tells_69 : decode cX11_tells 69 = .ok (.getfield 13, 3) := by decide +kernel
theorem dX11_tells_72 : decode cX11_tells 72 = .ok (.sipush 5143, 3) := by decide +kernel
theorem dX11_tells_75 : decode cX11_tells 75 = .ok (.iload 4, 2) := by decide +kernel
theorem dX11_tells_77 : decode cX11_tells 77 = .ok (.iastore, 1) := by decide +kernel
theorem dX11_tells_78 : decode cX11_tells 78 = .ok (.aload_n 0, 1) := by decide +kernel
theorem dX11_tells_79 : decode cX11_tells 79 = .ok (.getfield 13, 3) := by decide +kernel
theorem dX11_tells_82 : decode cX11_tells 82 = .ok (.sipush 5144, 3) := by decide +kernel
theorem dX11_tells_85 : decode cX11_tells 85 = .ok (.aload_n 0, 1) := by decide +kernel
theorem dX11_tells_86 : decode cX11_tells 86 = .ok (.aload_n 0, 1) := by decide +kernel
theorem dX11_tells_87 : decode cX11_tells 87 = .ok (.invokevirtual 121, 3) := by decide +kernel
theorem dX11_tells_90 : decode cX11_tells 90 = .ok (.invokevirtual 340, 3) := by decide +kernel
theorem dX11_tells_93 : decode cX11_tells 93 = .ok (.iastore, 1) := by decide +kernel
theorem dX11_tells_94 : decode cX11_tells 94 = .ok (.aload_n 0, 1) := by decide +kernel
theorem dX11_tells_95 : decode cX11_tells 95 = .ok (.getfield 13, 3) := by decide +kernel
theorem dX11_tells_98 : decode cX11_tells 98 = .ok (.bipush 9, 2) := by decide +kernel
theorem dX11_tells_100 : decode cX11_tells 100 = .ok (.bipush 60, 2) := by decide +kernel
theorem dX11_tells_102 : decode cX11_tells 102 = .ok (.aload_n 0, 1) := by decide +kernel
theorem dX11_tells_103 : decode cX11_tells 103 = .ok (.getfield 13, 3) := by decide +kernel
theorem dX11_tells_106 : decode cX11_tells 106 = .ok (.bipush 9, 2) := by decide +kernel
theorem dX11_tells_108 : decode cX11_tells 108 = .ok (.iaload, 1) := by decide +kernel
theorem dX11_tells_109 : decode cX11_tells 109 = .ok (.iconst 1, 1) := by decide +kernel
theorem dX11_tells_110 : decode cX11_tells 110 = .ok (.iadd, 1) := by decide +kernel
theorem dX11_tells_111 : decode cX11_tells 111 = .ok (.invokestatic 344, 3) := by decide +kernel
theorem dX11_tells_114 : decode cX11_tells 114 = .ok (.iastore, 1) := by decide +kernel
theorem dX11_tells_115 : decode cX11_tells 115 = .ok (.return_, 1) := by decide +kernel
theorem dX11_treats_0 : decode cX11_treats 0 = .ok (.aload_n 0, 1) := by decide +kernel
theorem dX11_treats_1 : decode cX11_treats 1 = .ok (.iload_n 1, 1) := by decide +kernel
theorem dX11_treats_2 : decode cX11_treats 2 = .ok (.iload_n 2, 1) := by decide +kernel
theorem dX11_treats_3 : decode cX11_treats 3 = .ok (.aload_n 0, 1) := by decide +kernel
theorem dX11_treats_4 : decode cX11_treats 4 = .ok (.invokevirtual 121, 3) := by decide +kernel
theorem dX11_treats_7 : decode cX11_treats 7 = .ok (.invokevirtual 349, 3) := by decide +kernel
theorem dX11_treats_10 : decode cX11_treats 10 = .ok (.istore 4, 2) := by decide +kernel
theorem dX11_treats_12 : decode cX11_treats 12 = .ok (.aload_n 0, 1) := by decide +kernel
theorem dX11_treats_13 : decode cX11_treats 13 = .ok (.iload_n 1, 1) := by decide +kernel
theorem dX11_treats_14 : decode cX11_treats 14 = .ok (.iload_n 2, 1) := by decide +kernel
theorem dX11_treats_15 : decode cX11_treats 15 = .ok (.invokevirtual 352, 3) := by decide +kernel
theorem dX11_treats_18 : decode cX11_treats 18 = .ok (.iconst 0, 1) := by decide +kernel
theorem dX11_treats_19 : decode cX11_treats 19 = .ok (.istore 5, 2) := by decide +kernel
theorem dX11_treats_21 : decode cX11_treats 21 = .ok (.iload 5, 2) := by decide +kernel
theorem dX11_treats_23 : decode cX11_treats 23 = .ok (.aload_n 0, 1) := by decide +kernel
theorem dX11_treats_24 : decode cX11_treats 24 = .ok (.invokevirtual 107, 3) := by decide +kernel
theorem dX11_treats_27 : decode cX11_treats 27 = .ok (.if_icmp .ge 25, 3) := by decide +kernel
theorem dX11_treats_30 : decode cX11_treats 30 = .ok (.iload_n 3, 1) := by decide +kernel
theorem dX11_treats_31 : decode cX11_treats 31 = .ok (.ifCond .ne 9, 3) := by decide +kernel
theorem dX11_treats_34 : decode cX11_treats 34 = .ok (.iload 5, 2) := by decide +kernel
theorem dX11_treats_36 : decode cX11_treats 36 = .ok (.iload_n 2, 1) := by decide +kernel
theorem dX11_treats_37 : decode cX11_treats 37 = .ok (.if_icmp .ne 9, 3) := by decide +kernel
theorem dX11_treats_40 : decode cX11_treats 40 = .ok (.aload_n 0, 1) := by decide +kernel
theorem dX11_treats_41 : decode cX11_treats 41 = .ok (.iload 5, 2) := by decide +kernel
theorem dX11_treats_43 : decode cX11_treats 43 = .ok (.invokevirtual 153, 3) := by decide +kernel
theorem dX11_treats_46 : decode cX11_treats 46 = .ok (.iinc 5 1, 3) := by decide +kernel
theorem dX11_treats_49 : decode cX11_treats 49 = .ok (.goto (-28), 3) := by decide +kernel
theorem dX11_treats_52 : decode cX11_treats 52 = .ok (.aload_n 0, 1) := by decide +kernel
theorem dX11_treats_53 : decode cX11_treats 53 = .ok (.iload_n 3, 1) := by decide +kernel
theorem dX11_treats_54 : decode cX11_treats 54 = .ok (.ifCond .eq 7, 3) := by decide +kernel
theorem dX11_treats_57 : decode cX11_treats 57 = .ok (.iconst 1, 1) := by decide +kernel
theorem dX11_treats_58 : decode cX11_treats 58 = .ok (.goto 4, 3) := by decide +kernel
theorem dX11_treats_61 : decode cX11_treats 61 = .ok (.iconst 0, 1) := by decide +kernel
theorem dX11_treats_62 : decode cX11_treats 62 = .ok (.iload_n 1, 1) := by decide +kernel
theorem dX11_treats_63 : decode cX11_treats 63 = .ok (.iload_n 2, 1) := by decide +kernel
theorem dX11_treats_64 : decode cX11_treats 64 = .ok (.iload 4, 2) := by decide +kernel
theorem dX11_treats_66 : decode cX11_treats 66 = .ok (.invokevirtual 355, 3) := by decide +kernel
theorem dX11_treats_69 : decode cX11_treats 69 = .ok (.iload 4, 2) := by decide +kernel
theorem dX11_treats_71 : decode cX11_treats 71 = .ok (.ireturn, 1) := by decide +kernel
theorem dX11_treat_0 : decode cX11_treat 0 = .ok (.aload_n 0, 1) := by decide +kernel
theorem dX11_treat_1 : decode cX11_treat 1 = .ok (.iconst 0, 1) := by decide +kernel
theorem dX11_treat_2 : decode cX11_treat 2 = .ok (.putfield 3, 3) := by decide +kernel
theorem dX11_treat_5 : decode cX11_treat 5 = .ok (.aload_n 0, 1) := by decide +kernel
theorem dX11_treat_6 : decode cX11_treat 6 = .ok (.aload_n 0, 1) := by decide +kernel
theorem dX11_treat_7 : decode cX11_treat 7 = .ok (.iload_n 1, 1) := by decide +kernel
theorem dX11_treat_8 : decode cX11_treat 8 = .ok (.invokevirtual 359, 3) := by decide +kernel
theorem dX11_treat_11 : decode cX11_treat 11 = .ok (.ifCond .ne 11, 3) := by decide +kernel
theorem dX11_treat_14 : decode cX11_treat 14 = .ok (.aload_n 0, 1) := by decide +kernel
theorem dX11_treat_15 : decode cX11_treat 15 = .ok (.iload_n 2, 1) := by decide +kernel
theorem dX11_treat_16 : decode cX11_treat 16 = .ok (.invokevirtual 359, 3) := by decide +kernel
theorem dX11_treat_19 : decode cX11_treat 19 = .ok (.ifCond .eq 7, 3) := by decide +kernel
theorem dX11_treat_22 : decode cX11_treat 22 = .ok (.iconst 1, 1) := by decide +kernel
theorem dX11_treat_23 : decode cX11_treat 23 = .ok (.goto 4, 3) := by decide +kernel
theorem dX11_treat_26 : decode cX11_treat 26 = .ok (.iconst 0, 1) := by decide +kernel
theorem dX11_treat_27 : decode cX11_treat 27 = .ok (.iconst 1, 1) := by decide +kernel
theorem dX11_treat_28 : decode cX11_treat 28 = .ok (.invokevirtual 322, 3) := by decide +kernel
theorem dX11_treat_31 : decode cX11_treat 31 = .ok (.ifCond .ne 43, 3) := by decide +kernel
theorem dX11_treat_34 : decode cX11_treat 34 = .ok (.aload_n 0, 1) := by decide +kernel
theorem dX11_treat_35 : decode cX11_treat 35 = .ok (.iload_n 1, 1) := by decide +kernel
theorem dX11_treat_36 : decode cX11_treat 36 = .ok (.iload_n 2, 1) := by decide +kernel
theorem dX11_treat_37 : decode cX11_treat 37 = .ok (.if_icmp .ne 7, 3) := by decide +kernel
theorem dX11_treat_40 : decode cX11_treat 40 = .ok (.iconst 1, 1) := by decide +kernel
theorem dX11_treat_41 : decode cX11_treat 41 = .ok (.goto 4, 3) := by decide +kernel
theorem dX11_treat_44 : decode cX11_treat 44 = .ok (.iconst 0, 1) := by decide +kernel
theorem dX11_treat_45 : decode cX11_treat 45 = .ok (.iconst 2, 1) := by decide +kernel
theorem dX11_treat_46 : decode cX11_treat 46 = .ok (.invokevirtual 322, 3) := by decide +kernel
theorem dX11_treat_49 : decode cX11_treat 49 = .ok (.ifCond .ne 25, 3) := by decide +kernel
theorem dX11_treat_52 : decode cX11_treat 52 = .ok (.aload_n 0, 1) := by decide +kernel
theorem dX11_treat_53 : decode cX11_treat 53 = .ok (.aload_n 0, 1) := by decide +kernel
theorem dX11_treat_54 : decode cX11_treat 54 = .ok (.iload_n 1, 1) := by decide +kernel
theorem dX11_treat_55 : decode cX11_treat 55 = .ok (.iload_n 2, 1) := by decide +kernel
theorem dX11_treat_56 : decode cX11_treat 56 = .ok (.invokevirtual 325, 3) := by decide +kernel
theorem dX11_treat_59 : decode cX11_treat 59 = .ok (.ifCond .ne 7, 3) := by decide +kernel
theorem dX11_treat_62 : decode cX11_treat 62 = .ok (.iconst 1, 1) := by decide +kernel
theorem dX11_treat_63 : decode cX11_treat 63 = .ok (.goto 4, 3) := by decide +kernel
theorem dX11_treat_66 : decode cX11_treat 66 = .ok (.iconst 0, 1) := by decide +kernel
theorem dX11_treat_67 : decode cX11_treat 67 = .ok (.iconst 3, 1) := by decide +kernel
theorem dX11_treat_68 : decode cX11_treat 68 = .ok (.invokevirtual 322, 3) := by decide +kernel
theorem dX11_treat_71 : decode cX11_treat 71 = .ok (.ifCond .eq 5, 3) := by decide +kernel
theorem dX11_treat_74 : decode cX11_treat 74 = .ok (.iconst 0, 1) := by decide +kernel
theorem dX11_treat_75 : decode cX11_treat 75 = .ok (.ireturn, 1) := by decide +kernel
theorem dX11_treat_76 : decode cX11_treat 76 = .ok (.aload_n 0, 1) := by decide +kernel
theorem dX11_treat_77 : decode cX11_treat 77 = .ok (.invokevirtual 362, 3) := by decide +kernel
theorem dX11_treat_80 : decode cX11_treat 80 = .ok (.aload_n 0, 1) := by decide +kernel
theorem dX11_treat_81 : decode cX11_treat 81 = .ok (.iload_n 1, 1) := by decide +kernel
theorem dX11_treat_82 : decode cX11_treat 82 = .ok (.iload_n 2, 1) := by decide +kernel
theorem dX11_treat_83 : decode cX11_treat 83 = .ok (.iload_n 3, 1) := by decide +kernel
theorem dX11_treat_84 : decode cX11_treat 84 = .ok (.invokevirtual 365, 3) := by decide +kernel
theorem dX11_treat_87 : decode cX11_treat 87 = .ok (.ireturn, 1) := by decide +kernel
theorem dX11_turn_0 : decode cX11_turn 0 = .ok (.aload_n 0, 1) := by decide +kernel
theorem dX11_turn_1 : decode cX11_turn 1 = .ok (.iconst 0, 1) := by decide +kernel
theorem dX11_turn_2 : decode cX11_turn 2 = .ok (.putfield 3, 3) := by decide +kernel
theorem dX11_turn_5 : decode cX11_turn 5 = .ok (.aload_n 0, 1) := by decide +kernel
theorem dX11_turn_6 : decode cX11_turn 6 = .ok (.aload_n 0, 1) := by decide +kernel
theorem dX11_turn_7 : decode cX11_turn 7 = .ok (.iload_n 1, 1) := by decide +kernel
theorem dX11_turn_8 : decode cX11_turn 8 = .ok (.invokevirtual 359, 3) := by decide +kernel
theorem dX11_turn_11 : decode cX11_turn 11 = .ok (.ifCond .ne 11, 3) := by decide +kernel
theorem dX11_turn_14 : decode cX11_turn 14 = .ok (.aload_n 0, 1) := by decide +kernel
theorem dX11_turn_15 : decode cX11_turn 15 = .ok (.iload_n 2, 1) := by decide +kernel
theorem dX11_turn_16 : decode cX11_turn 16 = .ok (.invokevirtual 359, 3) := by decide +kernel
theorem dX11_turn_19 : decode cX11_turn 19 = .ok (.ifCond .eq 7, 3) := by decide +kernel
theorem dX11_turn_22 : decode cX11_turn 22 = .ok (.iconst 1, 1) := by decide +kernel
theorem dX11_turn_23 : decode cX11_turn 23 = .ok (.goto 4, 3) := by decide +kernel
theorem dX11_turn_26 : decode cX11_turn 26 = .ok (.iconst 0, 1) := by decide +kernel
theorem dX11_turn_27 : decode cX11_turn 27 = .ok (.iconst 1, 1) := by decide +kernel
theorem dX11_turn_28 : decode cX11_turn 28 = .ok (.invokevirtual 322, 3) := by decide +kernel
theorem dX11_turn_31 : decode cX11_turn 31 = .ok (.ifCond .eq 5, 3) := by decide +kernel
theorem dX11_turn_34 : decode cX11_turn 34 = .ok (.iconst 0, 1) := by decide +kernel
theorem dX11_turn_35 : decode cX11_turn 35 = .ok (.ireturn, 1) := by decide +kernel
theorem dX11_turn_36 : decode cX11_turn 36 = .ok (.aload_n 0, 1) := by decide +kernel
theorem dX11_turn_37 : decode cX11_turn 37 = .ok (.invokevirtual 362, 3) := by decide +kernel
theorem dX11_turn_40 : decode cX11_turn 40 = .ok (.aload_n 0, 1) := by decide +kernel
theorem dX11_turn_41 : decode cX11_turn 41 = .ok (.iload_n 1, 1) := by decide +kernel
theorem dX11_turn_42 : decode cX11_turn 42 = .ok (.iload_n 2, 1) := by decide +kernel
theorem dX11_turn_43 : decode cX11_turn 43 = .ok (.invokevirtual 250, 3) := by decide +kernel
theorem dX11_turn_46 : decode cX11_turn 46 = .ok (.aload_n 0, 1) := by decide +kernel
theorem dX11_turn_47 : decode cX11_turn 47 = .ok (.iconst 2, 1) := by decide +kernel
theorem dX11_turn_48 : decode cX11_turn 48 = .ok (.iload_n 1, 1) := by decide +kernel
theorem dX11_turn_49 : decode cX11_turn 49 = .ok (.iload_n 2, 1) := by decide +kernel
theorem dX11_turn_50 : decode cX11_turn 50 = .ok (.aload_n 0, 1) := by decide +kernel
theorem dX11_turn_51 : decode cX11_turn 51 = .ok (.iload_n 2, 1) := by decide +kernel
theorem dX11_turn_52 : decode cX11_turn 52 = .ok (.invokevirtual 369, 3) := by decide +kernel
theorem dX11_turn_55 : decode cX11_turn 55 = .ok (.invokevirtual 355, 3) := by decide +kernel
theorem dX11_turn_58 : decode cX11_turn 58 = .ok (.aload_n 0, 1) := by decide +kernel
theorem dX11_turn_59 : decode cX11_turn 59 = .ok (.iload_n 2, 1) := by decide +kernel
theorem dX11_turn_60 : decode cX11_turn 60 = .ok (.invokevirtual 369, 3) := by decide +kernel
theorem dX11_turn_63 : decode cX11_turn 63 = .ok (.ireturn, 1) := by decide +kernel
theorem dX11_ask_0 : decode cX11_ask 0 = .ok (.aload_n 0, 1) := by decide +kernel
theorem dX11_ask_1 : decode cX11_ask 1 = .ok (.iconst 0, 1) := by decide +kernel
theorem dX11_ask_2 : decode cX11_ask 2 = .ok (.putfield 3, 3) := by decide +kernel
theorem dX11_ask_5 : decode cX11_ask 5 = .ok (.aload_n 0, 1) := by decide +kernel
theorem dX11_ask_6 : decode cX11_ask 6 = .ok (.aload_n 0, 1) := by decide +kernel
theorem dX11_ask_7 : decode cX11_ask 7 = .ok (.iload_n 1, 1) := by decide +kernel
theorem dX11_ask_8 : decode cX11_ask 8 = .ok (.invokevirtual 359, 3) := by decide +kernel
theorem dX11_ask_11 : decode cX11_ask 11 = .ok (.iconst 1, 1) := by decide +kernel
theorem dX11_ask_12 : decode cX11_ask 12 = .ok (.invokevirtual 322, 3) := by decide +kernel
theorem dX11_ask_15 : decode cX11_ask 15 = .ok (.ifCond .eq 5, 3) := by decide +kernel
theorem dX11_ask_18 : decode cX11_ask 18 = .ok (.iconst 0, 1) := by decide +kernel
theorem dX11_ask_19 : decode cX11_ask 19 = .ok (.ireturn, 1) := by decide +kernel
theorem dX11_ask_20 : decode cX11_ask 20 = .ok (.aload_n 0, 1) := by decide +kernel
theorem dX11_ask_21 : decode cX11_ask 21 = .ok (.invokevirtual 362, 3) := by decide +kernel
theorem dX11_ask_24 : decode cX11_ask 24 = .ok (.aload_n 0, 1) := by decide +kernel
theorem dX11_ask_25 : decode cX11_ask 25 = .ok (.iload_n 1, 1) := by decide +kernel
theorem dX11_ask_26 : decode cX11_ask 26 = .ok (.iload_n 1, 1) := by decide +kernel
theorem dX11_ask_27 : decode cX11_ask 27 = .ok (.invokevirtual 135, 3) := by decide +kernel
theorem dX11_ask_30 : decode cX11_ask 30 = .ok (.iconst 0, 1) := by decide +kernel
theorem dX11_ask_31 : decode cX11_ask 31 = .ok (.istore_n 2, 1) := by decide +kernel
theorem dX11_ask_32 : decode cX11_ask 32 = .ok (.iload_n 2, 1) := by decide +kernel
theorem dX11_ask_33 : decode cX11_ask 33 = .ok (.aload_n 0, 1) := by decide +kernel
theorem dX11_ask_34 : decode cX11_ask 34 = .ok (.invokevirtual 115, 3) := by decide +kernel
theorem dX11_ask_37 : decode cX11_ask 37 = .ok (.if_icmp .ge 45, 3) := by decide +kernel
theorem dX11_ask_40 : decode cX11_ask 40 = .ok (.aload_n 0, 1) := by decide +kernel
theorem dX11_ask_41 : decode cX11_ask 41 = .ok (.getfield 33, 3) := by decide +kernel
theorem dX11_ask_44 : decode cX11_ask 44 = .ok (.iload_n 2, 1) := by decide +kernel
theorem dX11_ask_45 : decode cX11_ask 45 = .ok (.aload_n 0, 1) := by decide +kernel
theorem dX11_ask_46 : decode cX11_ask 46 = .ok (.iload_n 2, 1) := by decide +kernel
theorem dX11_ask_47 : decode cX11_ask 47 = .ok (.invokevirtual 128, 3) := by decide +kernel
theorem dX11_ask_50 : decode cX11_ask 50 = .ok (.ifCond .eq 24, 3) := by decide +kernel
theorem dX11_ask_53 : decode cX11_ask 53 = .ok (.aload_n 0, 1) := by decide +kernel
theorem dX11_ask_54 : decode cX11_ask 54 = .ok (.getfield 30, 3) := by decide +kernel
theorem dX11_ask_57 : decode cX11_ask 57 = .ok (.aload_n 0, 1) := by decide +kernel
theorem dX11_ask_58 : decode cX11_ask 58 = .ok (.iload_n 1, 1) := by decide +kernel
theorem dX11_ask_59 : decode cX11_ask 59 = .ok (.iload_n 2, 1) := by decide +kernel
theorem dX11_ask_60 : decode cX11_ask 60 = .ok (.invokevirtual 132, 3) := by decide +kernel
theorem dX11_ask_63 : decode cX11_ask 63 = .ok (.iaload, 1) := by decide +kernel
theorem dX11_ask_64 : decode cX11_ask 64 = .ok (.invokestatic 143, 3) := by decide +kernel
theorem dX11_ask_67 : decode cX11_ask 67 = .ok (.ifCond .eq 7, 3) := by decide +kernel
theorem dX11_ask_70 : decode cX11_ask 70 = .ok (.iconst 1, 1) := by decide +kernel
theorem dX11_ask_71 : decode cX11_ask 71 = .ok (.goto 4, 3) := by decide +kernel
theorem dX11_ask_74 : decode cX11_ask 74 = .ok (.iconst 0, 1) := by decide +kernel
theorem dX11_ask_75 : decode cX11_ask 75 = .ok (.iastore, 1) := by decide +kernel
theorem dX11_ask_76 : decode cX11_ask 76 = .ok (.iinc 2 1, 3) := by decide +kernel
theorem dX11_ask_79 : decode cX11_ask 79 = .ok (.goto (-47), 3) := by decide +kernel
theorem dX11_ask_82 : decode cX11_ask 82 = .ok (.aload_n 0, 1) := by decide +kernel
theorem dX11_ask_83 : decode cX11_ask 83 = .ok (.getfield 33, 3) := by decide +kernel
theorem dX11_ask_86 : decode cX11_ask 86 = .ok (.aload_n 0, 1) := by decide +kernel
theorem dX11_ask_87 : decode cX11_ask 87 = .ok (.invokevirtual 121, 3) := by decide +kernel
theorem dX11_ask_90 : decode cX11_ask 90 = .ok (.iaload, 1) := by decide +kernel
theorem dX11_ask_91 : decode cX11_ask 91 = .ok (.iconst 1, 1) := by decide +kernel
theorem dX11_ask_92 : decode cX11_ask 92 = .ok (.if_icmp .ne 7, 3) := by decide +kernel
theorem dX11_ask_95 : decode cX11_ask 95 = .ok (.iconst 1, 1) := by decide +kernel
theorem dX11_ask_96 : decode cX11_ask 96 = .ok (.goto 4, 3) := by decide +kernel
theorem dX11_ask_99 : decode cX11_ask 99 = .ok (.iconst 0, 1) := by decide +kernel
theorem dX11_ask_100 : decode cX11_ask 100 = .ok (.istore_n 2, 1) := by decide +kernel
theorem dX11_ask_101 : decode cX11_ask 101 = .ok (.aload_n 0, 1) := by decide +kernel
theorem dX11_ask_102 : decode cX11_ask 102 = .ok (.invokevirtual 206, 3) := by decide +kernel
theorem dX11_ask_105 : decode cX11_ask 105 = .ok (.aload_n 0, 1) := by decide +kernel
theorem dX11_ask_106 : decode cX11_ask 106 = .ok (.iconst 3, 1) := by decide +kernel
theorem dX11_ask_107 : decode cX11_ask 107 = .ok (.iload_n 1, 1) := by decide +kernel
theorem dX11_ask_108 : decode cX11_ask 108 = .ok (.iconst (-1), 1) := by decide +kernel
theorem dX11_ask_109 : decode cX11_ask 109 = .ok (.iload_n 2, 1) := by decide +kernel
theorem dX11_ask_110 : decode cX11_ask 110 = .ok (.ifCond .eq 7, 3) := by decide +kernel
theorem dX11_ask_113 : decode cX11_ask 113 = .ok (.iconst 1, 1) := by decide +kernel
theorem dX11_ask_114 : decode cX11_ask 114 = .ok (.goto 4, 3) := by decide +kernel
theorem dX11_ask_117 : decode cX11_ask 117 = .ok (.iconst 0, 1) := by decide +kernel
theorem dX11_ask_118 : decode cX11_ask 118 = .ok (.invokevirtual 355, 3) := by decide +kernel
theorem dX11_ask_121 : decode cX11_ask 121 = .ok (.iload_n 2, 1) := by decide +kernel
theorem dX11_ask_122 : decode cX11_ask 122 = .ok (.ireturn, 1) := by decide +kernel
theorem dX11_says_0 : decode cX11_says 0 = .ok (.iconst 0, 1) := by decide +kernel
theorem dX11_says_1 : decode cX11_says 1 = .ok (.istore_n 1, 1) := by decide +kernel
theorem dX11_says_2 : decode cX11_says 2 = .ok (.iload_n 1, 1) := by decide +kernel
theorem dX11_says_3 : decode cX11_says 3 = .ok (.aload_n 0, 1) := by decide +kernel
theorem dX11_says_4 : decode cX11_says 4 = .ok (.invokevirtual 115, 3) := by decide +kernel
theorem dX11_says_7 : decode cX11_says 7 = .ok (.if_icmp .ge 16, 3) := by decide +kernel
theorem dX11_says_10 : decode cX11_says 10 = .ok (.aload_n 0, 1) := by decide +kernel
theorem dX11_says_11 : decode cX11_says 11 = .ok (.getfield 33, 3) := by decide +kernel
theorem dX11_says_14 : decode cX11_says 14 = .ok (.iload_n 1, 1) := by decide +kernel
theorem dX11_says_15 : decode cX11_says 15 = .ok (.iconst 0, 1) := by decide +kernel
theorem dX11_says_16 : decode cX11_says 16 = .ok (.iastore, 1) := by decide +kernel
theorem dX11_says_17 : decode cX11_says 17 = .ok (.iinc 1 1, 3) := by decide +kernel
theorem dX11_says_20 : decode cX11_says 20 = .ok (.goto (-18), 3) := by decide +kernel
theorem dX11_says_23 : decode cX11_says 23 = .ok (.iconst 0, 1) := by decide +kernel
theorem dX11_says_24 : decode cX11_says 24 = .ok (.istore_n 1, 1) := by decide +kernel
theorem dX11_says_25 : decode cX11_says 25 = .ok (.iload_n 1, 1) := by decide +kernel
theorem dX11_says_26 : decode cX11_says 26 = .ok (.aload_n 0, 1) := by decide +kernel
theorem dX11_says_27 : decode cX11_says 27 = .ok (.invokevirtual 107, 3) := by decide +kernel
theorem dX11_says_30 : decode cX11_says 30 = .ok (.if_icmp .ge 72, 3) := by decide +kernel
theorem dX11_says_33 : decode cX11_says 33 = .ok (.aload_n 0, 1) := by decide +kernel
theorem dX11_says_34 : decode cX11_says 34 = .ok (.iload_n 1, 1) := by decide +kernel
theorem dX11_says_35 : decode cX11_says 35 = .ok (.iload_n 1, 1) := by decide +kernel
theorem dX11_says_36 : decode cX11_says 36 = .ok (.invokevirtual 135, 3) := by decide +kernel
theorem dX11_says_39 : decode cX11_says 39 = .ok (.iconst 0, 1) := by decide +kernel
theorem dX11_says_40 : decode cX11_says 40 = .ok (.istore_n 2, 1) := by decide +kernel
theorem dX11_says_41 : decode cX11_says 41 = .ok (.iload_n 2, 1) := by decide +kernel
theorem dX11_says_42 : decode cX11_says 42 = .ok (.aload_n 0, 1) := by decide +kernel
theorem dX11_says_43 : decode cX11_says 43 = .ok (.invokevirtual 115, 3) := by decide +kernel
theorem dX11_says_46 : decode cX11_says 46 = .ok (.if_icmp .ge 50, 3) := by decide +kernel
theorem dX11_says_49 : decode cX11_says 49 = .ok (.aload_n 0, 1) := by decide +kernel
theorem dX11_says_50 : decode cX11_says 50 = .ok (.getfield 33, 3) := by decide +kernel
theorem dX11_says_53 : decode cX11_says 53 = .ok (.iload_n 2, 1) := by decide +kernel
theorem dX11_says_54 : decode cX11_says 54 = .ok (.dup2, 1) := by decide +kernel
theorem dX11_says_55 : decode cX11_says 55 = .ok (.iaload, 1) := by decide +kernel
theorem dX11_says_56 : decode cX11_says 56 = .ok (.aload_n 0, 1) := by decide +kernel
theorem dX11_says_57 : decode cX11_says 57 = .ok (.iload_n 2, 1) := by decide +kernel
theorem dX11_says_58 : decode cX11_says 58 = .ok (.invokevirtual 128, 3) := by decide +kernel
theorem dX11_says_61 : decode cX11_says 61 = .ok (.ifCond .eq 26, 3) := by decide +kernel
theorem dX11_says_64 : decode cX11_says 64 = .ok (.aload_n 0, 1) := by decide +kernel
theorem dX11_says_65 : decode cX11_says 65 = .ok (.getfield 30, 3) := by decide +kernel
theorem dX11_says_68 : decode cX11_says 68 = .ok (.aload_n 0, 1) := by decide +kernel
theorem dX11_says_69 : decode cX11_says 69 = .ok (.iload_n 1, 1) := by decide +kernel
theorem dX11_says_70 : decode cX11_says 70 = .ok (.iload_n 2, 1) := by decide +kernel
theorem dX11_says_71 : decode cX11_says 71 = .ok (.invokevirtual 132, 3) := by decide +kernel
theorem dX11_says_74 : decode cX11_says 74 = .ok (.iaload, 1) := by decide +kernel
theorem dX11_says_75 : decode cX11_says 75 = .ok (.invokestatic 143, 3) := by decide +kernel
theorem dX11_says_78 : decode cX11_says 78 = .ok (.ifCond .eq 9, 3) := by decide +kernel
theorem dX11_says_81 : decode cX11_says 81 = .ok (.iconst 1, 1) := by decide +kernel
theorem dX11_says_82 : decode cX11_says 82 = .ok (.iload_n 1, 1) := by decide +kernel
theorem dX11_says_83 : decode cX11_says 83 = .ok (.ishl, 1) := by decide +kernel
theorem dX11_says_84 : decode cX11_says 84 = .ok (.goto 4, 3) := by decide +kernel
theorem dX11_says_87 : decode cX11_says 87 = .ok (.iconst 0, 1) := by decide +kernel
theorem dX11_says_88 : decode cX11_says 88 = .ok (.ior, 1) := by decide +kernel
theorem dX11_says_89 : decode cX11_says 89 = .ok (.iastore, 1) := by decide +kernel
theorem dX11_says_90 : decode cX11_says 90 = .ok (.iinc 2 1, 3) := by decide +kernel
theorem dX11_says_93 : decode cX11_says 93 = .ok (.goto (-52), 3) := by decide +kernel
theorem dX11_says_96 : decode cX11_says 96 = .ok (.iinc 1 1, 3) := by decide +kernel
theorem dX11_says_99 : decode cX11_says 99 = .ok (.goto (-74), 3) := by decide +kernel
theorem dX11_says_102 : decode cX11_says 102 = .ok (.aload_n 0, 1) := by decide +kernel
theorem dX11_says_103 : decode cX11_says 103 = .ok (.getfield 33, 3) := by decide +kernel
theorem dX11_says_106 : decode cX11_says 106 = .ok (.aload_n 0, 1) := by decide +kernel
theorem dX11_says_107 : decode cX11_says 107 = .ok (.invokevirtual 121, 3) := by decide +kernel
theorem dX11_says_110 : decode cX11_says 110 = .ok (.iaload, 1) := by decide +kernel
theorem dX11_says_111 : decode cX11_says 111 = .ok (.istore_n 1, 1) := by decide +kernel
theorem dX11_says_112 : decode cX11_says 112 = .ok (.aload_n 0, 1) := by decide +kernel
theorem dX11_says_113 : decode cX11_says 113 = .ok (.invokevirtual 206, 3) := by decide +kernel
theorem dX11_says_116 : decode cX11_says 116 = .ok (.iload_n 1, 1) := by decide +kernel
theorem dX11_says_117 : decode cX11_says 117 = .ok (.ireturn, 1) := by decide +kernel
theorem dX11_day_0 : decode cX11_day 0 = .ok (.aload_n 0, 1) := by decide +kernel
theorem dX11_day_1 : decode cX11_day 1 = .ok (.iconst 0, 1) := by decide +kernel
theorem dX11_day_2 : decode cX11_day 2 = .ok (.putfield 3, 3) := by decide +kernel
theorem dX11_day_5 : decode cX11_day 5 = .ok (.aload_n 0, 1) := by decide +kernel
theorem dX11_day_6 : decode cX11_day 6 = .ok (.invokevirtual 362, 3) := by decide +kernel
theorem dX11_day_9 : decode cX11_day 9 = .ok (.aload_n 0, 1) := by decide +kernel
theorem dX11_day_10 : decode cX11_day 10 = .ok (.invokevirtual 372, 3) := by decide +kernel
theorem dX11_day_13 : decode cX11_day 13 = .ok (.istore_n 1, 1) := by decide +kernel
theorem dX11_day_14 : decode cX11_day 14 = .ok (.aload_n 0, 1) := by decide +kernel
theorem dX11_day_15 : decode cX11_day 15 = .ok (.getfield 13, 3) := by decide +kernel
theorem dX11_day_18 : decode cX11_day 18 = .ok (.iconst 4, 1) := by decide +kernel
theorem dX11_day_19 : decode cX11_day 19 = .ok (.dup2, 1) := by decide +kernel
theorem dX11_day_20 : decode cX11_day 20 = .ok (.iaload, 1) := by decide +kernel
theorem dX11_day_21 : decode cX11_day 21 = .ok (.iconst 1, 1) := by decide +kernel
theorem dX11_day_22 : decode cX11_day 22 = .ok (.iadd, 1) := by decide +kernel
theorem dX11_day_23 : decode cX11_day 23 = .ok (.iastore, 1) := by decide +kernel
theorem dX11_day_24 : decode cX11_day 24 = .ok (.aload_n 0, 1) := by decide +kernel
theorem dX11_day_25 : decode cX11_day 25 = .ok (.iconst 4, 1) := by decide +kernel
theorem dX11_day_26 : decode cX11_day 26 = .ok (.iconst (-1), 1) := by decide +kernel
theorem dX11_day_27 : decode cX11_day 27 = .ok (.iconst (-1), 1) := by decide +kernel
theorem dX11_day_28 : decode cX11_day 28 = .ok (.iload_n 1, 1) := by decide +kernel
theorem dX11_day_29 : decode cX11_day 29 = .ok (.invokevirtual 355, 3) := by decide +kernel
theorem dX11_day_32 : decode cX11_day 32 = .ok (.iload_n 1, 1) := by decide +kernel
theorem dX11_day_33 : decode cX11_day 33 = .ok (.ireturn, 1) := by decide +kernel
theorem dX11_readsOut_0 : decode cX11_readsOut 0 = .ok (.aload_n 0, 1) := by decide +kernel
theorem dX11_readsOut_1 : decode cX11_readsOut 1 = .ok (.iload_n 1, 1) := by decide +kernel
theorem dX11_readsOut_2 : decode cX11_readsOut 2 = .ok (.invokevirtual 149, 3) := by decide +kernel
theorem dX11_readsOut_5 : decode cX11_readsOut 5 = .ok (.aload_n 0, 1) := by decide +kernel
theorem dX11_readsOut_6 : decode cX11_readsOut 6 = .ok (.invokevirtual 206, 3) := by decide +kernel
theorem dX11_readsOut_9 : decode cX11_readsOut 9 = .ok (.return_, 1) := by decide +kernel
theorem dX11_read_0 : decode cX11_read 0 = .ok (.aload_n 0, 1) := by decide +kernel
theorem dX11_read_1 : decode cX11_read 1 = .ok (.iconst 0, 1) := by decide +kernel
theorem dX11_read_2 : decode cX11_read 2 = .ok (.putfield 3, 3) := by decide +kernel
theorem dX11_read_5 : decode cX11_read 5 = .ok (.aload_n 0, 1) := by decide +kernel
theorem dX11_read_6 : decode cX11_read 6 = .ok (.aload_n 0, 1) := by decide +kernel
theorem dX11_read_7 : decode cX11_read 7 = .ok (.iload_n 1, 1) := by decide +kernel
theorem dX11_read_8 : decode cX11_read 8 = .ok (.invokevirtual 359, 3) := by decide +kernel
theorem dX11_read_11 : decode cX11_read 11 = .ok (.iconst 1, 1) := by decide +kernel
theorem dX11_read_12 : decode cX11_read 12 = .ok (.invokevirtual 322, 3) := by decide +kernel
theorem dX11_read_15 : decode cX11_read 15 = .ok (.ifCond .eq 5, 3) := by decide +kernel
theorem dX11_read_18 : decode cX11_read 18 = .ok (.iconst 0, 1) := by decide +kernel
theorem dX11_read_19 : decode cX11_read 19 = .ok (.ireturn, 1) := by decide +kernel
theorem dX11_read_20 : decode cX11_read 20 = .ok (.aload_n 0, 1) := by decide +kernel
theorem dX11_read_21 : decode cX11_read 21 = .ok (.invokevirtual 362, 3) := by decide +kernel
theorem dX11_read_24 : decode cX11_read 24 = .ok (.aload_n 0, 1) := by decide +kernel
theorem dX11_read_25 : decode cX11_read 25 = .ok (.iload_n 1, 1) := by decide +kernel
theorem dX11_read_26 : decode cX11_read 26 = .ok (.invokevirtual 375, 3) := by decide +kernel
theorem dX11_read_29 : decode cX11_read 29 = .ok (.aload_n 0, 1) := by decide +kernel
theorem dX11_read_30 : decode cX11_read 30 = .ok (.iconst 5, 1) := by decide +kernel
theorem dX11_read_31 : decode cX11_read 31 = .ok (.iload_n 1, 1) := by decide +kernel
theorem dX11_read_32 : decode cX11_read 32 = .ok (.iconst (-1), 1) := by decide +kernel
theorem dX11_read_33 : decode cX11_read 33 = .ok (.aload_n 0, 1) := by decide +kernel
theorem dX11_read_34 : decode cX11_read 34 = .ok (.iload_n 1, 1) := by decide +kernel
theorem dX11_read_35 : decode cX11_read 35 = .ok (.invokevirtual 369, 3) := by decide +kernel
theorem dX11_read_38 : decode cX11_read 38 = .ok (.invokevirtual 355, 3) := by decide +kernel
theorem dX11_read_41 : decode cX11_read 41 = .ok (.aload_n 0, 1) := by decide +kernel
theorem dX11_read_42 : decode cX11_read 42 = .ok (.iload_n 1, 1) := by decide +kernel
theorem dX11_read_43 : decode cX11_read 43 = .ok (.invokevirtual 369, 3) := by decide +kernel
theorem dX11_read_46 : decode cX11_read 46 = .ok (.ireturn, 1) := by decide +kernel
theorem dX11_claim_0 : decode cX11_claim 0 = .ok (.aload_n 0, 1) := by decide +kernel
theorem dX11_claim_1 : decode cX11_claim 1 = .ok (.iconst 0, 1) := by decide +kernel
theorem dX11_claim_2 : decode cX11_claim 2 = .ok (.putfield 3, 3) := by decide +kernel
theorem dX11_claim_5 : decode cX11_claim 5 = .ok (.aload_n 0, 1) := by decide +kernel
theorem dX11_claim_6 : decode cX11_claim 6 = .ok (.iload_n 2, 1) := by decide +kernel
theorem dX11_claim_7 : decode cX11_claim 7 = .ok (.iconst 0, 1) := by decide +kernel
theorem dX11_claim_8 : decode cX11_claim 8 = .ok (.aload_n 0, 1) := by decide +kernel
theorem dX11_claim_9 : decode cX11_claim 9 = .ok (.invokevirtual 118, 3) := by decide +kernel
theorem dX11_claim_12 : decode cX11_claim 12 = .ok (.iconst 1, 1) := by decide +kernel
theorem dX11_claim_13 : decode cX11_claim 13 = .ok (.isub, 1) := by decide +kernel
theorem dX11_claim_14 : decode cX11_claim 14 = .ok (.invokestatic 111, 3) := by decide +kernel
theorem dX11_claim_17 : decode cX11_claim 17 = .ok (.ifCond .ne 7, 3) := by decide +kernel
theorem dX11_claim_20 : decode cX11_claim 20 = .ok (.iconst 1, 1) := by decide +kernel
theorem dX11_claim_21 : decode cX11_claim 21 = .ok (.goto 4, 3) := by decide +kernel
theorem dX11_claim_24 : decode cX11_claim 24 = .ok (.iconst 0, 1) := by decide +kernel
theorem dX11_claim_25 : decode cX11_claim 25 = .ok (.iconst 1, 1) := by decide +kernel
theorem dX11_claim_26 : decode cX11_claim 26 = .ok (.invokevirtual 322, 3) := by decide +kernel
theorem dX11_claim_29 : decode cX11_claim 29 = .ok (.ifCond .ne 52, 3) := by decide +kernel
theorem dX11_claim_32 : decode cX11_claim 32 = .ok (.aload_n 0, 1) := by decide +kernel
theorem dX11_claim_33 : decode cX11_claim 33 = .ok (.iload_n 1, 1) := by decide +kernel
theorem dX11_claim_34 : decode cX11_claim 34 = .ok (.iconst 0, 1) := by decide +kernel
theorem dX11_claim_35 : decode cX11_claim 35 = .ok (.bipush 9, 2) := by decide +kernel
theorem dX11_claim_37 : decode cX11_claim 37 = .ok (.invokestatic 111, 3) := by decide +kernel
theorem dX11_claim_40 : decode cX11_claim 40 = .ok (.ifCond .ne 7, 3) := by decide +kernel
theorem dX11_claim_43 : decode cX11_claim 43 = .ok (.iconst 1, 1) := by decide +kernel
theorem dX11_claim_44 : decode cX11_claim 44 = .ok (.goto 4, 3) := by decide +kernel
theorem dX11_claim_47 : decode cX11_claim 47 = .ok (.iconst 0, 1) := by decide +kernel
theorem dX11_claim_48 : decode cX11_claim 48 = .ok (.iconst 2, 1) := by decide +kernel
theorem dX11_claim_49 : decode cX11_claim 49 = .ok (.invokevirtual 322, 3) := by decide +kernel
theorem dX11_claim_52 : decode cX11_claim 52 = .ok (.ifCond .ne 29, 3) := by decide +kernel
theorem dX11_claim_55 : decode cX11_claim 55 = .ok (.aload_n 0, 1) := by decide +kernel
theorem dX11_claim_56 : decode cX11_claim 56 = .ok (.aload_n 0, 1) := by decide +kernel
theorem dX11_claim_57 : decode cX11_claim 57 = .ok (.aload_n 0, 1) := by decide +kernel
theorem dX11_claim_58 : decode cX11_claim 58 = .ok (.invokevirtual 121, 3) := by decide +kernel
theorem dX11_claim_61 : decode cX11_claim 61 = .ok (.iload_n 2, 1) := by decide +kernel
theorem dX11_claim_62 : decode cX11_claim 62 = .ok (.invokevirtual 215, 3) := by decide +kernel
theorem dX11_claim_65 : decode cX11_claim 65 = .ok (.iload_n 1, 1) := by decide +kernel
theorem dX11_claim_66 : decode cX11_claim 66 = .ok (.if_icmp .ge 7, 3) := by decide +kernel
theorem dX11_claim_69 : decode cX11_claim 69 = .ok (.iconst 1, 1) := by decide +kernel
theorem dX11_claim_70 : decode cX11_claim 70 = .ok (.goto 4, 3) := by decide +kernel
theorem dX11_claim_73 : decode cX11_claim 73 = .ok (.iconst 0, 1) := by decide +kernel
theorem dX11_claim_74 : decode cX11_claim 74 = .ok (.iconst 3, 1) := by decide +kernel
theorem dX11_claim_75 : decode cX11_claim 75 = .ok (.invokevirtual 322, 3) := by decide +kernel
theorem dX11_claim_78 : decode cX11_claim 78 = .ok (.ifCond .eq 5, 3) := by decide +kernel
theorem dX11_claim_81 : decode cX11_claim 81 = .ok (.iconst 0, 1) := by decide +kernel
theorem dX11_claim_82 : decode cX11_claim 82 = .ok (.ireturn, 1) := by decide +kernel
theorem dX11_claim_83 : decode cX11_claim 83 = .ok (.aload_n 0, 1) := by decide +kernel
theorem dX11_claim_84 : decode cX11_claim 84 = .ok (.invokevirtual 362, 3) := by decide +kernel
theorem dX11_claim_87 : decode cX11_claim 87 = .ok (.iconst 0, 1) := by decide +kernel
theorem dX11_claim_88 : decode cX11_claim 88 = .ok (.istore_n 3, 1) := by decide +kernel
theorem dX11_claim_89 : decode cX11_claim 89 = .ok (.iload_n 3, 1) := by decide +kernel
theorem dX11_claim_90 : decode cX11_claim 90 = .ok (.aload_n 0, 1) := by decide +kernel
theorem dX11_claim_91 : decode cX11_claim 91 = .ok (.invokevirtual 115, 3) := by decide +kernel
theorem dX11_claim_94 : decode cX11_claim 94 = .ok (.if_icmp .ge 30, 3) := by decide +kernel
theorem dX11_claim_97 : decode cX11_claim 97 = .ok (.aload_n 0, 1) := by decide +kernel
theorem dX11_claim_98 : decode cX11_claim 98 = .ok (.getfield 33, 3) := by decide +kernel
theorem dX11_claim_101 : decode cX11_claim 101 = .ok (.iload_n 3, 1) := by decide +kernel
theorem dX11_claim_102 : decode cX11_claim 102 = .ok (.aload_n 0, 1) := by decide +kernel
theorem dX11_claim_103 : decode cX11_claim 103 = .ok (.iload_n 3, 1) := by decide +kernel
theorem dX11_claim_104 : decode cX11_claim 104 = .ok (.iload_n 2, 1) := by decide +kernel
theorem dX11_claim_105 : decode cX11_claim 105 = .ok (.invokevirtual 215, 3) := by decide +kernel
theorem dX11_claim_108 : decode cX11_claim 108 = .ok (.iload_n 1, 1) := by decide +kernel
theorem dX11_claim_109 : decode cX11_claim 109 = .ok (.if_icmp .lt 7, 3) := by decide +kernel
theorem dX11_claim_112 : decode cX11_claim 112 = .ok (.iconst 1, 1) := by decide +kernel
theorem dX11_claim_113 : decode cX11_claim 113 = .ok (.goto 4, 3) := by decide +kernel
theorem dX11_claim_116 : decode cX11_claim 116 = .ok (.iconst 0, 1) := by decide +kernel
theorem dX11_claim_117 : decode cX11_claim 117 = .ok (.iastore, 1) := by decide +kernel
theorem dX11_claim_118 : decode cX11_claim 118 = .ok (.iinc 3 1, 3) := by decide +kernel
theorem dX11_claim_121 : decode cX11_claim 121 = .ok (.goto (-32), 3) := by decide +kernel
theorem dX11_claim_124 : decode cX11_claim 124 = .ok (.aload_n 0, 1) := by decide +kernel
theorem dX11_claim_125 : decode cX11_claim 125 = .ok (.invokevirtual 206, 3) := by decide +kernel
theorem dX11_claim_128 : decode cX11_claim 128 = .ok (.aload_n 0, 1) := by decide +kernel
theorem dX11_claim_129 : decode cX11_claim 129 = .ok (.bipush 6, 2) := by decide +kernel
theorem dX11_claim_131 : decode cX11_claim 131 = .ok (.iload_n 2, 1) := by decide +kernel
theorem dX11_claim_132 : decode cX11_claim 132 = .ok (.iconst (-1), 1) := by decide +kernel
theorem dX11_claim_133 : decode cX11_claim 133 = .ok (.iload_n 1, 1) := by decide +kernel
theorem dX11_claim_134 : decode cX11_claim 134 = .ok (.invokevirtual 355, 3) := by decide +kernel
theorem dX11_claim_137 : decode cX11_claim 137 = .ok (.aload_n 0, 1) := by decide +kernel
theorem dX11_claim_138 : decode cX11_claim 138 = .ok (.aload_n 0, 1) := by decide +kernel
theorem dX11_claim_139 : decode cX11_claim 139 = .ok (.invokevirtual 121, 3) := by decide +kernel
theorem dX11_claim_142 : decode cX11_claim 142 = .ok (.iload_n 2, 1) := by decide +kernel
theorem dX11_claim_143 : decode cX11_claim 143 = .ok (.invokevirtual 215, 3) := by decide +kernel
theorem dX11_claim_146 : decode cX11_claim 146 = .ok (.ireturn, 1) := by decide +kernel
theorem dX11_answersCome_0 : decode cX11_answersCome 0 = .ok (.aload_n 0, 1) := by decide +kernel
theorem dX11_answersCome_1 : decode cX11_answersCome 1 = .ok (.iload_n 1, 1) := by decide +kernel
theorem dX11_answersCome_2 : decode cX11_answersCome 2 = .ok (.iload_n 2, 1) := by decide +kernel
theorem dX11_answersCome_3 : decode cX11_answersCome 3 = .ok (.invokevirtual 135, 3) := by decide +kernel
theorem dX11_answersCome_6 : decode cX11_answersCome 6 = .ok (.iconst 0, 1) := by decide +kernel
theorem dX11_answersCome_7 : decode cX11_answersCome 7 = .ok (.istore 4, 2) := by decide +kernel
theorem dX11_answersCome_9 : decode cX11_answersCome 9 = .ok (.iload 4, 2) := by decide +kernel
theorem dX11_answersCome_11 : decode cX11_answersCome 11 = .ok (.aload_n 0, 1) := by decide +kernel
theorem dX11_answersCome_12 : decode cX11_answersCome 12 = .ok (.invokevirtual 115, 3) := by decide +kernel
theorem dX11_answersCome_15 : decode cX11_answersCome 15 = .ok (.if_icmp .ge 69, 3) := by decide +kernel
theorem dX11_answersCome_18 : decode cX11_answersCome 18 = .ok (.aload_n 0, 1) := by decide +kernel
theorem dX11_answersCome_19 : decode cX11_answersCome 19 = .ok (.iload 4, 2) := by decide +kernel
theorem dX11_answersCome_21 : decode cX11_answersCome 21 = .ok (.invokevirtual 128, 3) := by decide +kernel
theorem dX11_answersCome_24 : decode cX11_answersCome 24 = .ok (.ifCond .eq 18, 3) := by decide +kernel
theorem dX11_answersCome_27 : decode cX11_answersCome 27 = .ok (.aload_n 0, 1) := by decide +kernel
theorem dX11_answersCome_28 : decode cX11_answersCome 28 = .ok (.getfield 30, 3) := by decide +kernel
theorem dX11_answersCome_31 : decode cX11_answersCome 31 = .ok (.aload_n 0, 1) := by decide +kernel
theorem dX11_answersCome_32 : decode cX11_answersCome 32 = .ok (.iload_n 1, 1) := by decide +kernel
theorem dX11_answersCome_33 : decode cX11_answersCome 33 = .ok (.iload 4, 2) := by decide +kernel
theorem dX11_answersCome_35 : decode cX11_answersCome 35 = .ok (.invokevirtual 132, 3) := by decide +kernel
theorem dX11_answersCome_38 : decode cX11_answersCome 38 = .ok (.iaload, 1) := by decide +kernel
theorem dX11_answersCome_39 : decode cX11_answersCome 39 = .ok (.goto 4, 3) := by decide +kernel
theorem dX11_answersCome_42 : decode cX11_answersCome 42 = .ok (.iconst 0, 1) := by decide +kernel
theorem dX11_answersCome_43 : decode cX11_answersCome 43 = .ok (.istore 5, 2) := by decide +kernel
theorem dX11_answersCome_45 : decode cX11_answersCome 45 = .ok (.aload_n 0, 1) := by decide +kernel
theorem dX11_answersCome_46 : decode cX11_answersCome 46 = .ok (.getfield 33, 3) := by decide +kernel
theorem dX11_answersCome_49 : decode cX11_answersCome 49 = .ok (.iload 4, 2) := by decide +kernel
theorem dX11_answersCome_51 : decode cX11_answersCome 51 = .ok (.iload 5, 2) := by decide +kernel
theorem dX11_answersCome_53 : decode cX11_answersCome 53 = .ok (.iconst 1, 1) := by decide +kernel
theorem dX11_answersCome_54 : decode cX11_answersCome 54 = .ok (.iload_n 3, 1) := by decide +kernel
theorem dX11_answersCome_55 : decode cX11_answersCome 55 = .ok (.ishl, 1) := by decide +kernel
theorem dX11_answersCome_56 : decode cX11_answersCome 56 = .ok (.if_icmp .ne 7, 3) := by decide +kernel
theorem dX11_answersCome_59 : decode cX11_answersCome 59 = .ok (.iconst 1, 1) := by decide +kernel
theorem dX11_answersCome_60 : decode cX11_answersCome 60 = .ok (.goto 17, 3) := by decide +kernel
theorem dX11_answersCome_63 : decode cX11_answersCome 63 = .ok (.iload 5, 2) := by decide +kernel
theorem dX11_answersCome_65 : decode cX11_answersCome 65 = .ok (.iload_n 3, 1) := by decide +kernel
theorem dX11_answersCome_66 : decode cX11_answersCome 66 = .ok (.invokestatic 103, 3) := by decide +kernel
theorem dX11_answersCome_69 : decode cX11_answersCome 69 = .ok (.ifCond .eq 7, 3) := by decide +kernel
theorem dX11_answersCome_72 : decode cX11_answersCome 72 = .ok (.iconst 2, 1) := by decide +kernel
theorem dX11_answersCome_73 : decode cX11_answersCome 73 = .ok (.goto 4, 3) := by decide +kernel
theorem dX11_answersCome_76 : decode cX11_answersCome 76 = .ok (.iconst 0, 1) := by decide +kernel
theorem dX11_answersCome_77 : decode cX11_answersCome 77 = .ok (.iastore, 1) := by decide +kernel
theorem dX11_answersCome_78 : decode cX11_answersCome 78 = .ok (.iinc 4 1, 3) := by decide +kernel
theorem dX11_answersCome_81 : decode cX11_answersCome 81 = .ok (.goto (-72), 3) := by decide +kernel
theorem dX11_answersCome_84 : decode cX11_answersCome 84 = .ok (.return_, 1) := by decide +kernel
theorem dX11_query_0 : decode cX11_query 0 = .ok (.aload_n 0, 1) := by decide +kernel
theorem dX11_query_1 : decode cX11_query 1 = .ok (.iconst 0, 1) := by decide +kernel
theorem dX11_query_2 : decode cX11_query 2 = .ok (.putfield 3, 3) := by decide +kernel
theorem dX11_query_5 : decode cX11_query 5 = .ok (.aload_n 0, 1) := by decide +kernel
theorem dX11_query_6 : decode cX11_query 6 = .ok (.aload_n 0, 1) := by decide +kernel
theorem dX11_query_7 : decode cX11_query 7 = .ok (.iload_n 1, 1) := by decide +kernel
theorem dX11_query_8 : decode cX11_query 8 = .ok (.invokevirtual 359, 3) := by decide +kernel
theorem dX11_query_11 : decode cX11_query 11 = .ok (.ifCond .ne 25, 3) := by decide +kernel
theorem dX11_query_14 : decode cX11_query 14 = .ok (.aload_n 0, 1) := by decide +kernel
theorem dX11_query_15 : decode cX11_query 15 = .ok (.iload_n 2, 1) := by decide +kernel
theorem dX11_query_16 : decode cX11_query 16 = .ok (.invokevirtual 359, 3) := by decide +kernel
theorem dX11_query_19 : decode cX11_query 19 = .ok (.ifCond .ne 17, 3) := by decide +kernel
theorem dX11_query_22 : decode cX11_query 22 = .ok (.iload_n 3, 1) := by decide +kernel
theorem dX11_query_23 : decode cX11_query 23 = .ok (.iconst 0, 1) := by decide +kernel
theorem dX11_query_24 : decode cX11_query 24 = .ok (.aload_n 0, 1) := by decide +kernel
theorem dX11_query_25 : decode cX11_query 25 = .ok (.invokevirtual 118, 3) := by decide +kernel
theorem dX11_query_28 : decode cX11_query 28 = .ok (.iconst 1, 1) := by decide +kernel
theorem dX11_query_29 : decode cX11_query 29 = .ok (.isub, 1) := by decide +kernel
theorem dX11_query_30 : decode cX11_query 30 = .ok (.invokestatic 111, 3) := by decide +kernel
theorem dX11_query_33 : decode cX11_query 33 = .ok (.ifCond .ne 7, 3) := by decide +kernel
theorem dX11_query_36 : decode cX11_query 36 = .ok (.iconst 1, 1) := by decide +kernel
theorem dX11_query_37 : decode cX11_query 37 = .ok (.goto 4, 3) := by decide +kernel
theorem dX11_query_40 : decode cX11_query 40 = .ok (.iconst 0, 1) := by decide +kernel
theorem dX11_query_41 : decode cX11_query 41 = .ok (.iconst 1, 1) := by decide +kernel
theorem dX11_query_42 : decode cX11_query 42 = .ok (.invokevirtual 322, 3) := by decide +kernel
theorem dX11_query_45 : decode cX11_query 45 = .ok (.ifCond .eq 5, 3) := by decide +kernel
theorem dX11_query_48 : decode cX11_query 48 = .ok (.iconst 0, 1) := by decide +kernel
theorem dX11_query_49 : decode cX11_query 49 = .ok (.ireturn, 1) := by decide +kernel
theorem dX11_query_50 : decode cX11_query 50 = .ok (.aload_n 0, 1) := by decide +kernel
theorem dX11_query_51 : decode cX11_query 51 = .ok (.invokevirtual 362, 3) := by decide +kernel
theorem dX11_query_54 : decode cX11_query 54 = .ok (.aload_n 0, 1) := by decide +kernel
theorem dX11_query_55 : decode cX11_query 55 = .ok (.iload_n 1, 1) := by decide +kernel
theorem dX11_query_56 : decode cX11_query 56 = .ok (.iload_n 2, 1) := by decide +kernel
theorem dX11_query_57 : decode cX11_query 57 = .ok (.iload_n 3, 1) := by decide +kernel
theorem dX11_query_58 : decode cX11_query 58 = .ok (.invokevirtual 378, 3) := by decide +kernel
theorem dX11_query_61 : decode cX11_query 61 = .ok (.aload_n 0, 1) := by decide +kernel
theorem dX11_query_62 : decode cX11_query 62 = .ok (.getfield 33, 3) := by decide +kernel
theorem dX11_query_65 : decode cX11_query 65 = .ok (.aload_n 0, 1) := by decide +kernel
theorem dX11_query_66 : decode cX11_query 66 = .ok (.invokevirtual 121, 3) := by decide +kernel
theorem dX11_query_69 : decode cX11_query 69 = .ok (.iaload, 1) := by decide +kernel
theorem dX11_query_70 : decode cX11_query 70 = .ok (.istore 4, 2) := by decide +kernel
theorem dX11_query_72 : decode cX11_query 72 = .ok (.aload_n 0, 1) := by decide +kernel
theorem dX11_query_73 : decode cX11_query 73 = .ok (.invokevirtual 206, 3) := by decide +kernel
theorem dX11_query_76 : decode cX11_query 76 = .ok (.aload_n 0, 1) := by decide +kernel
theorem dX11_query_77 : decode cX11_query 77 = .ok (.bipush 7, 2) := by decide +kernel
theorem dX11_query_79 : decode cX11_query 79 = .ok (.iload_n 1, 1) := by decide +kernel
theorem dX11_query_80 : decode cX11_query 80 = .ok (.iload_n 2, 1) := by decide +kernel
theorem dX11_query_81 : decode cX11_query 81 = .ok (.iload 4, 2) := by decide +kernel
theorem dX11_query_83 : decode cX11_query 83 = .ok (.invokevirtual 355, 3) := by decide +kernel
theorem dX11_query_86 : decode cX11_query 86 = .ok (.iload 4, 2) := by decide +kernel
theorem dX11_query_88 : decode cX11_query 88 = .ok (.ireturn, 1) := by decide +kernel
theorem dX11_draw_0 : decode cX11_draw 0 = .ok (.aload_n 0, 1) := by decide +kernel
theorem dX11_draw_1 : decode cX11_draw 1 = .ok (.getfield 13, 3) := by decide +kernel
theorem dX11_draw_4 : decode cX11_draw 4 = .ok (.iconst 5, 1) := by decide +kernel
theorem dX11_draw_5 : decode cX11_draw 5 = .ok (.ldc_w 385, 3) := by decide +kernel
theorem dX11_draw_8 : decode cX11_draw 8 = .ok (.aload_n 0, 1) := by decide +kernel
theorem dX11_draw_9 : decode cX11_draw 9 = .ok (.getfield 13, 3) := by decide +kernel
theorem dX11_draw_12 : decode cX11_draw 12 = .ok (.iconst 5, 1) := by decide +kernel
theorem dX11_draw_13 : decode cX11_draw 13 = .ok (.iaload, 1) := by decide +kernel
theorem dX11_draw_14 : decode cX11_draw 14 = .ok (.imul, 1) := by decide +kernel
theorem dX11_draw_15 : decode cX11_draw 15 = .ok (.sipush 12345, 3) := by decide +kernel
theorem dX11_draw_18 : decode cX11_draw 18 = .ok (.iadd, 1) := by decide +kernel
theorem dX11_draw_19 : decode cX11_draw 19 = .ok (.iastore, 1) := by decide +kernel
theorem dX11_draw_20 : decode cX11_draw 20 = .ok (.aload_n 0, 1) := by decide +kernel
theorem dX11_draw_21 : decode cX11_draw 21 = .ok (.getfield 13, 3) := by decide +kernel
theorem dX11_draw_24 : decode cX11_draw 24 = .ok (.iconst 5, 1) := by decide +kernel
theorem dX11_draw_25 : decode cX11_draw 25 = .ok (.iaload, 1) := by decide +kernel
theorem dX11_draw_26 : decode cX11_draw 26 = .ok (.bipush 16, 2) := by decide +kernel
theorem dX11_draw_28 : decode cX11_draw 28 = .ok (.ishr, 1) := by decide +kernel
theorem dX11_draw_29 : decode cX11_draw 29 = .ok (.sipush 32767, 3) := by decide +kernel
theorem dX11_draw_32 : decode cX11_draw 32 = .ok (.iand, 1) := by decide +kernel
theorem dX11_draw_33 : decode cX11_draw 33 = .ok (.iload_n 1, 1) := by decide +kernel
theorem dX11_draw_34 : decode cX11_draw 34 = .ok (.irem, 1) := by decide +kernel
theorem dX11_draw_35 : decode cX11_draw 35 = .ok (.ireturn, 1) := by decide +kernel
theorem dX11_strolls_0 : decode cX11_strolls 0 = .ok (.iconst 0, 1) := by decide +kernel
theorem dX11_strolls_1 : decode cX11_strolls 1 = .ok (.istore_n 2, 1) := by decide +kernel
theorem dX11_strolls_2 : decode cX11_strolls 2 = .ok (.iconst 0, 1) := by decide +kernel
theorem dX11_strolls_3 : decode cX11_strolls 3 = .ok (.istore_n 3, 1) := by decide +kernel
theorem dX11_strolls_4 : decode cX11_strolls 4 = .ok (.iload_n 3, 1) := by decide +kernel
theorem dX11_strolls_5 : decode cX11_strolls 5 = .ok (.iload_n 1, 1) := by decide +kernel
theorem dX11_strolls_6 : decode cX11_strolls 6 = .ok (.if_icmp .ge 70, 3) := by decide +kernel
theorem dX11_strolls_9 : decode cX11_strolls 9 = .ok (.aload_n 0, 1) := by decide +kernel
theorem dX11_strolls_10 : decode cX11_strolls 10 = .ok (.invokevirtual 107, 3) := by decide +kernel
theorem dX11_strolls_13 : decode cX11_strolls 13 = .ok (.ifCond .le 63, 3) := by decide +kernel
theorem dX11_strolls_16 : decode cX11_strolls 16 = .ok (.aload_n 0, 1) := by decide +kernel
theorem dX11_strolls_17 : decode cX11_strolls 17 = .ok (.aload_n 0, 1) := by decide +kernel
theorem dX11_strolls_18 : decode cX11_strolls 18 = .ok (.invokevirtual 107, 3) := by decide +kernel
theorem dX11_strolls_21 : decode cX11_strolls 21 = .ok (.invokevirtual 382, 3) := by decide +kernel
theorem dX11_strolls_24 : decode cX11_strolls 24 = .ok (.istore 4, 2) := by decide +kernel
theorem dX11_strolls_26 : decode cX11_strolls 26 = .ok (.aload_n 0, 1) := by decide +kernel
theorem dX11_strolls_27 : decode cX11_strolls 27 = .ok (.aload_n 0, 1) := by decide +kernel
theorem dX11_strolls_28 : decode cX11_strolls 28 = .ok (.invokevirtual 107, 3) := by decide +kernel
theorem dX11_strolls_31 : decode cX11_strolls 31 = .ok (.invokevirtual 382, 3) := by decide +kernel
theorem dX11_strolls_34 : decode cX11_strolls 34 = .ok (.istore 5, 2) := by decide +kernel
theorem dX11_strolls_36 : decode cX11_strolls 36 = .ok (.iload 4, 2) := by decide +kernel
theorem dX11_strolls_38 : decode cX11_strolls 38 = .ok (.iload 5, 2) := by decide +kernel
theorem dX11_strolls_40 : decode cX11_strolls 40 = .ok (.if_icmp .eq 30, 3) := by decide +kernel
theorem dX11_strolls_43 : decode cX11_strolls 43 = .ok (.aload_n 0, 1) := by decide +kernel
theorem dX11_strolls_44 : decode cX11_strolls 44 = .ok (.iload 4, 2) := by decide +kernel
theorem dX11_strolls_46 : decode cX11_strolls 46 = .ok (.iload 5, 2) := by decide +kernel
theorem dX11_strolls_48 : decode cX11_strolls 48 = .ok (.invokevirtual 325, 3) := by decide +kernel
theorem dX11_strolls_51 : decode cX11_strolls 51 = .ok (.ifCond .ne 6, 3) := by decide +kernel
theorem dX11_strolls_54 : decode cX11_strolls 54 = .ok (.goto 16, 3) := by decide +kernel
theorem dX11_strolls_57 : decode cX11_strolls 57 = .ok (.aload_n 0, 1) := by decide +kernel
theorem dX11_strolls_58 : decode cX11_strolls 58 = .ok (.iload 4, 2) := by decide +kernel
theorem dX11_strolls_60 : decode cX11_strolls 60 = .ok (.iload 5, 2) := by decide +kernel
theorem dX11_strolls_62 : decode cX11_strolls 62 = .ok (.iconst 0, 1) := by decide +kernel
theorem dX11_strolls_63 : decode cX11_strolls 63 = .ok (.invokevirtual 365, 3) := by decide +kernel
theorem dX11_strolls_66 : decode cX11_strolls 66 = .ok (.pop, 1) := by decide +kernel
theorem dX11_strolls_67 : decode cX11_strolls 67 = .ok (.iinc 2 1, 3) := by decide +kernel
theorem dX11_strolls_70 : decode cX11_strolls 70 = .ok (.iinc 3 1, 3) := by decide +kernel
theorem dX11_strolls_73 : decode cX11_strolls 73 = .ok (.goto (-69), 3) := by decide +kernel
theorem dX11_strolls_76 : decode cX11_strolls 76 = .ok (.iload_n 2, 1) := by decide +kernel
theorem dX11_strolls_77 : decode cX11_strolls 77 = .ok (.ireturn, 1) := by decide +kernel
theorem dX11_stroll_0 : decode cX11_stroll 0 = .ok (.aload_n 0, 1) := by decide +kernel
theorem dX11_stroll_1 : decode cX11_stroll 1 = .ok (.iconst 0, 1) := by decide +kernel
theorem dX11_stroll_2 : decode cX11_stroll 2 = .ok (.putfield 3, 3) := by decide +kernel
theorem dX11_stroll_5 : decode cX11_stroll 5 = .ok (.aload_n 0, 1) := by decide +kernel
theorem dX11_stroll_6 : decode cX11_stroll 6 = .ok (.iload_n 1, 1) := by decide +kernel
theorem dX11_stroll_7 : decode cX11_stroll 7 = .ok (.iconst 1, 1) := by decide +kernel
theorem dX11_stroll_8 : decode cX11_stroll 8 = .ok (.bipush 30, 2) := by decide +kernel
theorem dX11_stroll_10 : decode cX11_stroll 10 = .ok (.invokestatic 111, 3) := by decide +kernel
theorem dX11_stroll_13 : decode cX11_stroll 13 = .ok (.ifCond .ne 7, 3) := by decide +kernel
theorem dX11_stroll_16 : decode cX11_stroll 16 = .ok (.iconst 1, 1) := by decide +kernel
theorem dX11_stroll_17 : decode cX11_stroll 17 = .ok (.goto 4, 3) := by decide +kernel
theorem dX11_stroll_20 : decode cX11_stroll 20 = .ok (.iconst 0, 1) := by decide +kernel
theorem dX11_stroll_21 : decode cX11_stroll 21 = .ok (.iconst 1, 1) := by decide +kernel
theorem dX11_stroll_22 : decode cX11_stroll 22 = .ok (.invokevirtual 322, 3) := by decide +kernel
theorem dX11_stroll_25 : decode cX11_stroll 25 = .ok (.ifCond .eq 5, 3) := by decide +kernel
theorem dX11_stroll_28 : decode cX11_stroll 28 = .ok (.iconst 0, 1) := by decide +kernel
theorem dX11_stroll_29 : decode cX11_stroll 29 = .ok (.ireturn, 1) := by decide +kernel
theorem dX11_stroll_30 : decode cX11_stroll 30 = .ok (.aload_n 0, 1) := by decide +kernel
theorem dX11_stroll_31 : decode cX11_stroll 31 = .ok (.invokevirtual 362, 3) := by decide +kernel
theorem dX11_stroll_34 : decode cX11_stroll 34 = .ok (.aload_n 0, 1) := by decide +kernel
theorem dX11_stroll_35 : decode cX11_stroll 35 = .ok (.iload_n 1, 1) := by decide +kernel
theorem dX11_stroll_36 : decode cX11_stroll 36 = .ok (.invokevirtual 386, 3) := by decide +kernel
theorem dX11_stroll_39 : decode cX11_stroll 39 = .ok (.ireturn, 1) := by decide +kernel
theorem dX11_seenBy_0 : decode cX11_seenBy 0 = .ok (.iconst 0, 1) := by decide +kernel
theorem dX11_seenBy_1 : decode cX11_seenBy 1 = .ok (.istore_n 2, 1) := by decide +kernel
theorem dX11_seenBy_2 : decode cX11_seenBy 2 = .ok (.iconst 0, 1) := by decide +kernel
theorem dX11_seenBy_3 : decode cX11_seenBy 3 = .ok (.istore_n 3, 1) := by decide +kernel
theorem dX11_seenBy_4 : decode cX11_seenBy 4 = .ok (.iload_n 3, 1) := by decide +kernel
theorem dX11_seenBy_5 : decode cX11_seenBy 5 = .ok (.aload_n 0, 1) := by decide +kernel
theorem dX11_seenBy_6 : decode cX11_seenBy 6 = .ok (.invokevirtual 107, 3) := by decide +kernel
theorem dX11_seenBy_9 : decode cX11_seenBy 9 = .ok (.if_icmp .ge 28, 3) := by decide +kernel
theorem dX11_seenBy_12 : decode cX11_seenBy 12 = .ok (.iload_n 2, 1) := by decide +kernel
theorem dX11_seenBy_13 : decode cX11_seenBy 13 = .ok (.aload_n 0, 1) := by decide +kernel
theorem dX11_seenBy_14 : decode cX11_seenBy 14 = .ok (.iload_n 3, 1) := by decide +kernel
theorem dX11_seenBy_15 : decode cX11_seenBy 15 = .ok (.iload_n 1, 1) := by decide +kernel
theorem dX11_seenBy_16 : decode cX11_seenBy 16 = .ok (.invokevirtual 325, 3) := by decide +kernel
theorem dX11_seenBy_19 : decode cX11_seenBy 19 = .ok (.ifCond .eq 9, 3) := by decide +kernel
theorem dX11_seenBy_22 : decode cX11_seenBy 22 = .ok (.iconst 1, 1) := by decide +kernel
theorem dX11_seenBy_23 : decode cX11_seenBy 23 = .ok (.iload_n 3, 1) := by decide +kernel
theorem dX11_seenBy_24 : decode cX11_seenBy 24 = .ok (.ishl, 1) := by decide +kernel
theorem dX11_seenBy_25 : decode cX11_seenBy 25 = .ok (.goto 4, 3) := by decide +kernel
theorem dX11_seenBy_28 : decode cX11_seenBy 28 = .ok (.iconst 0, 1) := by decide +kernel
theorem dX11_seenBy_29 : decode cX11_seenBy 29 = .ok (.ior, 1) := by decide +kernel
theorem dX11_seenBy_30 : decode cX11_seenBy 30 = .ok (.istore_n 2, 1) := by decide +kernel
theorem dX11_seenBy_31 : decode cX11_seenBy 31 = .ok (.iinc 3 1, 3) := by decide +kernel
theorem dX11_seenBy_34 : decode cX11_seenBy 34 = .ok (.goto (-30), 3) := by decide +kernel
theorem dX11_seenBy_37 : decode cX11_seenBy 37 = .ok (.iload_n 2, 1) := by decide +kernel
theorem dX11_seenBy_38 : decode cX11_seenBy 38 = .ok (.ireturn, 1) := by decide +kernel
theorem dX11_holds_0 : decode cX11_holds 0 = .ok (.iconst 0, 1) := by decide +kernel
theorem dX11_holds_1 : decode cX11_holds 1 = .ok (.istore_n 3, 1) := by decide +kernel
theorem dX11_holds_2 : decode cX11_holds 2 = .ok (.iconst 0, 1) := by decide +kernel
theorem dX11_holds_3 : decode cX11_holds 3 = .ok (.istore 4, 2) := by decide +kernel
theorem dX11_holds_5 : decode cX11_holds 5 = .ok (.iload 4, 2) := by decide +kernel
theorem dX11_holds_7 : decode cX11_holds 7 = .ok (.aload_n 0, 1) := by decide +kernel
theorem dX11_holds_8 : decode cX11_holds 8 = .ok (.invokevirtual 115, 3) := by decide +kernel
theorem dX11_holds_11 : decode cX11_holds 11 = .ok (.if_icmp .ge 42, 3) := by decide +kernel
theorem dX11_holds_14 : decode cX11_holds 14 = .ok (.iload_n 3, 1) := by decide +kernel
theorem dX11_holds_15 : decode cX11_holds 15 = .ok (.aload_n 0, 1) := by decide +kernel
theorem dX11_holds_16 : decode cX11_holds 16 = .ok (.iload 4, 2) := by decide +kernel
theorem dX11_holds_18 : decode cX11_holds 18 = .ok (.invokevirtual 128, 3) := by decide +kernel
theorem dX11_holds_21 : decode cX11_holds 21 = .ok (.ifCond .eq 23, 3) := by decide +kernel
theorem dX11_holds_24 : decode cX11_holds 24 = .ok (.aload_n 0, 1) := by decide +kernel
theorem dX11_holds_25 : decode cX11_holds 25 = .ok (.iload_n 1, 1) := by decide +kernel
theorem dX11_holds_26 : decode cX11_holds 26 = .ok (.iload 4, 2) := by decide +kernel
theorem dX11_holds_28 : decode cX11_holds 28 = .ok (.invokevirtual 132, 3) := by decide +kernel
theorem dX11_holds_31 : decode cX11_holds 31 = .ok (.aload_n 0, 1) := by decide +kernel
theorem dX11_holds_32 : decode cX11_holds 32 = .ok (.iload_n 1, 1) := by decide +kernel
theorem dX11_holds_33 : decode cX11_holds 33 = .ok (.iload_n 2, 1) := by decide +kernel
theorem dX11_holds_34 : decode cX11_holds 34 = .ok (.invokevirtual 132, 3) := by decide +kernel
theorem dX11_holds_37 : decode cX11_holds 37 = .ok (.if_icmp .ne 7, 3) := by decide +kernel
theorem dX11_holds_40 : decode cX11_holds 40 = .ok (.iconst 1, 1) := by decide +kernel
theorem dX11_holds_41 : decode cX11_holds 41 = .ok (.goto 4, 3) := by decide +kernel
theorem dX11_holds_44 : decode cX11_holds 44 = .ok (.iconst 0, 1) := by decide +kernel
theorem dX11_holds_45 : decode cX11_holds 45 = .ok (.iadd, 1) := by decide +kernel
theorem dX11_holds_46 : decode cX11_holds 46 = .ok (.istore_n 3, 1) := by decide +kernel
theorem dX11_holds_47 : decode cX11_holds 47 = .ok (.iinc 4 1, 3) := by decide +kernel
theorem dX11_holds_50 : decode cX11_holds 50 = .ok (.goto (-45), 3) := by decide +kernel
theorem dX11_holds_53 : decode cX11_holds 53 = .ok (.iload_n 3, 1) := by decide +kernel
theorem dX11_holds_54 : decode cX11_holds 54 = .ok (.ireturn, 1) := by decide +kernel
theorem dX11_allKnown_0 : decode cX11_allKnown 0 = .ok (.iconst 0, 1) := by decide +kernel
theorem dX11_allKnown_1 : decode cX11_allKnown 1 = .ok (.istore_n 2, 1) := by decide +kernel
theorem dX11_allKnown_2 : decode cX11_allKnown 2 = .ok (.iconst 0, 1) := by decide +kernel
theorem dX11_allKnown_3 : decode cX11_allKnown 3 = .ok (.istore_n 3, 1) := by decide +kernel
theorem dX11_allKnown_4 : decode cX11_allKnown 4 = .ok (.iload_n 3, 1) := by decide +kernel
theorem dX11_allKnown_5 : decode cX11_allKnown 5 = .ok (.aload_n 0, 1) := by decide +kernel
theorem dX11_allKnown_6 : decode cX11_allKnown 6 = .ok (.invokevirtual 107, 3) := by decide +kernel
theorem dX11_allKnown_9 : decode cX11_allKnown 9 = .ok (.if_icmp .ge 35, 3) := by decide +kernel
theorem dX11_allKnown_12 : decode cX11_allKnown 12 = .ok (.iload_n 2, 1) := by decide +kernel
theorem dX11_allKnown_13 : decode cX11_allKnown 13 = .ok (.aload_n 0, 1) := by decide +kernel
theorem dX11_allKnown_14 : decode cX11_allKnown 14 = .ok (.iload_n 1, 1) := by decide +kernel
theorem dX11_allKnown_15 : decode cX11_allKnown 15 = .ok (.iload_n 3, 1) := by decide +kernel
theorem dX11_allKnown_16 : decode cX11_allKnown 16 = .ok (.aload_n 0, 1) := by decide +kernel
theorem dX11_allKnown_17 : decode cX11_allKnown 17 = .ok (.invokevirtual 121, 3) := by decide +kernel
theorem dX11_allKnown_20 : decode cX11_allKnown 20 = .ok (.invokevirtual 139, 3) := by decide +kernel
theorem dX11_allKnown_23 : decode cX11_allKnown 23 = .ok (.invokestatic 143, 3) := by decide +kernel
theorem dX11_allKnown_26 : decode cX11_allKnown 26 = .ok (.ifCond .eq 9, 3) := by decide +kernel
theorem dX11_allKnown_29 : decode cX11_allKnown 29 = .ok (.iconst 1, 1) := by decide +kernel
theorem dX11_allKnown_30 : decode cX11_allKnown 30 = .ok (.iload_n 3, 1) := by decide +kernel
theorem dX11_allKnown_31 : decode cX11_allKnown 31 = .ok (.ishl, 1) := by decide +kernel
theorem dX11_allKnown_32 : decode cX11_allKnown 32 = .ok (.goto 4, 3) := by decide +kernel
theorem dX11_allKnown_35 : decode cX11_allKnown 35 = .ok (.iconst 0, 1) := by decide +kernel
theorem dX11_allKnown_36 : decode cX11_allKnown 36 = .ok (.ior, 1) := by decide +kernel
theorem dX11_allKnown_37 : decode cX11_allKnown 37 = .ok (.istore_n 2, 1) := by decide +kernel
theorem dX11_allKnown_38 : decode cX11_allKnown 38 = .ok (.iinc 3 1, 3) := by decide +kernel
theorem dX11_allKnown_41 : decode cX11_allKnown 41 = .ok (.goto (-37), 3) := by decide +kernel
theorem dX11_allKnown_44 : decode cX11_allKnown 44 = .ok (.iload_n 2, 1) := by decide +kernel
theorem dX11_allKnown_45 : decode cX11_allKnown 45 = .ok (.ireturn, 1) := by decide +kernel
theorem dX11_person_0 : decode cX11_person 0 = .ok (.aload_n 0, 1) := by decide +kernel
theorem dX11_person_1 : decode cX11_person 1 = .ok (.iconst 0, 1) := by decide +kernel
theorem dX11_person_2 : decode cX11_person 2 = .ok (.putfield 3, 3) := by decide +kernel
theorem dX11_person_5 : decode cX11_person 5 = .ok (.aload_n 0, 1) := by decide +kernel
theorem dX11_person_6 : decode cX11_person 6 = .ok (.aload_n 0, 1) := by decide +kernel
theorem dX11_person_7 : decode cX11_person 7 = .ok (.iload_n 1, 1) := by decide +kernel
theorem dX11_person_8 : decode cX11_person 8 = .ok (.invokevirtual 359, 3) := by decide +kernel
theorem dX11_person_11 : decode cX11_person 11 = .ok (.iconst 1, 1) := by decide +kernel
theorem dX11_person_12 : decode cX11_person 12 = .ok (.invokevirtual 322, 3) := by decide +kernel
theorem dX11_person_15 : decode cX11_person 15 = .ok (.ifCond .ne 25, 3) := by decide +kernel
theorem dX11_person_18 : decode cX11_person 18 = .ok (.aload_n 0, 1) := by decide +kernel
theorem dX11_person_19 : decode cX11_person 19 = .ok (.iload_n 2, 1) := by decide +kernel
theorem dX11_person_20 : decode cX11_person 20 = .ok (.iconst 0, 1) := by decide +kernel
theorem dX11_person_21 : decode cX11_person 21 = .ok (.iconst 5, 1) := by decide +kernel
theorem dX11_person_22 : decode cX11_person 22 = .ok (.invokestatic 111, 3) := by decide +kernel
theorem dX11_person_25 : decode cX11_person 25 = .ok (.ifCond .ne 7, 3) := by decide +kernel
theorem dX11_person_28 : decode cX11_person 28 = .ok (.iconst 1, 1) := by decide +kernel
theorem dX11_person_29 : decode cX11_person 29 = .ok (.goto 4, 3) := by decide +kernel
theorem dX11_person_32 : decode cX11_person 32 = .ok (.iconst 0, 1) := by decide +kernel
theorem dX11_person_33 : decode cX11_person 33 = .ok (.iconst 2, 1) := by decide +kernel
theorem dX11_person_34 : decode cX11_person 34 = .ok (.invokevirtual 322, 3) := by decide +kernel
theorem dX11_person_37 : decode cX11_person 37 = .ok (.ifCond .eq 5, 3) := by decide +kernel
theorem dX11_person_40 : decode cX11_person 40 = .ok (.iconst 0, 1) := by decide +kernel
theorem dX11_person_41 : decode cX11_person 41 = .ok (.ireturn, 1) := by decide +kernel
theorem dX11_person_42 : decode cX11_person 42 = .ok (.iload_n 2, 1) := by decide +kernel
theorem dX11_person_43 : decode cX11_person 43 = .ok (.tableswitch 83 0 4 #[33, 39, 49, 55, 73], 33) := by decide +kernel
theorem dX11_person_76 : decode cX11_person 76 = .ok (.aload_n 0, 1) := by decide +kernel
theorem dX11_person_77 : decode cX11_person 77 = .ok (.iload_n 1, 1) := by decide +kernel
theorem dX11_person_78 : decode cX11_person 78 = .ok (.invokevirtual 369, 3) := by decide +kernel
theorem dX11_person_81 : decode cX11_person 81 = .ok (.ireturn, 1) := by decide +kernel
theorem dX11_person_82 : decode cX11_person 82 = .ok (.aload_n 0, 1) := by decide +kernel
theorem dX11_person_83 : decode cX11_person 83 = .ok (.getfield 13, 3) := by decide +kernel
theorem dX11_person_86 : decode cX11_person 86 = .ok (.bipush 11, 2) := by decide +kernel
theorem dX11_person_88 : decode cX11_person 88 = .ok (.iload_n 1, 1) := by decide +kernel
theorem dX11_person_89 : decode cX11_person 89 = .ok (.iadd, 1) := by decide +kernel
theorem dX11_person_90 : decode cX11_person 90 = .ok (.iaload, 1) := by decide +kernel
theorem dX11_person_91 : decode cX11_person 91 = .ok (.ireturn, 1) := by decide +kernel
theorem dX11_person_92 : decode cX11_person 92 = .ok (.aload_n 0, 1) := by decide +kernel
theorem dX11_person_93 : decode cX11_person 93 = .ok (.iload_n 1, 1) := by decide +kernel
theorem dX11_person_94 : decode cX11_person 94 = .ok (.invokevirtual 389, 3) := by decide +kernel
theorem dX11_person_97 : decode cX11_person 97 = .ok (.ireturn, 1) := by decide +kernel
theorem dX11_person_98 : decode cX11_person 98 = .ok (.aload_n 0, 1) := by decide +kernel
theorem dX11_person_99 : decode cX11_person 99 = .ok (.iload_n 1, 1) := by decide +kernel
theorem dX11_person_100 : decode cX11_person 100 = .ok (.aload_n 0, 1) := by decide +kernel
theorem dX11_person_101 : decode cX11_person 101 = .ok (.invokevirtual 121, 3) := by decide +kernel
theorem dX11_person_104 : decode cX11_person 104 = .ok (.invokevirtual 146, 3) := by decide +kernel
theorem dX11_person_107 : decode cX11_person 107 = .ok (.ifCond .eq 7, 3) := by decide +kernel
theorem dX11_person_110 : decode cX11_person 110 = .ok (.iconst 1, 1) := by decide +kernel
theorem dX11_person_111 : decode cX11_person 111 = .ok (.goto 4, 3) := by decide +kernel
theorem dX11_person_114 : decode cX11_person 114 = .ok (.iconst 0, 1) := by decide +kernel
theorem dX11_person_115 : decode cX11_person 115 = .ok (.ireturn, 1) := by decide +kernel
theorem dX11_person_116 : decode cX11_person 116 = .ok (.aload_n 0, 1) := by decide +kernel
theorem dX11_person_117 : decode cX11_person 117 = .ok (.iload_n 1, 1) := by decide +kernel
theorem dX11_person_118 : decode cX11_person 118 = .ok (.aload_n 0, 1) := by decide +kernel
theorem dX11_person_119 : decode cX11_person 119 = .ok (.invokevirtual 121, 3) := by decide +kernel
theorem dX11_person_122 : decode cX11_person 122 = .ok (.invokevirtual 392, 3) := by decide +kernel
theorem dX11_person_125 : decode cX11_person 125 = .ok (.ireturn, 1) := by decide +kernel
theorem dX11_person_126 : decode cX11_person 126 = .ok (.aload_n 0, 1) := by decide +kernel
theorem dX11_person_127 : decode cX11_person 127 = .ok (.iload_n 1, 1) := by decide +kernel
theorem dX11_person_128 : decode cX11_person 128 = .ok (.invokevirtual 395, 3) := by decide +kernel
theorem dX11_person_131 : decode cX11_person 131 = .ok (.ireturn, 1) := by decide +kernel
theorem dX11_left_0 : decode cX11_left 0 = .ok (.aload_n 0, 1) := by decide +kernel
theorem dX11_left_1 : decode cX11_left 1 = .ok (.iconst 0, 1) := by decide +kernel
theorem dX11_left_2 : decode cX11_left 2 = .ok (.putfield 3, 3) := by decide +kernel
theorem dX11_left_5 : decode cX11_left 5 = .ok (.aload_n 0, 1) := by decide +kernel
theorem dX11_left_6 : decode cX11_left 6 = .ok (.aload_n 0, 1) := by decide +kernel
theorem dX11_left_7 : decode cX11_left 7 = .ok (.iload_n 1, 1) := by decide +kernel
theorem dX11_left_8 : decode cX11_left 8 = .ok (.invokevirtual 398, 3) := by decide +kernel
theorem dX11_left_11 : decode cX11_left 11 = .ok (.iconst 1, 1) := by decide +kernel
theorem dX11_left_12 : decode cX11_left 12 = .ok (.invokevirtual 322, 3) := by decide +kernel
theorem dX11_left_15 : decode cX11_left 15 = .ok (.ifCond .ne 15, 3) := by decide +kernel
theorem dX11_left_18 : decode cX11_left 18 = .ok (.aload_n 0, 1) := by decide +kernel
theorem dX11_left_19 : decode cX11_left 19 = .ok (.iload_n 1, 1) := by decide +kernel
theorem dX11_left_20 : decode cX11_left 20 = .ok (.invokevirtual 128, 3) := by decide +kernel
theorem dX11_left_23 : decode cX11_left 23 = .ok (.ifCond .eq 7, 3) := by decide +kernel
theorem dX11_left_26 : decode cX11_left 26 = .ok (.iconst 1, 1) := by decide +kernel
theorem dX11_left_27 : decode cX11_left 27 = .ok (.goto 4, 3) := by decide +kernel
theorem dX11_left_30 : decode cX11_left 30 = .ok (.iconst 0, 1) := by decide +kernel
theorem dX11_left_31 : decode cX11_left 31 = .ok (.ireturn, 1) := by decide +kernel
theorem dX11_apart_0 : decode cX11_apart 0 = .ok (.aload_n 0, 1) := by decide +kernel
theorem dX11_apart_1 : decode cX11_apart 1 = .ok (.iconst 0, 1) := by decide +kernel
theorem dX11_apart_2 : decode cX11_apart 2 = .ok (.putfield 3, 3) := by decide +kernel
theorem dX11_apart_5 : decode cX11_apart 5 = .ok (.aload_n 0, 1) := by decide +kernel
theorem dX11_apart_6 : decode cX11_apart 6 = .ok (.aload_n 0, 1) := by decide +kernel
theorem dX11_apart_7 : decode cX11_apart 7 = .ok (.iload_n 1, 1) := by decide +kernel
theorem dX11_apart_8 : decode cX11_apart 8 = .ok (.invokevirtual 359, 3) := by decide +kernel
theorem dX11_apart_11 : decode cX11_apart 11 = .ok (.ifCond .ne 19, 3) := by decide +kernel
theorem dX11_apart_14 : decode cX11_apart 14 = .ok (.aload_n 0, 1) := by decide +kernel
theorem dX11_apart_15 : decode cX11_apart 15 = .ok (.iload_n 2, 1) := by decide +kernel
theorem dX11_apart_16 : decode cX11_apart 16 = .ok (.invokevirtual 398, 3) := by decide +kernel
theorem dX11_apart_19 : decode cX11_apart 19 = .ok (.ifCond .ne 11, 3) := by decide +kernel
theorem dX11_apart_22 : decode cX11_apart 22 = .ok (.aload_n 0, 1) := by decide +kernel
theorem dX11_apart_23 : decode cX11_apart 23 = .ok (.iload_n 3, 1) := by decide +kernel
theorem dX11_apart_24 : decode cX11_apart 24 = .ok (.invokevirtual 398, 3) := by decide +kernel
theorem dX11_apart_27 : decode cX11_apart 27 = .ok (.ifCond .eq 7, 3) := by decide +kernel
theorem dX11_apart_30 : decode cX11_apart 30 = .ok (.iconst 1, 1) := by decide +kernel
theorem dX11_apart_31 : decode cX11_apart 31 = .ok (.goto 4, 3) := by decide +kernel
theorem dX11_apart_34 : decode cX11_apart 34 = .ok (.iconst 0, 1) := by decide +kernel
theorem dX11_apart_35 : decode cX11_apart 35 = .ok (.iconst 1, 1) := by decide +kernel
theorem dX11_apart_36 : decode cX11_apart 36 = .ok (.invokevirtual 322, 3) := by decide +kernel
theorem dX11_apart_39 : decode cX11_apart 39 = .ok (.ifCond .ne 32, 3) := by decide +kernel
theorem dX11_apart_42 : decode cX11_apart 42 = .ok (.aload_n 0, 1) := by decide +kernel
theorem dX11_apart_43 : decode cX11_apart 43 = .ok (.aload_n 0, 1) := by decide +kernel
theorem dX11_apart_44 : decode cX11_apart 44 = .ok (.iload_n 2, 1) := by decide +kernel
theorem dX11_apart_45 : decode cX11_apart 45 = .ok (.invokevirtual 128, 3) := by decide +kernel
theorem dX11_apart_48 : decode cX11_apart 48 = .ok (.ifCond .eq 11, 3) := by decide +kernel
theorem dX11_apart_51 : decode cX11_apart 51 = .ok (.aload_n 0, 1) := by decide +kernel
theorem dX11_apart_52 : decode cX11_apart 52 = .ok (.iload_n 3, 1) := by decide +kernel
theorem dX11_apart_53 : decode cX11_apart 53 = .ok (.invokevirtual 128, 3) := by decide +kernel
theorem dX11_apart_56 : decode cX11_apart 56 = .ok (.ifCond .ne 7, 3) := by decide +kernel
theorem dX11_apart_59 : decode cX11_apart 59 = .ok (.iconst 1, 1) := by decide +kernel
theorem dX11_apart_60 : decode cX11_apart 60 = .ok (.goto 4, 3) := by decide +kernel
theorem dX11_apart_63 : decode cX11_apart 63 = .ok (.iconst 0, 1) := by decide +kernel
theorem dX11_apart_64 : decode cX11_apart 64 = .ok (.iconst 2, 1) := by decide +kernel
theorem dX11_apart_65 : decode cX11_apart 65 = .ok (.invokevirtual 322, 3) := by decide +kernel
theorem dX11_apart_68 : decode cX11_apart 68 = .ok (.ifCond .eq 5, 3) := by decide +kernel
theorem dX11_apart_71 : decode cX11_apart 71 = .ok (.iconst 0, 1) := by decide +kernel
theorem dX11_apart_72 : decode cX11_apart 72 = .ok (.ireturn, 1) := by decide +kernel
theorem dX11_apart_73 : decode cX11_apart 73 = .ok (.aload_n 0, 1) := by decide +kernel
theorem dX11_apart_74 : decode cX11_apart 74 = .ok (.iload_n 1, 1) := by decide +kernel
theorem dX11_apart_75 : decode cX11_apart 75 = .ok (.iload_n 2, 1) := by decide +kernel
theorem dX11_apart_76 : decode cX11_apart 76 = .ok (.invokevirtual 132, 3) := by decide +kernel
theorem dX11_apart_79 : decode cX11_apart 79 = .ok (.aload_n 0, 1) := by decide +kernel
theorem dX11_apart_80 : decode cX11_apart 80 = .ok (.iload_n 1, 1) := by decide +kernel
theorem dX11_apart_81 : decode cX11_apart 81 = .ok (.iload_n 3, 1) := by decide +kernel
theorem dX11_apart_82 : decode cX11_apart 82 = .ok (.invokevirtual 132, 3) := by decide +kernel
theorem dX11_apart_85 : decode cX11_apart 85 = .ok (.if_icmp .eq 7, 3) := by decide +kernel
theorem dX11_apart_88 : decode cX11_apart 88 = .ok (.iconst 1, 1) := by decide +kernel
theorem dX11_apart_89 : decode cX11_apart 89 = .ok (.goto 4, 3) := by decide +kernel
theorem dX11_apart_92 : decode cX11_apart 92 = .ok (.iconst 0, 1) := by decide +kernel
theorem dX11_apart_93 : decode cX11_apart 93 = .ok (.ireturn, 1) := by decide +kernel
theorem dX11_sure_0 : decode cX11_sure 0 = .ok (.aload_n 0, 1) := by decide +kernel
theorem dX11_sure_1 : decode cX11_sure 1 = .ok (.iconst 0, 1) := by decide +kernel
theorem dX11_sure_2 : decode cX11_sure 2 = .ok (.putfield 3, 3) := by decide +kernel
theorem dX11_sure_5 : decode cX11_sure 5 = .ok (.aload_n 0, 1) := by decide +kernel
theorem dX11_sure_6 : decode cX11_sure 6 = .ok (.aload_n 0, 1) := by decide +kernel
theorem dX11_sure_7 : decode cX11_sure 7 = .ok (.iload_n 1, 1) := by decide +kernel
theorem dX11_sure_8 : decode cX11_sure 8 = .ok (.invokevirtual 359, 3) := by decide +kernel
theorem dX11_sure_11 : decode cX11_sure 11 = .ok (.ifCond .ne 11, 3) := by decide +kernel
theorem dX11_sure_14 : decode cX11_sure 14 = .ok (.aload_n 0, 1) := by decide +kernel
theorem dX11_sure_15 : decode cX11_sure 15 = .ok (.iload_n 2, 1) := by decide +kernel
theorem dX11_sure_16 : decode cX11_sure 16 = .ok (.invokevirtual 398, 3) := by decide +kernel
theorem dX11_sure_19 : decode cX11_sure 19 = .ok (.ifCond .eq 7, 3) := by decide +kernel
theorem dX11_sure_22 : decode cX11_sure 22 = .ok (.iconst 1, 1) := by decide +kernel
theorem dX11_sure_23 : decode cX11_sure 23 = .ok (.goto 4, 3) := by decide +kernel
theorem dX11_sure_26 : decode cX11_sure 26 = .ok (.iconst 0, 1) := by decide +kernel
theorem dX11_sure_27 : decode cX11_sure 27 = .ok (.iconst 1, 1) := by decide +kernel
theorem dX11_sure_28 : decode cX11_sure 28 = .ok (.invokevirtual 322, 3) := by decide +kernel
theorem dX11_sure_31 : decode cX11_sure 31 = .ok (.ifCond .ne 24, 3) := by decide +kernel
theorem dX11_sure_34 : decode cX11_sure 34 = .ok (.aload_n 0, 1) := by decide +kernel
theorem dX11_sure_35 : decode cX11_sure 35 = .ok (.aload_n 0, 1) := by decide +kernel
theorem dX11_sure_36 : decode cX11_sure 36 = .ok (.iload_n 2, 1) := by decide +kernel
theorem dX11_sure_37 : decode cX11_sure 37 = .ok (.invokevirtual 128, 3) := by decide +kernel
theorem dX11_sure_40 : decode cX11_sure 40 = .ok (.ifCond .ne 7, 3) := by decide +kernel
theorem dX11_sure_43 : decode cX11_sure 43 = .ok (.iconst 1, 1) := by decide +kernel
theorem dX11_sure_44 : decode cX11_sure 44 = .ok (.goto 4, 3) := by decide +kernel
theorem dX11_sure_47 : decode cX11_sure 47 = .ok (.iconst 0, 1) := by decide +kernel
theorem dX11_sure_48 : decode cX11_sure 48 = .ok (.iconst 2, 1) := by decide +kernel
theorem dX11_sure_49 : decode cX11_sure 49 = .ok (.invokevirtual 322, 3) := by decide +kernel
theorem dX11_sure_52 : decode cX11_sure 52 = .ok (.ifCond .eq 5, 3) := by decide +kernel
theorem dX11_sure_55 : decode cX11_sure 55 = .ok (.iconst 0, 1) := by decide +kernel
theorem dX11_sure_56 : decode cX11_sure 56 = .ok (.ireturn, 1) := by decide +kernel
theorem dX11_sure_57 : decode cX11_sure 57 = .ok (.aload_n 0, 1) := by decide +kernel
theorem dX11_sure_58 : decode cX11_sure 58 = .ok (.iload_n 1, 1) := by decide +kernel
theorem dX11_sure_59 : decode cX11_sure 59 = .ok (.iload_n 2, 1) := by decide +kernel
theorem dX11_sure_60 : decode cX11_sure 60 = .ok (.invokevirtual 146, 3) := by decide +kernel
theorem dX11_sure_63 : decode cX11_sure 63 = .ok (.ireturn, 1) := by decide +kernel
theorem dX11_manner_0 : decode cX11_manner 0 = .ok (.aload_n 0, 1) := by decide +kernel
theorem dX11_manner_1 : decode cX11_manner 1 = .ok (.iconst 0, 1) := by decide +kernel
theorem dX11_manner_2 : decode cX11_manner 2 = .ok (.putfield 3, 3) := by decide +kernel
theorem dX11_manner_5 : decode cX11_manner 5 = .ok (.aload_n 0, 1) := by decide +kernel
theorem dX11_manner_6 : decode cX11_manner 6 = .ok (.aload_n 0, 1) := by decide +kernel
theorem dX11_manner_7 : decode cX11_manner 7 = .ok (.iload_n 1, 1) := by decide +kernel
theorem dX11_manner_8 : decode cX11_manner 8 = .ok (.invokevirtual 359, 3) := by decide +kernel
theorem dX11_manner_11 : decode cX11_manner 11 = .ok (.ifCond .ne 19, 3) := by decide +kernel
theorem dX11_manner_14 : decode cX11_manner 14 = .ok (.aload_n 0, 1) := by decide +kernel
theorem dX11_manner_15 : decode cX11_manner 15 = .ok (.iload_n 2, 1) := by decide +kernel
theorem dX11_manner_16 : decode cX11_manner 16 = .ok (.invokevirtual 359, 3) := by decide +kernel
theorem dX11_manner_19 : decode cX11_manner 19 = .ok (.ifCond .ne 11, 3) := by decide +kernel
theorem dX11_manner_22 : decode cX11_manner 22 = .ok (.aload_n 0, 1) := by decide +kernel
theorem dX11_manner_23 : decode cX11_manner 23 = .ok (.iload_n 3, 1) := by decide +kernel
theorem dX11_manner_24 : decode cX11_manner 24 = .ok (.invokevirtual 398, 3) := by decide +kernel
theorem dX11_manner_27 : decode cX11_manner 27 = .ok (.ifCond .eq 7, 3) := by decide +kernel
theorem dX11_manner_30 : decode cX11_manner 30 = .ok (.iconst 1, 1) := by decide +kernel
theorem dX11_manner_31 : decode cX11_manner 31 = .ok (.goto 4, 3) := by decide +kernel
theorem dX11_manner_34 : decode cX11_manner 34 = .ok (.iconst 0, 1) := by decide +kernel
theorem dX11_manner_35 : decode cX11_manner 35 = .ok (.iconst 1, 1) := by decide +kernel
theorem dX11_manner_36 : decode cX11_manner 36 = .ok (.invokevirtual 322, 3) := by decide +kernel
theorem dX11_manner_39 : decode cX11_manner 39 = .ok (.ifCond .ne 51, 3) := by decide +kernel
theorem dX11_manner_42 : decode cX11_manner 42 = .ok (.aload_n 0, 1) := by decide +kernel
theorem dX11_manner_43 : decode cX11_manner 43 = .ok (.iload_n 1, 1) := by decide +kernel
theorem dX11_manner_44 : decode cX11_manner 44 = .ok (.iload_n 2, 1) := by decide +kernel
theorem dX11_manner_45 : decode cX11_manner 45 = .ok (.if_icmp .ne 7, 3) := by decide +kernel
theorem dX11_manner_48 : decode cX11_manner 48 = .ok (.iconst 1, 1) := by decide +kernel
theorem dX11_manner_49 : decode cX11_manner 49 = .ok (.goto 4, 3) := by decide +kernel
theorem dX11_manner_52 : decode cX11_manner 52 = .ok (.iconst 0, 1) := by decide +kernel
theorem dX11_manner_53 : decode cX11_manner 53 = .ok (.iconst 2, 1) := by decide +kernel
theorem dX11_manner_54 : decode cX11_manner 54 = .ok (.invokevirtual 322, 3) := by decide +kernel
theorem dX11_manner_57 : decode cX11_manner 57 = .ok (.ifCond .ne 33, 3) := by decide +kernel
theorem dX11_manner_60 : decode cX11_manner 60 = .ok (.aload_n 0, 1) := by decide +kernel
theorem dX11_manner_61 : decode cX11_manner 61 = .ok (.aload_n 0, 1) := by decide +kernel
theorem dX11_manner_62 : decode cX11_manner 62 = .ok (.iload_n 3, 1) := by decide +kernel
theorem dX11_manner_63 : decode cX11_manner 63 = .ok (.invokevirtual 128, 3) := by decide +kernel
theorem dX11_manner_66 : decode cX11_manner 66 = .ok (.ifCond .eq 12, 3) := by decide +kernel
theorem dX11_manner_69 : decode cX11_manner 69 = .ok (.aload_n 0, 1) := by decide +kernel
theorem dX11_manner_70 : decode cX11_manner 70 = .ok (.iload_n 1, 1) := by decide +kernel
theorem dX11_manner_71 : decode cX11_manner 71 = .ok (.iload_n 2, 1) := by decide +kernel
theorem dX11_manner_72 : decode cX11_manner 72 = .ok (.invokevirtual 325, 3) := by decide +kernel
theorem dX11_manner_75 : decode cX11_manner 75 = .ok (.ifCond .ne 7, 3) := by decide +kernel
theorem dX11_manner_78 : decode cX11_manner 78 = .ok (.iconst 1, 1) := by decide +kernel
theorem dX11_manner_79 : decode cX11_manner 79 = .ok (.goto 4, 3) := by decide +kernel
theorem dX11_manner_82 : decode cX11_manner 82 = .ok (.iconst 0, 1) := by decide +kernel
theorem dX11_manner_83 : decode cX11_manner 83 = .ok (.iconst 3, 1) := by decide +kernel
theorem dX11_manner_84 : decode cX11_manner 84 = .ok (.invokevirtual 322, 3) := by decide +kernel
theorem dX11_manner_87 : decode cX11_manner 87 = .ok (.ifCond .eq 5, 3) := by decide +kernel
theorem dX11_manner_90 : decode cX11_manner 90 = .ok (.iconst 0, 1) := by decide +kernel
theorem dX11_manner_91 : decode cX11_manner 91 = .ok (.ireturn, 1) := by decide +kernel
theorem dX11_manner_92 : decode cX11_manner 92 = .ok (.aload_n 0, 1) := by decide +kernel
theorem dX11_manner_93 : decode cX11_manner 93 = .ok (.iload_n 1, 1) := by decide +kernel
theorem dX11_manner_94 : decode cX11_manner 94 = .ok (.iload_n 2, 1) := by decide +kernel
theorem dX11_manner_95 : decode cX11_manner 95 = .ok (.iload_n 3, 1) := by decide +kernel
theorem dX11_manner_96 : decode cX11_manner 96 = .ok (.invokevirtual 349, 3) := by decide +kernel
theorem dX11_manner_99 : decode cX11_manner 99 = .ok (.ireturn, 1) := by decide +kernel
theorem dX11_possible_0 : decode cX11_possible 0 = .ok (.aload_n 0, 1) := by decide +kernel
theorem dX11_possible_1 : decode cX11_possible 1 = .ok (.iconst 0, 1) := by decide +kernel
theorem dX11_possible_2 : decode cX11_possible 2 = .ok (.putfield 3, 3) := by decide +kernel
theorem dX11_possible_5 : decode cX11_possible 5 = .ok (.aload_n 0, 1) := by decide +kernel
theorem dX11_possible_6 : decode cX11_possible 6 = .ok (.aload_n 0, 1) := by decide +kernel
theorem dX11_possible_7 : decode cX11_possible 7 = .ok (.iload_n 1, 1) := by decide +kernel
theorem dX11_possible_8 : decode cX11_possible 8 = .ok (.invokevirtual 359, 3) := by decide +kernel
theorem dX11_possible_11 : decode cX11_possible 11 = .ok (.ifCond .ne 11, 3) := by decide +kernel
theorem dX11_possible_14 : decode cX11_possible 14 = .ok (.aload_n 0, 1) := by decide +kernel
theorem dX11_possible_15 : decode cX11_possible 15 = .ok (.iload_n 2, 1) := by decide +kernel
theorem dX11_possible_16 : decode cX11_possible 16 = .ok (.invokevirtual 359, 3) := by decide +kernel
theorem dX11_possible_19 : decode cX11_possible 19 = .ok (.ifCond .eq 7, 3) := by decide +kernel
theorem dX11_possible_22 : decode cX11_possible 22 = .ok (.iconst 1, 1) := by decide +kernel
theorem dX11_possible_23 : decode cX11_possible 23 = .ok (.goto 4, 3) := by decide +kernel
theorem dX11_possible_26 : decode cX11_possible 26 = .ok (.iconst 0, 1) := by decide +kernel
theorem dX11_possible_27 : decode cX11_possible 27 = .ok (.iconst 1, 1) := by decide +kernel
theorem dX11_possible_28 : decode cX11_possible 28 = .ok (.invokevirtual 322, 3) := by decide +kernel
theorem dX11_possible_31 : decode cX11_possible 31 = .ok (.ifCond .eq 7, 3) := by decide +kernel
theorem dX11_possible_34 : decode cX11_possible 34 = .ok (.iconst 0, 1) := by decide +kernel
theorem dX11_possible_35 : decode cX11_possible 35 = .ok (.goto 13, 3) := by decide +kernel
theorem dX11_possible_38 : decode cX11_possible 38 = .ok (.aload_n 0, 1) := by decide +kernel
theorem dX11_possible_39 : decode cX11_possible 39 = .ok (.iload_n 1, 1) := by decide +kernel
theorem dX11_possible_40 : decode cX11_possible 40 = .ok (.iload_n 2, 1) := by decide +kernel
theorem dX11_possible_41 : decode cX11_possible 41 = .ok (.aload_n 0, 1) := by decide +kernel
theorem dX11_possible_42 : decode cX11_possible 42 = .ok (.invokevirtual 121, 3) := by decide +kernel
theorem dX11_possible_45 : decode cX11_possible 45 = .ok (.invokevirtual 139, 3) := by decide +kernel
theorem dX11_possible_48 : decode cX11_possible 48 = .ok (.ireturn, 1) := by decide +kernel
theorem dJ6_numberOfTrailingZeros_0f7a4_0 : decode cJ6_numberOfTrailingZeros_0f7a4 0 = .ok (.iload_n 0, 1) := by decide +kernel
theorem dJ6_numberOfTrailingZeros_0f7a4_1 : decode cJ6_numberOfTrailingZeros_0f7a4 1 = .ok (.iconst (-1), 1) := by decide +kernel
theorem dJ6_numberOfTrailingZeros_0f7a4_2 : decode cJ6_numberOfTrailingZeros_0f7a4 2 = .ok (.ixor, 1) := by decide +kernel
theorem dJ6_numberOfTrailingZeros_0f7a4_3 : decode cJ6_numberOfTrailingZeros_0f7a4 3 = .ok (.iload_n 0, 1) := by decide +kernel
theorem dJ6_numberOfTrailingZeros_0f7a4_4 : decode cJ6_numberOfTrailingZeros_0f7a4 4 = .ok (.iconst 1, 1) := by decide +kernel
theorem dJ6_numberOfTrailingZeros_0f7a4_5 : decode cJ6_numberOfTrailingZeros_0f7a4 5 = .ok (.isub, 1) := by decide +kernel
theorem dJ6_numberOfTrailingZeros_0f7a4_6 : decode cJ6_numberOfTrailingZeros_0f7a4 6 = .ok (.iand, 1) := by decide +kernel
theorem dJ6_numberOfTrailingZeros_0f7a4_7 : decode cJ6_numberOfTrailingZeros_0f7a4 7 = .ok (.istore_n 0, 1) := by decide +kernel
theorem dJ6_numberOfTrailingZeros_0f7a4_8 : decode cJ6_numberOfTrailingZeros_0f7a4 8 = .ok (.iload_n 0, 1) := by decide +kernel
theorem dJ6_numberOfTrailingZeros_0f7a4_9 : decode cJ6_numberOfTrailingZeros_0f7a4 9 = .ok (.ifCond .gt 8, 3) := by decide +kernel
theorem dJ6_numberOfTrailingZeros_0f7a4_12 : decode cJ6_numberOfTrailingZeros_0f7a4 12 = .ok (.iload_n 0, 1) := by decide +kernel
theorem dJ6_numberOfTrailingZeros_0f7a4_13 : decode cJ6_numberOfTrailingZeros_0f7a4 13 = .ok (.bipush 32, 2) := by decide +kernel
theorem dJ6_numberOfTrailingZeros_0f7a4_15 : decode cJ6_numberOfTrailingZeros_0f7a4 15 = .ok (.iand, 1) := by decide +kernel
theorem dJ6_numberOfTrailingZeros_0f7a4_16 : decode cJ6_numberOfTrailingZeros_0f7a4 16 = .ok (.ireturn, 1) := by decide +kernel
theorem dJ6_numberOfTrailingZeros_0f7a4_17 : decode cJ6_numberOfTrailingZeros_0f7a4 17 = .ok (.iconst 1, 1) := by decide +kernel
theorem dJ6_numberOfTrailingZeros_0f7a4_18 : decode cJ6_numberOfTrailingZeros_0f7a4 18 = .ok (.istore_n 1, 1) := by decide +kernel
theorem dJ6_numberOfTrailingZeros_0f7a4_19 : decode cJ6_numberOfTrailingZeros_0f7a4 19 = .ok (.iload_n 0, 1) := by decide +kernel
theorem dJ6_numberOfTrailingZeros_0f7a4_20 : decode cJ6_numberOfTrailingZeros_0f7a4 20 = .ok (.ldc_w 264, 3) := by decide +kernel
theorem dJ6_numberOfTrailingZeros_0f7a4_23 : decode cJ6_numberOfTrailingZeros_0f7a4 23 = .ok (.if_icmp .le 11, 3) := by decide +kernel
theorem dJ6_numberOfTrailingZeros_0f7a4_26 : decode cJ6_numberOfTrailingZeros_0f7a4 26 = .ok (.iinc 1 16, 3) := by decide +kernel
theorem dJ6_numberOfTrailingZeros_0f7a4_29 : decode cJ6_numberOfTrailingZeros_0f7a4 29 = .ok (.iload_n 0, 1) := by decide +kernel
theorem dJ6_numberOfTrailingZeros_0f7a4_30 : decode cJ6_numberOfTrailingZeros_0f7a4 30 = .ok (.bipush 16, 2) := by decide +kernel
theorem dJ6_numberOfTrailingZeros_0f7a4_32 : decode cJ6_numberOfTrailingZeros_0f7a4 32 = .ok (.iushr, 1) := by decide +kernel
theorem dJ6_numberOfTrailingZeros_0f7a4_33 : decode cJ6_numberOfTrailingZeros_0f7a4 33 = .ok (.istore_n 0, 1) := by decide +kernel
theorem dJ6_numberOfTrailingZeros_0f7a4_34 : decode cJ6_numberOfTrailingZeros_0f7a4 34 = .ok (.iload_n 0, 1) := by decide +kernel
theorem dJ6_numberOfTrailingZeros_0f7a4_35 : decode cJ6_numberOfTrailingZeros_0f7a4 35 = .ok (.sipush 256, 3) := by decide +kernel
theorem dJ6_numberOfTrailingZeros_0f7a4_38 : decode cJ6_numberOfTrailingZeros_0f7a4 38 = .ok (.if_icmp .le 11, 3) := by decide +kernel
theorem dJ6_numberOfTrailingZeros_0f7a4_41 : decode cJ6_numberOfTrailingZeros_0f7a4 41 = .ok (.iinc 1 8, 3) := by decide +kernel
theorem dJ6_numberOfTrailingZeros_0f7a4_44 : decode cJ6_numberOfTrailingZeros_0f7a4 44 = .ok (.iload_n 0, 1) := by decide +kernel
theorem dJ6_numberOfTrailingZeros_0f7a4_45 : decode cJ6_numberOfTrailingZeros_0f7a4 45 = .ok (.bipush 8, 2) := by decide +kernel
theorem dJ6_numberOfTrailingZeros_0f7a4_47 : decode cJ6_numberOfTrailingZeros_0f7a4 47 = .ok (.iushr, 1) := by decide +kernel
theorem dJ6_numberOfTrailingZeros_0f7a4_48 : decode cJ6_numberOfTrailingZeros_0f7a4 48 = .ok (.istore_n 0, 1) := by decide +kernel
theorem dJ6_numberOfTrailingZeros_0f7a4_49 : decode cJ6_numberOfTrailingZeros_0f7a4 49 = .ok (.iload_n 0, 1) := by decide +kernel
theorem dJ6_numberOfTrailingZeros_0f7a4_50 : decode cJ6_numberOfTrailingZeros_0f7a4 50 = .ok (.bipush 16, 2) := by decide +kernel
theorem dJ6_numberOfTrailingZeros_0f7a4_52 : decode cJ6_numberOfTrailingZeros_0f7a4 52 = .ok (.if_icmp .le 10, 3) := by decide +kernel
theorem dJ6_numberOfTrailingZeros_0f7a4_55 : decode cJ6_numberOfTrailingZeros_0f7a4 55 = .ok (.iinc 1 4, 3) := by decide +kernel
theorem dJ6_numberOfTrailingZeros_0f7a4_58 : decode cJ6_numberOfTrailingZeros_0f7a4 58 = .ok (.iload_n 0, 1) := by decide +kernel
theorem dJ6_numberOfTrailingZeros_0f7a4_59 : decode cJ6_numberOfTrailingZeros_0f7a4 59 = .ok (.iconst 4, 1) := by decide +kernel
theorem dJ6_numberOfTrailingZeros_0f7a4_60 : decode cJ6_numberOfTrailingZeros_0f7a4 60 = .ok (.iushr, 1) := by decide +kernel
theorem dJ6_numberOfTrailingZeros_0f7a4_61 : decode cJ6_numberOfTrailingZeros_0f7a4 61 = .ok (.istore_n 0, 1) := by decide +kernel
theorem dJ6_numberOfTrailingZeros_0f7a4_62 : decode cJ6_numberOfTrailingZeros_0f7a4 62 = .ok (.iload_n 0, 1) := by decide +kernel
theorem dJ6_numberOfTrailingZeros_0f7a4_63 : decode cJ6_numberOfTrailingZeros_0f7a4 63 = .ok (.iconst 4, 1) := by decide +kernel
theorem dJ6_numberOfTrailingZeros_0f7a4_64 : decode cJ6_numberOfTrailingZeros_0f7a4 64 = .ok (.if_icmp .le 10, 3) := by decide +kernel
theorem dJ6_numberOfTrailingZeros_0f7a4_67 : decode cJ6_numberOfTrailingZeros_0f7a4 67 = .ok (.iinc 1 2, 3) := by decide +kernel
theorem dJ6_numberOfTrailingZeros_0f7a4_70 : decode cJ6_numberOfTrailingZeros_0f7a4 70 = .ok (.iload_n 0, 1) := by decide +kernel
theorem dJ6_numberOfTrailingZeros_0f7a4_71 : decode cJ6_numberOfTrailingZeros_0f7a4 71 = .ok (.iconst 2, 1) := by decide +kernel
theorem dJ6_numberOfTrailingZeros_0f7a4_72 : decode cJ6_numberOfTrailingZeros_0f7a4 72 = .ok (.iushr, 1) := by decide +kernel
theorem dJ6_numberOfTrailingZeros_0f7a4_73 : decode cJ6_numberOfTrailingZeros_0f7a4 73 = .ok (.istore_n 0, 1) := by decide +kernel
theorem dJ6_numberOfTrailingZeros_0f7a4_74 : decode cJ6_numberOfTrailingZeros_0f7a4 74 = .ok (.iload_n 1, 1) := by decide +kernel
theorem dJ6_numberOfTrailingZeros_0f7a4_75 : decode cJ6_numberOfTrailingZeros_0f7a4 75 = .ok (.iload_n 0, 1) := by decide +kernel
theorem dJ6_numberOfTrailingZeros_0f7a4_76 : decode cJ6_numberOfTrailingZeros_0f7a4 76 = .ok (.iconst 1, 1) := by decide +kernel
theorem dJ6_numberOfTrailingZeros_0f7a4_77 : decode cJ6_numberOfTrailingZeros_0f7a4 77 = .ok (.iushr, 1) := by decide +kernel
theorem dJ6_numberOfTrailingZeros_0f7a4_78 : decode cJ6_numberOfTrailingZeros_0f7a4 78 = .ok (.iadd, 1) := by decide +kernel
theorem dJ6_numberOfTrailingZeros_0f7a4_79 : decode cJ6_numberOfTrailingZeros_0f7a4 79 = .ok (.ireturn, 1) := by decide +kernel
theorem dX11_onlyOne_0 : decode cX11_onlyOne 0 = .ok (.iload_n 0, 1) := by decide +kernel
theorem dX11_onlyOne_1 : decode cX11_onlyOne 1 = .ok (.invokestatic 143, 3) := by decide +kernel
theorem dX11_onlyOne_4 : decode cX11_onlyOne 4 = .ok (.ifCond .eq 10, 3) := by decide +kernel
theorem dX11_onlyOne_7 : decode cX11_onlyOne 7 = .ok (.iload_n 0, 1) := by decide +kernel
theorem dX11_onlyOne_8 : decode cX11_onlyOne 8 = .ok (.invokestatic 401, 3) := by decide +kernel
theorem dX11_onlyOne_11 : decode cX11_onlyOne 11 = .ok (.goto 4, 3) := by decide +kernel
theorem dX11_onlyOne_14 : decode cX11_onlyOne 14 = .ok (.iconst (-1), 1) := by decide +kernel
theorem dX11_onlyOne_15 : decode cX11_onlyOne 15 = .ok (.ireturn, 1) := by decide +kernel
theorem dX11_knows_0 : decode cX11_knows 0 = .ok (.aload_n 0, 1) := by decide +kernel
theorem dX11_knows_1 : decode cX11_knows 1 = .ok (.iconst 0, 1) := by decide +kernel
theorem dX11_knows_2 : decode cX11_knows 2 = .ok (.putfield 3, 3) := by decide +kernel
theorem dX11_knows_5 : decode cX11_knows 5 = .ok (.aload_n 0, 1) := by decide +kernel
theorem dX11_knows_6 : decode cX11_knows 6 = .ok (.aload_n 0, 1) := by decide +kernel
theorem dX11_knows_7 : decode cX11_knows 7 = .ok (.iload_n 1, 1) := by decide +kernel
theorem dX11_knows_8 : decode cX11_knows 8 = .ok (.invokevirtual 359, 3) := by decide +kernel
theorem dX11_knows_11 : decode cX11_knows 11 = .ok (.ifCond .ne 11, 3) := by decide +kernel
theorem dX11_knows_14 : decode cX11_knows 14 = .ok (.aload_n 0, 1) := by decide +kernel
theorem dX11_knows_15 : decode cX11_knows 15 = .ok (.iload_n 2, 1) := by decide +kernel
theorem dX11_knows_16 : decode cX11_knows 16 = .ok (.invokevirtual 359, 3) := by decide +kernel
theorem dX11_knows_19 : decode cX11_knows 19 = .ok (.ifCond .eq 7, 3) := by decide +kernel
theorem dX11_knows_22 : decode cX11_knows 22 = .ok (.iconst 1, 1) := by decide +kernel
theorem dX11_knows_23 : decode cX11_knows 23 = .ok (.goto 4, 3) := by decide +kernel
theorem dX11_knows_26 : decode cX11_knows 26 = .ok (.iconst 0, 1) := by decide +kernel
theorem dX11_knows_27 : decode cX11_knows 27 = .ok (.iconst 1, 1) := by decide +kernel
theorem dX11_knows_28 : decode cX11_knows 28 = .ok (.invokevirtual 322, 3) := by decide +kernel
theorem dX11_knows_31 : decode cX11_knows 31 = .ok (.ifCond .eq 7, 3) := by decide +kernel
theorem dX11_knows_34 : decode cX11_knows 34 = .ok (.iconst 0, 1) := by decide +kernel
theorem dX11_knows_35 : decode cX11_knows 35 = .ok (.goto 16, 3) := by decide +kernel
theorem dX11_knows_38 : decode cX11_knows 38 = .ok (.aload_n 0, 1) := by decide +kernel
theorem dX11_knows_39 : decode cX11_knows 39 = .ok (.iload_n 1, 1) := by decide +kernel
theorem dX11_knows_40 : decode cX11_knows 40 = .ok (.iload_n 2, 1) := by decide +kernel
theorem dX11_knows_41 : decode cX11_knows 41 = .ok (.aload_n 0, 1) := by decide +kernel
theorem dX11_knows_42 : decode cX11_knows 42 = .ok (.invokevirtual 121, 3) := by decide +kernel
theorem dX11_knows_45 : decode cX11_knows 45 = .ok (.invokevirtual 139, 3) := by decide +kernel
theorem dX11_knows_48 : decode cX11_knows 48 = .ok (.invokestatic 406, 3) := by decide +kernel
theorem dX11_knows_51 : decode cX11_knows 51 = .ok (.ireturn, 1) := by decide +kernel
theorem dX11_thinks_0 : decode cX11_thinks 0 = .ok (.aload_n 0, 1) := by decide +kernel
theorem dX11_thinks_1 : decode cX11_thinks 1 = .ok (.iconst 0, 1) := by decide +kernel
theorem dX11_thinks_2 : decode cX11_thinks 2 = .ok (.putfield 3, 3) := by decide +kernel
theorem dX11_thinks_5 : decode cX11_thinks 5 = .ok (.aload_n 0, 1) := by decide +kernel
theorem dX11_thinks_6 : decode cX11_thinks 6 = .ok (.aload_n 0, 1) := by decide +kernel
theorem dX11_thinks_7 : decode cX11_thinks 7 = .ok (.iload_n 1, 1) := by decide +kernel
theorem dX11_thinks_8 : decode cX11_thinks 8 = .ok (.invokevirtual 359, 3) := by decide +kernel
theorem dX11_thinks_11 : decode cX11_thinks 11 = .ok (.ifCond .ne 19, 3) := by decide +kernel
theorem dX11_thinks_14 : decode cX11_thinks 14 = .ok (.aload_n 0, 1) := by decide +kernel
theorem dX11_thinks_15 : decode cX11_thinks 15 = .ok (.iload_n 2, 1) := by decide +kernel
theorem dX11_thinks_16 : decode cX11_thinks 16 = .ok (.invokevirtual 359, 3) := by decide +kernel
theorem dX11_thinks_19 : decode cX11_thinks 19 = .ok (.ifCond .ne 11, 3) := by decide +kernel
theorem dX11_thinks_22 : decode cX11_thinks 22 = .ok (.aload_n 0, 1) := by decide +kernel
theorem dX11_thinks_23 : decode cX11_thinks 23 = .ok (.iload_n 3, 1) := by decide +kernel
theorem dX11_thinks_24 : decode cX11_thinks 24 = .ok (.invokevirtual 359, 3) := by decide +kernel
theorem dX11_thinks_27 : decode cX11_thinks 27 = .ok (.ifCond .eq 7, 3) := by decide +kernel
theorem dX11_thinks_30 : decode cX11_thinks 30 = .ok (.iconst 1, 1) := by decide +kernel
theorem dX11_thinks_31 : decode cX11_thinks 31 = .ok (.goto 4, 3) := by decide +kernel
theorem dX11_thinks_34 : decode cX11_thinks 34 = .ok (.iconst 0, 1) := by decide +kernel
theorem dX11_thinks_35 : decode cX11_thinks 35 = .ok (.iconst 1, 1) := by decide +kernel
theorem dX11_thinks_36 : decode cX11_thinks 36 = .ok (.invokevirtual 322, 3) := by decide +kernel
theorem dX11_thinks_39 : decode cX11_thinks 39 = .ok (.ifCond .eq 5, 3) := by decide +kernel
theorem dX11_thinks_42 : decode cX11_thinks 42 = .ok (.iconst 0, 1) := by decide +kernel
theorem dX11_thinks_43 : decode cX11_thinks 43 = .ok (.ireturn, 1) := by decide +kernel
theorem dX11_thinks_44 : decode cX11_thinks 44 = .ok (.aload_n 0, 1) := by decide +kernel
theorem dX11_thinks_45 : decode cX11_thinks 45 = .ok (.iload_n 2, 1) := by decide +kernel
theorem dX11_thinks_46 : decode cX11_thinks 46 = .ok (.iload_n 3, 1) := by decide +kernel
theorem dX11_thinks_47 : decode cX11_thinks 47 = .ok (.invokevirtual 135, 3) := by decide +kernel
theorem dX11_thinks_50 : decode cX11_thinks 50 = .ok (.iconst 1, 1) := by decide +kernel
theorem dX11_thinks_51 : decode cX11_thinks 51 = .ok (.istore 4, 2) := by decide +kernel
theorem dX11_thinks_53 : decode cX11_thinks 53 = .ok (.iconst 0, 1) := by decide +kernel
theorem dX11_thinks_54 : decode cX11_thinks 54 = .ok (.istore 5, 2) := by decide +kernel
theorem dX11_thinks_56 : decode cX11_thinks 56 = .ok (.iload 5, 2) := by decide +kernel
theorem dX11_thinks_58 : decode cX11_thinks 58 = .ok (.aload_n 0, 1) := by decide +kernel
theorem dX11_thinks_59 : decode cX11_thinks 59 = .ok (.invokevirtual 115, 3) := by decide +kernel
theorem dX11_thinks_62 : decode cX11_thinks 62 = .ok (.if_icmp .ge 67, 3) := by decide +kernel
theorem dX11_thinks_65 : decode cX11_thinks 65 = .ok (.iload 4, 2) := by decide +kernel
theorem dX11_thinks_67 : decode cX11_thinks 67 = .ok (.ifCond .eq 53, 3) := by decide +kernel
theorem dX11_thinks_70 : decode cX11_thinks 70 = .ok (.aload_n 0, 1) := by decide +kernel
theorem dX11_thinks_71 : decode cX11_thinks 71 = .ok (.iload 5, 2) := by decide +kernel
theorem dX11_thinks_73 : decode cX11_thinks 73 = .ok (.invokevirtual 128, 3) := by decide +kernel
theorem dX11_thinks_76 : decode cX11_thinks 76 = .ok (.ifCond .eq 40, 3) := by decide +kernel
theorem dX11_thinks_79 : decode cX11_thinks 79 = .ok (.aload_n 0, 1) := by decide +kernel
theorem dX11_thinks_80 : decode cX11_thinks 80 = .ok (.iload_n 1, 1) := by decide +kernel
theorem dX11_thinks_81 : decode cX11_thinks 81 = .ok (.iload 5, 2) := by decide +kernel
theorem dX11_thinks_83 : decode cX11_thinks 83 = .ok (.invokevirtual 132, 3) := by decide +kernel
theorem dX11_thinks_86 : decode cX11_thinks 86 = .ok (.aload_n 0, 1) := by decide +kernel
theorem dX11_thinks_87 : decode cX11_thinks 87 = .ok (.iload_n 1, 1) := by decide +kernel
theorem dX11_thinks_88 : decode cX11_thinks 88 = .ok (.aload_n 0, 1) := by decide +kernel
theorem dX11_thinks_89 : decode cX11_thinks 89 = .ok (.invokevirtual 121, 3) := by decide +kernel
theorem dX11_thinks_92 : decode cX11_thinks 92 = .ok (.invokevirtual 132, 3) := by decide +kernel
theorem dX11_thinks_95 : decode cX11_thinks 95 = .ok (.if_icmp .ne 21, 3) := by decide +kernel
theorem dX11_thinks_98 : decode cX11_thinks 98 = .ok (.aload_n 0, 1) := by decide +kernel
theorem dX11_thinks_99 : decode cX11_thinks 99 = .ok (.getfield 30, 3) := by decide +kernel
theorem dX11_thinks_102 : decode cX11_thinks 102 = .ok (.aload_n 0, 1) := by decide +kernel
theorem dX11_thinks_103 : decode cX11_thinks 103 = .ok (.iload_n 2, 1) := by decide +kernel
theorem dX11_thinks_104 : decode cX11_thinks 104 = .ok (.iload 5, 2) := by decide +kernel
theorem dX11_thinks_106 : decode cX11_thinks 106 = .ok (.invokevirtual 132, 3) := by decide +kernel
theorem dX11_thinks_109 : decode cX11_thinks 109 = .ok (.iaload, 1) := by decide +kernel
theorem dX11_thinks_110 : decode cX11_thinks 110 = .ok (.invokestatic 143, 3) := by decide +kernel
theorem dX11_thinks_113 : decode cX11_thinks 113 = .ok (.ifCond .eq 7, 3) := by decide +kernel
theorem dX11_thinks_116 : decode cX11_thinks 116 = .ok (.iconst 1, 1) := by decide +kernel
theorem dX11_thinks_117 : decode cX11_thinks 117 = .ok (.goto 4, 3) := by decide +kernel
theorem dX11_thinks_120 : decode cX11_thinks 120 = .ok (.iconst 0, 1) := by decide +kernel
theorem dX11_thinks_121 : decode cX11_thinks 121 = .ok (.istore 4, 2) := by decide +kernel
theorem dX11_thinks_123 : decode cX11_thinks 123 = .ok (.iinc 5 1, 3) := by decide +kernel
theorem dX11_thinks_126 : decode cX11_thinks 126 = .ok (.goto (-70), 3) := by decide +kernel
theorem dX11_thinks_129 : decode cX11_thinks 129 = .ok (.iload 4, 2) := by decide +kernel
theorem dX11_thinks_131 : decode cX11_thinks 131 = .ok (.ireturn, 1) := by decide +kernel
theorem dX11_comes_0 : decode cX11_comes 0 = .ok (.iconst 0, 1) := by decide +kernel
theorem dX11_comes_1 : decode cX11_comes 1 = .ok (.istore_n 2, 1) := by decide +kernel
theorem dX11_comes_2 : decode cX11_comes 2 = .ok (.iload_n 2, 1) := by decide +kernel
theorem dX11_comes_3 : decode cX11_comes 3 = .ok (.sipush 512, 3) := by decide +kernel
theorem dX11_comes_6 : decode cX11_comes 6 = .ok (.if_icmp .ge 16, 3) := by decide +kernel
theorem dX11_comes_9 : decode cX11_comes 9 = .ok (.aload_n 0, 1) := by decide +kernel
theorem dX11_comes_10 : decode cX11_comes 10 = .ok (.getfield 62, 3) := by decide +kernel
theorem dX11_comes_13 : decode cX11_comes 13 = .ok (.iload_n 2, 1) := by decide +kernel
theorem dX11_comes_14 : decode cX11_comes 14 = .ok (.iconst 0, 1) := by decide +kernel
theorem dX11_comes_15 : decode cX11_comes 15 = .ok (.bastore, 1) := by decide +kernel
theorem dX11_comes_16 : decode cX11_comes 16 = .ok (.iinc 2 1, 3) := by decide +kernel
theorem dX11_comes_19 : decode cX11_comes 19 = .ok (.goto (-17), 3) := by decide +kernel
theorem dX11_comes_22 : decode cX11_comes 22 = .ok (.iconst 0, 1) := by decide +kernel
theorem dX11_comes_23 : decode cX11_comes 23 = .ok (.istore_n 2, 1) := by decide +kernel
theorem dX11_comes_24 : decode cX11_comes 24 = .ok (.iload_n 2, 1) := by decide +kernel
theorem dX11_comes_25 : decode cX11_comes 25 = .ok (.aload_n 0, 1) := by decide +kernel
theorem dX11_comes_26 : decode cX11_comes 26 = .ok (.invokevirtual 115, 3) := by decide +kernel
theorem dX11_comes_29 : decode cX11_comes 29 = .ok (.if_icmp .ge 30, 3) := by decide +kernel
theorem dX11_comes_32 : decode cX11_comes 32 = .ok (.aload_n 0, 1) := by decide +kernel
theorem dX11_comes_33 : decode cX11_comes 33 = .ok (.getfield 58, 3) := by decide +kernel
theorem dX11_comes_36 : decode cX11_comes 36 = .ok (.iload_n 2, 1) := by decide +kernel
theorem dX11_comes_37 : decode cX11_comes 37 = .ok (.baload, 1) := by decide +kernel
theorem dX11_comes_38 : decode cX11_comes 38 = .ok (.ifCond .eq 15, 3) := by decide +kernel
theorem dX11_comes_41 : decode cX11_comes 41 = .ok (.aload_n 0, 1) := by decide +kernel
theorem dX11_comes_42 : decode cX11_comes 42 = .ok (.getfield 62, 3) := by decide +kernel
theorem dX11_comes_45 : decode cX11_comes 45 = .ok (.aload_n 0, 1) := by decide +kernel
theorem dX11_comes_46 : decode cX11_comes 46 = .ok (.iload_n 1, 1) := by decide +kernel
theorem dX11_comes_47 : decode cX11_comes 47 = .ok (.iload_n 2, 1) := by decide +kernel
theorem dX11_comes_48 : decode cX11_comes 48 = .ok (.invokevirtual 132, 3) := by decide +kernel
theorem dX11_comes_51 : decode cX11_comes 51 = .ok (.iconst 1, 1) := by decide +kernel
theorem dX11_comes_52 : decode cX11_comes 52 = .ok (.bastore, 1) := by decide +kernel
theorem dX11_comes_53 : decode cX11_comes 53 = .ok (.iinc 2 1, 3) := by decide +kernel
theorem dX11_comes_56 : decode cX11_comes 56 = .ok (.goto (-32), 3) := by decide +kernel
theorem dX11_comes_59 : decode cX11_comes 59 = .ok (.iconst 0, 1) := by decide +kernel
theorem dX11_comes_60 : decode cX11_comes 60 = .ok (.istore_n 2, 1) := by decide +kernel
theorem dX11_comes_61 : decode cX11_comes 61 = .ok (.iconst 0, 1) := by decide +kernel
theorem dX11_comes_62 : decode cX11_comes 62 = .ok (.istore_n 3, 1) := by decide +kernel
theorem dX11_comes_63 : decode cX11_comes 63 = .ok (.iload_n 3, 1) := by decide +kernel
theorem dX11_comes_64 : decode cX11_comes 64 = .ok (.aload_n 0, 1) := by decide +kernel
theorem dX11_comes_65 : decode cX11_comes 65 = .ok (.invokevirtual 115, 3) := by decide +kernel
theorem dX11_comes_68 : decode cX11_comes 68 = .ok (.if_icmp .ge 52, 3) := by decide +kernel
theorem dX11_comes_71 : decode cX11_comes 71 = .ok (.aload_n 0, 1) := by decide +kernel
theorem dX11_comes_72 : decode cX11_comes 72 = .ok (.getfield 58, 3) := by decide +kernel
theorem dX11_comes_75 : decode cX11_comes 75 = .ok (.iload_n 3, 1) := by decide +kernel
theorem dX11_comes_76 : decode cX11_comes 76 = .ok (.baload, 1) := by decide +kernel
theorem dX11_comes_77 : decode cX11_comes 77 = .ok (.ifCond .ne 37, 3) := by decide +kernel
theorem dX11_comes_80 : decode cX11_comes 80 = .ok (.aload_n 0, 1) := by decide +kernel
theorem dX11_comes_81 : decode cX11_comes 81 = .ok (.iload_n 3, 1) := by decide +kernel
theorem dX11_comes_82 : decode cX11_comes 82 = .ok (.invokevirtual 128, 3) := by decide +kernel
theorem dX11_comes_85 : decode cX11_comes 85 = .ok (.ifCond .eq 29, 3) := by decide +kernel
theorem dX11_comes_88 : decode cX11_comes 88 = .ok (.aload_n 0, 1) := by decide +kernel
theorem dX11_comes_89 : decode cX11_comes 89 = .ok (.getfield 62, 3) := by decide +kernel
theorem dX11_comes_92 : decode cX11_comes 92 = .ok (.aload_n 0, 1) := by decide +kernel
theorem dX11_comes_93 : decode cX11_comes 93 = .ok (.iload_n 1, 1) := by decide +kernel
theorem dX11_comes_94 : decode cX11_comes 94 = .ok (.iload_n 3, 1) := by decide +kernel
theorem dX11_comes_95 : decode cX11_comes 95 = .ok (.invokevirtual 132, 3) := by decide +kernel
theorem dX11_comes_98 : decode cX11_comes 98 = .ok (.baload, 1) := by decide +kernel
theorem dX11_comes_99 : decode cX11_comes 99 = .ok (.ifCond .ne 6, 3) := by decide +kernel
theorem dX11_comes_102 : decode cX11_comes 102 = .ok (.goto 12, 3) := by decide +kernel
theorem dX11_comes_105 : decode cX11_comes 105 = .ok (.aload_n 0, 1) := by decide +kernel
theorem dX11_comes_106 : decode cX11_comes 106 = .ok (.getfield 58, 3) := by decide +kernel
theorem dX11_comes_109 : decode cX11_comes 109 = .ok (.iload_n 3, 1) := by decide +kernel
theorem dX11_comes_110 : decode cX11_comes 110 = .ok (.iconst 1, 1) := by decide +kernel
theorem dX11_comes_111 : decode cX11_comes 111 = .ok (.bastore, 1) := by decide +kernel
theorem dX11_comes_112 : decode cX11_comes 112 = .ok (.iconst 1, 1) := by decide +kernel
theorem dX11_comes_113 : decode cX11_comes 113 = .ok (.istore_n 2, 1) := by decide +kernel
theorem dX11_comes_114 : decode cX11_comes 114 = .ok (.iinc 3 1, 3) := by decide +kernel
theorem dX11_comes_117 : decode cX11_comes 117 = .ok (.goto (-54), 3) := by decide +kernel
theorem dX11_comes_120 : decode cX11_comes 120 = .ok (.iload_n 2, 1) := by decide +kernel
theorem dX11_comes_121 : decode cX11_comes 121 = .ok (.ireturn, 1) := by decide +kernel
theorem dX11_common_0 : decode cX11_common 0 = .ok (.aload_n 0, 1) := by decide +kernel
theorem dX11_common_1 : decode cX11_common 1 = .ok (.iconst 0, 1) := by decide +kernel
theorem dX11_common_2 : decode cX11_common 2 = .ok (.putfield 3, 3) := by decide +kernel
theorem dX11_common_5 : decode cX11_common 5 = .ok (.aload_n 0, 1) := by decide +kernel
theorem dX11_common_6 : decode cX11_common 6 = .ok (.aload_n 0, 1) := by decide +kernel
theorem dX11_common_7 : decode cX11_common 7 = .ok (.iload_n 1, 1) := by decide +kernel
theorem dX11_common_8 : decode cX11_common 8 = .ok (.invokevirtual 359, 3) := by decide +kernel
theorem dX11_common_11 : decode cX11_common 11 = .ok (.iconst 1, 1) := by decide +kernel
theorem dX11_common_12 : decode cX11_common 12 = .ok (.invokevirtual 322, 3) := by decide +kernel
theorem dX11_common_15 : decode cX11_common 15 = .ok (.ifCond .eq 5, 3) := by decide +kernel
theorem dX11_common_18 : decode cX11_common 18 = .ok (.iconst 0, 1) := by decide +kernel
theorem dX11_common_19 : decode cX11_common 19 = .ok (.ireturn, 1) := by decide +kernel
theorem dX11_common_20 : decode cX11_common 20 = .ok (.iconst 0, 1) := by decide +kernel
theorem dX11_common_21 : decode cX11_common 21 = .ok (.istore_n 2, 1) := by decide +kernel
theorem dX11_common_22 : decode cX11_common 22 = .ok (.iload_n 2, 1) := by decide +kernel
theorem dX11_common_23 : decode cX11_common 23 = .ok (.sipush 512, 3) := by decide +kernel
theorem dX11_common_26 : decode cX11_common 26 = .ok (.if_icmp .ge 28, 3) := by decide +kernel
theorem dX11_common_29 : decode cX11_common 29 = .ok (.aload_n 0, 1) := by decide +kernel
theorem dX11_common_30 : decode cX11_common 30 = .ok (.getfield 58, 3) := by decide +kernel
theorem dX11_common_33 : decode cX11_common 33 = .ok (.iload_n 2, 1) := by decide +kernel
theorem dX11_common_34 : decode cX11_common 34 = .ok (.iload_n 2, 1) := by decide +kernel
theorem dX11_common_35 : decode cX11_common 35 = .ok (.aload_n 0, 1) := by decide +kernel
theorem dX11_common_36 : decode cX11_common 36 = .ok (.invokevirtual 121, 3) := by decide +kernel
theorem dX11_common_39 : decode cX11_common 39 = .ok (.if_icmp .ne 7, 3) := by decide +kernel
theorem dX11_common_42 : decode cX11_common 42 = .ok (.iconst 1, 1) := by decide +kernel
theorem dX11_common_43 : decode cX11_common 43 = .ok (.goto 4, 3) := by decide +kernel
theorem dX11_common_46 : decode cX11_common 46 = .ok (.iconst 0, 1) := by decide +kernel
theorem dX11_common_47 : decode cX11_common 47 = .ok (.bastore, 1) := by decide +kernel
theorem dX11_common_48 : decode cX11_common 48 = .ok (.iinc 2 1, 3) := by decide +kernel
theorem dX11_common_51 : decode cX11_common 51 = .ok (.goto (-29), 3) := by decide +kernel
theorem dX11_common_54 : decode cX11_common 54 = .ok (.iconst 1, 1) := by decide +kernel
theorem dX11_common_55 : decode cX11_common 55 = .ok (.istore_n 2, 1) := by decide +kernel
theorem dX11_common_56 : decode cX11_common 56 = .ok (.iload_n 2, 1) := by decide +kernel
theorem dX11_common_57 : decode cX11_common 57 = .ok (.ifCond .eq 42, 3) := by decide +kernel
theorem dX11_common_60 : decode cX11_common 60 = .ok (.iconst 0, 1) := by decide +kernel
theorem dX11_common_61 : decode cX11_common 61 = .ok (.istore_n 2, 1) := by decide +kernel
theorem dX11_common_62 : decode cX11_common 62 = .ok (.iconst 0, 1) := by decide +kernel
theorem dX11_common_63 : decode cX11_common 63 = .ok (.istore_n 3, 1) := by decide +kernel
theorem dX11_common_64 : decode cX11_common 64 = .ok (.iload_n 3, 1) := by decide +kernel
theorem dX11_common_65 : decode cX11_common 65 = .ok (.aload_n 0, 1) := by decide +kernel
theorem dX11_common_66 : decode cX11_common 66 = .ok (.invokevirtual 107, 3) := by decide +kernel
theorem dX11_common_69 : decode cX11_common 69 = .ok (.if_icmp .ge 27, 3) := by decide +kernel
theorem dX11_common_72 : decode cX11_common 72 = .ok (.aload_n 0, 1) := by decide +kernel
theorem dX11_common_73 : decode cX11_common 73 = .ok (.iload_n 3, 1) := by decide +kernel
theorem dX11_common_74 : decode cX11_common 74 = .ok (.invokevirtual 409, 3) := by decide +kernel
theorem dX11_common_77 : decode cX11_common 77 = .ok (.ifCond .ne 7, 3) := by decide +kernel
theorem dX11_common_80 : decode cX11_common 80 = .ok (.iload_n 2, 1) := by decide +kernel
theorem dX11_common_81 : decode cX11_common 81 = .ok (.ifCond .eq 7, 3) := by decide +kernel
theorem dX11_common_84 : decode cX11_common 84 = .ok (.iconst 1, 1) := by decide +kernel
theorem dX11_common_85 : decode cX11_common 85 = .ok (.goto 4, 3) := by decide +kernel
theorem dX11_common_88 : decode cX11_common 88 = .ok (.iconst 0, 1) := by decide +kernel
theorem dX11_common_89 : decode cX11_common 89 = .ok (.istore_n 2, 1) := by decide +kernel
theorem dX11_common_90 : decode cX11_common 90 = .ok (.iinc 3 1, 3) := by decide +kernel
theorem dX11_common_93 : decode cX11_common 93 = .ok (.goto (-29), 3) := by decide +kernel
theorem dX11_common_96 : decode cX11_common 96 = .ok (.goto (-40), 3) := by decide +kernel
theorem dX11_common_99 : decode cX11_common 99 = .ok (.iconst 0, 1) := by decide +kernel
theorem dX11_common_100 : decode cX11_common 100 = .ok (.istore_n 3, 1) := by decide +kernel
theorem dX11_common_101 : decode cX11_common 101 = .ok (.iconst 0, 1) := by decide +kernel
theorem dX11_common_102 : decode cX11_common 102 = .ok (.istore 4, 2) := by decide +kernel
theorem dX11_common_104 : decode cX11_common 104 = .ok (.iload 4, 2) := by decide +kernel
theorem dX11_common_106 : decode cX11_common 106 = .ok (.aload_n 0, 1) := by decide +kernel
theorem dX11_common_107 : decode cX11_common 107 = .ok (.invokevirtual 115, 3) := by decide +kernel
theorem dX11_common_110 : decode cX11_common 110 = .ok (.if_icmp .ge 35, 3) := by decide +kernel
theorem dX11_common_113 : decode cX11_common 113 = .ok (.iload_n 3, 1) := by decide +kernel
theorem dX11_common_114 : decode cX11_common 114 = .ok (.aload_n 0, 1) := by decide +kernel
theorem dX11_common_115 : decode cX11_common 115 = .ok (.getfield 58, 3) := by decide +kernel
theorem dX11_common_118 : decode cX11_common 118 = .ok (.iload 4, 2) := by decide +kernel
theorem dX11_common_120 : decode cX11_common 120 = .ok (.baload, 1) := by decide +kernel
theorem dX11_common_121 : decode cX11_common 121 = .ok (.ifCond .eq 15, 3) := by decide +kernel
theorem dX11_common_124 : decode cX11_common 124 = .ok (.iconst 1, 1) := by decide +kernel
theorem dX11_common_125 : decode cX11_common 125 = .ok (.aload_n 0, 1) := by decide +kernel
theorem dX11_common_126 : decode cX11_common 126 = .ok (.iload_n 1, 1) := by decide +kernel
theorem dX11_common_127 : decode cX11_common 127 = .ok (.iload 4, 2) := by decide +kernel
theorem dX11_common_129 : decode cX11_common 129 = .ok (.invokevirtual 124, 3) := by decide +kernel
theorem dX11_common_132 : decode cX11_common 132 = .ok (.ishl, 1) := by decide +kernel
theorem dX11_common_133 : decode cX11_common 133 = .ok (.goto 4, 3) := by decide +kernel
theorem dX11_common_136 : decode cX11_common 136 = .ok (.iconst 0, 1) := by decide +kernel
theorem dX11_common_137 : decode cX11_common 137 = .ok (.ior, 1) := by decide +kernel
theorem dX11_common_138 : decode cX11_common 138 = .ok (.istore_n 3, 1) := by decide +kernel
theorem dX11_common_139 : decode cX11_common 139 = .ok (.iinc 4 1, 3) := by decide +kernel
theorem dX11_common_142 : decode cX11_common 142 = .ok (.goto (-38), 3) := by decide +kernel
theorem dX11_common_145 : decode cX11_common 145 = .ok (.iload_n 3, 1) := by decide +kernel
theorem dX11_common_146 : decode cX11_common 146 = .ok (.invokestatic 406, 3) := by decide +kernel
theorem dX11_common_149 : decode cX11_common 149 = .ok (.ireturn, 1) := by decide +kernel
theorem dX11_keepsAll_0 : decode cX11_keepsAll 0 = .ok (.iconst 0, 1) := by decide +kernel
theorem dX11_keepsAll_1 : decode cX11_keepsAll 1 = .ok (.istore_n 1, 1) := by decide +kernel
theorem dX11_keepsAll_2 : decode cX11_keepsAll 2 = .ok (.iload_n 1, 1) := by decide +kernel
theorem dX11_keepsAll_3 : decode cX11_keepsAll 3 = .ok (.sipush 5440, 3) := by decide +kernel
theorem dX11_keepsAll_6 : decode cX11_keepsAll 6 = .ok (.if_icmp .ge 21, 3) := by decide +kernel
theorem dX11_keepsAll_9 : decode cX11_keepsAll 9 = .ok (.aload_n 0, 1) := by decide +kernel
theorem dX11_keepsAll_10 : decode cX11_keepsAll 10 = .ok (.getfield 23, 3) := by decide +kernel
theorem dX11_keepsAll_13 : decode cX11_keepsAll 13 = .ok (.iload_n 1, 1) := by decide +kernel
theorem dX11_keepsAll_14 : decode cX11_keepsAll 14 = .ok (.aload_n 0, 1) := by decide +kernel
theorem dX11_keepsAll_15 : decode cX11_keepsAll 15 = .ok (.getfield 13, 3) := by decide +kernel
theorem dX11_keepsAll_18 : decode cX11_keepsAll 18 = .ok (.iload_n 1, 1) := by decide +kernel
theorem dX11_keepsAll_19 : decode cX11_keepsAll 19 = .ok (.iaload, 1) := by decide +kernel
theorem dX11_keepsAll_20 : decode cX11_keepsAll 20 = .ok (.iastore, 1) := by decide +kernel
theorem dX11_keepsAll_21 : decode cX11_keepsAll 21 = .ok (.iinc 1 1, 3) := by decide +kernel
theorem dX11_keepsAll_24 : decode cX11_keepsAll 24 = .ok (.goto (-22), 3) := by decide +kernel
theorem dX11_keepsAll_27 : decode cX11_keepsAll 27 = .ok (.return_, 1) := by decide +kernel
theorem dX11_bringsBack_0 : decode cX11_bringsBack 0 = .ok (.iconst 0, 1) := by decide +kernel
theorem dX11_bringsBack_1 : decode cX11_bringsBack 1 = .ok (.istore_n 1, 1) := by decide +kernel
theorem dX11_bringsBack_2 : decode cX11_bringsBack 2 = .ok (.iload_n 1, 1) := by decide +kernel
theorem dX11_bringsBack_3 : decode cX11_bringsBack 3 = .ok (.sipush 5440, 3) := by decide +kernel
theorem dX11_bringsBack_6 : decode cX11_bringsBack 6 = .ok (.if_icmp .ge 21, 3) := by decide +kernel
theorem dX11_bringsBack_9 : decode cX11_bringsBack 9 = .ok (.aload_n 0, 1) := by decide +kernel
theorem dX11_bringsBack_10 : decode cX11_bringsBack 10 = .ok (.getfield 13, 3) := by decide +kernel
theorem dX11_bringsBack_13 : decode cX11_bringsBack 13 = .ok (.iload_n 1, 1) := by decide +kernel
theorem dX11_bringsBack_14 : decode cX11_bringsBack 14 = .ok (.aload_n 0, 1) := by decide +kernel
theorem dX11_bringsBack_15 : decode cX11_bringsBack 15 = .ok (.getfield 23, 3) := by decide +kernel
theorem dX11_bringsBack_18 : decode cX11_bringsBack 18 = .ok (.iload_n 1, 1) := by decide +kernel
theorem dX11_bringsBack_19 : decode cX11_bringsBack 19 = .ok (.iaload, 1) := by decide +kernel
theorem dX11_bringsBack_20 : decode cX11_bringsBack 20 = .ok (.iastore, 1) := by decide +kernel
theorem dX11_bringsBack_21 : decode cX11_bringsBack 21 = .ok (.iinc 1 1, 3) := by decide +kernel
theorem dX11_bringsBack_24 : decode cX11_bringsBack 24 = .ok (.goto (-22), 3) := by decide +kernel
theorem dX11_bringsBack_27 : decode cX11_bringsBack 27 = .ok (.return_, 1) := by decide +kernel
theorem dX11_keepsLeft_0 : decode cX11_keepsLeft 0 = .ok (.iconst 0, 1) := by decide +kernel
theorem dX11_keepsLeft_1 : decode cX11_keepsLeft 1 = .ok (.istore_n 1, 1) := by decide +kernel
theorem dX11_keepsLeft_2 : decode cX11_keepsLeft 2 = .ok (.iload_n 1, 1) := by decide +kernel
theorem dX11_keepsLeft_3 : decode cX11_keepsLeft 3 = .ok (.sipush 512, 3) := by decide +kernel
theorem dX11_keepsLeft_6 : decode cX11_keepsLeft 6 = .ok (.if_icmp .ge 24, 3) := by decide +kernel
theorem dX11_keepsLeft_9 : decode cX11_keepsLeft 9 = .ok (.aload_n 0, 1) := by decide +kernel
theorem dX11_keepsLeft_10 : decode cX11_keepsLeft 10 = .ok (.getfield 65, 3) := by decide +kernel
theorem dX11_keepsLeft_13 : decode cX11_keepsLeft 13 = .ok (.iload_n 1, 1) := by decide +kernel
theorem dX11_keepsLeft_14 : decode cX11_keepsLeft 14 = .ok (.aload_n 0, 1) := by decide +kernel
theorem dX11_keepsLeft_15 : decode cX11_keepsLeft 15 = .ok (.getfield 13, 3) := by decide +kernel
theorem dX11_keepsLeft_18 : decode cX11_keepsLeft 18 = .ok (.bipush 20, 2) := by decide +kernel
theorem dX11_keepsLeft_20 : decode cX11_keepsLeft 20 = .ok (.iload_n 1, 1) := by decide +kernel
theorem dX11_keepsLeft_21 : decode cX11_keepsLeft 21 = .ok (.iadd, 1) := by decide +kernel
theorem dX11_keepsLeft_22 : decode cX11_keepsLeft 22 = .ok (.iaload, 1) := by decide +kernel
theorem dX11_keepsLeft_23 : decode cX11_keepsLeft 23 = .ok (.iastore, 1) := by decide +kernel
theorem dX11_keepsLeft_24 : decode cX11_keepsLeft 24 = .ok (.iinc 1 1, 3) := by decide +kernel
theorem dX11_keepsLeft_27 : decode cX11_keepsLeft 27 = .ok (.goto (-25), 3) := by decide +kernel
theorem dX11_keepsLeft_30 : decode cX11_keepsLeft 30 = .ok (.return_, 1) := by decide +kernel
theorem dX11_bringsLeft_0 : decode cX11_bringsLeft 0 = .ok (.iconst 0, 1) := by decide +kernel
theorem dX11_bringsLeft_1 : decode cX11_bringsLeft 1 = .ok (.istore_n 1, 1) := by decide +kernel
theorem dX11_bringsLeft_2 : decode cX11_bringsLeft 2 = .ok (.iload_n 1, 1) := by decide +kernel
theorem dX11_bringsLeft_3 : decode cX11_bringsLeft 3 = .ok (.sipush 512, 3) := by decide +kernel
theorem dX11_bringsLeft_6 : decode cX11_bringsLeft 6 = .ok (.if_icmp .ge 24, 3) := by decide +kernel
theorem dX11_bringsLeft_9 : decode cX11_bringsLeft 9 = .ok (.aload_n 0, 1) := by decide +kernel
theorem dX11_bringsLeft_10 : decode cX11_bringsLeft 10 = .ok (.getfield 13, 3) := by decide +kernel
theorem dX11_bringsLeft_13 : decode cX11_bringsLeft 13 = .ok (.bipush 20, 2) := by decide +kernel
theorem dX11_bringsLeft_15 : decode cX11_bringsLeft 15 = .ok (.iload_n 1, 1) := by decide +kernel
theorem dX11_bringsLeft_16 : decode cX11_bringsLeft 16 = .ok (.iadd, 1) := by decide +kernel
theorem dX11_bringsLeft_17 : decode cX11_bringsLeft 17 = .ok (.aload_n 0, 1) := by decide +kernel
theorem dX11_bringsLeft_18 : decode cX11_bringsLeft 18 = .ok (.getfield 65, 3) := by decide +kernel
theorem dX11_bringsLeft_21 : decode cX11_bringsLeft 21 = .ok (.iload_n 1, 1) := by decide +kernel
theorem dX11_bringsLeft_22 : decode cX11_bringsLeft 22 = .ok (.iaload, 1) := by decide +kernel
theorem dX11_bringsLeft_23 : decode cX11_bringsLeft 23 = .ok (.iastore, 1) := by decide +kernel
theorem dX11_bringsLeft_24 : decode cX11_bringsLeft 24 = .ok (.iinc 1 1, 3) := by decide +kernel
theorem dX11_bringsLeft_27 : decode cX11_bringsLeft 27 = .ok (.goto (-25), 3) := by decide +kernel
theorem dX11_bringsLeft_30 : decode cX11_bringsLeft 30 = .ok (.return_, 1) := by decide +kernel
theorem dX11_muddy_0 : decode cX11_muddy 0 = .ok (.aload_n 0, 1) := by decide +kernel
theorem dX11_muddy_1 : decode cX11_muddy 1 = .ok (.iconst 0, 1) := by decide +kernel
theorem dX11_muddy_2 : decode cX11_muddy 2 = .ok (.putfield 3, 3) := by decide +kernel
theorem dX11_muddy_5 : decode cX11_muddy 5 = .ok (.aload_n 0, 1) := by decide +kernel
theorem dX11_muddy_6 : decode cX11_muddy 6 = .ok (.iload_n 1, 1) := by decide +kernel
theorem dX11_muddy_7 : decode cX11_muddy 7 = .ok (.iconst (-1), 1) := by decide +kernel
theorem dX11_muddy_8 : decode cX11_muddy 8 = .ok (.if_icmp .eq 15, 3) := by decide +kernel
theorem dX11_muddy_11 : decode cX11_muddy 11 = .ok (.aload_n 0, 1) := by decide +kernel
theorem dX11_muddy_12 : decode cX11_muddy 12 = .ok (.iload_n 1, 1) := by decide +kernel
theorem dX11_muddy_13 : decode cX11_muddy 13 = .ok (.invokevirtual 359, 3) := by decide +kernel
theorem dX11_muddy_16 : decode cX11_muddy 16 = .ok (.ifCond .eq 7, 3) := by decide +kernel
theorem dX11_muddy_19 : decode cX11_muddy 19 = .ok (.iconst 1, 1) := by decide +kernel
theorem dX11_muddy_20 : decode cX11_muddy 20 = .ok (.goto 4, 3) := by decide +kernel
theorem dX11_muddy_23 : decode cX11_muddy 23 = .ok (.iconst 0, 1) := by decide +kernel
theorem dX11_muddy_24 : decode cX11_muddy 24 = .ok (.iconst 1, 1) := by decide +kernel
theorem dX11_muddy_25 : decode cX11_muddy 25 = .ok (.invokevirtual 322, 3) := by decide +kernel
theorem dX11_muddy_28 : decode cX11_muddy 28 = .ok (.ifCond .eq 5, 3) := by decide +kernel
theorem dX11_muddy_31 : decode cX11_muddy 31 = .ok (.iconst 0, 1) := by decide +kernel
theorem dX11_muddy_32 : decode cX11_muddy 32 = .ok (.ireturn, 1) := by decide +kernel
theorem dX11_muddy_33 : decode cX11_muddy 33 = .ok (.aload_n 0, 1) := by decide +kernel
theorem dX11_muddy_34 : decode cX11_muddy 34 = .ok (.invokevirtual 412, 3) := by decide +kernel
theorem dX11_muddy_37 : decode cX11_muddy 37 = .ok (.iconst (-1), 1) := by decide +kernel
theorem dX11_muddy_38 : decode cX11_muddy 38 = .ok (.istore_n 2, 1) := by decide +kernel
theorem dX11_muddy_39 : decode cX11_muddy 39 = .ok (.iconst 0, 1) := by decide +kernel
theorem dX11_muddy_40 : decode cX11_muddy 40 = .ok (.istore_n 3, 1) := by decide +kernel
theorem dX11_muddy_41 : decode cX11_muddy 41 = .ok (.iload_n 3, 1) := by decide +kernel
theorem dX11_muddy_42 : decode cX11_muddy 42 = .ok (.bipush 40, 2) := by decide +kernel
theorem dX11_muddy_44 : decode cX11_muddy 44 = .ok (.if_icmp .gt 56, 3) := by decide +kernel
theorem dX11_muddy_47 : decode cX11_muddy 47 = .ok (.iload_n 2, 1) := by decide +kernel
theorem dX11_muddy_48 : decode cX11_muddy 48 = .ok (.ifCond .ge 52, 3) := by decide +kernel
theorem dX11_muddy_51 : decode cX11_muddy 51 = .ok (.aload_n 0, 1) := by decide +kernel
theorem dX11_muddy_52 : decode cX11_muddy 52 = .ok (.aload_n 0, 1) := by decide +kernel
theorem dX11_muddy_53 : decode cX11_muddy 53 = .ok (.invokevirtual 121, 3) := by decide +kernel
theorem dX11_muddy_56 : decode cX11_muddy 56 = .ok (.invokevirtual 340, 3) := by decide +kernel
theorem dX11_muddy_59 : decode cX11_muddy 59 = .ok (.istore 4, 2) := by decide +kernel
theorem dX11_muddy_61 : decode cX11_muddy 61 = .ok (.iload_n 1, 1) := by decide +kernel
theorem dX11_muddy_62 : decode cX11_muddy 62 = .ok (.iconst (-1), 1) := by decide +kernel
theorem dX11_muddy_63 : decode cX11_muddy 63 = .ok (.if_icmp .ne 11, 3) := by decide +kernel
theorem dX11_muddy_66 : decode cX11_muddy 66 = .ok (.iload 4, 2) := by decide +kernel
theorem dX11_muddy_68 : decode cX11_muddy 68 = .ok (.ifCond .eq 19, 3) := by decide +kernel
theorem dX11_muddy_71 : decode cX11_muddy 71 = .ok (.goto 12, 3) := by decide +kernel
theorem dX11_muddy_74 : decode cX11_muddy 74 = .ok (.iload 4, 2) := by decide +kernel
theorem dX11_muddy_76 : decode cX11_muddy 76 = .ok (.iload_n 1, 1) := by decide +kernel
theorem dX11_muddy_77 : decode cX11_muddy 77 = .ok (.invokestatic 103, 3) := by decide +kernel
theorem dX11_muddy_80 : decode cX11_muddy 80 = .ok (.ifCond .eq 7, 3) := by decide +kernel
theorem dX11_muddy_83 : decode cX11_muddy 83 = .ok (.iload_n 3, 1) := by decide +kernel
theorem dX11_muddy_84 : decode cX11_muddy 84 = .ok (.goto 4, 3) := by decide +kernel
theorem dX11_muddy_87 : decode cX11_muddy 87 = .ok (.iconst (-1), 1) := by decide +kernel
theorem dX11_muddy_88 : decode cX11_muddy 88 = .ok (.istore_n 2, 1) := by decide +kernel
theorem dX11_muddy_89 : decode cX11_muddy 89 = .ok (.aload_n 0, 1) := by decide +kernel
theorem dX11_muddy_90 : decode cX11_muddy 90 = .ok (.invokevirtual 372, 3) := by decide +kernel
theorem dX11_muddy_93 : decode cX11_muddy 93 = .ok (.pop, 1) := by decide +kernel
theorem dX11_muddy_94 : decode cX11_muddy 94 = .ok (.iinc 3 1, 3) := by decide +kernel
theorem dX11_muddy_97 : decode cX11_muddy 97 = .ok (.goto (-56), 3) := by decide +kernel
theorem dX11_muddy_100 : decode cX11_muddy 100 = .ok (.aload_n 0, 1) := by decide +kernel
theorem dX11_muddy_101 : decode cX11_muddy 101 = .ok (.invokevirtual 415, 3) := by decide +kernel
theorem dX11_muddy_104 : decode cX11_muddy 104 = .ok (.iload_n 2, 1) := by decide +kernel
theorem dX11_muddy_105 : decode cX11_muddy 105 = .ok (.ireturn, 1) := by decide +kernel
theorem dX11_readsAll_0 : decode cX11_readsAll 0 = .ok (.iconst 0, 1) := by decide +kernel
theorem dX11_readsAll_1 : decode cX11_readsAll 1 = .ok (.istore_n 2, 1) := by decide +kernel
theorem dX11_readsAll_2 : decode cX11_readsAll 2 = .ok (.iload_n 2, 1) := by decide +kernel
theorem dX11_readsAll_3 : decode cX11_readsAll 3 = .ok (.aload_n 0, 1) := by decide +kernel
theorem dX11_readsAll_4 : decode cX11_readsAll 4 = .ok (.invokevirtual 107, 3) := by decide +kernel
theorem dX11_readsAll_7 : decode cX11_readsAll 7 = .ok (.if_icmp .ge 22, 3) := by decide +kernel
theorem dX11_readsAll_10 : decode cX11_readsAll 10 = .ok (.iload_n 1, 1) := by decide +kernel
theorem dX11_readsAll_11 : decode cX11_readsAll 11 = .ok (.iload_n 2, 1) := by decide +kernel
theorem dX11_readsAll_12 : decode cX11_readsAll 12 = .ok (.invokestatic 103, 3) := by decide +kernel
theorem dX11_readsAll_15 : decode cX11_readsAll 15 = .ok (.ifCond .eq 8, 3) := by decide +kernel
theorem dX11_readsAll_18 : decode cX11_readsAll 18 = .ok (.aload_n 0, 1) := by decide +kernel
theorem dX11_readsAll_19 : decode cX11_readsAll 19 = .ok (.iload_n 2, 1) := by decide +kernel
theorem dX11_readsAll_20 : decode cX11_readsAll 20 = .ok (.invokevirtual 375, 3) := by decide +kernel
theorem dX11_readsAll_23 : decode cX11_readsAll 23 = .ok (.iinc 2 1, 3) := by decide +kernel
theorem dX11_readsAll_26 : decode cX11_readsAll 26 = .ok (.goto (-24), 3) := by decide +kernel
theorem dX11_readsAll_29 : decode cX11_readsAll 29 = .ok (.return_, 1) := by decide +kernel
theorem dJ6_bitCount_0f7a4_0 : decode cJ6_bitCount_0f7a4 0 = .ok (.iload_n 0, 1) := by decide +kernel
theorem dJ6_bitCount_0f7a4_1 : decode cJ6_bitCount_0f7a4 1 = .ok (.iload_n 0, 1) := by decide +kernel
theorem dJ6_bitCount_0f7a4_2 : decode cJ6_bitCount_0f7a4 2 = .ok (.iconst 1, 1) := by decide +kernel
theorem dJ6_bitCount_0f7a4_3 : decode cJ6_bitCount_0f7a4 3 = .ok (.iushr, 1) := by decide +kernel
theorem dJ6_bitCount_0f7a4_4 : decode cJ6_bitCount_0f7a4 4 = .ok (.ldc_w 265, 3) := by decide +kernel
theorem dJ6_bitCount_0f7a4_7 : decode cJ6_bitCount_0f7a4 7 = .ok (.iand, 1) := by decide +kernel
theorem dJ6_bitCount_0f7a4_8 : decode cJ6_bitCount_0f7a4 8 = .ok (.isub, 1) := by decide +kernel
theorem dJ6_bitCount_0f7a4_9 : decode cJ6_bitCount_0f7a4 9 = .ok (.istore_n 0, 1) := by decide +kernel
theorem dJ6_bitCount_0f7a4_10 : decode cJ6_bitCount_0f7a4 10 = .ok (.iload_n 0, 1) := by decide +kernel
theorem dJ6_bitCount_0f7a4_11 : decode cJ6_bitCount_0f7a4 11 = .ok (.ldc_w 266, 3) := by decide +kernel
theorem dJ6_bitCount_0f7a4_14 : decode cJ6_bitCount_0f7a4 14 = .ok (.iand, 1) := by decide +kernel
theorem dJ6_bitCount_0f7a4_15 : decode cJ6_bitCount_0f7a4 15 = .ok (.iload_n 0, 1) := by decide +kernel
theorem dJ6_bitCount_0f7a4_16 : decode cJ6_bitCount_0f7a4 16 = .ok (.iconst 2, 1) := by decide +kernel
theorem dJ6_bitCount_0f7a4_17 : decode cJ6_bitCount_0f7a4 17 = .ok (.iushr, 1) := by decide +kernel
theorem dJ6_bitCount_0f7a4_18 : decode cJ6_bitCount_0f7a4 18 = .ok (.ldc_w 266, 3) := by decide +kernel
theorem dJ6_bitCount_0f7a4_21 : decode cJ6_bitCount_0f7a4 21 = .ok (.iand, 1) := by decide +kernel
theorem dJ6_bitCount_0f7a4_22 : decode cJ6_bitCount_0f7a4 22 = .ok (.iadd, 1) := by decide +kernel
theorem dJ6_bitCount_0f7a4_23 : decode cJ6_bitCount_0f7a4 23 = .ok (.istore_n 0, 1) := by decide +kernel
theorem dJ6_bitCount_0f7a4_24 : decode cJ6_bitCount_0f7a4 24 = .ok (.iload_n 0, 1) := by decide +kernel
theorem dJ6_bitCount_0f7a4_25 : decode cJ6_bitCount_0f7a4 25 = .ok (.iload_n 0, 1) := by decide +kernel
theorem dJ6_bitCount_0f7a4_26 : decode cJ6_bitCount_0f7a4 26 = .ok (.iconst 4, 1) := by decide +kernel
theorem dJ6_bitCount_0f7a4_27 : decode cJ6_bitCount_0f7a4 27 = .ok (.iushr, 1) := by decide +kernel
theorem dJ6_bitCount_0f7a4_28 : decode cJ6_bitCount_0f7a4 28 = .ok (.iadd, 1) := by decide +kernel
theorem dJ6_bitCount_0f7a4_29 : decode cJ6_bitCount_0f7a4 29 = .ok (.ldc_w 267, 3) := by decide +kernel
theorem dJ6_bitCount_0f7a4_32 : decode cJ6_bitCount_0f7a4 32 = .ok (.iand, 1) := by decide +kernel
theorem dJ6_bitCount_0f7a4_33 : decode cJ6_bitCount_0f7a4 33 = .ok (.istore_n 0, 1) := by decide +kernel
theorem dJ6_bitCount_0f7a4_34 : decode cJ6_bitCount_0f7a4 34 = .ok (.iload_n 0, 1) := by decide +kernel
theorem dJ6_bitCount_0f7a4_35 : decode cJ6_bitCount_0f7a4 35 = .ok (.iload_n 0, 1) := by decide +kernel
theorem dJ6_bitCount_0f7a4_36 : decode cJ6_bitCount_0f7a4 36 = .ok (.bipush 8, 2) := by decide +kernel
theorem dJ6_bitCount_0f7a4_38 : decode cJ6_bitCount_0f7a4 38 = .ok (.iushr, 1) := by decide +kernel
theorem dJ6_bitCount_0f7a4_39 : decode cJ6_bitCount_0f7a4 39 = .ok (.iadd, 1) := by decide +kernel
theorem dJ6_bitCount_0f7a4_40 : decode cJ6_bitCount_0f7a4 40 = .ok (.istore_n 0, 1) := by decide +kernel
theorem dJ6_bitCount_0f7a4_41 : decode cJ6_bitCount_0f7a4 41 = .ok (.iload_n 0, 1) := by decide +kernel
theorem dJ6_bitCount_0f7a4_42 : decode cJ6_bitCount_0f7a4 42 = .ok (.iload_n 0, 1) := by decide +kernel
theorem dJ6_bitCount_0f7a4_43 : decode cJ6_bitCount_0f7a4 43 = .ok (.bipush 16, 2) := by decide +kernel
theorem dJ6_bitCount_0f7a4_45 : decode cJ6_bitCount_0f7a4 45 = .ok (.iushr, 1) := by decide +kernel
theorem dJ6_bitCount_0f7a4_46 : decode cJ6_bitCount_0f7a4 46 = .ok (.iadd, 1) := by decide +kernel
theorem dJ6_bitCount_0f7a4_47 : decode cJ6_bitCount_0f7a4 47 = .ok (.istore_n 0, 1) := by decide +kernel
theorem dJ6_bitCount_0f7a4_48 : decode cJ6_bitCount_0f7a4 48 = .ok (.iload_n 0, 1) := by decide +kernel
theorem dJ6_bitCount_0f7a4_49 : decode cJ6_bitCount_0f7a4 49 = .ok (.bipush 63, 2) := by decide +kernel
theorem dJ6_bitCount_0f7a4_51 : decode cJ6_bitCount_0f7a4 51 = .ok (.iand, 1) := by decide +kernel
theorem dJ6_bitCount_0f7a4_52 : decode cJ6_bitCount_0f7a4 52 = .ok (.ireturn, 1) := by decide +kernel
theorem dX11_backs_0 : decode cX11_backs 0 = .ok (.aload_n 0, 1) := by decide +kernel
theorem dX11_backs_1 : decode cX11_backs 1 = .ok (.iconst 0, 1) := by decide +kernel
theorem dX11_backs_2 : decode cX11_backs 2 = .ok (.putfield 3, 3) := by decide +kernel
theorem dX11_backs_5 : decode cX11_backs 5 = .ok (.aload_n 0, 1) := by decide +kernel
theorem dX11_backs_6 : decode cX11_backs 6 = .ok (.aload_n 0, 1) := by decide +kernel
theorem dX11_backs_7 : decode cX11_backs 7 = .ok (.iload_n 1, 1) := by decide +kernel
theorem dX11_backs_8 : decode cX11_backs 8 = .ok (.invokevirtual 359, 3) := by decide +kernel
theorem dX11_backs_11 : decode cX11_backs 11 = .ok (.iconst 1, 1) := by decide +kernel
theorem dX11_backs_12 : decode cX11_backs 12 = .ok (.invokevirtual 322, 3) := by decide +kernel
theorem dX11_backs_15 : decode cX11_backs 15 = .ok (.ifCond .eq 5, 3) := by decide +kernel
theorem dX11_backs_18 : decode cX11_backs 18 = .ok (.iconst 0, 1) := by decide +kernel
theorem dX11_backs_19 : decode cX11_backs 19 = .ok (.ireturn, 1) := by decide +kernel
theorem dX11_backs_20 : decode cX11_backs 20 = .ok (.aload_n 0, 1) := by decide +kernel
theorem dX11_backs_21 : decode cX11_backs 21 = .ok (.invokevirtual 412, 3) := by decide +kernel
theorem dX11_backs_24 : decode cX11_backs 24 = .ok (.bipush (-2), 2) := by decide +kernel
theorem dX11_backs_26 : decode cX11_backs 26 = .ok (.istore_n 2, 1) := by decide +kernel
theorem dX11_backs_27 : decode cX11_backs 27 = .ok (.iconst 0, 1) := by decide +kernel
theorem dX11_backs_28 : decode cX11_backs 28 = .ok (.istore_n 3, 1) := by decide +kernel
theorem dX11_backs_29 : decode cX11_backs 29 = .ok (.iload_n 3, 1) := by decide +kernel
theorem dX11_backs_30 : decode cX11_backs 30 = .ok (.iconst 1, 1) := by decide +kernel
theorem dX11_backs_31 : decode cX11_backs 31 = .ok (.aload_n 0, 1) := by decide +kernel
theorem dX11_backs_32 : decode cX11_backs 32 = .ok (.invokevirtual 107, 3) := by decide +kernel
theorem dX11_backs_35 : decode cX11_backs 35 = .ok (.ishl, 1) := by decide +kernel
theorem dX11_backs_36 : decode cX11_backs 36 = .ok (.if_icmp .ge 62, 3) := by decide +kernel
theorem dX11_backs_39 : decode cX11_backs 39 = .ok (.iload_n 3, 1) := by decide +kernel
theorem dX11_backs_40 : decode cX11_backs 40 = .ok (.iload_n 1, 1) := by decide +kernel
theorem dX11_backs_41 : decode cX11_backs 41 = .ok (.invokestatic 103, 3) := by decide +kernel
theorem dX11_backs_44 : decode cX11_backs 44 = .ok (.ifCond .ne 48, 3) := by decide +kernel
theorem dX11_backs_47 : decode cX11_backs 47 = .ok (.iload_n 2, 1) := by decide +kernel
theorem dX11_backs_48 : decode cX11_backs 48 = .ok (.ifCond .lt 17, 3) := by decide +kernel
theorem dX11_backs_51 : decode cX11_backs 51 = .ok (.iload_n 3, 1) := by decide +kernel
theorem dX11_backs_52 : decode cX11_backs 52 = .ok (.invokestatic 418, 3) := by decide +kernel
theorem dX11_backs_55 : decode cX11_backs 55 = .ok (.iload_n 2, 1) := by decide +kernel
theorem dX11_backs_56 : decode cX11_backs 56 = .ok (.invokestatic 418, 3) := by decide +kernel
theorem dX11_backs_59 : decode cX11_backs 59 = .ok (.if_icmp .lt 6, 3) := by decide +kernel
theorem dX11_backs_62 : decode cX11_backs 62 = .ok (.goto 30, 3) := by decide +kernel
theorem dX11_backs_65 : decode cX11_backs 65 = .ok (.aload_n 0, 1) := by decide +kernel
theorem dX11_backs_66 : decode cX11_backs 66 = .ok (.iload_n 3, 1) := by decide +kernel
theorem dX11_backs_67 : decode cX11_backs 67 = .ok (.invokevirtual 421, 3) := by decide +kernel
theorem dX11_backs_70 : decode cX11_backs 70 = .ok (.aload_n 0, 1) := by decide +kernel
theorem dX11_backs_71 : decode cX11_backs 71 = .ok (.iload_n 1, 1) := by decide +kernel
theorem dX11_backs_72 : decode cX11_backs 72 = .ok (.aload_n 0, 1) := by decide +kernel
theorem dX11_backs_73 : decode cX11_backs 73 = .ok (.invokevirtual 121, 3) := by decide +kernel
theorem dX11_backs_76 : decode cX11_backs 76 = .ok (.invokevirtual 146, 3) := by decide +kernel
theorem dX11_backs_79 : decode cX11_backs 79 = .ok (.ifCond .eq 7, 3) := by decide +kernel
theorem dX11_backs_82 : decode cX11_backs 82 = .ok (.iload_n 3, 1) := by decide +kernel
theorem dX11_backs_83 : decode cX11_backs 83 = .ok (.goto 4, 3) := by decide +kernel
theorem dX11_backs_86 : decode cX11_backs 86 = .ok (.iload_n 2, 1) := by decide +kernel
theorem dX11_backs_87 : decode cX11_backs 87 = .ok (.istore_n 2, 1) := by decide +kernel
theorem dX11_backs_88 : decode cX11_backs 88 = .ok (.aload_n 0, 1) := by decide +kernel
theorem dX11_backs_89 : decode cX11_backs 89 = .ok (.invokevirtual 415, 3) := by decide +kernel
theorem dX11_backs_92 : decode cX11_backs 92 = .ok (.iinc 3 1, 3) := by decide +kernel
theorem dX11_backs_95 : decode cX11_backs 95 = .ok (.goto (-66), 3) := by decide +kernel
theorem dX11_backs_98 : decode cX11_backs 98 = .ok (.iload_n 2, 1) := by decide +kernel
theorem dX11_backs_99 : decode cX11_backs 99 = .ok (.ireturn, 1) := by decide +kernel
theorem dX11_maskAt_0 : decode cX11_maskAt 0 = .ok (.bipush 8, 2) := by decide +kernel
theorem dX11_maskAt_2 : decode cX11_maskAt 2 = .ok (.aload_n 0, 1) := by decide +kernel
theorem dX11_maskAt_3 : decode cX11_maskAt 3 = .ok (.iload_n 1, 1) := by decide +kernel
theorem dX11_maskAt_4 : decode cX11_maskAt 4 = .ok (.iload_n 2, 1) := by decide +kernel
theorem dX11_maskAt_5 : decode cX11_maskAt 5 = .ok (.invokevirtual 132, 3) := by decide +kernel
theorem dX11_maskAt_8 : decode cX11_maskAt 8 = .ok (.imul, 1) := by decide +kernel
theorem dX11_maskAt_9 : decode cX11_maskAt 9 = .ok (.aload_n 0, 1) := by decide +kernel
theorem dX11_maskAt_10 : decode cX11_maskAt 10 = .ok (.getfield 33, 3) := by decide +kernel
theorem dX11_maskAt_13 : decode cX11_maskAt 13 = .ok (.iload_n 2, 1) := by decide +kernel
theorem dX11_maskAt_14 : decode cX11_maskAt 14 = .ok (.iaload, 1) := by decide +kernel
theorem dX11_maskAt_15 : decode cX11_maskAt 15 = .ok (.iadd, 1) := by decide +kernel
theorem dX11_maskAt_16 : decode cX11_maskAt 16 = .ok (.ireturn, 1) := by decide +kernel
theorem dX11_laysMore_0 : decode cX11_laysMore 0 = .ok (.iconst 0, 1) := by decide +kernel
theorem dX11_laysMore_1 : decode cX11_laysMore 1 = .ok (.istore_n 2, 1) := by decide +kernel
theorem dX11_laysMore_2 : decode cX11_laysMore 2 = .ok (.iload_n 2, 1) := by decide +kernel
theorem dX11_laysMore_3 : decode cX11_laysMore 3 = .ok (.aload_n 0, 1) := by decide +kernel
theorem dX11_laysMore_4 : decode cX11_laysMore 4 = .ok (.getfield 71, 3) := by decide +kernel
theorem dX11_laysMore_7 : decode cX11_laysMore 7 = .ok (.arraylength, 1) := by decide +kernel
theorem dX11_laysMore_8 : decode cX11_laysMore 8 = .ok (.if_icmp .ge 16, 3) := by decide +kernel
theorem dX11_laysMore_11 : decode cX11_laysMore 11 = .ok (.aload_n 0, 1) := by decide +kernel
theorem dX11_laysMore_12 : decode cX11_laysMore 12 = .ok (.getfield 71, 3) := by decide +kernel
theorem dX11_laysMore_15 : decode cX11_laysMore 15 = .ok (.iload_n 2, 1) := by decide +kernel
theorem dX11_laysMore_16 : decode cX11_laysMore 16 = .ok (.iconst 0, 1) := by decide +kernel
theorem dX11_laysMore_17 : decode cX11_laysMore 17 = .ok (.iastore, 1) := by decide +kernel
theorem dX11_laysMore_18 : decode cX11_laysMore 18 = .ok (.iinc 2 1, 3) := by decide +kernel
theorem dX11_laysMore_21 : decode cX11_laysMore 21 = .ok (.goto (-19), 3) := by decide +kernel
theorem dX11_laysMore_24 : decode cX11_laysMore 24 = .ok (.iconst 0, 1) := by decide +kernel
theorem dX11_laysMore_25 : decode cX11_laysMore 25 = .ok (.istore_n 2, 1) := by decide +kernel
theorem dX11_laysMore_26 : decode cX11_laysMore 26 = .ok (.iload_n 2, 1) := by decide +kernel
theorem dX11_laysMore_27 : decode cX11_laysMore 27 = .ok (.aload_n 0, 1) := by decide +kernel
theorem dX11_laysMore_28 : decode cX11_laysMore 28 = .ok (.invokevirtual 115, 3) := by decide +kernel
theorem dX11_laysMore_31 : decode cX11_laysMore 31 = .ok (.if_icmp .ge 39, 3) := by decide +kernel
theorem dX11_laysMore_34 : decode cX11_laysMore 34 = .ok (.aload_n 0, 1) := by decide +kernel
theorem dX11_laysMore_35 : decode cX11_laysMore 35 = .ok (.iload_n 2, 1) := by decide +kernel
theorem dX11_laysMore_36 : decode cX11_laysMore 36 = .ok (.invokevirtual 128, 3) := by decide +kernel
theorem dX11_laysMore_39 : decode cX11_laysMore 39 = .ok (.ifCond .eq 25, 3) := by decide +kernel
theorem dX11_laysMore_42 : decode cX11_laysMore 42 = .ok (.aload_n 0, 1) := by decide +kernel
theorem dX11_laysMore_43 : decode cX11_laysMore 43 = .ok (.getfield 71, 3) := by decide +kernel
theorem dX11_laysMore_46 : decode cX11_laysMore 46 = .ok (.aload_n 0, 1) := by decide +kernel
theorem dX11_laysMore_47 : decode cX11_laysMore 47 = .ok (.iload_n 1, 1) := by decide +kernel
theorem dX11_laysMore_48 : decode cX11_laysMore 48 = .ok (.iload_n 2, 1) := by decide +kernel
theorem dX11_laysMore_49 : decode cX11_laysMore 49 = .ok (.invokevirtual 424, 3) := by decide +kernel
theorem dX11_laysMore_52 : decode cX11_laysMore 52 = .ok (.dup2, 1) := by decide +kernel
theorem dX11_laysMore_53 : decode cX11_laysMore 53 = .ok (.iaload, 1) := by decide +kernel
theorem dX11_laysMore_54 : decode cX11_laysMore 54 = .ok (.iconst 1, 1) := by decide +kernel
theorem dX11_laysMore_55 : decode cX11_laysMore 55 = .ok (.aload_n 0, 1) := by decide +kernel
theorem dX11_laysMore_56 : decode cX11_laysMore 56 = .ok (.iload_n 1, 1) := by decide +kernel
theorem dX11_laysMore_57 : decode cX11_laysMore 57 = .ok (.iload_n 2, 1) := by decide +kernel
theorem dX11_laysMore_58 : decode cX11_laysMore 58 = .ok (.invokevirtual 124, 3) := by decide +kernel
theorem dX11_laysMore_61 : decode cX11_laysMore 61 = .ok (.ishl, 1) := by decide +kernel
theorem dX11_laysMore_62 : decode cX11_laysMore 62 = .ok (.ior, 1) := by decide +kernel
theorem dX11_laysMore_63 : decode cX11_laysMore 63 = .ok (.iastore, 1) := by decide +kernel
theorem dX11_laysMore_64 : decode cX11_laysMore 64 = .ok (.iinc 2 1, 3) := by decide +kernel
theorem dX11_laysMore_67 : decode cX11_laysMore 67 = .ok (.goto (-41), 3) := by decide +kernel
theorem dX11_laysMore_70 : decode cX11_laysMore 70 = .ok (.return_, 1) := by decide +kernel
theorem dX11_gives_0 : decode cX11_gives 0 = .ok (.aload_n 0, 1) := by decide +kernel
theorem dX11_gives_1 : decode cX11_gives 1 = .ok (.iconst 0, 1) := by decide +kernel
theorem dX11_gives_2 : decode cX11_gives 2 = .ok (.putfield 3, 3) := by decide +kernel
theorem dX11_gives_5 : decode cX11_gives 5 = .ok (.aload_n 0, 1) := by decide +kernel
theorem dX11_gives_6 : decode cX11_gives 6 = .ok (.aload_n 0, 1) := by decide +kernel
theorem dX11_gives_7 : decode cX11_gives 7 = .ok (.iload_n 1, 1) := by decide +kernel
theorem dX11_gives_8 : decode cX11_gives 8 = .ok (.invokevirtual 359, 3) := by decide +kernel
theorem dX11_gives_11 : decode cX11_gives 11 = .ok (.iconst 1, 1) := by decide +kernel
theorem dX11_gives_12 : decode cX11_gives 12 = .ok (.invokevirtual 322, 3) := by decide +kernel
theorem dX11_gives_15 : decode cX11_gives 15 = .ok (.ifCond .eq 5, 3) := by decide +kernel
theorem dX11_gives_18 : decode cX11_gives 18 = .ok (.iconst 0, 1) := by decide +kernel
theorem dX11_gives_19 : decode cX11_gives 19 = .ok (.ireturn, 1) := by decide +kernel
theorem dX11_gives_20 : decode cX11_gives 20 = .ok (.iconst 0, 1) := by decide +kernel
theorem dX11_gives_21 : decode cX11_gives 21 = .ok (.istore_n 2, 1) := by decide +kernel
theorem dX11_gives_22 : decode cX11_gives 22 = .ok (.iconst 0, 1) := by decide +kernel
theorem dX11_gives_23 : decode cX11_gives 23 = .ok (.istore_n 3, 1) := by decide +kernel
theorem dX11_gives_24 : decode cX11_gives 24 = .ok (.iload_n 3, 1) := by decide +kernel
theorem dX11_gives_25 : decode cX11_gives 25 = .ok (.aload_n 0, 1) := by decide +kernel
theorem dX11_gives_26 : decode cX11_gives 26 = .ok (.invokevirtual 107, 3) := by decide +kernel
theorem dX11_gives_29 : decode cX11_gives 29 = .ok (.if_icmp .ge 67, 3) := by decide +kernel
theorem dX11_gives_32 : decode cX11_gives 32 = .ok (.iload_n 3, 1) := by decide +kernel
theorem dX11_gives_33 : decode cX11_gives 33 = .ok (.iload_n 1, 1) := by decide +kernel
theorem dX11_gives_34 : decode cX11_gives 34 = .ok (.if_icmp .eq 56, 3) := by decide +kernel
theorem dX11_gives_37 : decode cX11_gives 37 = .ok (.aload_n 0, 1) := by decide +kernel
theorem dX11_gives_38 : decode cX11_gives 38 = .ok (.iload_n 3, 1) := by decide +kernel
theorem dX11_gives_39 : decode cX11_gives 39 = .ok (.iload_n 1, 1) := by decide +kernel
theorem dX11_gives_40 : decode cX11_gives 40 = .ok (.invokevirtual 325, 3) := by decide +kernel
theorem dX11_gives_43 : decode cX11_gives 43 = .ok (.ifCond .ne 6, 3) := by decide +kernel
theorem dX11_gives_46 : decode cX11_gives 46 = .ok (.goto 44, 3) := by decide +kernel
theorem dX11_gives_49 : decode cX11_gives 49 = .ok (.aload_n 0, 1) := by decide +kernel
theorem dX11_gives_50 : decode cX11_gives 50 = .ok (.iload_n 3, 1) := by decide +kernel
theorem dX11_gives_51 : decode cX11_gives 51 = .ok (.iload_n 1, 1) := by decide +kernel
theorem dX11_gives_52 : decode cX11_gives 52 = .ok (.invokevirtual 352, 3) := by decide +kernel
theorem dX11_gives_55 : decode cX11_gives 55 = .ok (.aload_n 0, 1) := by decide +kernel
theorem dX11_gives_56 : decode cX11_gives 56 = .ok (.iload_n 1, 1) := by decide +kernel
theorem dX11_gives_57 : decode cX11_gives 57 = .ok (.invokevirtual 427, 3) := by decide +kernel
theorem dX11_gives_60 : decode cX11_gives 60 = .ok (.iload_n 2, 1) := by decide +kernel
theorem dX11_gives_61 : decode cX11_gives 61 = .ok (.aload_n 0, 1) := by decide +kernel
theorem dX11_gives_62 : decode cX11_gives 62 = .ok (.getfield 71, 3) := by decide +kernel
theorem dX11_gives_65 : decode cX11_gives 65 = .ok (.aload_n 0, 1) := by decide +kernel
theorem dX11_gives_66 : decode cX11_gives 66 = .ok (.iload_n 1, 1) := by decide +kernel
theorem dX11_gives_67 : decode cX11_gives 67 = .ok (.aload_n 0, 1) := by decide +kernel
theorem dX11_gives_68 : decode cX11_gives 68 = .ok (.invokevirtual 121, 3) := by decide +kernel
theorem dX11_gives_71 : decode cX11_gives 71 = .ok (.invokevirtual 424, 3) := by decide +kernel
theorem dX11_gives_74 : decode cX11_gives 74 = .ok (.iaload, 1) := by decide +kernel
theorem dX11_gives_75 : decode cX11_gives 75 = .ok (.invokestatic 143, 3) := by decide +kernel
theorem dX11_gives_78 : decode cX11_gives 78 = .ok (.ifCond .eq 9, 3) := by decide +kernel
theorem dX11_gives_81 : decode cX11_gives 81 = .ok (.iconst 1, 1) := by decide +kernel
theorem dX11_gives_82 : decode cX11_gives 82 = .ok (.iload_n 3, 1) := by decide +kernel
theorem dX11_gives_83 : decode cX11_gives 83 = .ok (.ishl, 1) := by decide +kernel
theorem dX11_gives_84 : decode cX11_gives 84 = .ok (.goto 4, 3) := by decide +kernel
theorem dX11_gives_87 : decode cX11_gives 87 = .ok (.iconst 0, 1) := by decide +kernel
theorem dX11_gives_88 : decode cX11_gives 88 = .ok (.ior, 1) := by decide +kernel
theorem dX11_gives_89 : decode cX11_gives 89 = .ok (.istore_n 2, 1) := by decide +kernel
theorem dX11_gives_90 : decode cX11_gives 90 = .ok (.iinc 3 1, 3) := by decide +kernel
theorem dX11_gives_93 : decode cX11_gives 93 = .ok (.goto (-69), 3) := by decide +kernel
theorem dX11_gives_96 : decode cX11_gives 96 = .ok (.iload_n 2, 1) := by decide +kernel
theorem dX11_gives_97 : decode cX11_gives 97 = .ok (.ireturn, 1) := by decide +kernel
theorem dX11_never_0 : decode cX11_never 0 = .ok (.aload_n 0, 1) := by decide +kernel
theorem dX11_never_1 : decode cX11_never 1 = .ok (.iconst 0, 1) := by decide +kernel
theorem dX11_never_2 : decode cX11_never 2 = .ok (.putfield 3, 3) := by decide +kernel
theorem dX11_never_5 : decode cX11_never 5 = .ok (.aload_n 0, 1) := by decide +kernel
theorem dX11_never_6 : decode cX11_never 6 = .ok (.aload_n 0, 1) := by decide +kernel
theorem dX11_never_7 : decode cX11_never 7 = .ok (.iload_n 1, 1) := by decide +kernel
theorem dX11_never_8 : decode cX11_never 8 = .ok (.invokevirtual 359, 3) := by decide +kernel
theorem dX11_never_11 : decode cX11_never 11 = .ok (.iconst 1, 1) := by decide +kernel
theorem dX11_never_12 : decode cX11_never 12 = .ok (.invokevirtual 322, 3) := by decide +kernel
theorem dX11_never_15 : decode cX11_never 15 = .ok (.ifCond .eq 5, 3) := by decide +kernel
theorem dX11_never_18 : decode cX11_never 18 = .ok (.iconst 0, 1) := by decide +kernel
theorem dX11_never_19 : decode cX11_never 19 = .ok (.ireturn, 1) := by decide +kernel
theorem dX11_never_20 : decode cX11_never 20 = .ok (.iconst 0, 1) := by decide +kernel
theorem dX11_never_21 : decode cX11_never 21 = .ok (.istore_n 2, 1) := by decide +kernel
theorem dX11_never_22 : decode cX11_never 22 = .ok (.iconst 0, 1) := by decide +kernel
theorem dX11_never_23 : decode cX11_never 23 = .ok (.istore_n 3, 1) := by decide +kernel
theorem dX11_never_24 : decode cX11_never 24 = .ok (.iload_n 3, 1) := by decide +kernel
theorem dX11_never_25 : decode cX11_never 25 = .ok (.aload_n 0, 1) := by decide +kernel
theorem dX11_never_26 : decode cX11_never 26 = .ok (.invokevirtual 107, 3) := by decide +kernel
theorem dX11_never_29 : decode cX11_never 29 = .ok (.if_icmp .ge 136, 3) := by decide +kernel
theorem dX11_never_32 : decode cX11_never 32 = .ok (.iload_n 3, 1) := by decide +kernel
theorem dX11_never_33 : decode cX11_never 33 = .ok (.iload_n 1, 1) := by decide +kernel
theorem dX11_never_34 : decode cX11_never 34 = .ok (.if_icmp .eq 125, 3) := by decide +kernel
theorem dX11_never_37 : decode cX11_never 37 = .ok (.aload_n 0, 1) := by decide +kernel
theorem dX11_never_38 : decode cX11_never 38 = .ok (.iload_n 3, 1) := by decide +kernel
theorem dX11_never_39 : decode cX11_never 39 = .ok (.iload_n 1, 1) := by decide +kernel
theorem dX11_never_40 : decode cX11_never 40 = .ok (.invokevirtual 325, 3) := by decide +kernel
theorem dX11_never_43 : decode cX11_never 43 = .ok (.ifCond .ne 6, 3) := by decide +kernel
theorem dX11_never_46 : decode cX11_never 46 = .ok (.goto 113, 3) := by decide +kernel
theorem dX11_never_49 : decode cX11_never 49 = .ok (.aload_n 0, 1) := by decide +kernel
theorem dX11_never_50 : decode cX11_never 50 = .ok (.iload_n 3, 1) := by decide +kernel
theorem dX11_never_51 : decode cX11_never 51 = .ok (.iload_n 1, 1) := by decide +kernel
theorem dX11_never_52 : decode cX11_never 52 = .ok (.invokevirtual 352, 3) := by decide +kernel
theorem dX11_never_55 : decode cX11_never 55 = .ok (.aload_n 0, 1) := by decide +kernel
theorem dX11_never_56 : decode cX11_never 56 = .ok (.iload_n 1, 1) := by decide +kernel
theorem dX11_never_57 : decode cX11_never 57 = .ok (.invokevirtual 427, 3) := by decide +kernel
theorem dX11_never_60 : decode cX11_never 60 = .ok (.aload_n 0, 1) := by decide +kernel
theorem dX11_never_61 : decode cX11_never 61 = .ok (.iload_n 1, 1) := by decide +kernel
theorem dX11_never_62 : decode cX11_never 62 = .ok (.iload_n 1, 1) := by decide +kernel
theorem dX11_never_63 : decode cX11_never 63 = .ok (.invokevirtual 135, 3) := by decide +kernel
theorem dX11_never_66 : decode cX11_never 66 = .ok (.iconst 1, 1) := by decide +kernel
theorem dX11_never_67 : decode cX11_never 67 = .ok (.istore 4, 2) := by decide +kernel
theorem dX11_never_69 : decode cX11_never 69 = .ok (.iconst 0, 1) := by decide +kernel
theorem dX11_never_70 : decode cX11_never 70 = .ok (.istore 5, 2) := by decide +kernel
theorem dX11_never_72 : decode cX11_never 72 = .ok (.iload 5, 2) := by decide +kernel
theorem dX11_never_74 : decode cX11_never 74 = .ok (.aload_n 0, 1) := by decide +kernel
theorem dX11_never_75 : decode cX11_never 75 = .ok (.invokevirtual 115, 3) := by decide +kernel
theorem dX11_never_78 : decode cX11_never 78 = .ok (.if_icmp .ge 66, 3) := by decide +kernel
theorem dX11_never_81 : decode cX11_never 81 = .ok (.iload 4, 2) := by decide +kernel
theorem dX11_never_83 : decode cX11_never 83 = .ok (.ifCond .eq 52, 3) := by decide +kernel
theorem dX11_never_86 : decode cX11_never 86 = .ok (.aload_n 0, 1) := by decide +kernel
theorem dX11_never_87 : decode cX11_never 87 = .ok (.iload 5, 2) := by decide +kernel
theorem dX11_never_89 : decode cX11_never 89 = .ok (.invokevirtual 128, 3) := by decide +kernel
theorem dX11_never_92 : decode cX11_never 92 = .ok (.ifCond .eq 39, 3) := by decide +kernel
theorem dX11_never_95 : decode cX11_never 95 = .ok (.aload_n 0, 1) := by decide +kernel
theorem dX11_never_96 : decode cX11_never 96 = .ok (.getfield 30, 3) := by decide +kernel
theorem dX11_never_99 : decode cX11_never 99 = .ok (.aload_n 0, 1) := by decide +kernel
theorem dX11_never_100 : decode cX11_never 100 = .ok (.iload_n 1, 1) := by decide +kernel
theorem dX11_never_101 : decode cX11_never 101 = .ok (.iload 5, 2) := by decide +kernel
theorem dX11_never_103 : decode cX11_never 103 = .ok (.invokevirtual 132, 3) := by decide +kernel
theorem dX11_never_106 : decode cX11_never 106 = .ok (.iaload, 1) := by decide +kernel
theorem dX11_never_107 : decode cX11_never 107 = .ok (.invokestatic 143, 3) := by decide +kernel
theorem dX11_never_110 : decode cX11_never 110 = .ok (.ifCond .ne 21, 3) := by decide +kernel
theorem dX11_never_113 : decode cX11_never 113 = .ok (.aload_n 0, 1) := by decide +kernel
theorem dX11_never_114 : decode cX11_never 114 = .ok (.getfield 71, 3) := by decide +kernel
theorem dX11_never_117 : decode cX11_never 117 = .ok (.aload_n 0, 1) := by decide +kernel
theorem dX11_never_118 : decode cX11_never 118 = .ok (.iload_n 1, 1) := by decide +kernel
theorem dX11_never_119 : decode cX11_never 119 = .ok (.iload 5, 2) := by decide +kernel
theorem dX11_never_121 : decode cX11_never 121 = .ok (.invokevirtual 424, 3) := by decide +kernel
theorem dX11_never_124 : decode cX11_never 124 = .ok (.iaload, 1) := by decide +kernel
theorem dX11_never_125 : decode cX11_never 125 = .ok (.invokestatic 143, 3) := by decide +kernel
theorem dX11_never_128 : decode cX11_never 128 = .ok (.ifCond .ne 7, 3) := by decide +kernel
theorem dX11_never_131 : decode cX11_never 131 = .ok (.iconst 1, 1) := by decide +kernel
theorem dX11_never_132 : decode cX11_never 132 = .ok (.goto 4, 3) := by decide +kernel
theorem dX11_never_135 : decode cX11_never 135 = .ok (.iconst 0, 1) := by decide +kernel
theorem dX11_never_136 : decode cX11_never 136 = .ok (.istore 4, 2) := by decide +kernel
theorem dX11_never_138 : decode cX11_never 138 = .ok (.iinc 5 1, 3) := by decide +kernel
theorem dX11_never_141 : decode cX11_never 141 = .ok (.goto (-69), 3) := by decide +kernel
theorem dX11_never_144 : decode cX11_never 144 = .ok (.iload_n 2, 1) := by decide +kernel
theorem dX11_never_145 : decode cX11_never 145 = .ok (.iload 4, 2) := by decide +kernel
theorem dX11_never_147 : decode cX11_never 147 = .ok (.ifCond .eq 9, 3) := by decide +kernel
theorem dX11_never_150 : decode cX11_never 150 = .ok (.iconst 1, 1) := by decide +kernel
theorem dX11_never_151 : decode cX11_never 151 = .ok (.iload_n 3, 1) := by decide +kernel
theorem dX11_never_152 : decode cX11_never 152 = .ok (.ishl, 1) := by decide +kernel
theorem dX11_never_153 : decode cX11_never 153 = .ok (.goto 4, 3) := by decide +kernel
theorem dX11_never_156 : decode cX11_never 156 = .ok (.iconst 0, 1) := by decide +kernel
theorem dX11_never_157 : decode cX11_never 157 = .ok (.ior, 1) := by decide +kernel
theorem dX11_never_158 : decode cX11_never 158 = .ok (.istore_n 2, 1) := by decide +kernel
theorem dX11_never_159 : decode cX11_never 159 = .ok (.iinc 3 1, 3) := by decide +kernel
theorem dX11_never_162 : decode cX11_never 162 = .ok (.goto (-138), 3) := by decide +kernel
theorem dX11_never_165 : decode cX11_never 165 = .ok (.iload_n 2, 1) := by decide +kernel
theorem dX11_never_166 : decode cX11_never 166 = .ok (.ireturn, 1) := by decide +kernel
theorem dX11_questionFor_0 : decode cX11_questionFor 0 = .ok (.aload_n 0, 1) := by decide +kernel
theorem dX11_questionFor_1 : decode cX11_questionFor 1 = .ok (.iload_n 1, 1) := by decide +kernel
theorem dX11_questionFor_2 : decode cX11_questionFor 2 = .ok (.aload_n 0, 1) := by decide +kernel
theorem dX11_questionFor_3 : decode cX11_questionFor 3 = .ok (.invokevirtual 121, 3) := by decide +kernel
theorem dX11_questionFor_6 : decode cX11_questionFor 6 = .ok (.invokevirtual 146, 3) := by decide +kernel
theorem dX11_questionFor_9 : decode cX11_questionFor 9 = .ok (.ifCond .eq 5, 3) := by decide +kernel
theorem dX11_questionFor_12 : decode cX11_questionFor 12 = .ok (.iconst (-1), 1) := by decide +kernel
theorem dX11_questionFor_13 : decode cX11_questionFor 13 = .ok (.ireturn, 1) := by decide +kernel
theorem dX11_questionFor_14 : decode cX11_questionFor 14 = .ok (.iconst 0, 1) := by decide +kernel
theorem dX11_questionFor_15 : decode cX11_questionFor 15 = .ok (.istore_n 2, 1) := by decide +kernel
theorem dX11_questionFor_16 : decode cX11_questionFor 16 = .ok (.iload_n 2, 1) := by decide +kernel
theorem dX11_questionFor_17 : decode cX11_questionFor 17 = .ok (.aload_n 0, 1) := by decide +kernel
theorem dX11_questionFor_18 : decode cX11_questionFor 18 = .ok (.invokevirtual 107, 3) := by decide +kernel
theorem dX11_questionFor_21 : decode cX11_questionFor 21 = .ok (.if_icmp .ge 171, 3) := by decide +kernel
theorem dX11_questionFor_24 : decode cX11_questionFor 24 = .ok (.iconst 0, 1) := by decide +kernel
theorem dX11_questionFor_25 : decode cX11_questionFor 25 = .ok (.istore_n 3, 1) := by decide +kernel
theorem dX11_questionFor_26 : decode cX11_questionFor 26 = .ok (.iload_n 3, 1) := by decide +kernel
theorem dX11_questionFor_27 : decode cX11_questionFor 27 = .ok (.aload_n 0, 1) := by decide +kernel
theorem dX11_questionFor_28 : decode cX11_questionFor 28 = .ok (.invokevirtual 107, 3) := by decide +kernel
theorem dX11_questionFor_31 : decode cX11_questionFor 31 = .ok (.if_icmp .ge 155, 3) := by decide +kernel
theorem dX11_questionFor_34 : decode cX11_questionFor 34 = .ok (.iconst 0, 1) := by decide +kernel
theorem dX11_questionFor_35 : decode cX11_questionFor 35 = .ok (.istore 4, 2) := by decide +kernel
theorem dX11_questionFor_37 : decode cX11_questionFor 37 = .ok (.iload 4, 2) := by decide +kernel
theorem dX11_questionFor_39 : decode cX11_questionFor 39 = .ok (.aload_n 0, 1) := by decide +kernel
theorem dX11_questionFor_40 : decode cX11_questionFor 40 = .ok (.invokevirtual 118, 3) := by decide +kernel
theorem dX11_questionFor_43 : decode cX11_questionFor 43 = .ok (.if_icmp .ge 137, 3) := by decide +kernel
theorem dX11_questionFor_46 : decode cX11_questionFor 46 = .ok (.iload_n 2, 1) := by decide +kernel
theorem dX11_questionFor_47 : decode cX11_questionFor 47 = .ok (.iload_n 1, 1) := by decide +kernel
theorem dX11_questionFor_48 : decode cX11_questionFor 48 = .ok (.if_icmp .eq 126, 3) := by decide +kernel
theorem dX11_questionFor_51 : decode cX11_questionFor 51 = .ok (.iload_n 3, 1) := by decide +kernel
theorem dX11_questionFor_52 : decode cX11_questionFor 52 = .ok (.iload_n 1, 1) := by decide +kernel
theorem dX11_questionFor_53 : decode cX11_questionFor 53 = .ok (.if_icmp .ne 6, 3) := by decide +kernel
theorem dX11_questionFor_56 : decode cX11_questionFor 56 = .ok (.goto 118, 3) := by decide +kernel
theorem dX11_questionFor_59 : decode cX11_questionFor 59 = .ok (.aload_n 0, 1) := by decide +kernel
theorem dX11_questionFor_60 : decode cX11_questionFor 60 = .ok (.iload_n 2, 1) := by decide +kernel
theorem dX11_questionFor_61 : decode cX11_questionFor 61 = .ok (.iload_n 3, 1) := by decide +kernel
theorem dX11_questionFor_62 : decode cX11_questionFor 62 = .ok (.iload 4, 2) := by decide +kernel
theorem dX11_questionFor_64 : decode cX11_questionFor 64 = .ok (.invokevirtual 378, 3) := by decide +kernel
theorem dX11_questionFor_67 : decode cX11_questionFor 67 = .ok (.iconst 0, 1) := by decide +kernel
theorem dX11_questionFor_68 : decode cX11_questionFor 68 = .ok (.istore 5, 2) := by decide +kernel
theorem dX11_questionFor_70 : decode cX11_questionFor 70 = .ok (.iconst 0, 1) := by decide +kernel
theorem dX11_questionFor_71 : decode cX11_questionFor 71 = .ok (.istore 6, 2) := by decide +kernel
theorem dX11_questionFor_73 : decode cX11_questionFor 73 = .ok (.iload 6, 2) := by decide +kernel
theorem dX11_questionFor_75 : decode cX11_questionFor 75 = .ok (.aload_n 0, 1) := by decide +kernel
theorem dX11_questionFor_76 : decode cX11_questionFor 76 = .ok (.invokevirtual 115, 3) := by decide +kernel
theorem dX11_questionFor_79 : decode cX11_questionFor 79 = .ok (.if_icmp .ge 74, 3) := by decide +kernel
theorem dX11_questionFor_82 : decode cX11_questionFor 82 = .ok (.iload 5, 2) := by decide +kernel
theorem dX11_questionFor_84 : decode cX11_questionFor 84 = .ok (.aload_n 0, 1) := by decide +kernel
theorem dX11_questionFor_85 : decode cX11_questionFor 85 = .ok (.iload 6, 2) := by decide +kernel
theorem dX11_questionFor_87 : decode cX11_questionFor 87 = .ok (.invokevirtual 128, 3) := by decide +kernel
theorem dX11_questionFor_90 : decode cX11_questionFor 90 = .ok (.ifCond .eq 53, 3) := by decide +kernel
theorem dX11_questionFor_93 : decode cX11_questionFor 93 = .ok (.aload_n 0, 1) := by decide +kernel
theorem dX11_questionFor_94 : decode cX11_questionFor 94 = .ok (.getfield 33, 3) := by decide +kernel
theorem dX11_questionFor_97 : decode cX11_questionFor 97 = .ok (.iload 6, 2) := by decide +kernel
theorem dX11_questionFor_99 : decode cX11_questionFor 99 = .ok (.iaload, 1) := by decide +kernel
theorem dX11_questionFor_100 : decode cX11_questionFor 100 = .ok (.aload_n 0, 1) := by decide +kernel
theorem dX11_questionFor_101 : decode cX11_questionFor 101 = .ok (.getfield 33, 3) := by decide +kernel
theorem dX11_questionFor_104 : decode cX11_questionFor 104 = .ok (.aload_n 0, 1) := by decide +kernel
theorem dX11_questionFor_105 : decode cX11_questionFor 105 = .ok (.invokevirtual 121, 3) := by decide +kernel
theorem dX11_questionFor_108 : decode cX11_questionFor 108 = .ok (.iaload, 1) := by decide +kernel
theorem dX11_questionFor_109 : decode cX11_questionFor 109 = .ok (.if_icmp .ne 34, 3) := by decide +kernel
theorem dX11_questionFor_112 : decode cX11_questionFor 112 = .ok (.aload_n 0, 1) := by decide +kernel
theorem dX11_questionFor_113 : decode cX11_questionFor 113 = .ok (.iload_n 1, 1) := by decide +kernel
theorem dX11_questionFor_114 : decode cX11_questionFor 114 = .ok (.iload 6, 2) := by decide +kernel
theorem dX11_questionFor_116 : decode cX11_questionFor 116 = .ok (.invokevirtual 132, 3) := by decide +kernel
theorem dX11_questionFor_119 : decode cX11_questionFor 119 = .ok (.aload_n 0, 1) := by decide +kernel
theorem dX11_questionFor_120 : decode cX11_questionFor 120 = .ok (.iload_n 1, 1) := by decide +kernel
theorem dX11_questionFor_121 : decode cX11_questionFor 121 = .ok (.aload_n 0, 1) := by decide +kernel
theorem dX11_questionFor_122 : decode cX11_questionFor 122 = .ok (.invokevirtual 121, 3) := by decide +kernel
theorem dX11_questionFor_125 : decode cX11_questionFor 125 = .ok (.invokevirtual 132, 3) := by decide +kernel
theorem dX11_questionFor_128 : decode cX11_questionFor 128 = .ok (.if_icmp .ne 15, 3) := by decide +kernel
theorem dX11_questionFor_131 : decode cX11_questionFor 131 = .ok (.iconst 1, 1) := by decide +kernel
theorem dX11_questionFor_132 : decode cX11_questionFor 132 = .ok (.aload_n 0, 1) := by decide +kernel
theorem dX11_questionFor_133 : decode cX11_questionFor 133 = .ok (.iload_n 1, 1) := by decide +kernel
theorem dX11_questionFor_134 : decode cX11_questionFor 134 = .ok (.iload 6, 2) := by decide +kernel
theorem dX11_questionFor_136 : decode cX11_questionFor 136 = .ok (.invokevirtual 124, 3) := by decide +kernel
theorem dX11_questionFor_139 : decode cX11_questionFor 139 = .ok (.ishl, 1) := by decide +kernel
theorem dX11_questionFor_140 : decode cX11_questionFor 140 = .ok (.goto 4, 3) := by decide +kernel
theorem dX11_questionFor_143 : decode cX11_questionFor 143 = .ok (.iconst 0, 1) := by decide +kernel
theorem dX11_questionFor_144 : decode cX11_questionFor 144 = .ok (.ior, 1) := by decide +kernel
theorem dX11_questionFor_145 : decode cX11_questionFor 145 = .ok (.istore 5, 2) := by decide +kernel
theorem dX11_questionFor_147 : decode cX11_questionFor 147 = .ok (.iinc 6 1, 3) := by decide +kernel
theorem dX11_questionFor_150 : decode cX11_questionFor 150 = .ok (.goto (-77), 3) := by decide +kernel
theorem dX11_questionFor_153 : decode cX11_questionFor 153 = .ok (.iload 5, 2) := by decide +kernel
theorem dX11_questionFor_155 : decode cX11_questionFor 155 = .ok (.invokestatic 143, 3) := by decide +kernel
theorem dX11_questionFor_158 : decode cX11_questionFor 158 = .ok (.ifCond .eq 16, 3) := by decide +kernel
theorem dX11_questionFor_161 : decode cX11_questionFor 161 = .ok (.bipush 100, 2) := by decide +kernel
theorem dX11_questionFor_163 : decode cX11_questionFor 163 = .ok (.iload_n 2, 1) := by decide +kernel
theorem dX11_questionFor_164 : decode cX11_questionFor 164 = .ok (.imul, 1) := by decide +kernel
theorem dX11_questionFor_165 : decode cX11_questionFor 165 = .ok (.bipush 10, 2) := by decide +kernel
theorem dX11_questionFor_167 : decode cX11_questionFor 167 = .ok (.iload_n 3, 1) := by decide +kernel
theorem dX11_questionFor_168 : decode cX11_questionFor 168 = .ok (.imul, 1) := by decide +kernel
theorem dX11_questionFor_169 : decode cX11_questionFor 169 = .ok (.iadd, 1) := by decide +kernel
theorem dX11_questionFor_170 : decode cX11_questionFor 170 = .ok (.iload 4, 2) := by decide +kernel
theorem dX11_questionFor_172 : decode cX11_questionFor 172 = .ok (.iadd, 1) := by decide +kernel
theorem dX11_questionFor_173 : decode cX11_questionFor 173 = .ok (.ireturn, 1) := by decide +kernel
theorem dX11_questionFor_174 : decode cX11_questionFor 174 = .ok (.iinc 4 1, 3) := by decide +kernel
theorem dX11_questionFor_177 : decode cX11_questionFor 177 = .ok (.goto (-140), 3) := by decide +kernel
theorem dX11_questionFor_180 : decode cX11_questionFor 180 = .ok (.iinc 3 1, 3) := by decide +kernel
theorem dX11_questionFor_183 : decode cX11_questionFor 183 = .ok (.goto (-157), 3) := by decide +kernel
theorem dX11_questionFor_186 : decode cX11_questionFor 186 = .ok (.iinc 2 1, 3) := by decide +kernel
theorem dX11_questionFor_189 : decode cX11_questionFor 189 = .ok (.goto (-173), 3) := by decide +kernel
theorem dX11_questionFor_192 : decode cX11_questionFor 192 = .ok (.iconst (-1), 1) := by decide +kernel
theorem dX11_questionFor_193 : decode cX11_questionFor 193 = .ok (.ireturn, 1) := by decide +kernel
theorem dX11_question_0 : decode cX11_question 0 = .ok (.aload_n 0, 1) := by decide +kernel
theorem dX11_question_1 : decode cX11_question 1 = .ok (.iconst 0, 1) := by decide +kernel
theorem dX11_question_2 : decode cX11_question 2 = .ok (.putfield 3, 3) := by decide +kernel
theorem dX11_question_5 : decode cX11_question 5 = .ok (.aload_n 0, 1) := by decide +kernel
theorem dX11_question_6 : decode cX11_question 6 = .ok (.aload_n 0, 1) := by decide +kernel
theorem dX11_question_7 : decode cX11_question 7 = .ok (.iload_n 1, 1) := by decide +kernel
theorem dX11_question_8 : decode cX11_question 8 = .ok (.invokevirtual 359, 3) := by decide +kernel
theorem dX11_question_11 : decode cX11_question 11 = .ok (.iconst 1, 1) := by decide +kernel
theorem dX11_question_12 : decode cX11_question 12 = .ok (.invokevirtual 322, 3) := by decide +kernel
theorem dX11_question_15 : decode cX11_question 15 = .ok (.ifCond .eq 7, 3) := by decide +kernel
theorem dX11_question_18 : decode cX11_question 18 = .ok (.iconst 0, 1) := by decide +kernel
theorem dX11_question_19 : decode cX11_question 19 = .ok (.goto 8, 3) := by decide +kernel
theorem dX11_question_22 : decode cX11_question 22 = .ok (.aload_n 0, 1) := by decide +kernel
theorem dX11_question_23 : decode cX11_question 23 = .ok (.iload_n 1, 1) := by decide +kernel
theorem dX11_question_24 : decode cX11_question 24 = .ok (.invokevirtual 430, 3) := by decide +kernel
theorem dX11_question_27 : decode cX11_question 27 = .ok (.ireturn, 1) := by decide +kernel
theorem dX11_queries_0 : decode cX11_queries 0 = .ok (.aload_n 0, 1) := by decide +kernel
theorem dX11_queries_1 : decode cX11_queries 1 = .ok (.iconst 0, 1) := by decide +kernel
theorem dX11_queries_2 : decode cX11_queries 2 = .ok (.putfield 3, 3) := by decide +kernel
theorem dX11_queries_5 : decode cX11_queries 5 = .ok (.aload_n 0, 1) := by decide +kernel
theorem dX11_queries_6 : decode cX11_queries 6 = .ok (.aload_n 0, 1) := by decide +kernel
theorem dX11_queries_7 : decode cX11_queries 7 = .ok (.iload_n 1, 1) := by decide +kernel
theorem dX11_queries_8 : decode cX11_queries 8 = .ok (.invokevirtual 359, 3) := by decide +kernel
theorem dX11_queries_11 : decode cX11_queries 11 = .ok (.iconst 1, 1) := by decide +kernel
theorem dX11_queries_12 : decode cX11_queries 12 = .ok (.invokevirtual 322, 3) := by decide +kernel
theorem dX11_queries_15 : decode cX11_queries 15 = .ok (.ifCond .eq 5, 3) := by decide +kernel
theorem dX11_queries_18 : decode cX11_queries 18 = .ok (.iconst 0, 1) := by decide +kernel
theorem dX11_queries_19 : decode cX11_queries 19 = .ok (.ireturn, 1) := by decide +kernel
theorem dX11_queries_20 : decode cX11_queries 20 = .ok (.aload_n 0, 1) := by decide +kernel
theorem dX11_queries_21 : decode cX11_queries 21 = .ok (.invokevirtual 107, 3) := by decide +kernel
theorem dX11_queries_24 : decode cX11_queries 24 = .ok (.bipush 6, 2) := by decide +kernel
theorem dX11_queries_26 : decode cX11_queries 26 = .ok (.if_icmp .le 6, 3) := by decide +kernel
theorem dX11_queries_29 : decode cX11_queries 29 = .ok (.bipush (-3), 2) := by decide +kernel
theorem dX11_queries_31 : decode cX11_queries 31 = .ok (.ireturn, 1) := by decide +kernel
theorem dX11_queries_32 : decode cX11_queries 32 = .ok (.aload_n 0, 1) := by decide +kernel
theorem dX11_queries_33 : decode cX11_queries 33 = .ok (.iload_n 1, 1) := by decide +kernel
theorem dX11_queries_34 : decode cX11_queries 34 = .ok (.aload_n 0, 1) := by decide +kernel
theorem dX11_queries_35 : decode cX11_queries 35 = .ok (.invokevirtual 121, 3) := by decide +kernel
theorem dX11_queries_38 : decode cX11_queries 38 = .ok (.invokevirtual 146, 3) := by decide +kernel
theorem dX11_queries_41 : decode cX11_queries 41 = .ok (.ifCond .eq 5, 3) := by decide +kernel
theorem dX11_queries_44 : decode cX11_queries 44 = .ok (.iconst 0, 1) := by decide +kernel
theorem dX11_queries_45 : decode cX11_queries 45 = .ok (.ireturn, 1) := by decide +kernel
theorem dX11_queries_46 : decode cX11_queries 46 = .ok (.aload_n 0, 1) := by decide +kernel
theorem dX11_queries_47 : decode cX11_queries 47 = .ok (.iload_n 1, 1) := by decide +kernel
theorem dX11_queries_48 : decode cX11_queries 48 = .ok (.invokevirtual 430, 3) := by decide +kernel
theorem dX11_queries_51 : decode cX11_queries 51 = .ok (.ifCond .lt 5, 3) := by decide +kernel
theorem dX11_queries_54 : decode cX11_queries 54 = .ok (.iconst 1, 1) := by decide +kernel
theorem dX11_queries_55 : decode cX11_queries 55 = .ok (.ireturn, 1) := by decide +kernel
theorem dX11_queries_56 : decode cX11_queries 56 = .ok (.iconst 0, 1) := by decide +kernel
theorem dX11_queries_57 : decode cX11_queries 57 = .ok (.istore_n 2, 1) := by decide +kernel
theorem dX11_queries_58 : decode cX11_queries 58 = .ok (.iload_n 2, 1) := by decide +kernel
theorem dX11_queries_59 : decode cX11_queries 59 = .ok (.sipush 512, 3) := by decide +kernel
theorem dX11_queries_62 : decode cX11_queries 62 = .ok (.if_icmp .ge 24, 3) := by decide +kernel
theorem dX11_queries_65 : decode cX11_queries 65 = .ok (.aload_n 0, 1) := by decide +kernel
theorem dX11_queries_66 : decode cX11_queries 66 = .ok (.getfield 68, 3) := by decide +kernel
theorem dX11_queries_69 : decode cX11_queries 69 = .ok (.iload_n 2, 1) := by decide +kernel
theorem dX11_queries_70 : decode cX11_queries 70 = .ok (.aload_n 0, 1) := by decide +kernel
theorem dX11_queries_71 : decode cX11_queries 71 = .ok (.getfield 13, 3) := by decide +kernel
theorem dX11_queries_74 : decode cX11_queries 74 = .ok (.bipush 20, 2) := by decide +kernel
theorem dX11_queries_76 : decode cX11_queries 76 = .ok (.iload_n 2, 1) := by decide +kernel
theorem dX11_queries_77 : decode cX11_queries 77 = .ok (.iadd, 1) := by decide +kernel
theorem dX11_queries_78 : decode cX11_queries 78 = .ok (.iaload, 1) := by decide +kernel
theorem dX11_queries_79 : decode cX11_queries 79 = .ok (.iastore, 1) := by decide +kernel
theorem dX11_queries_80 : decode cX11_queries 80 = .ok (.iinc 2 1, 3) := by decide +kernel
theorem dX11_queries_83 : decode cX11_queries 83 = .ok (.goto (-25), 3) := by decide +kernel
theorem dX11_queries_86 : decode cX11_queries 86 = .ok (.iconst 0, 1) := by decide +kernel
theorem dX11_queries_87 : decode cX11_queries 87 = .ok (.istore_n 2, 1) := by decide +kernel
theorem dX11_queries_88 : decode cX11_queries 88 = .ok (.iconst 0, 1) := by decide +kernel
theorem dX11_queries_89 : decode cX11_queries 89 = .ok (.istore_n 3, 1) := by decide +kernel
theorem dX11_queries_90 : decode cX11_queries 90 = .ok (.iload_n 3, 1) := by decide +kernel
theorem dX11_queries_91 : decode cX11_queries 91 = .ok (.aload_n 0, 1) := by decide +kernel
theorem dX11_queries_92 : decode cX11_queries 92 = .ok (.invokevirtual 107, 3) := by decide +kernel
theorem dX11_queries_95 : decode cX11_queries 95 = .ok (.if_icmp .ge 132, 3) := by decide +kernel
theorem dX11_queries_98 : decode cX11_queries 98 = .ok (.iload_n 2, 1) := by decide +kernel
theorem dX11_queries_99 : decode cX11_queries 99 = .ok (.ifCond .ne 128, 3) := by decide +kernel
theorem dX11_queries_102 : decode cX11_queries 102 = .ok (.iconst 0, 1) := by decide +kernel
theorem dX11_queries_103 : decode cX11_queries 103 = .ok (.istore 4, 2) := by decide +kernel
theorem dX11_queries_105 : decode cX11_queries 105 = .ok (.iload 4, 2) := by decide +kernel
theorem dX11_queries_107 : decode cX11_queries 107 = .ok (.aload_n 0, 1) := by decide +kernel
theorem dX11_queries_108 : decode cX11_queries 108 = .ok (.invokevirtual 107, 3) := by decide +kernel
theorem dX11_queries_111 : decode cX11_queries 111 = .ok (.if_icmp .ge 110, 3) := by decide +kernel
theorem dX11_queries_114 : decode cX11_queries 114 = .ok (.iload_n 2, 1) := by decide +kernel
theorem dX11_queries_115 : decode cX11_queries 115 = .ok (.ifCond .ne 106, 3) := by decide +kernel
theorem dX11_queries_118 : decode cX11_queries 118 = .ok (.iconst 0, 1) := by decide +kernel
theorem dX11_queries_119 : decode cX11_queries 119 = .ok (.istore 5, 2) := by decide +kernel
theorem dX11_queries_121 : decode cX11_queries 121 = .ok (.iload 5, 2) := by decide +kernel
theorem dX11_queries_123 : decode cX11_queries 123 = .ok (.aload_n 0, 1) := by decide +kernel
theorem dX11_queries_124 : decode cX11_queries 124 = .ok (.invokevirtual 118, 3) := by decide +kernel
theorem dX11_queries_127 : decode cX11_queries 127 = .ok (.if_icmp .ge 88, 3) := by decide +kernel
theorem dX11_queries_130 : decode cX11_queries 130 = .ok (.iload_n 2, 1) := by decide +kernel
theorem dX11_queries_131 : decode cX11_queries 131 = .ok (.ifCond .ne 84, 3) := by decide +kernel
theorem dX11_queries_134 : decode cX11_queries 134 = .ok (.iload_n 3, 1) := by decide +kernel
theorem dX11_queries_135 : decode cX11_queries 135 = .ok (.iload_n 1, 1) := by decide +kernel
theorem dX11_queries_136 : decode cX11_queries 136 = .ok (.if_icmp .eq 73, 3) := by decide +kernel
theorem dX11_queries_139 : decode cX11_queries 139 = .ok (.iload 4, 2) := by decide +kernel
theorem dX11_queries_141 : decode cX11_queries 141 = .ok (.iload_n 1, 1) := by decide +kernel
theorem dX11_queries_142 : decode cX11_queries 142 = .ok (.if_icmp .ne 6, 3) := by decide +kernel
theorem dX11_queries_145 : decode cX11_queries 145 = .ok (.goto 64, 3) := by decide +kernel
theorem dX11_queries_148 : decode cX11_queries 148 = .ok (.aload_n 0, 1) := by decide +kernel
theorem dX11_queries_149 : decode cX11_queries 149 = .ok (.iload_n 3, 1) := by decide +kernel
theorem dX11_queries_150 : decode cX11_queries 150 = .ok (.iload 4, 2) := by decide +kernel
theorem dX11_queries_152 : decode cX11_queries 152 = .ok (.iload 5, 2) := by decide +kernel
theorem dX11_queries_154 : decode cX11_queries 154 = .ok (.invokevirtual 378, 3) := by decide +kernel
theorem dX11_queries_157 : decode cX11_queries 157 = .ok (.aload_n 0, 1) := by decide +kernel
theorem dX11_queries_158 : decode cX11_queries 158 = .ok (.invokevirtual 206, 3) := by decide +kernel
theorem dX11_queries_161 : decode cX11_queries 161 = .ok (.aload_n 0, 1) := by decide +kernel
theorem dX11_queries_162 : decode cX11_queries 162 = .ok (.iload_n 1, 1) := by decide +kernel
theorem dX11_queries_163 : decode cX11_queries 163 = .ok (.invokevirtual 430, 3) := by decide +kernel
theorem dX11_queries_166 : decode cX11_queries 166 = .ok (.ifCond .lt 7, 3) := by decide +kernel
theorem dX11_queries_169 : decode cX11_queries 169 = .ok (.iconst 1, 1) := by decide +kernel
theorem dX11_queries_170 : decode cX11_queries 170 = .ok (.goto 4, 3) := by decide +kernel
theorem dX11_queries_173 : decode cX11_queries 173 = .ok (.iconst 0, 1) := by decide +kernel
theorem dX11_queries_174 : decode cX11_queries 174 = .ok (.istore_n 2, 1) := by decide +kernel
theorem dX11_queries_175 : decode cX11_queries 175 = .ok (.iconst 0, 1) := by decide +kernel
theorem dX11_queries_176 : decode cX11_queries 176 = .ok (.istore 6, 2) := by decide +kernel
theorem dX11_queries_178 : decode cX11_queries 178 = .ok (.iload 6, 2) := by decide +kernel
theorem dX11_queries_180 : decode cX11_queries 180 = .ok (.sipush 512, 3) := by decide +kernel
theorem dX11_queries_183 : decode cX11_queries 183 = .ok (.if_icmp .ge 26, 3) := by decide +kernel
theorem dX11_queries_186 : decode cX11_queries 186 = .ok (.aload_n 0, 1) := by decide +kernel
theorem dX11_queries_187 : decode cX11_queries 187 = .ok (.getfield 13, 3) := by decide +kernel
theorem dX11_queries_190 : decode cX11_queries 190 = .ok (.bipush 20, 2) := by decide +kernel
theorem dX11_queries_192 : decode cX11_queries 192 = .ok (.iload 6, 2) := by decide +kernel
theorem dX11_queries_194 : decode cX11_queries 194 = .ok (.iadd, 1) := by decide +kernel
theorem dX11_queries_195 : decode cX11_queries 195 = .ok (.aload_n 0, 1) := by decide +kernel
theorem dX11_queries_196 : decode cX11_queries 196 = .ok (.getfield 68, 3) := by decide +kernel
theorem dX11_queries_199 : decode cX11_queries 199 = .ok (.iload 6, 2) := by decide +kernel
theorem dX11_queries_201 : decode cX11_queries 201 = .ok (.iaload, 1) := by decide +kernel
theorem dX11_queries_202 : decode cX11_queries 202 = .ok (.iastore, 1) := by decide +kernel
theorem dX11_queries_203 : decode cX11_queries 203 = .ok (.iinc 6 1, 3) := by decide +kernel
theorem dX11_queries_206 : decode cX11_queries 206 = .ok (.goto (-28), 3) := by decide +kernel
theorem dX11_queries_209 : decode cX11_queries 209 = .ok (.iinc 5 1, 3) := by decide +kernel
theorem dX11_queries_212 : decode cX11_queries 212 = .ok (.goto (-91), 3) := by decide +kernel
theorem dX11_queries_215 : decode cX11_queries 215 = .ok (.iinc 4 1, 3) := by decide +kernel
theorem dX11_queries_218 : decode cX11_queries 218 = .ok (.goto (-113), 3) := by decide +kernel
theorem dX11_queries_221 : decode cX11_queries 221 = .ok (.iinc 3 1, 3) := by decide +kernel
theorem dX11_queries_224 : decode cX11_queries 224 = .ok (.goto (-134), 3) := by decide +kernel
theorem dX11_queries_227 : decode cX11_queries 227 = .ok (.iload_n 2, 1) := by decide +kernel
theorem dX11_queries_228 : decode cX11_queries 228 = .ok (.ifCond .eq 7, 3) := by decide +kernel
theorem dX11_queries_231 : decode cX11_queries 231 = .ok (.iconst 2, 1) := by decide +kernel
theorem dX11_queries_232 : decode cX11_queries 232 = .ok (.goto 4, 3) := by decide +kernel
theorem dX11_queries_235 : decode cX11_queries 235 = .ok (.iconst (-1), 1) := by decide +kernel
theorem dX11_queries_236 : decode cX11_queries 236 = .ok (.ireturn, 1) := by decide +kernel
theorem dX11_spills_0 : decode cX11_spills 0 = .ok (.aload_n 0, 1) := by decide +kernel
theorem dX11_spills_1 : decode cX11_spills 1 = .ok (.aload_n 0, 1) := by decide +kernel
theorem dX11_spills_2 : decode cX11_spills 2 = .ok (.invokevirtual 121, 3) := by decide +kernel
theorem dX11_spills_5 : decode cX11_spills 5 = .ok (.invokevirtual 340, 3) := by decide +kernel
theorem dX11_spills_8 : decode cX11_spills 8 = .ok (.istore_n 2, 1) := by decide +kernel
theorem dX11_spills_9 : decode cX11_spills 9 = .ok (.aload_n 0, 1) := by decide +kernel
theorem dX11_spills_10 : decode cX11_spills 10 = .ok (.invokevirtual 412, 3) := by decide +kernel
theorem dX11_spills_13 : decode cX11_spills 13 = .ok (.aload_n 0, 1) := by decide +kernel
theorem dX11_spills_14 : decode cX11_spills 14 = .ok (.iload_n 1, 1) := by decide +kernel
theorem dX11_spills_15 : decode cX11_spills 15 = .ok (.invokevirtual 375, 3) := by decide +kernel
theorem dX11_spills_18 : decode cX11_spills 18 = .ok (.aload_n 0, 1) := by decide +kernel
theorem dX11_spills_19 : decode cX11_spills 19 = .ok (.aload_n 0, 1) := by decide +kernel
theorem dX11_spills_20 : decode cX11_spills 20 = .ok (.invokevirtual 121, 3) := by decide +kernel
theorem dX11_spills_23 : decode cX11_spills 23 = .ok (.invokevirtual 340, 3) := by decide +kernel
theorem dX11_spills_26 : decode cX11_spills 26 = .ok (.istore_n 3, 1) := by decide +kernel
theorem dX11_spills_27 : decode cX11_spills 27 = .ok (.aload_n 0, 1) := by decide +kernel
theorem dX11_spills_28 : decode cX11_spills 28 = .ok (.invokevirtual 415, 3) := by decide +kernel
theorem dX11_spills_31 : decode cX11_spills 31 = .ok (.iload_n 3, 1) := by decide +kernel
theorem dX11_spills_32 : decode cX11_spills 32 = .ok (.iload_n 2, 1) := by decide +kernel
theorem dX11_spills_33 : decode cX11_spills 33 = .ok (.iconst (-1), 1) := by decide +kernel
theorem dX11_spills_34 : decode cX11_spills 34 = .ok (.ixor, 1) := by decide +kernel
theorem dX11_spills_35 : decode cX11_spills 35 = .ok (.iand, 1) := by decide +kernel
theorem dX11_spills_36 : decode cX11_spills 36 = .ok (.ireturn, 1) := by decide +kernel
theorem dX11_spill_0 : decode cX11_spill 0 = .ok (.aload_n 0, 1) := by decide +kernel
theorem dX11_spill_1 : decode cX11_spill 1 = .ok (.iconst 0, 1) := by decide +kernel
theorem dX11_spill_2 : decode cX11_spill 2 = .ok (.putfield 3, 3) := by decide +kernel
theorem dX11_spill_5 : decode cX11_spill 5 = .ok (.aload_n 0, 1) := by decide +kernel
theorem dX11_spill_6 : decode cX11_spill 6 = .ok (.aload_n 0, 1) := by decide +kernel
theorem dX11_spill_7 : decode cX11_spill 7 = .ok (.iload_n 1, 1) := by decide +kernel
theorem dX11_spill_8 : decode cX11_spill 8 = .ok (.invokevirtual 359, 3) := by decide +kernel
theorem dX11_spill_11 : decode cX11_spill 11 = .ok (.iconst 1, 1) := by decide +kernel
theorem dX11_spill_12 : decode cX11_spill 12 = .ok (.invokevirtual 322, 3) := by decide +kernel
theorem dX11_spill_15 : decode cX11_spill 15 = .ok (.ifCond .eq 7, 3) := by decide +kernel
theorem dX11_spill_18 : decode cX11_spill 18 = .ok (.iconst 0, 1) := by decide +kernel
theorem dX11_spill_19 : decode cX11_spill 19 = .ok (.goto 8, 3) := by decide +kernel
theorem dX11_spill_22 : decode cX11_spill 22 = .ok (.aload_n 0, 1) := by decide +kernel
theorem dX11_spill_23 : decode cX11_spill 23 = .ok (.iload_n 1, 1) := by decide +kernel
theorem dX11_spill_24 : decode cX11_spill 24 = .ok (.invokevirtual 433, 3) := by decide +kernel
theorem dX11_spill_27 : decode cX11_spill 27 = .ok (.ireturn, 1) := by decide +kernel
theorem dX11_quiet_0 : decode cX11_quiet 0 = .ok (.aload_n 0, 1) := by decide +kernel
theorem dX11_quiet_1 : decode cX11_quiet 1 = .ok (.iconst 0, 1) := by decide +kernel
theorem dX11_quiet_2 : decode cX11_quiet 2 = .ok (.putfield 3, 3) := by decide +kernel
theorem dX11_quiet_5 : decode cX11_quiet 5 = .ok (.iconst 0, 1) := by decide +kernel
theorem dX11_quiet_6 : decode cX11_quiet 6 = .ok (.istore_n 1, 1) := by decide +kernel
theorem dX11_quiet_7 : decode cX11_quiet 7 = .ok (.iconst 0, 1) := by decide +kernel
theorem dX11_quiet_8 : decode cX11_quiet 8 = .ok (.istore_n 2, 1) := by decide +kernel
theorem dX11_quiet_9 : decode cX11_quiet 9 = .ok (.iload_n 2, 1) := by decide +kernel
theorem dX11_quiet_10 : decode cX11_quiet 10 = .ok (.aload_n 0, 1) := by decide +kernel
theorem dX11_quiet_11 : decode cX11_quiet 11 = .ok (.invokevirtual 107, 3) := by decide +kernel
theorem dX11_quiet_14 : decode cX11_quiet 14 = .ok (.if_icmp .ge 27, 3) := by decide +kernel
theorem dX11_quiet_17 : decode cX11_quiet 17 = .ok (.iload_n 1, 1) := by decide +kernel
theorem dX11_quiet_18 : decode cX11_quiet 18 = .ok (.aload_n 0, 1) := by decide +kernel
theorem dX11_quiet_19 : decode cX11_quiet 19 = .ok (.iload_n 2, 1) := by decide +kernel
theorem dX11_quiet_20 : decode cX11_quiet 20 = .ok (.invokevirtual 433, 3) := by decide +kernel
theorem dX11_quiet_23 : decode cX11_quiet 23 = .ok (.ifCond .ne 9, 3) := by decide +kernel
theorem dX11_quiet_26 : decode cX11_quiet 26 = .ok (.iconst 1, 1) := by decide +kernel
theorem dX11_quiet_27 : decode cX11_quiet 27 = .ok (.iload_n 2, 1) := by decide +kernel
theorem dX11_quiet_28 : decode cX11_quiet 28 = .ok (.ishl, 1) := by decide +kernel
theorem dX11_quiet_29 : decode cX11_quiet 29 = .ok (.goto 4, 3) := by decide +kernel
theorem dX11_quiet_32 : decode cX11_quiet 32 = .ok (.iconst 0, 1) := by decide +kernel
theorem dX11_quiet_33 : decode cX11_quiet 33 = .ok (.ior, 1) := by decide +kernel
theorem dX11_quiet_34 : decode cX11_quiet 34 = .ok (.istore_n 1, 1) := by decide +kernel
theorem dX11_quiet_35 : decode cX11_quiet 35 = .ok (.iinc 2 1, 3) := by decide +kernel
theorem dX11_quiet_38 : decode cX11_quiet 38 = .ok (.goto (-29), 3) := by decide +kernel
theorem dX11_quiet_41 : decode cX11_quiet 41 = .ok (.iload_n 1, 1) := by decide +kernel
theorem dX11_quiet_42 : decode cX11_quiet 42 = .ok (.ireturn, 1) := by decide +kernel
theorem dX11_winBy_0 : decode cX11_winBy 0 = .ok (.aload_n 0, 1) := by decide +kernel
theorem dX11_winBy_1 : decode cX11_winBy 1 = .ok (.getfield 74, 3) := by decide +kernel
theorem dX11_winBy_4 : decode cX11_winBy 4 = .ok (.iload_n 1, 1) := by decide +kernel
theorem dX11_winBy_5 : decode cX11_winBy 5 = .ok (.iconst 1, 1) := by decide +kernel
theorem dX11_winBy_6 : decode cX11_winBy 6 = .ok (.iload_n 2, 1) := by decide +kernel
theorem dX11_winBy_7 : decode cX11_winBy 7 = .ok (.ishl, 1) := by decide +kernel
theorem dX11_winBy_8 : decode cX11_winBy 8 = .ok (.ior, 1) := by decide +kernel
theorem dX11_winBy_9 : decode cX11_winBy 9 = .ok (.baload, 1) := by decide +kernel
theorem dX11_winBy_10 : decode cX11_winBy 10 = .ok (.ifCond .eq 7, 3) := by decide +kernel
theorem dX11_winBy_13 : decode cX11_winBy 13 = .ok (.iconst (-1), 1) := by decide +kernel
theorem dX11_winBy_14 : decode cX11_winBy 14 = .ok (.goto 14, 3) := by decide +kernel
theorem dX11_winBy_17 : decode cX11_winBy 17 = .ok (.aload_n 0, 1) := by decide +kernel
theorem dX11_winBy_18 : decode cX11_winBy 18 = .ok (.getfield 77, 3) := by decide +kernel
theorem dX11_winBy_21 : decode cX11_winBy 21 = .ok (.iload_n 1, 1) := by decide +kernel
theorem dX11_winBy_22 : decode cX11_winBy 22 = .ok (.iconst 1, 1) := by decide +kernel
theorem dX11_winBy_23 : decode cX11_winBy 23 = .ok (.iload_n 2, 1) := by decide +kernel
theorem dX11_winBy_24 : decode cX11_winBy 24 = .ok (.ishl, 1) := by decide +kernel
theorem dX11_winBy_25 : decode cX11_winBy 25 = .ok (.ior, 1) := by decide +kernel
theorem dX11_winBy_26 : decode cX11_winBy 26 = .ok (.iaload, 1) := by decide +kernel
theorem dX11_winBy_27 : decode cX11_winBy 27 = .ok (.ineg, 1) := by decide +kernel
theorem dX11_winBy_28 : decode cX11_winBy 28 = .ok (.ireturn, 1) := by decide +kernel
theorem dX11_bestOf_0 : decode cX11_bestOf 0 = .ok (.iconst (-1), 1) := by decide +kernel
theorem dX11_bestOf_1 : decode cX11_bestOf 1 = .ok (.istore_n 3, 1) := by decide +kernel
theorem dX11_bestOf_2 : decode cX11_bestOf 2 = .ok (.iconst 0, 1) := by decide +kernel
theorem dX11_bestOf_3 : decode cX11_bestOf 3 = .ok (.istore 4, 2) := by decide +kernel
theorem dX11_bestOf_5 : decode cX11_bestOf 5 = .ok (.iload 4, 2) := by decide +kernel
theorem dX11_bestOf_7 : decode cX11_bestOf 7 = .ok (.aload_n 0, 1) := by decide +kernel
theorem dX11_bestOf_8 : decode cX11_bestOf 8 = .ok (.invokevirtual 107, 3) := by decide +kernel
theorem dX11_bestOf_11 : decode cX11_bestOf 11 = .ok (.if_icmp .ge 47, 3) := by decide +kernel
theorem dX11_bestOf_14 : decode cX11_bestOf 14 = .ok (.iload 4, 2) := by decide +kernel
theorem dX11_bestOf_16 : decode cX11_bestOf 16 = .ok (.iload_n 1, 1) := by decide +kernel
theorem dX11_bestOf_17 : decode cX11_bestOf 17 = .ok (.if_icmp .eq 35, 3) := by decide +kernel
theorem dX11_bestOf_20 : decode cX11_bestOf 20 = .ok (.iload_n 2, 1) := by decide +kernel
theorem dX11_bestOf_21 : decode cX11_bestOf 21 = .ok (.iload 4, 2) := by decide +kernel
theorem dX11_bestOf_23 : decode cX11_bestOf 23 = .ok (.invokestatic 103, 3) := by decide +kernel
theorem dX11_bestOf_26 : decode cX11_bestOf 26 = .ok (.ifCond .ne 26, 3) := by decide +kernel
theorem dX11_bestOf_29 : decode cX11_bestOf 29 = .ok (.iload_n 3, 1) := by decide +kernel
theorem dX11_bestOf_30 : decode cX11_bestOf 30 = .ok (.ifCond .lt 19, 3) := by decide +kernel
theorem dX11_bestOf_33 : decode cX11_bestOf 33 = .ok (.aload_n 0, 1) := by decide +kernel
theorem dX11_bestOf_34 : decode cX11_bestOf 34 = .ok (.iload_n 2, 1) := by decide +kernel
theorem dX11_bestOf_35 : decode cX11_bestOf 35 = .ok (.iload 4, 2) := by decide +kernel
theorem dX11_bestOf_37 : decode cX11_bestOf 37 = .ok (.invokevirtual 436, 3) := by decide +kernel
theorem dX11_bestOf_40 : decode cX11_bestOf 40 = .ok (.aload_n 0, 1) := by decide +kernel
theorem dX11_bestOf_41 : decode cX11_bestOf 41 = .ok (.iload_n 2, 1) := by decide +kernel
theorem dX11_bestOf_42 : decode cX11_bestOf 42 = .ok (.iload_n 3, 1) := by decide +kernel
theorem dX11_bestOf_43 : decode cX11_bestOf 43 = .ok (.invokevirtual 436, 3) := by decide +kernel
theorem dX11_bestOf_46 : decode cX11_bestOf 46 = .ok (.if_icmp .le 6, 3) := by decide +kernel
theorem dX11_bestOf_49 : decode cX11_bestOf 49 = .ok (.iload 4, 2) := by decide +kernel
theorem dX11_bestOf_51 : decode cX11_bestOf 51 = .ok (.istore_n 3, 1) := by decide +kernel
theorem dX11_bestOf_52 : decode cX11_bestOf 52 = .ok (.iinc 4 1, 3) := by decide +kernel
theorem dX11_bestOf_55 : decode cX11_bestOf 55 = .ok (.goto (-50), 3) := by decide +kernel
theorem dX11_bestOf_58 : decode cX11_bestOf 58 = .ok (.iload_n 3, 1) := by decide +kernel
theorem dX11_bestOf_59 : decode cX11_bestOf 59 = .ok (.ireturn, 1) := by decide +kernel
theorem dX11_game_0 : decode cX11_game 0 = .ok (.aload_n 0, 1) := by decide +kernel
theorem dX11_game_1 : decode cX11_game 1 = .ok (.iconst 0, 1) := by decide +kernel
theorem dX11_game_2 : decode cX11_game 2 = .ok (.putfield 3, 3) := by decide +kernel
theorem dX11_game_5 : decode cX11_game 5 = .ok (.aload_n 0, 1) := by decide +kernel
theorem dX11_game_6 : decode cX11_game 6 = .ok (.aload_n 0, 1) := by decide +kernel
theorem dX11_game_7 : decode cX11_game 7 = .ok (.iload_n 1, 1) := by decide +kernel
theorem dX11_game_8 : decode cX11_game 8 = .ok (.invokevirtual 359, 3) := by decide +kernel
theorem dX11_game_11 : decode cX11_game 11 = .ok (.iconst 1, 1) := by decide +kernel
theorem dX11_game_12 : decode cX11_game 12 = .ok (.invokevirtual 322, 3) := by decide +kernel
theorem dX11_game_15 : decode cX11_game 15 = .ok (.ifCond .eq 5, 3) := by decide +kernel
theorem dX11_game_18 : decode cX11_game 18 = .ok (.iconst 0, 1) := by decide +kernel
theorem dX11_game_19 : decode cX11_game 19 = .ok (.ireturn, 1) := by decide +kernel
theorem dX11_game_20 : decode cX11_game 20 = .ok (.aload_n 0, 1) := by decide +kernel
theorem dX11_game_21 : decode cX11_game 21 = .ok (.iload_n 1, 1) := by decide +kernel
theorem dX11_game_22 : decode cX11_game 22 = .ok (.aload_n 0, 1) := by decide +kernel
theorem dX11_game_23 : decode cX11_game 23 = .ok (.invokevirtual 121, 3) := by decide +kernel
theorem dX11_game_26 : decode cX11_game 26 = .ok (.invokevirtual 146, 3) := by decide +kernel
theorem dX11_game_29 : decode cX11_game 29 = .ok (.ifCond .eq 6, 3) := by decide +kernel
theorem dX11_game_32 : decode cX11_game 32 = .ok (.bipush (-2), 2) := by decide +kernel
theorem dX11_game_34 : decode cX11_game 34 = .ok (.ireturn, 1) := by decide +kernel
theorem dX11_game_35 : decode cX11_game 35 = .ok (.aload_n 0, 1) := by decide +kernel
theorem dX11_game_36 : decode cX11_game 36 = .ok (.invokevirtual 412, 3) := by decide +kernel
theorem dX11_game_39 : decode cX11_game 39 = .ok (.iconst 1, 1) := by decide +kernel
theorem dX11_game_40 : decode cX11_game 40 = .ok (.aload_n 0, 1) := by decide +kernel
theorem dX11_game_41 : decode cX11_game 41 = .ok (.invokevirtual 107, 3) := by decide +kernel
theorem dX11_game_44 : decode cX11_game 44 = .ok (.ishl, 1) := by decide +kernel
theorem dX11_game_45 : decode cX11_game 45 = .ok (.iconst 1, 1) := by decide +kernel
theorem dX11_game_46 : decode cX11_game 46 = .ok (.isub, 1) := by decide +kernel
theorem dX11_game_47 : decode cX11_game 47 = .ok (.istore_n 3, 1) := by decide +kernel
theorem dX11_game_48 : decode cX11_game 48 = .ok (.iload_n 3, 1) := by decide +kernel
theorem dX11_game_49 : decode cX11_game 49 = .ok (.ifCond .lt 74, 3) := by decide +kernel
theorem dX11_game_52 : decode cX11_game 52 = .ok (.iload_n 3, 1) := by decide +kernel
theorem dX11_game_53 : decode cX11_game 53 = .ok (.iload_n 1, 1) := by decide +kernel
theorem dX11_game_54 : decode cX11_game 54 = .ok (.invokestatic 103, 3) := by decide +kernel
theorem dX11_game_57 : decode cX11_game 57 = .ok (.ifCond .eq 6, 3) := by decide +kernel
theorem dX11_game_60 : decode cX11_game 60 = .ok (.goto 57, 3) := by decide +kernel
theorem dX11_game_63 : decode cX11_game 63 = .ok (.aload_n 0, 1) := by decide +kernel
theorem dX11_game_64 : decode cX11_game 64 = .ok (.iload_n 3, 1) := by decide +kernel
theorem dX11_game_65 : decode cX11_game 65 = .ok (.invokevirtual 421, 3) := by decide +kernel
theorem dX11_game_68 : decode cX11_game 68 = .ok (.aload_n 0, 1) := by decide +kernel
theorem dX11_game_69 : decode cX11_game 69 = .ok (.getfield 74, 3) := by decide +kernel
theorem dX11_game_72 : decode cX11_game 72 = .ok (.iload_n 3, 1) := by decide +kernel
theorem dX11_game_73 : decode cX11_game 73 = .ok (.aload_n 0, 1) := by decide +kernel
theorem dX11_game_74 : decode cX11_game 74 = .ok (.iload_n 1, 1) := by decide +kernel
theorem dX11_game_75 : decode cX11_game 75 = .ok (.aload_n 0, 1) := by decide +kernel
theorem dX11_game_76 : decode cX11_game 76 = .ok (.invokevirtual 121, 3) := by decide +kernel
theorem dX11_game_79 : decode cX11_game 79 = .ok (.invokevirtual 146, 3) := by decide +kernel
theorem dX11_game_82 : decode cX11_game 82 = .ok (.bastore, 1) := by decide +kernel
theorem dX11_game_83 : decode cX11_game 83 = .ok (.aload_n 0, 1) := by decide +kernel
theorem dX11_game_84 : decode cX11_game 84 = .ok (.invokevirtual 415, 3) := by decide +kernel
theorem dX11_game_87 : decode cX11_game 87 = .ok (.aload_n 0, 1) := by decide +kernel
theorem dX11_game_88 : decode cX11_game 88 = .ok (.iload_n 1, 1) := by decide +kernel
theorem dX11_game_89 : decode cX11_game 89 = .ok (.iload_n 3, 1) := by decide +kernel
theorem dX11_game_90 : decode cX11_game 90 = .ok (.invokevirtual 439, 3) := by decide +kernel
theorem dX11_game_93 : decode cX11_game 93 = .ok (.istore 4, 2) := by decide +kernel
theorem dX11_game_95 : decode cX11_game 95 = .ok (.aload_n 0, 1) := by decide +kernel
theorem dX11_game_96 : decode cX11_game 96 = .ok (.getfield 77, 3) := by decide +kernel
theorem dX11_game_99 : decode cX11_game 99 = .ok (.iload_n 3, 1) := by decide +kernel
theorem dX11_game_100 : decode cX11_game 100 = .ok (.iload 4, 2) := by decide +kernel
theorem dX11_game_102 : decode cX11_game 102 = .ok (.ifCond .ge 7, 3) := by decide +kernel
theorem dX11_game_105 : decode cX11_game 105 = .ok (.iconst 0, 1) := by decide +kernel
theorem dX11_game_106 : decode cX11_game 106 = .ok (.goto 10, 3) := by decide +kernel
theorem dX11_game_109 : decode cX11_game 109 = .ok (.aload_n 0, 1) := by decide +kernel
theorem dX11_game_110 : decode cX11_game 110 = .ok (.iload_n 3, 1) := by decide +kernel
theorem dX11_game_111 : decode cX11_game 111 = .ok (.iload 4, 2) := by decide +kernel
theorem dX11_game_113 : decode cX11_game 113 = .ok (.invokevirtual 436, 3) := by decide +kernel
theorem dX11_game_116 : decode cX11_game 116 = .ok (.iastore, 1) := by decide +kernel
theorem dX11_game_117 : decode cX11_game 117 = .ok (.iinc 3 (-1), 3) := by decide +kernel
theorem dX11_game_120 : decode cX11_game 120 = .ok (.goto (-72), 3) := by decide +kernel
theorem dX11_game_123 : decode cX11_game 123 = .ok (.iload_n 2, 1) := by decide +kernel
theorem dX11_game_124 : decode cX11_game 124 = .ok (.ifCond .eq 12, 3) := by decide +kernel
theorem dX11_game_127 : decode cX11_game 127 = .ok (.aload_n 0, 1) := by decide +kernel
theorem dX11_game_128 : decode cX11_game 128 = .ok (.iload_n 1, 1) := by decide +kernel
theorem dX11_game_129 : decode cX11_game 129 = .ok (.iconst 0, 1) := by decide +kernel
theorem dX11_game_130 : decode cX11_game 130 = .ok (.invokevirtual 439, 3) := by decide +kernel
theorem dX11_game_133 : decode cX11_game 133 = .ok (.goto 9, 3) := by decide +kernel
theorem dX11_game_136 : decode cX11_game 136 = .ok (.aload_n 0, 1) := by decide +kernel
theorem dX11_game_137 : decode cX11_game 137 = .ok (.getfield 77, 3) := by decide +kernel
theorem dX11_game_140 : decode cX11_game 140 = .ok (.iconst 0, 1) := by decide +kernel
theorem dX11_game_141 : decode cX11_game 141 = .ok (.iaload, 1) := by decide +kernel
theorem dX11_game_142 : decode cX11_game 142 = .ok (.ireturn, 1) := by decide +kernel
theorem dX11_steps_0 : decode cX11_steps 0 = .ok (.aload_n 0, 1) := by decide +kernel
theorem dX11_steps_1 : decode cX11_steps 1 = .ok (.iconst 0, 1) := by decide +kernel
theorem dX11_steps_2 : decode cX11_steps 2 = .ok (.putfield 3, 3) := by decide +kernel
theorem dX11_steps_5 : decode cX11_steps 5 = .ok (.aload_n 0, 1) := by decide +kernel
theorem dX11_steps_6 : decode cX11_steps 6 = .ok (.aload_n 0, 1) := by decide +kernel
theorem dX11_steps_7 : decode cX11_steps 7 = .ok (.iload_n 1, 1) := by decide +kernel
theorem dX11_steps_8 : decode cX11_steps 8 = .ok (.invokevirtual 359, 3) := by decide +kernel
theorem dX11_steps_11 : decode cX11_steps 11 = .ok (.ifCond .ne 11, 3) := by decide +kernel
theorem dX11_steps_14 : decode cX11_steps 14 = .ok (.aload_n 0, 1) := by decide +kernel
theorem dX11_steps_15 : decode cX11_steps 15 = .ok (.iload_n 2, 1) := by decide +kernel
theorem dX11_steps_16 : decode cX11_steps 16 = .ok (.invokevirtual 359, 3) := by decide +kernel
theorem dX11_steps_19 : decode cX11_steps 19 = .ok (.ifCond .eq 7, 3) := by decide +kernel
theorem dX11_steps_22 : decode cX11_steps 22 = .ok (.iconst 1, 1) := by decide +kernel
theorem dX11_steps_23 : decode cX11_steps 23 = .ok (.goto 4, 3) := by decide +kernel
theorem dX11_steps_26 : decode cX11_steps 26 = .ok (.iconst 0, 1) := by decide +kernel
theorem dX11_steps_27 : decode cX11_steps 27 = .ok (.iconst 1, 1) := by decide +kernel
theorem dX11_steps_28 : decode cX11_steps 28 = .ok (.invokevirtual 322, 3) := by decide +kernel
theorem dX11_steps_31 : decode cX11_steps 31 = .ok (.ifCond .eq 5, 3) := by decide +kernel
theorem dX11_steps_34 : decode cX11_steps 34 = .ok (.iconst 0, 1) := by decide +kernel
theorem dX11_steps_35 : decode cX11_steps 35 = .ok (.ireturn, 1) := by decide +kernel
theorem dX11_steps_36 : decode cX11_steps 36 = .ok (.iconst 1, 1) := by decide +kernel
theorem dX11_steps_37 : decode cX11_steps 37 = .ok (.iload_n 1, 1) := by decide +kernel
theorem dX11_steps_38 : decode cX11_steps 38 = .ok (.ishl, 1) := by decide +kernel
theorem dX11_steps_39 : decode cX11_steps 39 = .ok (.istore_n 3, 1) := by decide +kernel
theorem dX11_steps_40 : decode cX11_steps 40 = .ok (.iconst 0, 1) := by decide +kernel
theorem dX11_steps_41 : decode cX11_steps 41 = .ok (.istore 4, 2) := by decide +kernel
theorem dX11_steps_43 : decode cX11_steps 43 = .ok (.iload 4, 2) := by decide +kernel
theorem dX11_steps_45 : decode cX11_steps 45 = .ok (.aload_n 0, 1) := by decide +kernel
theorem dX11_steps_46 : decode cX11_steps 46 = .ok (.invokevirtual 107, 3) := by decide +kernel
theorem dX11_steps_49 : decode cX11_steps 49 = .ok (.if_icmp .ge 72, 3) := by decide +kernel
theorem dX11_steps_52 : decode cX11_steps 52 = .ok (.iload_n 3, 1) := by decide +kernel
theorem dX11_steps_53 : decode cX11_steps 53 = .ok (.iload_n 2, 1) := by decide +kernel
theorem dX11_steps_54 : decode cX11_steps 54 = .ok (.invokestatic 103, 3) := by decide +kernel
theorem dX11_steps_57 : decode cX11_steps 57 = .ok (.ifCond .eq 6, 3) := by decide +kernel
theorem dX11_steps_60 : decode cX11_steps 60 = .ok (.iload 4, 2) := by decide +kernel
theorem dX11_steps_62 : decode cX11_steps 62 = .ok (.ireturn, 1) := by decide +kernel
theorem dX11_steps_63 : decode cX11_steps 63 = .ok (.iload_n 3, 1) := by decide +kernel
theorem dX11_steps_64 : decode cX11_steps 64 = .ok (.istore 5, 2) := by decide +kernel
theorem dX11_steps_66 : decode cX11_steps 66 = .ok (.iconst 0, 1) := by decide +kernel
theorem dX11_steps_67 : decode cX11_steps 67 = .ok (.istore 6, 2) := by decide +kernel
theorem dX11_steps_69 : decode cX11_steps 69 = .ok (.iload 6, 2) := by decide +kernel
theorem dX11_steps_71 : decode cX11_steps 71 = .ok (.aload_n 0, 1) := by decide +kernel
theorem dX11_steps_72 : decode cX11_steps 72 = .ok (.invokevirtual 107, 3) := by decide +kernel
theorem dX11_steps_75 : decode cX11_steps 75 = .ok (.if_icmp .ge 37, 3) := by decide +kernel
theorem dX11_steps_78 : decode cX11_steps 78 = .ok (.iload 5, 2) := by decide +kernel
theorem dX11_steps_80 : decode cX11_steps 80 = .ok (.iload_n 3, 1) := by decide +kernel
theorem dX11_steps_81 : decode cX11_steps 81 = .ok (.iload 6, 2) := by decide +kernel
theorem dX11_steps_83 : decode cX11_steps 83 = .ok (.invokestatic 103, 3) := by decide +kernel
theorem dX11_steps_86 : decode cX11_steps 86 = .ok (.ifCond .eq 16, 3) := by decide +kernel
theorem dX11_steps_89 : decode cX11_steps 89 = .ok (.aload_n 0, 1) := by decide +kernel
theorem dX11_steps_90 : decode cX11_steps 90 = .ok (.getfield 13, 3) := by decide +kernel
theorem dX11_steps_93 : decode cX11_steps 93 = .ok (.bipush 11, 2) := by decide +kernel
theorem dX11_steps_95 : decode cX11_steps 95 = .ok (.iload 6, 2) := by decide +kernel
theorem dX11_steps_97 : decode cX11_steps 97 = .ok (.iadd, 1) := by decide +kernel
theorem dX11_steps_98 : decode cX11_steps 98 = .ok (.iaload, 1) := by decide +kernel
theorem dX11_steps_99 : decode cX11_steps 99 = .ok (.goto 4, 3) := by decide +kernel
theorem dX11_steps_102 : decode cX11_steps 102 = .ok (.iconst 0, 1) := by decide +kernel
theorem dX11_steps_103 : decode cX11_steps 103 = .ok (.ior, 1) := by decide +kernel
theorem dX11_steps_104 : decode cX11_steps 104 = .ok (.istore 5, 2) := by decide +kernel
theorem dX11_steps_106 : decode cX11_steps 106 = .ok (.iinc 6 1, 3) := by decide +kernel
theorem dX11_steps_109 : decode cX11_steps 109 = .ok (.goto (-40), 3) := by decide +kernel
theorem dX11_steps_112 : decode cX11_steps 112 = .ok (.iload 5, 2) := by decide +kernel
theorem dX11_steps_114 : decode cX11_steps 114 = .ok (.istore_n 3, 1) := by decide +kernel
theorem dX11_steps_115 : decode cX11_steps 115 = .ok (.iinc 4 1, 3) := by decide +kernel
theorem dX11_steps_118 : decode cX11_steps 118 = .ok (.goto (-75), 3) := by decide +kernel
theorem dX11_steps_121 : decode cX11_steps 121 = .ok (.iconst (-1), 1) := by decide +kernel
theorem dX11_steps_122 : decode cX11_steps 122 = .ok (.ireturn, 1) := by decide +kernel
theorem dX11_trial_0 : decode cX11_trial 0 = .ok (.aload_n 0, 1) := by decide +kernel
theorem dX11_trial_1 : decode cX11_trial 1 = .ok (.iconst 0, 1) := by decide +kernel
theorem dX11_trial_2 : decode cX11_trial 2 = .ok (.putfield 3, 3) := by decide +kernel
theorem dX11_trial_5 : decode cX11_trial 5 = .ok (.aload_n 0, 1) := by decide +kernel
theorem dX11_trial_6 : decode cX11_trial 6 = .ok (.iload_n 1, 1) := by decide +kernel
theorem dX11_trial_7 : decode cX11_trial 7 = .ok (.iconst 0, 1) := by decide +kernel
theorem dX11_trial_8 : decode cX11_trial 8 = .ok (.bipush 30, 2) := by decide +kernel
theorem dX11_trial_10 : decode cX11_trial 10 = .ok (.invokestatic 111, 3) := by decide +kernel
theorem dX11_trial_13 : decode cX11_trial 13 = .ok (.ifCond .ne 7, 3) := by decide +kernel
theorem dX11_trial_16 : decode cX11_trial 16 = .ok (.iconst 1, 1) := by decide +kernel
theorem dX11_trial_17 : decode cX11_trial 17 = .ok (.goto 4, 3) := by decide +kernel
theorem dX11_trial_20 : decode cX11_trial 20 = .ok (.iconst 0, 1) := by decide +kernel
theorem dX11_trial_21 : decode cX11_trial 21 = .ok (.iconst 1, 1) := by decide +kernel
theorem dX11_trial_22 : decode cX11_trial 22 = .ok (.invokevirtual 322, 3) := by decide +kernel
theorem dX11_trial_25 : decode cX11_trial 25 = .ok (.ifCond .eq 5, 3) := by decide +kernel
theorem dX11_trial_28 : decode cX11_trial 28 = .ok (.iconst 0, 1) := by decide +kernel
theorem dX11_trial_29 : decode cX11_trial 29 = .ok (.ireturn, 1) := by decide +kernel
theorem dX11_trial_30 : decode cX11_trial 30 = .ok (.aload_n 0, 1) := by decide +kernel
theorem dX11_trial_31 : decode cX11_trial 31 = .ok (.invokevirtual 442, 3) := by decide +kernel
theorem dX11_trial_34 : decode cX11_trial 34 = .ok (.aload_n 0, 1) := by decide +kernel
theorem dX11_trial_35 : decode cX11_trial 35 = .ok (.iload_n 1, 1) := by decide +kernel
theorem dX11_trial_36 : decode cX11_trial 36 = .ok (.invokevirtual 386, 3) := by decide +kernel
theorem dX11_trial_39 : decode cX11_trial 39 = .ok (.pop, 1) := by decide +kernel
theorem dX11_trial_40 : decode cX11_trial 40 = .ok (.aload_n 0, 1) := by decide +kernel
theorem dX11_trial_41 : decode cX11_trial 41 = .ok (.aload_n 0, 1) := by decide +kernel
theorem dX11_trial_42 : decode cX11_trial 42 = .ok (.invokevirtual 121, 3) := by decide +kernel
theorem dX11_trial_45 : decode cX11_trial 45 = .ok (.invokevirtual 340, 3) := by decide +kernel
theorem dX11_trial_48 : decode cX11_trial 48 = .ok (.istore_n 2, 1) := by decide +kernel
theorem dX11_trial_49 : decode cX11_trial 49 = .ok (.aload_n 0, 1) := by decide +kernel
theorem dX11_trial_50 : decode cX11_trial 50 = .ok (.invokevirtual 445, 3) := by decide +kernel
theorem dX11_trial_53 : decode cX11_trial 53 = .ok (.iload_n 2, 1) := by decide +kernel
theorem dX11_trial_54 : decode cX11_trial 54 = .ok (.ireturn, 1) := by decide +kernel
theorem dX11_span_0 : decode cX11_span 0 = .ok (.aload_n 0, 1) := by decide +kernel
theorem dX11_span_1 : decode cX11_span 1 = .ok (.iconst 0, 1) := by decide +kernel
theorem dX11_span_2 : decode cX11_span 2 = .ok (.putfield 3, 3) := by decide +kernel
theorem dX11_span_5 : decode cX11_span 5 = .ok (.aload_n 0, 1) := by decide +kernel
theorem dX11_span_6 : decode cX11_span 6 = .ok (.iload_n 1, 1) := by decide +kernel
theorem dX11_span_7 : decode cX11_span 7 = .ok (.iconst 0, 1) := by decide +kernel
theorem dX11_span_8 : decode cX11_span 8 = .ok (.bipush 30, 2) := by decide +kernel
theorem dX11_span_10 : decode cX11_span 10 = .ok (.invokestatic 111, 3) := by decide +kernel
theorem dX11_span_13 : decode cX11_span 13 = .ok (.ifCond .ne 7, 3) := by decide +kernel
theorem dX11_span_16 : decode cX11_span 16 = .ok (.iconst 1, 1) := by decide +kernel
theorem dX11_span_17 : decode cX11_span 17 = .ok (.goto 4, 3) := by decide +kernel
theorem dX11_span_20 : decode cX11_span 20 = .ok (.iconst 0, 1) := by decide +kernel
theorem dX11_span_21 : decode cX11_span 21 = .ok (.iconst 1, 1) := by decide +kernel
theorem dX11_span_22 : decode cX11_span 22 = .ok (.invokevirtual 322, 3) := by decide +kernel
theorem dX11_span_25 : decode cX11_span 25 = .ok (.ifCond .eq 5, 3) := by decide +kernel
theorem dX11_span_28 : decode cX11_span 28 = .ok (.iconst 0, 1) := by decide +kernel
theorem dX11_span_29 : decode cX11_span 29 = .ok (.ireturn, 1) := by decide +kernel
theorem dX11_span_30 : decode cX11_span 30 = .ok (.aload_n 0, 1) := by decide +kernel
theorem dX11_span_31 : decode cX11_span 31 = .ok (.invokevirtual 442, 3) := by decide +kernel
theorem dX11_span_34 : decode cX11_span 34 = .ok (.iconst (-1), 1) := by decide +kernel
theorem dX11_span_35 : decode cX11_span 35 = .ok (.istore_n 3, 1) := by decide +kernel
theorem dX11_span_36 : decode cX11_span 36 = .ok (.iconst 1, 1) := by decide +kernel
theorem dX11_span_37 : decode cX11_span 37 = .ok (.istore 4, 2) := by decide +kernel
theorem dX11_span_39 : decode cX11_span 39 = .ok (.iload 4, 2) := by decide +kernel
theorem dX11_span_41 : decode cX11_span 41 = .ok (.bipush 6, 2) := by decide +kernel
theorem dX11_span_43 : decode cX11_span 43 = .ok (.if_icmp .gt 69, 3) := by decide +kernel
theorem dX11_span_46 : decode cX11_span 46 = .ok (.aload_n 0, 1) := by decide +kernel
theorem dX11_span_47 : decode cX11_span 47 = .ok (.getfield 13, 3) := by decide +kernel
theorem dX11_span_50 : decode cX11_span 50 = .ok (.iconst 5, 1) := by decide +kernel
theorem dX11_span_51 : decode cX11_span 51 = .ok (.iload 4, 2) := by decide +kernel
theorem dX11_span_53 : decode cX11_span 53 = .ok (.iastore, 1) := by decide +kernel
theorem dX11_span_54 : decode cX11_span 54 = .ok (.aload_n 0, 1) := by decide +kernel
theorem dX11_span_55 : decode cX11_span 55 = .ok (.iload_n 1, 1) := by decide +kernel
theorem dX11_span_56 : decode cX11_span 56 = .ok (.invokevirtual 386, 3) := by decide +kernel
theorem dX11_span_59 : decode cX11_span 59 = .ok (.pop, 1) := by decide +kernel
theorem dX11_span_60 : decode cX11_span 60 = .ok (.aload_n 0, 1) := by decide +kernel
theorem dX11_span_61 : decode cX11_span 61 = .ok (.aload_n 0, 1) := by decide +kernel
theorem dX11_span_62 : decode cX11_span 62 = .ok (.invokevirtual 121, 3) := by decide +kernel
theorem dX11_span_65 : decode cX11_span 65 = .ok (.invokevirtual 340, 3) := by decide +kernel
theorem dX11_span_68 : decode cX11_span 68 = .ok (.invokestatic 418, 3) := by decide +kernel
theorem dX11_span_71 : decode cX11_span 71 = .ok (.istore 5, 2) := by decide +kernel
theorem dX11_span_73 : decode cX11_span 73 = .ok (.aload_n 0, 1) := by decide +kernel
theorem dX11_span_74 : decode cX11_span 74 = .ok (.invokevirtual 445, 3) := by decide +kernel
theorem dX11_span_77 : decode cX11_span 77 = .ok (.iload_n 3, 1) := by decide +kernel
theorem dX11_span_78 : decode cX11_span 78 = .ok (.ifCond .ge 8, 3) := by decide +kernel
theorem dX11_span_81 : decode cX11_span 81 = .ok (.iload 5, 2) := by decide +kernel
theorem dX11_span_83 : decode cX11_span 83 = .ok (.goto 22, 3) := by decide +kernel
theorem dX11_span_86 : decode cX11_span 86 = .ok (.iload_n 2, 1) := by decide +kernel
theorem dX11_span_87 : decode cX11_span 87 = .ok (.ifCond .eq 12, 3) := by decide +kernel
theorem dX11_span_90 : decode cX11_span 90 = .ok (.iload_n 3, 1) := by decide +kernel
theorem dX11_span_91 : decode cX11_span 91 = .ok (.iload 5, 2) := by decide +kernel
theorem dX11_span_93 : decode cX11_span 93 = .ok (.invokestatic 448, 3) := by decide +kernel
theorem dX11_span_96 : decode cX11_span 96 = .ok (.goto 9, 3) := by decide +kernel
theorem dX11_span_99 : decode cX11_span 99 = .ok (.iload_n 3, 1) := by decide +kernel
theorem dX11_span_100 : decode cX11_span 100 = .ok (.iload 5, 2) := by decide +kernel
theorem dX11_span_102 : decode cX11_span 102 = .ok (.invokestatic 344, 3) := by decide +kernel
theorem dX11_span_105 : decode cX11_span 105 = .ok (.istore_n 3, 1) := by decide +kernel
theorem dX11_span_106 : decode cX11_span 106 = .ok (.iinc 4 1, 3) := by decide +kernel
theorem dX11_span_109 : decode cX11_span 109 = .ok (.goto (-70), 3) := by decide +kernel
theorem dX11_span_112 : decode cX11_span 112 = .ok (.iload_n 3, 1) := by decide +kernel
theorem dX11_span_113 : decode cX11_span 113 = .ok (.ireturn, 1) := by decide +kernel
theorem dX11_nth_0 : decode cX11_nth 0 = .ok (.aload_n 0, 1) := by decide +kernel
theorem dX11_nth_1 : decode cX11_nth 1 = .ok (.iconst 0, 1) := by decide +kernel
theorem dX11_nth_2 : decode cX11_nth 2 = .ok (.putfield 3, 3) := by decide +kernel
theorem dX11_nth_5 : decode cX11_nth 5 = .ok (.aload_n 0, 1) := by decide +kernel
theorem dX11_nth_6 : decode cX11_nth 6 = .ok (.iload_n 1, 1) := by decide +kernel
theorem dX11_nth_7 : decode cX11_nth 7 = .ok (.iconst (-1), 1) := by decide +kernel
theorem dX11_nth_8 : decode cX11_nth 8 = .ok (.if_icmp .eq 15, 3) := by decide +kernel
theorem dX11_nth_11 : decode cX11_nth 11 = .ok (.aload_n 0, 1) := by decide +kernel
theorem dX11_nth_12 : decode cX11_nth 12 = .ok (.iload_n 1, 1) := by decide +kernel
theorem dX11_nth_13 : decode cX11_nth 13 = .ok (.invokevirtual 359, 3) := by decide +kernel
theorem dX11_nth_16 : decode cX11_nth 16 = .ok (.ifCond .eq 7, 3) := by decide +kernel
theorem dX11_nth_19 : decode cX11_nth 19 = .ok (.iconst 1, 1) := by decide +kernel
theorem dX11_nth_20 : decode cX11_nth 20 = .ok (.goto 4, 3) := by decide +kernel
theorem dX11_nth_23 : decode cX11_nth 23 = .ok (.iconst 0, 1) := by decide +kernel
theorem dX11_nth_24 : decode cX11_nth 24 = .ok (.iconst 1, 1) := by decide +kernel
theorem dX11_nth_25 : decode cX11_nth 25 = .ok (.invokevirtual 322, 3) := by decide +kernel
theorem dX11_nth_28 : decode cX11_nth 28 = .ok (.ifCond .eq 5, 3) := by decide +kernel
theorem dX11_nth_31 : decode cX11_nth 31 = .ok (.iconst 0, 1) := by decide +kernel
theorem dX11_nth_32 : decode cX11_nth 32 = .ok (.ireturn, 1) := by decide +kernel
theorem dX11_nth_33 : decode cX11_nth 33 = .ok (.iload_n 2, 1) := by decide +kernel
theorem dX11_nth_34 : decode cX11_nth 34 = .ok (.istore_n 3, 1) := by decide +kernel
theorem dX11_nth_35 : decode cX11_nth 35 = .ok (.iconst 0, 1) := by decide +kernel
theorem dX11_nth_36 : decode cX11_nth 36 = .ok (.istore 4, 2) := by decide +kernel
theorem dX11_nth_38 : decode cX11_nth 38 = .ok (.iload 4, 2) := by decide +kernel
theorem dX11_nth_40 : decode cX11_nth 40 = .ok (.aload_n 0, 1) := by decide +kernel
theorem dX11_nth_41 : decode cX11_nth 41 = .ok (.invokevirtual 115, 3) := by decide +kernel
theorem dX11_nth_44 : decode cX11_nth 44 = .ok (.if_icmp .ge 59, 3) := by decide +kernel
theorem dX11_nth_47 : decode cX11_nth 47 = .ok (.iload_n 2, 1) := by decide +kernel
theorem dX11_nth_48 : decode cX11_nth 48 = .ok (.ifCond .lt 55, 3) := by decide +kernel
theorem dX11_nth_51 : decode cX11_nth 51 = .ok (.aload_n 0, 1) := by decide +kernel
theorem dX11_nth_52 : decode cX11_nth 52 = .ok (.iload 4, 2) := by decide +kernel
theorem dX11_nth_54 : decode cX11_nth 54 = .ok (.invokevirtual 128, 3) := by decide +kernel
theorem dX11_nth_57 : decode cX11_nth 57 = .ok (.ifCond .eq 40, 3) := by decide +kernel
theorem dX11_nth_60 : decode cX11_nth 60 = .ok (.iload_n 1, 1) := by decide +kernel
theorem dX11_nth_61 : decode cX11_nth 61 = .ok (.iconst (-1), 1) := by decide +kernel
theorem dX11_nth_62 : decode cX11_nth 62 = .ok (.if_icmp .eq 25, 3) := by decide +kernel
theorem dX11_nth_65 : decode cX11_nth 65 = .ok (.aload_n 0, 1) := by decide +kernel
theorem dX11_nth_66 : decode cX11_nth 66 = .ok (.iload_n 1, 1) := by decide +kernel
theorem dX11_nth_67 : decode cX11_nth 67 = .ok (.iload 4, 2) := by decide +kernel
theorem dX11_nth_69 : decode cX11_nth 69 = .ok (.invokevirtual 132, 3) := by decide +kernel
theorem dX11_nth_72 : decode cX11_nth 72 = .ok (.aload_n 0, 1) := by decide +kernel
theorem dX11_nth_73 : decode cX11_nth 73 = .ok (.iload_n 1, 1) := by decide +kernel
theorem dX11_nth_74 : decode cX11_nth 74 = .ok (.aload_n 0, 1) := by decide +kernel
theorem dX11_nth_75 : decode cX11_nth 75 = .ok (.invokevirtual 121, 3) := by decide +kernel
theorem dX11_nth_78 : decode cX11_nth 78 = .ok (.invokevirtual 132, 3) := by decide +kernel
theorem dX11_nth_81 : decode cX11_nth 81 = .ok (.if_icmp .eq 6, 3) := by decide +kernel
theorem dX11_nth_84 : decode cX11_nth 84 = .ok (.goto 13, 3) := by decide +kernel
theorem dX11_nth_87 : decode cX11_nth 87 = .ok (.iload_n 3, 1) := by decide +kernel
theorem dX11_nth_88 : decode cX11_nth 88 = .ok (.ifCond .ne 6, 3) := by decide +kernel
theorem dX11_nth_91 : decode cX11_nth 91 = .ok (.iload 4, 2) := by decide +kernel
theorem dX11_nth_93 : decode cX11_nth 93 = .ok (.ireturn, 1) := by decide +kernel
theorem dX11_nth_94 : decode cX11_nth 94 = .ok (.iinc 3 (-1), 3) := by decide +kernel
theorem dX11_nth_97 : decode cX11_nth 97 = .ok (.iinc 4 1, 3) := by decide +kernel
theorem dX11_nth_100 : decode cX11_nth 100 = .ok (.goto (-62), 3) := by decide +kernel
theorem dX11_nth_103 : decode cX11_nth 103 = .ok (.iconst (-1), 1) := by decide +kernel
theorem dX11_nth_104 : decode cX11_nth 104 = .ok (.ireturn, 1) := by decide +kernel
theorem dX11_laysVotes_0 : decode cX11_laysVotes 0 = .ok (.iconst 0, 1) := by decide +kernel
theorem dX11_laysVotes_1 : decode cX11_laysVotes 1 = .ok (.istore_n 2, 1) := by decide +kernel
theorem dX11_laysVotes_2 : decode cX11_laysVotes 2 = .ok (.iload_n 2, 1) := by decide +kernel
theorem dX11_laysVotes_3 : decode cX11_laysVotes 3 = .ok (.aload_n 0, 1) := by decide +kernel
theorem dX11_laysVotes_4 : decode cX11_laysVotes 4 = .ok (.getfield 80, 3) := by decide +kernel
theorem dX11_laysVotes_7 : decode cX11_laysVotes 7 = .ok (.arraylength, 1) := by decide +kernel
theorem dX11_laysVotes_8 : decode cX11_laysVotes 8 = .ok (.if_icmp .ge 16, 3) := by decide +kernel
theorem dX11_laysVotes_11 : decode cX11_laysVotes 11 = .ok (.aload_n 0, 1) := by decide +kernel
theorem dX11_laysVotes_12 : decode cX11_laysVotes 12 = .ok (.getfield 80, 3) := by decide +kernel
theorem dX11_laysVotes_15 : decode cX11_laysVotes 15 = .ok (.iload_n 2, 1) := by decide +kernel
theorem dX11_laysVotes_16 : decode cX11_laysVotes 16 = .ok (.iconst 0, 1) := by decide +kernel
theorem dX11_laysVotes_17 : decode cX11_laysVotes 17 = .ok (.iastore, 1) := by decide +kernel
theorem dX11_laysVotes_18 : decode cX11_laysVotes 18 = .ok (.iinc 2 1, 3) := by decide +kernel
theorem dX11_laysVotes_21 : decode cX11_laysVotes 21 = .ok (.goto (-19), 3) := by decide +kernel
theorem dX11_laysVotes_24 : decode cX11_laysVotes 24 = .ok (.iconst 0, 1) := by decide +kernel
theorem dX11_laysVotes_25 : decode cX11_laysVotes 25 = .ok (.istore_n 2, 1) := by decide +kernel
theorem dX11_laysVotes_26 : decode cX11_laysVotes 26 = .ok (.iload_n 2, 1) := by decide +kernel
theorem dX11_laysVotes_27 : decode cX11_laysVotes 27 = .ok (.aload_n 0, 1) := by decide +kernel
theorem dX11_laysVotes_28 : decode cX11_laysVotes 28 = .ok (.invokevirtual 115, 3) := by decide +kernel
theorem dX11_laysVotes_31 : decode cX11_laysVotes 31 = .ok (.if_icmp .ge 41, 3) := by decide +kernel
theorem dX11_laysVotes_34 : decode cX11_laysVotes 34 = .ok (.aload_n 0, 1) := by decide +kernel
theorem dX11_laysVotes_35 : decode cX11_laysVotes 35 = .ok (.iload_n 2, 1) := by decide +kernel
theorem dX11_laysVotes_36 : decode cX11_laysVotes 36 = .ok (.invokevirtual 128, 3) := by decide +kernel
theorem dX11_laysVotes_39 : decode cX11_laysVotes 39 = .ok (.ifCond .eq 27, 3) := by decide +kernel
theorem dX11_laysVotes_42 : decode cX11_laysVotes 42 = .ok (.aload_n 0, 1) := by decide +kernel
theorem dX11_laysVotes_43 : decode cX11_laysVotes 43 = .ok (.getfield 80, 3) := by decide +kernel
theorem dX11_laysVotes_46 : decode cX11_laysVotes 46 = .ok (.iconst 4, 1) := by decide +kernel
theorem dX11_laysVotes_47 : decode cX11_laysVotes 47 = .ok (.aload_n 0, 1) := by decide +kernel
theorem dX11_laysVotes_48 : decode cX11_laysVotes 48 = .ok (.iload_n 1, 1) := by decide +kernel
theorem dX11_laysVotes_49 : decode cX11_laysVotes 49 = .ok (.iload_n 2, 1) := by decide +kernel
theorem dX11_laysVotes_50 : decode cX11_laysVotes 50 = .ok (.invokevirtual 132, 3) := by decide +kernel
theorem dX11_laysVotes_53 : decode cX11_laysVotes 53 = .ok (.imul, 1) := by decide +kernel
theorem dX11_laysVotes_54 : decode cX11_laysVotes 54 = .ok (.aload_n 0, 1) := by decide +kernel
theorem dX11_laysVotes_55 : decode cX11_laysVotes 55 = .ok (.iload_n 1, 1) := by decide +kernel
theorem dX11_laysVotes_56 : decode cX11_laysVotes 56 = .ok (.iload_n 2, 1) := by decide +kernel
theorem dX11_laysVotes_57 : decode cX11_laysVotes 57 = .ok (.invokevirtual 124, 3) := by decide +kernel
theorem dX11_laysVotes_60 : decode cX11_laysVotes 60 = .ok (.iadd, 1) := by decide +kernel
theorem dX11_laysVotes_61 : decode cX11_laysVotes 61 = .ok (.dup2, 1) := by decide +kernel
theorem dX11_laysVotes_62 : decode cX11_laysVotes 62 = .ok (.iaload, 1) := by decide +kernel
theorem dX11_laysVotes_63 : decode cX11_laysVotes 63 = .ok (.iconst 1, 1) := by decide +kernel
theorem dX11_laysVotes_64 : decode cX11_laysVotes 64 = .ok (.iadd, 1) := by decide +kernel
theorem dX11_laysVotes_65 : decode cX11_laysVotes 65 = .ok (.iastore, 1) := by decide +kernel
theorem dX11_laysVotes_66 : decode cX11_laysVotes 66 = .ok (.iinc 2 1, 3) := by decide +kernel
theorem dX11_laysVotes_69 : decode cX11_laysVotes 69 = .ok (.goto (-43), 3) := by decide +kernel
theorem dX11_laysVotes_72 : decode cX11_laysVotes 72 = .ok (.return_, 1) := by decide +kernel
theorem dX11_guessOf_0 : decode cX11_guessOf 0 = .ok (.iconst 4, 1) := by decide +kernel
theorem dX11_guessOf_1 : decode cX11_guessOf 1 = .ok (.aload_n 0, 1) := by decide +kernel
theorem dX11_guessOf_2 : decode cX11_guessOf 2 = .ok (.iload_n 1, 1) := by decide +kernel
theorem dX11_guessOf_3 : decode cX11_guessOf 3 = .ok (.iload_n 2, 1) := by decide +kernel
theorem dX11_guessOf_4 : decode cX11_guessOf 4 = .ok (.invokevirtual 132, 3) := by decide +kernel
theorem dX11_guessOf_7 : decode cX11_guessOf 7 = .ok (.imul, 1) := by decide +kernel
theorem dX11_guessOf_8 : decode cX11_guessOf 8 = .ok (.istore_n 3, 1) := by decide +kernel
theorem dX11_guessOf_9 : decode cX11_guessOf 9 = .ok (.iconst 0, 1) := by decide +kernel
theorem dX11_guessOf_10 : decode cX11_guessOf 10 = .ok (.istore 4, 2) := by decide +kernel
theorem dX11_guessOf_12 : decode cX11_guessOf 12 = .ok (.iconst 1, 1) := by decide +kernel
theorem dX11_guessOf_13 : decode cX11_guessOf 13 = .ok (.istore 5, 2) := by decide +kernel
theorem dX11_guessOf_15 : decode cX11_guessOf 15 = .ok (.iload 5, 2) := by decide +kernel
theorem dX11_guessOf_17 : decode cX11_guessOf 17 = .ok (.aload_n 0, 1) := by decide +kernel
theorem dX11_guessOf_18 : decode cX11_guessOf 18 = .ok (.invokevirtual 118, 3) := by decide +kernel
theorem dX11_guessOf_21 : decode cX11_guessOf 21 = .ok (.if_icmp .ge 39, 3) := by decide +kernel
theorem dX11_guessOf_24 : decode cX11_guessOf 24 = .ok (.aload_n 0, 1) := by decide +kernel
theorem dX11_guessOf_25 : decode cX11_guessOf 25 = .ok (.getfield 80, 3) := by decide +kernel
theorem dX11_guessOf_28 : decode cX11_guessOf 28 = .ok (.iload_n 3, 1) := by decide +kernel
theorem dX11_guessOf_29 : decode cX11_guessOf 29 = .ok (.iload 5, 2) := by decide +kernel
theorem dX11_guessOf_31 : decode cX11_guessOf 31 = .ok (.iadd, 1) := by decide +kernel
theorem dX11_guessOf_32 : decode cX11_guessOf 32 = .ok (.iaload, 1) := by decide +kernel
theorem dX11_guessOf_33 : decode cX11_guessOf 33 = .ok (.aload_n 0, 1) := by decide +kernel
theorem dX11_guessOf_34 : decode cX11_guessOf 34 = .ok (.getfield 80, 3) := by decide +kernel
theorem dX11_guessOf_37 : decode cX11_guessOf 37 = .ok (.iload_n 3, 1) := by decide +kernel
theorem dX11_guessOf_38 : decode cX11_guessOf 38 = .ok (.iload 4, 2) := by decide +kernel
theorem dX11_guessOf_40 : decode cX11_guessOf 40 = .ok (.iadd, 1) := by decide +kernel
theorem dX11_guessOf_41 : decode cX11_guessOf 41 = .ok (.iaload, 1) := by decide +kernel
theorem dX11_guessOf_42 : decode cX11_guessOf 42 = .ok (.if_icmp .le 8, 3) := by decide +kernel
theorem dX11_guessOf_45 : decode cX11_guessOf 45 = .ok (.iload 5, 2) := by decide +kernel
theorem dX11_guessOf_47 : decode cX11_guessOf 47 = .ok (.goto 5, 3) := by decide +kernel
theorem dX11_guessOf_50 : decode cX11_guessOf 50 = .ok (.iload 4, 2) := by decide +kernel
theorem dX11_guessOf_52 : decode cX11_guessOf 52 = .ok (.istore 4, 2) := by decide +kernel
theorem dX11_guessOf_54 : decode cX11_guessOf 54 = .ok (.iinc 5 1, 3) := by decide +kernel
theorem dX11_guessOf_57 : decode cX11_guessOf 57 = .ok (.goto (-42), 3) := by decide +kernel
theorem dX11_guessOf_60 : decode cX11_guessOf 60 = .ok (.iload 4, 2) := by decide +kernel
theorem dX11_guessOf_62 : decode cX11_guessOf 62 = .ok (.ireturn, 1) := by decide +kernel
theorem dX11_guess_0 : decode cX11_guess 0 = .ok (.aload_n 0, 1) := by decide +kernel
theorem dX11_guess_1 : decode cX11_guess 1 = .ok (.iconst 0, 1) := by decide +kernel
theorem dX11_guess_2 : decode cX11_guess 2 = .ok (.putfield 3, 3) := by decide +kernel
theorem dX11_guess_5 : decode cX11_guess 5 = .ok (.aload_n 0, 1) := by decide +kernel
theorem dX11_guess_6 : decode cX11_guess 6 = .ok (.aload_n 0, 1) := by decide +kernel
theorem dX11_guess_7 : decode cX11_guess 7 = .ok (.iload_n 1, 1) := by decide +kernel
theorem dX11_guess_8 : decode cX11_guess 8 = .ok (.invokevirtual 359, 3) := by decide +kernel
theorem dX11_guess_11 : decode cX11_guess 11 = .ok (.iconst 1, 1) := by decide +kernel
theorem dX11_guess_12 : decode cX11_guess 12 = .ok (.invokevirtual 322, 3) := by decide +kernel
theorem dX11_guess_15 : decode cX11_guess 15 = .ok (.ifCond .eq 5, 3) := by decide +kernel
theorem dX11_guess_18 : decode cX11_guess 18 = .ok (.iconst 0, 1) := by decide +kernel
theorem dX11_guess_19 : decode cX11_guess 19 = .ok (.ireturn, 1) := by decide +kernel
theorem dX11_guess_20 : decode cX11_guess 20 = .ok (.aload_n 0, 1) := by decide +kernel
theorem dX11_guess_21 : decode cX11_guess 21 = .ok (.iload_n 1, 1) := by decide +kernel
theorem dX11_guess_22 : decode cX11_guess 22 = .ok (.invokevirtual 451, 3) := by decide +kernel
theorem dX11_guess_25 : decode cX11_guess 25 = .ok (.aload_n 0, 1) := by decide +kernel
theorem dX11_guess_26 : decode cX11_guess 26 = .ok (.iload_n 1, 1) := by decide +kernel
theorem dX11_guess_27 : decode cX11_guess 27 = .ok (.aload_n 0, 1) := by decide +kernel
theorem dX11_guess_28 : decode cX11_guess 28 = .ok (.invokevirtual 121, 3) := by decide +kernel
theorem dX11_guess_31 : decode cX11_guess 31 = .ok (.invokevirtual 454, 3) := by decide +kernel
theorem dX11_guess_34 : decode cX11_guess 34 = .ok (.ireturn, 1) := by decide +kernel
theorem dX11_right_0 : decode cX11_right 0 = .ok (.aload_n 0, 1) := by decide +kernel
theorem dX11_right_1 : decode cX11_right 1 = .ok (.iconst 0, 1) := by decide +kernel
theorem dX11_right_2 : decode cX11_right 2 = .ok (.putfield 3, 3) := by decide +kernel
theorem dX11_right_5 : decode cX11_right 5 = .ok (.aload_n 0, 1) := by decide +kernel
theorem dX11_right_6 : decode cX11_right 6 = .ok (.iload_n 1, 1) := by decide +kernel
theorem dX11_right_7 : decode cX11_right 7 = .ok (.iconst (-1), 1) := by decide +kernel
theorem dX11_right_8 : decode cX11_right 8 = .ok (.if_icmp .eq 15, 3) := by decide +kernel
theorem dX11_right_11 : decode cX11_right 11 = .ok (.aload_n 0, 1) := by decide +kernel
theorem dX11_right_12 : decode cX11_right 12 = .ok (.iload_n 1, 1) := by decide +kernel
theorem dX11_right_13 : decode cX11_right 13 = .ok (.invokevirtual 359, 3) := by decide +kernel
theorem dX11_right_16 : decode cX11_right 16 = .ok (.ifCond .eq 7, 3) := by decide +kernel
theorem dX11_right_19 : decode cX11_right 19 = .ok (.iconst 1, 1) := by decide +kernel
theorem dX11_right_20 : decode cX11_right 20 = .ok (.goto 4, 3) := by decide +kernel
theorem dX11_right_23 : decode cX11_right 23 = .ok (.iconst 0, 1) := by decide +kernel
theorem dX11_right_24 : decode cX11_right 24 = .ok (.iconst 1, 1) := by decide +kernel
theorem dX11_right_25 : decode cX11_right 25 = .ok (.invokevirtual 322, 3) := by decide +kernel
theorem dX11_right_28 : decode cX11_right 28 = .ok (.ifCond .eq 5, 3) := by decide +kernel
theorem dX11_right_31 : decode cX11_right 31 = .ok (.iconst 0, 1) := by decide +kernel
theorem dX11_right_32 : decode cX11_right 32 = .ok (.ireturn, 1) := by decide +kernel
theorem dX11_right_33 : decode cX11_right 33 = .ok (.iconst 0, 1) := by decide +kernel
theorem dX11_right_34 : decode cX11_right 34 = .ok (.istore_n 2, 1) := by decide +kernel
theorem dX11_right_35 : decode cX11_right 35 = .ok (.iload_n 2, 1) := by decide +kernel
theorem dX11_right_36 : decode cX11_right 36 = .ok (.aload_n 0, 1) := by decide +kernel
theorem dX11_right_37 : decode cX11_right 37 = .ok (.invokevirtual 115, 3) := by decide +kernel
theorem dX11_right_40 : decode cX11_right 40 = .ok (.if_icmp .ge 20, 3) := by decide +kernel
theorem dX11_right_43 : decode cX11_right 43 = .ok (.aload_n 0, 1) := by decide +kernel
theorem dX11_right_44 : decode cX11_right 44 = .ok (.getfield 58, 3) := by decide +kernel
theorem dX11_right_47 : decode cX11_right 47 = .ok (.iload_n 2, 1) := by decide +kernel
theorem dX11_right_48 : decode cX11_right 48 = .ok (.aload_n 0, 1) := by decide +kernel
theorem dX11_right_49 : decode cX11_right 49 = .ok (.iload_n 2, 1) := by decide +kernel
theorem dX11_right_50 : decode cX11_right 50 = .ok (.invokevirtual 128, 3) := by decide +kernel
theorem dX11_right_53 : decode cX11_right 53 = .ok (.bastore, 1) := by decide +kernel
theorem dX11_right_54 : decode cX11_right 54 = .ok (.iinc 2 1, 3) := by decide +kernel
theorem dX11_right_57 : decode cX11_right 57 = .ok (.goto (-22), 3) := by decide +kernel
theorem dX11_right_60 : decode cX11_right 60 = .ok (.iconst 0, 1) := by decide +kernel
theorem dX11_right_61 : decode cX11_right 61 = .ok (.istore_n 2, 1) := by decide +kernel
theorem dX11_right_62 : decode cX11_right 62 = .ok (.iload_n 2, 1) := by decide +kernel
theorem dX11_right_63 : decode cX11_right 63 = .ok (.aload_n 0, 1) := by decide +kernel
theorem dX11_right_64 : decode cX11_right 64 = .ok (.invokevirtual 107, 3) := by decide +kernel
theorem dX11_right_67 : decode cX11_right 67 = .ok (.if_icmp .ge 78, 3) := by decide +kernel
theorem dX11_right_70 : decode cX11_right 70 = .ok (.iload_n 1, 1) := by decide +kernel
theorem dX11_right_71 : decode cX11_right 71 = .ok (.iconst (-1), 1) := by decide +kernel
theorem dX11_right_72 : decode cX11_right 72 = .ok (.if_icmp .eq 11, 3) := by decide +kernel
theorem dX11_right_75 : decode cX11_right 75 = .ok (.iload_n 2, 1) := by decide +kernel
theorem dX11_right_76 : decode cX11_right 76 = .ok (.iload_n 1, 1) := by decide +kernel
theorem dX11_right_77 : decode cX11_right 77 = .ok (.if_icmp .eq 6, 3) := by decide +kernel
theorem dX11_right_80 : decode cX11_right 80 = .ok (.goto 59, 3) := by decide +kernel
theorem dX11_right_83 : decode cX11_right 83 = .ok (.aload_n 0, 1) := by decide +kernel
theorem dX11_right_84 : decode cX11_right 84 = .ok (.iload_n 2, 1) := by decide +kernel
theorem dX11_right_85 : decode cX11_right 85 = .ok (.invokevirtual 451, 3) := by decide +kernel
theorem dX11_right_88 : decode cX11_right 88 = .ok (.iconst 0, 1) := by decide +kernel
theorem dX11_right_89 : decode cX11_right 89 = .ok (.istore_n 3, 1) := by decide +kernel
theorem dX11_right_90 : decode cX11_right 90 = .ok (.iload_n 3, 1) := by decide +kernel
theorem dX11_right_91 : decode cX11_right 91 = .ok (.aload_n 0, 1) := by decide +kernel
theorem dX11_right_92 : decode cX11_right 92 = .ok (.invokevirtual 115, 3) := by decide +kernel
theorem dX11_right_95 : decode cX11_right 95 = .ok (.if_icmp .ge 44, 3) := by decide +kernel
theorem dX11_right_98 : decode cX11_right 98 = .ok (.aload_n 0, 1) := by decide +kernel
theorem dX11_right_99 : decode cX11_right 99 = .ok (.getfield 58, 3) := by decide +kernel
theorem dX11_right_102 : decode cX11_right 102 = .ok (.iload_n 3, 1) := by decide +kernel
theorem dX11_right_103 : decode cX11_right 103 = .ok (.aload_n 0, 1) := by decide +kernel
theorem dX11_right_104 : decode cX11_right 104 = .ok (.getfield 58, 3) := by decide +kernel
theorem dX11_right_107 : decode cX11_right 107 = .ok (.iload_n 3, 1) := by decide +kernel
theorem dX11_right_108 : decode cX11_right 108 = .ok (.baload, 1) := by decide +kernel
theorem dX11_right_109 : decode cX11_right 109 = .ok (.ifCond .eq 22, 3) := by decide +kernel
theorem dX11_right_112 : decode cX11_right 112 = .ok (.aload_n 0, 1) := by decide +kernel
theorem dX11_right_113 : decode cX11_right 113 = .ok (.iload_n 2, 1) := by decide +kernel
theorem dX11_right_114 : decode cX11_right 114 = .ok (.iload_n 3, 1) := by decide +kernel
theorem dX11_right_115 : decode cX11_right 115 = .ok (.invokevirtual 454, 3) := by decide +kernel
theorem dX11_right_118 : decode cX11_right 118 = .ok (.aload_n 0, 1) := by decide +kernel
theorem dX11_right_119 : decode cX11_right 119 = .ok (.iload_n 2, 1) := by decide +kernel
theorem dX11_right_120 : decode cX11_right 120 = .ok (.iload_n 3, 1) := by decide +kernel
theorem dX11_right_121 : decode cX11_right 121 = .ok (.invokevirtual 124, 3) := by decide +kernel
theorem dX11_right_124 : decode cX11_right 124 = .ok (.if_icmp .ne 7, 3) := by decide +kernel
theorem dX11_right_127 : decode cX11_right 127 = .ok (.iconst 1, 1) := by decide +kernel
theorem dX11_right_128 : decode cX11_right 128 = .ok (.goto 4, 3) := by decide +kernel
theorem dX11_right_131 : decode cX11_right 131 = .ok (.iconst 0, 1) := by decide +kernel
theorem dX11_right_132 : decode cX11_right 132 = .ok (.bastore, 1) := by decide +kernel
theorem dX11_right_133 : decode cX11_right 133 = .ok (.iinc 3 1, 3) := by decide +kernel
theorem dX11_right_136 : decode cX11_right 136 = .ok (.goto (-46), 3) := by decide +kernel
theorem dX11_right_139 : decode cX11_right 139 = .ok (.iinc 2 1, 3) := by decide +kernel
theorem dX11_right_142 : decode cX11_right 142 = .ok (.goto (-80), 3) := by decide +kernel
theorem dX11_right_145 : decode cX11_right 145 = .ok (.iconst 0, 1) := by decide +kernel
theorem dX11_right_146 : decode cX11_right 146 = .ok (.istore_n 2, 1) := by decide +kernel
theorem dX11_right_147 : decode cX11_right 147 = .ok (.iconst 0, 1) := by decide +kernel
theorem dX11_right_148 : decode cX11_right 148 = .ok (.istore_n 3, 1) := by decide +kernel
theorem dX11_right_149 : decode cX11_right 149 = .ok (.iload_n 3, 1) := by decide +kernel
theorem dX11_right_150 : decode cX11_right 150 = .ok (.aload_n 0, 1) := by decide +kernel
theorem dX11_right_151 : decode cX11_right 151 = .ok (.invokevirtual 115, 3) := by decide +kernel
theorem dX11_right_154 : decode cX11_right 154 = .ok (.if_icmp .ge 26, 3) := by decide +kernel
theorem dX11_right_157 : decode cX11_right 157 = .ok (.iload_n 2, 1) := by decide +kernel
theorem dX11_right_158 : decode cX11_right 158 = .ok (.aload_n 0, 1) := by decide +kernel
theorem dX11_right_159 : decode cX11_right 159 = .ok (.getfield 58, 3) := by decide +kernel
theorem dX11_right_162 : decode cX11_right 162 = .ok (.iload_n 3, 1) := by decide +kernel
theorem dX11_right_163 : decode cX11_right 163 = .ok (.baload, 1) := by decide +kernel
theorem dX11_right_164 : decode cX11_right 164 = .ok (.ifCond .eq 7, 3) := by decide +kernel
theorem dX11_right_167 : decode cX11_right 167 = .ok (.iconst 1, 1) := by decide +kernel
theorem dX11_right_168 : decode cX11_right 168 = .ok (.goto 4, 3) := by decide +kernel
theorem dX11_right_171 : decode cX11_right 171 = .ok (.iconst 0, 1) := by decide +kernel
theorem dX11_right_172 : decode cX11_right 172 = .ok (.iadd, 1) := by decide +kernel
theorem dX11_right_173 : decode cX11_right 173 = .ok (.istore_n 2, 1) := by decide +kernel
theorem dX11_right_174 : decode cX11_right 174 = .ok (.iinc 3 1, 3) := by decide +kernel
theorem dX11_right_177 : decode cX11_right 177 = .ok (.goto (-28), 3) := by decide +kernel
theorem dX11_right_180 : decode cX11_right 180 = .ok (.iload_n 2, 1) := by decide +kernel
theorem dX11_right_181 : decode cX11_right 181 = .ok (.ireturn, 1) := by decide +kernel
theorem dX11_readThrees_0 : decode cX11_readThrees 0 = .ok (.aload_n 0, 1) := by decide +kernel
theorem dX11_readThrees_1 : decode cX11_readThrees 1 = .ok (.invokevirtual 311, 3) := by decide +kernel
theorem dX11_readThrees_4 : decode cX11_readThrees 4 = .ok (.aload_n 0, 1) := by decide +kernel
theorem dX11_readThrees_5 : decode cX11_readThrees 5 = .ok (.getfield 162, 3) := by decide +kernel
theorem dX11_readThrees_8 : decode cX11_readThrees 8 = .ok (.iconst 3, 1) := by decide +kernel
theorem dX11_readThrees_9 : decode cX11_readThrees 9 = .ok (.irem, 1) := by decide +kernel
theorem dX11_readThrees_10 : decode cX11_readThrees 10 = .ok (.ifCond .ne 7, 3) := by decide +kernel
theorem dX11_readThrees_13 : decode cX11_readThrees 13 = .ok (.iconst 1, 1) := by decide +kernel
theorem dX11_readThrees_14 : decode cX11_readThrees 14 = .ok (.goto 4, 3) := by decide +kernel
theorem dX11_readThrees_17 : decode cX11_readThrees 17 = .ok (.iconst 0, 1) := by decide +kernel
theorem dX11_readThrees_18 : decode cX11_readThrees 18 = .ok (.istore_n 3, 1) := by decide +kernel
theorem dX11_readThrees_19 : decode cX11_readThrees 19 = .ok (.iconst 0, 1) := by decide +kernel
theorem dX11_readThrees_20 : decode cX11_readThrees 20 = .ok (.istore 4, 2) := by decide +kernel
theorem dX11_readThrees_22 : decode cX11_readThrees 22 = .ok (.iload 4, 2) := by decide +kernel
theorem dX11_readThrees_24 : decode cX11_readThrees 24 = .ok (.iconst 2, 1) := by decide +kernel
theorem dX11_readThrees_25 : decode cX11_readThrees 25 = .ok (.iadd, 1) := by decide +kernel
theorem dX11_readThrees_26 : decode cX11_readThrees 26 = .ok (.aload_n 0, 1) := by decide +kernel
theorem dX11_readThrees_27 : decode cX11_readThrees 27 = .ok (.getfield 162, 3) := by decide +kernel
theorem dX11_readThrees_30 : decode cX11_readThrees 30 = .ok (.if_icmp .ge 95, 3) := by decide +kernel
theorem dX11_readThrees_33 : decode cX11_readThrees 33 = .ok (.iload_n 3, 1) := by decide +kernel
theorem dX11_readThrees_34 : decode cX11_readThrees 34 = .ok (.ifCond .eq 91, 3) := by decide +kernel
theorem dX11_readThrees_37 : decode cX11_readThrees 37 = .ok (.aload_n 0, 1) := by decide +kernel
theorem dX11_readThrees_38 : decode cX11_readThrees 38 = .ok (.aload_n 0, 1) := by decide +kernel
theorem dX11_readThrees_39 : decode cX11_readThrees 39 = .ok (.getfield 39, 3) := by decide +kernel
theorem dX11_readThrees_42 : decode cX11_readThrees 42 = .ok (.iload 4, 2) := by decide +kernel
theorem dX11_readThrees_44 : decode cX11_readThrees 44 = .ok (.baload, 1) := by decide +kernel
theorem dX11_readThrees_45 : decode cX11_readThrees 45 = .ok (.bipush 97, 2) := by decide +kernel
theorem dX11_readThrees_47 : decode cX11_readThrees 47 = .ok (.isub, 1) := by decide +kernel
theorem dX11_readThrees_48 : decode cX11_readThrees 48 = .ok (.invokevirtual 359, 3) := by decide +kernel
theorem dX11_readThrees_51 : decode cX11_readThrees 51 = .ok (.ifCond .ne 66, 3) := by decide +kernel
theorem dX11_readThrees_54 : decode cX11_readThrees 54 = .ok (.aload_n 0, 1) := by decide +kernel
theorem dX11_readThrees_55 : decode cX11_readThrees 55 = .ok (.aload_n 0, 1) := by decide +kernel
theorem dX11_readThrees_56 : decode cX11_readThrees 56 = .ok (.getfield 39, 3) := by decide +kernel
theorem dX11_readThrees_59 : decode cX11_readThrees 59 = .ok (.iload 4, 2) := by decide +kernel
theorem dX11_readThrees_61 : decode cX11_readThrees 61 = .ok (.iconst 1, 1) := by decide +kernel
theorem dX11_readThrees_62 : decode cX11_readThrees 62 = .ok (.iadd, 1) := by decide +kernel
theorem dX11_readThrees_63 : decode cX11_readThrees 63 = .ok (.baload, 1) := by decide +kernel
theorem dX11_readThrees_64 : decode cX11_readThrees 64 = .ok (.bipush 97, 2) := by decide +kernel
theorem dX11_readThrees_66 : decode cX11_readThrees 66 = .ok (.isub, 1) := by decide +kernel
theorem dX11_readThrees_67 : decode cX11_readThrees 67 = .ok (.invokevirtual 359, 3) := by decide +kernel
theorem dX11_readThrees_70 : decode cX11_readThrees 70 = .ok (.ifCond .ne 47, 3) := by decide +kernel
theorem dX11_readThrees_73 : decode cX11_readThrees 73 = .ok (.aload_n 0, 1) := by decide +kernel
theorem dX11_readThrees_74 : decode cX11_readThrees 74 = .ok (.getfield 39, 3) := by decide +kernel
theorem dX11_readThrees_77 : decode cX11_readThrees 77 = .ok (.iload 4, 2) := by decide +kernel
theorem dX11_readThrees_79 : decode cX11_readThrees 79 = .ok (.iconst 2, 1) := by decide +kernel
theorem dX11_readThrees_80 : decode cX11_readThrees 80 = .ok (.iadd, 1) := by decide +kernel
theorem dX11_readThrees_81 : decode cX11_readThrees 81 = .ok (.baload, 1) := by decide +kernel
theorem dX11_readThrees_82 : decode cX11_readThrees 82 = .ok (.iconst 0, 1) := by decide +kernel
theorem dX11_readThrees_83 : decode cX11_readThrees 83 = .ok (.iload_n 1, 1) := by decide +kernel
theorem dX11_readThrees_84 : decode cX11_readThrees 84 = .ok (.invokestatic 111, 3) := by decide +kernel
theorem dX11_readThrees_87 : decode cX11_readThrees 87 = .ok (.ifCond .eq 30, 3) := by decide +kernel
theorem dX11_readThrees_90 : decode cX11_readThrees 90 = .ok (.iload_n 2, 1) := by decide +kernel
theorem dX11_readThrees_91 : decode cX11_readThrees 91 = .ok (.ifCond .ne 22, 3) := by decide +kernel
theorem dX11_readThrees_94 : decode cX11_readThrees 94 = .ok (.aload_n 0, 1) := by decide +kernel
theorem dX11_readThrees_95 : decode cX11_readThrees 95 = .ok (.getfield 39, 3) := by decide +kernel
theorem dX11_readThrees_98 : decode cX11_readThrees 98 = .ok (.iload 4, 2) := by decide +kernel
theorem dX11_readThrees_100 : decode cX11_readThrees 100 = .ok (.baload, 1) := by decide +kernel
theorem dX11_readThrees_101 : decode cX11_readThrees 101 = .ok (.aload_n 0, 1) := by decide +kernel
theorem dX11_readThrees_102 : decode cX11_readThrees 102 = .ok (.getfield 39, 3) := by decide +kernel
theorem dX11_readThrees_105 : decode cX11_readThrees 105 = .ok (.iload 4, 2) := by decide +kernel
theorem dX11_readThrees_107 : decode cX11_readThrees 107 = .ok (.iconst 1, 1) := by decide +kernel
theorem dX11_readThrees_108 : decode cX11_readThrees 108 = .ok (.iadd, 1) := by decide +kernel
theorem dX11_readThrees_109 : decode cX11_readThrees 109 = .ok (.baload, 1) := by decide +kernel
theorem dX11_readThrees_110 : decode cX11_readThrees 110 = .ok (.if_icmp .eq 7, 3) := by decide +kernel
theorem dX11_readThrees_113 : decode cX11_readThrees 113 = .ok (.iconst 1, 1) := by decide +kernel
theorem dX11_readThrees_114 : decode cX11_readThrees 114 = .ok (.goto 4, 3) := by decide +kernel
theorem dX11_readThrees_117 : decode cX11_readThrees 117 = .ok (.iconst 0, 1) := by decide +kernel
theorem dX11_readThrees_118 : decode cX11_readThrees 118 = .ok (.istore_n 3, 1) := by decide +kernel
theorem dX11_readThrees_119 : decode cX11_readThrees 119 = .ok (.iinc 4 3, 3) := by decide +kernel
theorem dX11_readThrees_122 : decode cX11_readThrees 122 = .ok (.goto (-100), 3) := by decide +kernel
theorem dX11_readThrees_125 : decode cX11_readThrees 125 = .ok (.iload_n 3, 1) := by decide +kernel
theorem dX11_readThrees_126 : decode cX11_readThrees 126 = .ok (.ireturn, 1) := by decide +kernel
theorem dX11_canStand_0 : decode cX11_canStand 0 = .ok (.iload_n 1, 1) := by decide +kernel
theorem dX11_canStand_1 : decode cX11_canStand 1 = .ok (.iload_n 2, 1) := by decide +kernel
theorem dX11_canStand_2 : decode cX11_canStand 2 = .ok (.invokestatic 103, 3) := by decide +kernel
theorem dX11_canStand_5 : decode cX11_canStand 5 = .ok (.ifCond .ne 20, 3) := by decide +kernel
theorem dX11_canStand_8 : decode cX11_canStand 8 = .ok (.aload_n 0, 1) := by decide +kernel
theorem dX11_canStand_9 : decode cX11_canStand 9 = .ok (.getfield 83, 3) := by decide +kernel
theorem dX11_canStand_12 : decode cX11_canStand 12 = .ok (.iload_n 2, 1) := by decide +kernel
theorem dX11_canStand_13 : decode cX11_canStand 13 = .ok (.iaload, 1) := by decide +kernel
theorem dX11_canStand_14 : decode cX11_canStand 14 = .ok (.iload_n 1, 1) := by decide +kernel
theorem dX11_canStand_15 : decode cX11_canStand 15 = .ok (.iconst (-1), 1) := by decide +kernel
theorem dX11_canStand_16 : decode cX11_canStand 16 = .ok (.ixor, 1) := by decide +kernel
theorem dX11_canStand_17 : decode cX11_canStand 17 = .ok (.iand, 1) := by decide +kernel
theorem dX11_canStand_18 : decode cX11_canStand 18 = .ok (.ifCond .ne 7, 3) := by decide +kernel
theorem dX11_canStand_21 : decode cX11_canStand 21 = .ok (.iconst 1, 1) := by decide +kernel
theorem dX11_canStand_22 : decode cX11_canStand 22 = .ok (.goto 4, 3) := by decide +kernel
theorem dX11_canStand_25 : decode cX11_canStand 25 = .ok (.iconst 0, 1) := by decide +kernel
theorem dX11_canStand_26 : decode cX11_canStand 26 = .ok (.ireturn, 1) := by decide +kernel
theorem dX11_rows_0 : decode cX11_rows 0 = .ok (.aload_n 0, 1) := by decide +kernel
theorem dX11_rows_1 : decode cX11_rows 1 = .ok (.iconst 1, 1) := by decide +kernel
theorem dX11_rows_2 : decode cX11_rows 2 = .ok (.iconst 0, 1) := by decide +kernel
theorem dX11_rows_3 : decode cX11_rows 3 = .ok (.invokevirtual 457, 3) := by decide +kernel
theorem dX11_rows_6 : decode cX11_rows 6 = .ok (.istore_n 2, 1) := by decide +kernel
theorem dX11_rows_7 : decode cX11_rows 7 = .ok (.aload_n 0, 1) := by decide +kernel
theorem dX11_rows_8 : decode cX11_rows 8 = .ok (.iload_n 2, 1) := by decide +kernel
theorem dX11_rows_9 : decode cX11_rows 9 = .ok (.ifCond .eq 8, 3) := by decide +kernel
theorem dX11_rows_12 : decode cX11_rows 12 = .ok (.iload_n 1, 1) := by decide +kernel
theorem dX11_rows_13 : decode cX11_rows 13 = .ok (.iconst (-1), 1) := by decide +kernel
theorem dX11_rows_14 : decode cX11_rows 14 = .ok (.if_icmp .ge 7, 3) := by decide +kernel
theorem dX11_rows_17 : decode cX11_rows 17 = .ok (.iconst 1, 1) := by decide +kernel
theorem dX11_rows_18 : decode cX11_rows 18 = .ok (.goto 4, 3) := by decide +kernel
theorem dX11_rows_21 : decode cX11_rows 21 = .ok (.iconst 0, 1) := by decide +kernel
theorem dX11_rows_22 : decode cX11_rows 22 = .ok (.iconst 1, 1) := by decide +kernel
theorem dX11_rows_23 : decode cX11_rows 23 = .ok (.invokevirtual 322, 3) := by decide +kernel
theorem dX11_rows_26 : decode cX11_rows 26 = .ok (.ifCond .eq 5, 3) := by decide +kernel
theorem dX11_rows_29 : decode cX11_rows 29 = .ok (.iconst 0, 1) := by decide +kernel
theorem dX11_rows_30 : decode cX11_rows 30 = .ok (.ireturn, 1) := by decide +kernel
theorem dX11_rows_31 : decode cX11_rows 31 = .ok (.aload_n 0, 1) := by decide +kernel
theorem dX11_rows_32 : decode cX11_rows 32 = .ok (.invokevirtual 107, 3) := by decide +kernel
theorem dX11_rows_35 : decode cX11_rows 35 = .ok (.bipush 7, 2) := by decide +kernel
theorem dX11_rows_37 : decode cX11_rows 37 = .ok (.if_icmp .le 6, 3) := by decide +kernel
theorem dX11_rows_40 : decode cX11_rows 40 = .ok (.bipush (-3), 2) := by decide +kernel
theorem dX11_rows_42 : decode cX11_rows 42 = .ok (.ireturn, 1) := by decide +kernel
theorem dX11_rows_43 : decode cX11_rows 43 = .ok (.iconst 0, 1) := by decide +kernel
theorem dX11_rows_44 : decode cX11_rows 44 = .ok (.istore_n 3, 1) := by decide +kernel
theorem dX11_rows_45 : decode cX11_rows 45 = .ok (.iload_n 3, 1) := by decide +kernel
theorem dX11_rows_46 : decode cX11_rows 46 = .ok (.aload_n 0, 1) := by decide +kernel
theorem dX11_rows_47 : decode cX11_rows 47 = .ok (.invokevirtual 107, 3) := by decide +kernel
theorem dX11_rows_50 : decode cX11_rows 50 = .ok (.if_icmp .ge 16, 3) := by decide +kernel
theorem dX11_rows_53 : decode cX11_rows 53 = .ok (.aload_n 0, 1) := by decide +kernel
theorem dX11_rows_54 : decode cX11_rows 54 = .ok (.getfield 83, 3) := by decide +kernel
theorem dX11_rows_57 : decode cX11_rows 57 = .ok (.iload_n 3, 1) := by decide +kernel
theorem dX11_rows_58 : decode cX11_rows 58 = .ok (.iconst 0, 1) := by decide +kernel
theorem dX11_rows_59 : decode cX11_rows 59 = .ok (.iastore, 1) := by decide +kernel
theorem dX11_rows_60 : decode cX11_rows 60 = .ok (.iinc 3 1, 3) := by decide +kernel
theorem dX11_rows_63 : decode cX11_rows 63 = .ok (.goto (-18), 3) := by decide +kernel
theorem dX11_rows_66 : decode cX11_rows 66 = .ok (.iconst 0, 1) := by decide +kernel
theorem dX11_rows_67 : decode cX11_rows 67 = .ok (.istore_n 3, 1) := by decide +kernel
theorem dX11_rows_68 : decode cX11_rows 68 = .ok (.iload_n 3, 1) := by decide +kernel
theorem dX11_rows_69 : decode cX11_rows 69 = .ok (.aload_n 0, 1) := by decide +kernel
theorem dX11_rows_70 : decode cX11_rows 70 = .ok (.getfield 162, 3) := by decide +kernel
theorem dX11_rows_73 : decode cX11_rows 73 = .ok (.if_icmp .ge 76, 3) := by decide +kernel
theorem dX11_rows_76 : decode cX11_rows 76 = .ok (.aload_n 0, 1) := by decide +kernel
theorem dX11_rows_77 : decode cX11_rows 77 = .ok (.getfield 39, 3) := by decide +kernel
theorem dX11_rows_80 : decode cX11_rows 80 = .ok (.iload_n 3, 1) := by decide +kernel
theorem dX11_rows_81 : decode cX11_rows 81 = .ok (.baload, 1) := by decide +kernel
theorem dX11_rows_82 : decode cX11_rows 82 = .ok (.bipush 97, 2) := by decide +kernel
theorem dX11_rows_84 : decode cX11_rows 84 = .ok (.isub, 1) := by decide +kernel
theorem dX11_rows_85 : decode cX11_rows 85 = .ok (.istore 4, 2) := by decide +kernel
theorem dX11_rows_87 : decode cX11_rows 87 = .ok (.aload_n 0, 1) := by decide +kernel
theorem dX11_rows_88 : decode cX11_rows 88 = .ok (.getfield 39, 3) := by decide +kernel
theorem dX11_rows_91 : decode cX11_rows 91 = .ok (.iload_n 3, 1) := by decide +kernel
theorem dX11_rows_92 : decode cX11_rows 92 = .ok (.iconst 1, 1) := by decide +kernel
theorem dX11_rows_93 : decode cX11_rows 93 = .ok (.iadd, 1) := by decide +kernel
theorem dX11_rows_94 : decode cX11_rows 94 = .ok (.baload, 1) := by decide +kernel
theorem dX11_rows_95 : decode cX11_rows 95 = .ok (.bipush 97, 2) := by decide +kernel
theorem dX11_rows_97 : decode cX11_rows 97 = .ok (.isub, 1) := by decide +kernel
theorem dX11_rows_98 : decode cX11_rows 98 = .ok (.istore 5, 2) := by decide +kernel
theorem dX11_rows_100 : decode cX11_rows 100 = .ok (.aload_n 0, 1) := by decide +kernel
theorem dX11_rows_101 : decode cX11_rows 101 = .ok (.getfield 39, 3) := by decide +kernel
theorem dX11_rows_104 : decode cX11_rows 104 = .ok (.iload_n 3, 1) := by decide +kernel
theorem dX11_rows_105 : decode cX11_rows 105 = .ok (.iconst 2, 1) := by decide +kernel
theorem dX11_rows_106 : decode cX11_rows 106 = .ok (.iadd, 1) := by decide +kernel
theorem dX11_rows_107 : decode cX11_rows 107 = .ok (.baload, 1) := by decide +kernel
theorem dX11_rows_108 : decode cX11_rows 108 = .ok (.iconst 1, 1) := by decide +kernel
theorem dX11_rows_109 : decode cX11_rows 109 = .ok (.if_icmp .ne 20, 3) := by decide +kernel
theorem dX11_rows_112 : decode cX11_rows 112 = .ok (.aload_n 0, 1) := by decide +kernel
theorem dX11_rows_113 : decode cX11_rows 113 = .ok (.getfield 83, 3) := by decide +kernel
theorem dX11_rows_116 : decode cX11_rows 116 = .ok (.iload 5, 2) := by decide +kernel
theorem dX11_rows_118 : decode cX11_rows 118 = .ok (.dup2, 1) := by decide +kernel
theorem dX11_rows_119 : decode cX11_rows 119 = .ok (.iaload, 1) := by decide +kernel
theorem dX11_rows_120 : decode cX11_rows 120 = .ok (.iconst 1, 1) := by decide +kernel
theorem dX11_rows_121 : decode cX11_rows 121 = .ok (.iload 4, 2) := by decide +kernel
theorem dX11_rows_123 : decode cX11_rows 123 = .ok (.ishl, 1) := by decide +kernel
theorem dX11_rows_124 : decode cX11_rows 124 = .ok (.ior, 1) := by decide +kernel
theorem dX11_rows_125 : decode cX11_rows 125 = .ok (.iastore, 1) := by decide +kernel
theorem dX11_rows_126 : decode cX11_rows 126 = .ok (.goto 17, 3) := by decide +kernel
theorem dX11_rows_129 : decode cX11_rows 129 = .ok (.aload_n 0, 1) := by decide +kernel
theorem dX11_rows_130 : decode cX11_rows 130 = .ok (.getfield 83, 3) := by decide +kernel
theorem dX11_rows_133 : decode cX11_rows 133 = .ok (.iload 4, 2) := by decide +kernel
theorem dX11_rows_135 : decode cX11_rows 135 = .ok (.dup2, 1) := by decide +kernel
theorem dX11_rows_136 : decode cX11_rows 136 = .ok (.iaload, 1) := by decide +kernel
theorem dX11_rows_137 : decode cX11_rows 137 = .ok (.iconst 1, 1) := by decide +kernel
theorem dX11_rows_138 : decode cX11_rows 138 = .ok (.iload 5, 2) := by decide +kernel
theorem dX11_rows_140 : decode cX11_rows 140 = .ok (.ishl, 1) := by decide +kernel
theorem dX11_rows_141 : decode cX11_rows 141 = .ok (.ior, 1) := by decide +kernel
theorem dX11_rows_142 : decode cX11_rows 142 = .ok (.iastore, 1) := by decide +kernel
theorem dX11_rows_143 : decode cX11_rows 143 = .ok (.iinc 3 3, 3) := by decide +kernel
theorem dX11_rows_146 : decode cX11_rows 146 = .ok (.goto (-78), 3) := by decide +kernel
theorem dX11_rows_149 : decode cX11_rows 149 = .ok (.iconst 1, 1) := by decide +kernel
theorem dX11_rows_150 : decode cX11_rows 150 = .ok (.aload_n 0, 1) := by decide +kernel
theorem dX11_rows_151 : decode cX11_rows 151 = .ok (.invokevirtual 107, 3) := by decide +kernel
theorem dX11_rows_154 : decode cX11_rows 154 = .ok (.ishl, 1) := by decide +kernel
theorem dX11_rows_155 : decode cX11_rows 155 = .ok (.iconst 1, 1) := by decide +kernel
theorem dX11_rows_156 : decode cX11_rows 156 = .ok (.isub, 1) := by decide +kernel
theorem dX11_rows_157 : decode cX11_rows 157 = .ok (.istore_n 3, 1) := by decide +kernel
theorem dX11_rows_158 : decode cX11_rows 158 = .ok (.iload_n 3, 1) := by decide +kernel
theorem dX11_rows_159 : decode cX11_rows 159 = .ok (.istore 4, 2) := by decide +kernel
theorem dX11_rows_161 : decode cX11_rows 161 = .ok (.iload 4, 2) := by decide +kernel
theorem dX11_rows_163 : decode cX11_rows 163 = .ok (.ifCond .lt 82, 3) := by decide +kernel
theorem dX11_rows_166 : decode cX11_rows 166 = .ok (.aload_n 0, 1) := by decide +kernel
theorem dX11_rows_167 : decode cX11_rows 167 = .ok (.getfield 86, 3) := by decide +kernel
theorem dX11_rows_170 : decode cX11_rows 170 = .ok (.iload 4, 2) := by decide +kernel
theorem dX11_rows_172 : decode cX11_rows 172 = .ok (.iload 4, 2) := by decide +kernel
theorem dX11_rows_174 : decode cX11_rows 174 = .ok (.iload_n 3, 1) := by decide +kernel
theorem dX11_rows_175 : decode cX11_rows 175 = .ok (.if_icmp .ne 7, 3) := by decide +kernel
theorem dX11_rows_178 : decode cX11_rows 178 = .ok (.iconst 1, 1) := by decide +kernel
theorem dX11_rows_179 : decode cX11_rows 179 = .ok (.goto 4, 3) := by decide +kernel
theorem dX11_rows_182 : decode cX11_rows 182 = .ok (.iconst 0, 1) := by decide +kernel
theorem dX11_rows_183 : decode cX11_rows 183 = .ok (.iastore, 1) := by decide +kernel
theorem dX11_rows_184 : decode cX11_rows 184 = .ok (.iconst 0, 1) := by decide +kernel
theorem dX11_rows_185 : decode cX11_rows 185 = .ok (.istore 5, 2) := by decide +kernel
theorem dX11_rows_187 : decode cX11_rows 187 = .ok (.iload 5, 2) := by decide +kernel
theorem dX11_rows_189 : decode cX11_rows 189 = .ok (.aload_n 0, 1) := by decide +kernel
theorem dX11_rows_190 : decode cX11_rows 190 = .ok (.invokevirtual 107, 3) := by decide +kernel
theorem dX11_rows_193 : decode cX11_rows 193 = .ok (.if_icmp .ge 46, 3) := by decide +kernel
theorem dX11_rows_196 : decode cX11_rows 196 = .ok (.aload_n 0, 1) := by decide +kernel
theorem dX11_rows_197 : decode cX11_rows 197 = .ok (.getfield 86, 3) := by decide +kernel
theorem dX11_rows_200 : decode cX11_rows 200 = .ok (.iload 4, 2) := by decide +kernel
theorem dX11_rows_202 : decode cX11_rows 202 = .ok (.dup2, 1) := by decide +kernel
theorem dX11_rows_203 : decode cX11_rows 203 = .ok (.iaload, 1) := by decide +kernel
theorem dX11_rows_204 : decode cX11_rows 204 = .ok (.aload_n 0, 1) := by decide +kernel
theorem dX11_rows_205 : decode cX11_rows 205 = .ok (.iload 4, 2) := by decide +kernel
theorem dX11_rows_207 : decode cX11_rows 207 = .ok (.iload 5, 2) := by decide +kernel
theorem dX11_rows_209 : decode cX11_rows 209 = .ok (.invokevirtual 461, 3) := by decide +kernel
theorem dX11_rows_212 : decode cX11_rows 212 = .ok (.ifCond .eq 18, 3) := by decide +kernel
theorem dX11_rows_215 : decode cX11_rows 215 = .ok (.aload_n 0, 1) := by decide +kernel
theorem dX11_rows_216 : decode cX11_rows 216 = .ok (.getfield 86, 3) := by decide +kernel
theorem dX11_rows_219 : decode cX11_rows 219 = .ok (.iload 4, 2) := by decide +kernel
theorem dX11_rows_221 : decode cX11_rows 221 = .ok (.iconst 1, 1) := by decide +kernel
theorem dX11_rows_222 : decode cX11_rows 222 = .ok (.iload 5, 2) := by decide +kernel
theorem dX11_rows_224 : decode cX11_rows 224 = .ok (.ishl, 1) := by decide +kernel
theorem dX11_rows_225 : decode cX11_rows 225 = .ok (.ior, 1) := by decide +kernel
theorem dX11_rows_226 : decode cX11_rows 226 = .ok (.iaload, 1) := by decide +kernel
theorem dX11_rows_227 : decode cX11_rows 227 = .ok (.goto 4, 3) := by decide +kernel
theorem dX11_rows_230 : decode cX11_rows 230 = .ok (.iconst 0, 1) := by decide +kernel
theorem dX11_rows_231 : decode cX11_rows 231 = .ok (.iadd, 1) := by decide +kernel
theorem dX11_rows_232 : decode cX11_rows 232 = .ok (.iastore, 1) := by decide +kernel
theorem dX11_rows_233 : decode cX11_rows 233 = .ok (.iinc 5 1, 3) := by decide +kernel
theorem dX11_rows_236 : decode cX11_rows 236 = .ok (.goto (-49), 3) := by decide +kernel
theorem dX11_rows_239 : decode cX11_rows 239 = .ok (.iinc 4 (-1), 3) := by decide +kernel
theorem dX11_rows_242 : decode cX11_rows 242 = .ok (.goto (-81), 3) := by decide +kernel
theorem dX11_rows_245 : decode cX11_rows 245 = .ok (.iload_n 1, 1) := by decide +kernel
theorem dX11_rows_246 : decode cX11_rows 246 = .ok (.iconst (-1), 1) := by decide +kernel
theorem dX11_rows_247 : decode cX11_rows 247 = .ok (.if_icmp .eq 20, 3) := by decide +kernel
theorem dX11_rows_250 : decode cX11_rows 250 = .ok (.aload_n 0, 1) := by decide +kernel
theorem dX11_rows_251 : decode cX11_rows 251 = .ok (.getfield 86, 3) := by decide +kernel
theorem dX11_rows_254 : decode cX11_rows 254 = .ok (.iconst 0, 1) := by decide +kernel
theorem dX11_rows_255 : decode cX11_rows 255 = .ok (.iaload, 1) := by decide +kernel
theorem dX11_rows_256 : decode cX11_rows 256 = .ok (.ifCond .eq 11, 3) := by decide +kernel
theorem dX11_rows_259 : decode cX11_rows 259 = .ok (.iload_n 1, 1) := by decide +kernel
theorem dX11_rows_260 : decode cX11_rows 260 = .ok (.aload_n 0, 1) := by decide +kernel
theorem dX11_rows_261 : decode cX11_rows 261 = .ok (.invokevirtual 107, 3) := by decide +kernel
theorem dX11_rows_264 : decode cX11_rows 264 = .ok (.if_icmp .lt 19, 3) := by decide +kernel
theorem dX11_rows_267 : decode cX11_rows 267 = .ok (.iload_n 1, 1) := by decide +kernel
theorem dX11_rows_268 : decode cX11_rows 268 = .ok (.iconst (-1), 1) := by decide +kernel
theorem dX11_rows_269 : decode cX11_rows 269 = .ok (.if_icmp .ne 12, 3) := by decide +kernel
theorem dX11_rows_272 : decode cX11_rows 272 = .ok (.aload_n 0, 1) := by decide +kernel
theorem dX11_rows_273 : decode cX11_rows 273 = .ok (.getfield 86, 3) := by decide +kernel
theorem dX11_rows_276 : decode cX11_rows 276 = .ok (.iconst 0, 1) := by decide +kernel
theorem dX11_rows_277 : decode cX11_rows 277 = .ok (.iaload, 1) := by decide +kernel
theorem dX11_rows_278 : decode cX11_rows 278 = .ok (.goto 4, 3) := by decide +kernel
theorem dX11_rows_281 : decode cX11_rows 281 = .ok (.iconst (-1), 1) := by decide +kernel
theorem dX11_rows_282 : decode cX11_rows 282 = .ok (.ireturn, 1) := by decide +kernel
theorem dX11_rows_283 : decode cX11_rows 283 = .ok (.iconst 0, 1) := by decide +kernel
theorem dX11_rows_284 : decode cX11_rows 284 = .ok (.istore 4, 2) := by decide +kernel
theorem dX11_rows_286 : decode cX11_rows 286 = .ok (.iconst (-1), 1) := by decide +kernel
theorem dX11_rows_287 : decode cX11_rows 287 = .ok (.istore 5, 2) := by decide +kernel
theorem dX11_rows_289 : decode cX11_rows 289 = .ok (.iconst 0, 1) := by decide +kernel
theorem dX11_rows_290 : decode cX11_rows 290 = .ok (.istore 6, 2) := by decide +kernel
theorem dX11_rows_292 : decode cX11_rows 292 = .ok (.iload 6, 2) := by decide +kernel
theorem dX11_rows_294 : decode cX11_rows 294 = .ok (.iload_n 1, 1) := by decide +kernel
theorem dX11_rows_295 : decode cX11_rows 295 = .ok (.if_icmp .gt 53, 3) := by decide +kernel
theorem dX11_rows_298 : decode cX11_rows 298 = .ok (.iconst 0, 1) := by decide +kernel
theorem dX11_rows_299 : decode cX11_rows 299 = .ok (.istore 5, 2) := by decide +kernel
theorem dX11_rows_301 : decode cX11_rows 301 = .ok (.aload_n 0, 1) := by decide +kernel
theorem dX11_rows_302 : decode cX11_rows 302 = .ok (.iload 4, 2) := by decide +kernel
theorem dX11_rows_304 : decode cX11_rows 304 = .ok (.iload 5, 2) := by decide +kernel
theorem dX11_rows_306 : decode cX11_rows 306 = .ok (.invokevirtual 461, 3) := by decide +kernel
theorem dX11_rows_309 : decode cX11_rows 309 = .ok (.ifCond .eq 18, 3) := by decide +kernel
theorem dX11_rows_312 : decode cX11_rows 312 = .ok (.aload_n 0, 1) := by decide +kernel
theorem dX11_rows_313 : decode cX11_rows 313 = .ok (.getfield 86, 3) := by decide +kernel
theorem dX11_rows_316 : decode cX11_rows 316 = .ok (.iload 4, 2) := by decide +kernel
theorem dX11_rows_318 : decode cX11_rows 318 = .ok (.iconst 1, 1) := by decide +kernel
theorem dX11_rows_319 : decode cX11_rows 319 = .ok (.iload 5, 2) := by decide +kernel
theorem dX11_rows_321 : decode cX11_rows 321 = .ok (.ishl, 1) := by decide +kernel
theorem dX11_rows_322 : decode cX11_rows 322 = .ok (.ior, 1) := by decide +kernel
theorem dX11_rows_323 : decode cX11_rows 323 = .ok (.iaload, 1) := by decide +kernel
theorem dX11_rows_324 : decode cX11_rows 324 = .ok (.ifCond .ne 9, 3) := by decide +kernel
theorem dX11_rows_327 : decode cX11_rows 327 = .ok (.iinc 5 1, 3) := by decide +kernel
theorem dX11_rows_330 : decode cX11_rows 330 = .ok (.goto (-29), 3) := by decide +kernel
theorem dX11_rows_333 : decode cX11_rows 333 = .ok (.iload 4, 2) := by decide +kernel
theorem dX11_rows_335 : decode cX11_rows 335 = .ok (.iconst 1, 1) := by decide +kernel
theorem dX11_rows_336 : decode cX11_rows 336 = .ok (.iload 5, 2) := by decide +kernel
theorem dX11_rows_338 : decode cX11_rows 338 = .ok (.ishl, 1) := by decide +kernel
theorem dX11_rows_339 : decode cX11_rows 339 = .ok (.ior, 1) := by decide +kernel
theorem dX11_rows_340 : decode cX11_rows 340 = .ok (.istore 4, 2) := by decide +kernel
theorem dX11_rows_342 : decode cX11_rows 342 = .ok (.iinc 6 1, 3) := by decide +kernel
theorem dX11_rows_345 : decode cX11_rows 345 = .ok (.goto (-53), 3) := by decide +kernel
theorem dX11_rows_348 : decode cX11_rows 348 = .ok (.iload 5, 2) := by decide +kernel
theorem dX11_rows_350 : decode cX11_rows 350 = .ok (.ireturn, 1) := by decide +kernel
theorem dX11_liarsIn_0 : decode cX11_liarsIn 0 = .ok (.iconst 0, 1) := by decide +kernel
theorem dX11_liarsIn_1 : decode cX11_liarsIn 1 = .ok (.istore_n 2, 1) := by decide +kernel
theorem dX11_liarsIn_2 : decode cX11_liarsIn 2 = .ok (.iconst 0, 1) := by decide +kernel
theorem dX11_liarsIn_3 : decode cX11_liarsIn 3 = .ok (.istore_n 3, 1) := by decide +kernel
theorem dX11_liarsIn_4 : decode cX11_liarsIn 4 = .ok (.iload_n 3, 1) := by decide +kernel
theorem dX11_liarsIn_5 : decode cX11_liarsIn 5 = .ok (.aload_n 0, 1) := by decide +kernel
theorem dX11_liarsIn_6 : decode cX11_liarsIn 6 = .ok (.getfield 162, 3) := by decide +kernel
theorem dX11_liarsIn_9 : decode cX11_liarsIn 9 = .ok (.if_icmp .ge 54, 3) := by decide +kernel
theorem dX11_liarsIn_12 : decode cX11_liarsIn 12 = .ok (.iload_n 2, 1) := by decide +kernel
theorem dX11_liarsIn_13 : decode cX11_liarsIn 13 = .ok (.aload_n 0, 1) := by decide +kernel
theorem dX11_liarsIn_14 : decode cX11_liarsIn 14 = .ok (.aload_n 0, 1) := by decide +kernel
theorem dX11_liarsIn_15 : decode cX11_liarsIn 15 = .ok (.getfield 39, 3) := by decide +kernel
theorem dX11_liarsIn_18 : decode cX11_liarsIn 18 = .ok (.iload_n 3, 1) := by decide +kernel
theorem dX11_liarsIn_19 : decode cX11_liarsIn 19 = .ok (.iconst 1, 1) := by decide +kernel
theorem dX11_liarsIn_20 : decode cX11_liarsIn 20 = .ok (.iadd, 1) := by decide +kernel
theorem dX11_liarsIn_21 : decode cX11_liarsIn 21 = .ok (.baload, 1) := by decide +kernel
theorem dX11_liarsIn_22 : decode cX11_liarsIn 22 = .ok (.bipush 97, 2) := by decide +kernel
theorem dX11_liarsIn_24 : decode cX11_liarsIn 24 = .ok (.isub, 1) := by decide +kernel
theorem dX11_liarsIn_25 : decode cX11_liarsIn 25 = .ok (.iload_n 1, 1) := by decide +kernel
theorem dX11_liarsIn_26 : decode cX11_liarsIn 26 = .ok (.invokevirtual 124, 3) := by decide +kernel
theorem dX11_liarsIn_29 : decode cX11_liarsIn 29 = .ok (.aload_n 0, 1) := by decide +kernel
theorem dX11_liarsIn_30 : decode cX11_liarsIn 30 = .ok (.getfield 39, 3) := by decide +kernel
theorem dX11_liarsIn_33 : decode cX11_liarsIn 33 = .ok (.iload_n 3, 1) := by decide +kernel
theorem dX11_liarsIn_34 : decode cX11_liarsIn 34 = .ok (.iconst 2, 1) := by decide +kernel
theorem dX11_liarsIn_35 : decode cX11_liarsIn 35 = .ok (.iadd, 1) := by decide +kernel
theorem dX11_liarsIn_36 : decode cX11_liarsIn 36 = .ok (.baload, 1) := by decide +kernel
theorem dX11_liarsIn_37 : decode cX11_liarsIn 37 = .ok (.if_icmp .eq 17, 3) := by decide +kernel
theorem dX11_liarsIn_40 : decode cX11_liarsIn 40 = .ok (.iconst 1, 1) := by decide +kernel
theorem dX11_liarsIn_41 : decode cX11_liarsIn 41 = .ok (.aload_n 0, 1) := by decide +kernel
theorem dX11_liarsIn_42 : decode cX11_liarsIn 42 = .ok (.getfield 39, 3) := by decide +kernel
theorem dX11_liarsIn_45 : decode cX11_liarsIn 45 = .ok (.iload_n 3, 1) := by decide +kernel
theorem dX11_liarsIn_46 : decode cX11_liarsIn 46 = .ok (.baload, 1) := by decide +kernel
theorem dX11_liarsIn_47 : decode cX11_liarsIn 47 = .ok (.bipush 97, 2) := by decide +kernel
theorem dX11_liarsIn_49 : decode cX11_liarsIn 49 = .ok (.isub, 1) := by decide +kernel
theorem dX11_liarsIn_50 : decode cX11_liarsIn 50 = .ok (.ishl, 1) := by decide +kernel
theorem dX11_liarsIn_51 : decode cX11_liarsIn 51 = .ok (.goto 4, 3) := by decide +kernel
theorem dX11_liarsIn_54 : decode cX11_liarsIn 54 = .ok (.iconst 0, 1) := by decide +kernel
theorem dX11_liarsIn_55 : decode cX11_liarsIn 55 = .ok (.ior, 1) := by decide +kernel
theorem dX11_liarsIn_56 : decode cX11_liarsIn 56 = .ok (.istore_n 2, 1) := by decide +kernel
theorem dX11_liarsIn_57 : decode cX11_liarsIn 57 = .ok (.iinc 3 3, 3) := by decide +kernel
theorem dX11_liarsIn_60 : decode cX11_liarsIn 60 = .ok (.goto (-56), 3) := by decide +kernel
theorem dX11_liarsIn_63 : decode cX11_liarsIn 63 = .ok (.iload_n 2, 1) := by decide +kernel
theorem dX11_liarsIn_64 : decode cX11_liarsIn 64 = .ok (.ireturn, 1) := by decide +kernel
theorem dX11_liars_0 : decode cX11_liars 0 = .ok (.aload_n 0, 1) := by decide +kernel
theorem dX11_liars_1 : decode cX11_liars 1 = .ok (.aload_n 0, 1) := by decide +kernel
theorem dX11_liars_2 : decode cX11_liars 2 = .ok (.invokevirtual 118, 3) := by decide +kernel
theorem dX11_liars_5 : decode cX11_liars 5 = .ok (.iconst 1, 1) := by decide +kernel
theorem dX11_liars_6 : decode cX11_liars 6 = .ok (.isub, 1) := by decide +kernel
theorem dX11_liars_7 : decode cX11_liars 7 = .ok (.iconst 1, 1) := by decide +kernel
theorem dX11_liars_8 : decode cX11_liars 8 = .ok (.invokevirtual 457, 3) := by decide +kernel
theorem dX11_liars_11 : decode cX11_liars 11 = .ok (.istore_n 3, 1) := by decide +kernel
theorem dX11_liars_12 : decode cX11_liars 12 = .ok (.aload_n 0, 1) := by decide +kernel
theorem dX11_liars_13 : decode cX11_liars 13 = .ok (.iload_n 3, 1) := by decide +kernel
theorem dX11_liars_14 : decode cX11_liars 14 = .ok (.ifCond .eq 13, 3) := by decide +kernel
theorem dX11_liars_17 : decode cX11_liars 17 = .ok (.iload_n 1, 1) := by decide +kernel
theorem dX11_liars_18 : decode cX11_liars 18 = .ok (.iconst 0, 1) := by decide +kernel
theorem dX11_liars_19 : decode cX11_liars 19 = .ok (.bipush 9, 2) := by decide +kernel
theorem dX11_liars_21 : decode cX11_liars 21 = .ok (.invokestatic 111, 3) := by decide +kernel
theorem dX11_liars_24 : decode cX11_liars 24 = .ok (.ifCond .ne 7, 3) := by decide +kernel
theorem dX11_liars_27 : decode cX11_liars 27 = .ok (.iconst 1, 1) := by decide +kernel
theorem dX11_liars_28 : decode cX11_liars 28 = .ok (.goto 4, 3) := by decide +kernel
theorem dX11_liars_31 : decode cX11_liars 31 = .ok (.iconst 0, 1) := by decide +kernel
theorem dX11_liars_32 : decode cX11_liars 32 = .ok (.iconst 1, 1) := by decide +kernel
theorem dX11_liars_33 : decode cX11_liars 33 = .ok (.invokevirtual 322, 3) := by decide +kernel
theorem dX11_liars_36 : decode cX11_liars 36 = .ok (.ifCond .eq 5, 3) := by decide +kernel
theorem dX11_liars_39 : decode cX11_liars 39 = .ok (.iconst 0, 1) := by decide +kernel
theorem dX11_liars_40 : decode cX11_liars 40 = .ok (.ireturn, 1) := by decide +kernel
theorem dX11_liars_41 : decode cX11_liars 41 = .ok (.iconst 0, 1) := by decide +kernel
theorem dX11_liars_42 : decode cX11_liars 42 = .ok (.istore 4, 2) := by decide +kernel
theorem dX11_liars_44 : decode cX11_liars 44 = .ok (.iconst 0, 1) := by decide +kernel
theorem dX11_liars_45 : decode cX11_liars 45 = .ok (.istore 5, 2) := by decide +kernel
theorem dX11_liars_47 : decode cX11_liars 47 = .ok (.iconst 0, 1) := by decide +kernel
theorem dX11_liars_48 : decode cX11_liars 48 = .ok (.istore 6, 2) := by decide +kernel
theorem dX11_liars_50 : decode cX11_liars 50 = .ok (.iload 6, 2) := by decide +kernel
theorem dX11_liars_52 : decode cX11_liars 52 = .ok (.aload_n 0, 1) := by decide +kernel
theorem dX11_liars_53 : decode cX11_liars 53 = .ok (.invokevirtual 115, 3) := by decide +kernel
theorem dX11_liars_56 : decode cX11_liars 56 = .ok (.if_icmp .ge 48, 3) := by decide +kernel
theorem dX11_liars_59 : decode cX11_liars 59 = .ok (.aload_n 0, 1) := by decide +kernel
theorem dX11_liars_60 : decode cX11_liars 60 = .ok (.iload 6, 2) := by decide +kernel
theorem dX11_liars_62 : decode cX11_liars 62 = .ok (.invokevirtual 128, 3) := by decide +kernel
theorem dX11_liars_65 : decode cX11_liars 65 = .ok (.ifCond .eq 33, 3) := by decide +kernel
theorem dX11_liars_68 : decode cX11_liars 68 = .ok (.aload_n 0, 1) := by decide +kernel
theorem dX11_liars_69 : decode cX11_liars 69 = .ok (.iload 6, 2) := by decide +kernel
theorem dX11_liars_71 : decode cX11_liars 71 = .ok (.invokevirtual 464, 3) := by decide +kernel
theorem dX11_liars_74 : decode cX11_liars 74 = .ok (.invokestatic 418, 3) := by decide +kernel
theorem dX11_liars_77 : decode cX11_liars 77 = .ok (.iload_n 1, 1) := by decide +kernel
theorem dX11_liars_78 : decode cX11_liars 78 = .ok (.if_icmp .le 6, 3) := by decide +kernel
theorem dX11_liars_81 : decode cX11_liars 81 = .ok (.goto 17, 3) := by decide +kernel
theorem dX11_liars_84 : decode cX11_liars 84 = .ok (.iinc 4 1, 3) := by decide +kernel
theorem dX11_liars_87 : decode cX11_liars 87 = .ok (.iload 5, 2) := by decide +kernel
theorem dX11_liars_89 : decode cX11_liars 89 = .ok (.aload_n 0, 1) := by decide +kernel
theorem dX11_liars_90 : decode cX11_liars 90 = .ok (.iload 6, 2) := by decide +kernel
theorem dX11_liars_92 : decode cX11_liars 92 = .ok (.invokevirtual 464, 3) := by decide +kernel
theorem dX11_liars_95 : decode cX11_liars 95 = .ok (.ior, 1) := by decide +kernel
theorem dX11_liars_96 : decode cX11_liars 96 = .ok (.istore 5, 2) := by decide +kernel
theorem dX11_liars_98 : decode cX11_liars 98 = .ok (.iinc 6 1, 3) := by decide +kernel
theorem dX11_liars_101 : decode cX11_liars 101 = .ok (.goto (-51), 3) := by decide +kernel
theorem dX11_liars_104 : decode cX11_liars 104 = .ok (.iload_n 2, 1) := by decide +kernel
theorem dX11_liars_105 : decode cX11_liars 105 = .ok (.ifCond .eq 8, 3) := by decide +kernel
theorem dX11_liars_108 : decode cX11_liars 108 = .ok (.iload 5, 2) := by decide +kernel
theorem dX11_liars_110 : decode cX11_liars 110 = .ok (.goto 5, 3) := by decide +kernel
theorem dX11_liars_113 : decode cX11_liars 113 = .ok (.iload 4, 2) := by decide +kernel
theorem dX11_liars_115 : decode cX11_liars 115 = .ok (.ireturn, 1) := by decide +kernel
theorem dX11_pairOf_0 : decode cX11_pairOf 0 = .ok (.iconst 1, 1) := by decide +kernel
theorem dX11_pairOf_1 : decode cX11_pairOf 1 = .ok (.aload_n 0, 1) := by decide +kernel
theorem dX11_pairOf_2 : decode cX11_pairOf 2 = .ok (.getfield 92, 3) := by decide +kernel
theorem dX11_pairOf_5 : decode cX11_pairOf 5 = .ok (.iload_n 1, 1) := by decide +kernel
theorem dX11_pairOf_6 : decode cX11_pairOf 6 = .ok (.iconst 1, 1) := by decide +kernel
theorem dX11_pairOf_7 : decode cX11_pairOf 7 = .ok (.iload_n 2, 1) := by decide +kernel
theorem dX11_pairOf_8 : decode cX11_pairOf 8 = .ok (.ishl, 1) := by decide +kernel
theorem dX11_pairOf_9 : decode cX11_pairOf 9 = .ok (.iconst (-1), 1) := by decide +kernel
theorem dX11_pairOf_10 : decode cX11_pairOf 10 = .ok (.ixor, 1) := by decide +kernel
theorem dX11_pairOf_11 : decode cX11_pairOf 11 = .ok (.iand, 1) := by decide +kernel
theorem dX11_pairOf_12 : decode cX11_pairOf 12 = .ok (.iconst 1, 1) := by decide +kernel
theorem dX11_pairOf_13 : decode cX11_pairOf 13 = .ok (.iload_n 3, 1) := by decide +kernel
theorem dX11_pairOf_14 : decode cX11_pairOf 14 = .ok (.ishl, 1) := by decide +kernel
theorem dX11_pairOf_15 : decode cX11_pairOf 15 = .ok (.iconst (-1), 1) := by decide +kernel
theorem dX11_pairOf_16 : decode cX11_pairOf 16 = .ok (.ixor, 1) := by decide +kernel
theorem dX11_pairOf_17 : decode cX11_pairOf 17 = .ok (.iand, 1) := by decide +kernel
theorem dX11_pairOf_18 : decode cX11_pairOf 18 = .ok (.iaload, 1) := by decide +kernel
theorem dX11_pairOf_19 : decode cX11_pairOf 19 = .ok (.iadd, 1) := by decide +kernel
theorem dX11_pairOf_20 : decode cX11_pairOf 20 = .ok (.ireturn, 1) := by decide +kernel
theorem dX11_marries_0 : decode cX11_marries 0 = .ok (.iconst 0, 1) := by decide +kernel
theorem dX11_marries_1 : decode cX11_marries 1 = .ok (.istore_n 1, 1) := by decide +kernel
theorem dX11_marries_2 : decode cX11_marries 2 = .ok (.iload_n 1, 1) := by decide +kernel
theorem dX11_marries_3 : decode cX11_marries 3 = .ok (.aload_n 0, 1) := by decide +kernel
theorem dX11_marries_4 : decode cX11_marries 4 = .ok (.invokevirtual 107, 3) := by decide +kernel
theorem dX11_marries_7 : decode cX11_marries 7 = .ok (.if_icmp .ge 20, 3) := by decide +kernel
theorem dX11_marries_10 : decode cX11_marries 10 = .ok (.aload_n 0, 1) := by decide +kernel
theorem dX11_marries_11 : decode cX11_marries 11 = .ok (.getfield 89, 3) := by decide +kernel
theorem dX11_marries_14 : decode cX11_marries 14 = .ok (.iload_n 1, 1) := by decide +kernel
theorem dX11_marries_15 : decode cX11_marries 15 = .ok (.aload_n 0, 1) := by decide +kernel
theorem dX11_marries_16 : decode cX11_marries 16 = .ok (.iload_n 1, 1) := by decide +kernel
theorem dX11_marries_17 : decode cX11_marries 17 = .ok (.invokevirtual 395, 3) := by decide +kernel
theorem dX11_marries_20 : decode cX11_marries 20 = .ok (.iastore, 1) := by decide +kernel
theorem dX11_marries_21 : decode cX11_marries 21 = .ok (.iinc 1 1, 3) := by decide +kernel
theorem dX11_marries_24 : decode cX11_marries 24 = .ok (.goto (-22), 3) := by decide +kernel
theorem dX11_marries_27 : decode cX11_marries 27 = .ok (.iconst 0, 1) := by decide +kernel
theorem dX11_marries_28 : decode cX11_marries 28 = .ok (.istore_n 1, 1) := by decide +kernel
theorem dX11_marries_29 : decode cX11_marries 29 = .ok (.iload_n 1, 1) := by decide +kernel
theorem dX11_marries_30 : decode cX11_marries 30 = .ok (.iconst 1, 1) := by decide +kernel
theorem dX11_marries_31 : decode cX11_marries 31 = .ok (.aload_n 0, 1) := by decide +kernel
theorem dX11_marries_32 : decode cX11_marries 32 = .ok (.invokevirtual 107, 3) := by decide +kernel
theorem dX11_marries_35 : decode cX11_marries 35 = .ok (.ishl, 1) := by decide +kernel
theorem dX11_marries_36 : decode cX11_marries 36 = .ok (.if_icmp .ge 112, 3) := by decide +kernel
theorem dX11_marries_39 : decode cX11_marries 39 = .ok (.iload_n 1, 1) := by decide +kernel
theorem dX11_marries_40 : decode cX11_marries 40 = .ok (.invokestatic 401, 3) := by decide +kernel
theorem dX11_marries_43 : decode cX11_marries 43 = .ok (.istore_n 2, 1) := by decide +kernel
theorem dX11_marries_44 : decode cX11_marries 44 = .ok (.aload_n 0, 1) := by decide +kernel
theorem dX11_marries_45 : decode cX11_marries 45 = .ok (.getfield 92, 3) := by decide +kernel
theorem dX11_marries_48 : decode cX11_marries 48 = .ok (.iload_n 1, 1) := by decide +kernel
theorem dX11_marries_49 : decode cX11_marries 49 = .ok (.iload_n 1, 1) := by decide +kernel
theorem dX11_marries_50 : decode cX11_marries 50 = .ok (.ifCond .ne 7, 3) := by decide +kernel
theorem dX11_marries_53 : decode cX11_marries 53 = .ok (.iconst 0, 1) := by decide +kernel
theorem dX11_marries_54 : decode cX11_marries 54 = .ok (.goto 13, 3) := by decide +kernel
theorem dX11_marries_57 : decode cX11_marries 57 = .ok (.aload_n 0, 1) := by decide +kernel
theorem dX11_marries_58 : decode cX11_marries 58 = .ok (.getfield 92, 3) := by decide +kernel
theorem dX11_marries_61 : decode cX11_marries 61 = .ok (.iload_n 1, 1) := by decide +kernel
theorem dX11_marries_62 : decode cX11_marries 62 = .ok (.iload_n 1, 1) := by decide +kernel
theorem dX11_marries_63 : decode cX11_marries 63 = .ok (.iconst 1, 1) := by decide +kernel
theorem dX11_marries_64 : decode cX11_marries 64 = .ok (.isub, 1) := by decide +kernel
theorem dX11_marries_65 : decode cX11_marries 65 = .ok (.iand, 1) := by decide +kernel
theorem dX11_marries_66 : decode cX11_marries 66 = .ok (.iaload, 1) := by decide +kernel
theorem dX11_marries_67 : decode cX11_marries 67 = .ok (.iastore, 1) := by decide +kernel
theorem dX11_marries_68 : decode cX11_marries 68 = .ok (.iload_n 2, 1) := by decide +kernel
theorem dX11_marries_69 : decode cX11_marries 69 = .ok (.iconst 1, 1) := by decide +kernel
theorem dX11_marries_70 : decode cX11_marries 70 = .ok (.iadd, 1) := by decide +kernel
theorem dX11_marries_71 : decode cX11_marries 71 = .ok (.istore_n 3, 1) := by decide +kernel
theorem dX11_marries_72 : decode cX11_marries 72 = .ok (.iload_n 3, 1) := by decide +kernel
theorem dX11_marries_73 : decode cX11_marries 73 = .ok (.aload_n 0, 1) := by decide +kernel
theorem dX11_marries_74 : decode cX11_marries 74 = .ok (.invokevirtual 107, 3) := by decide +kernel
theorem dX11_marries_77 : decode cX11_marries 77 = .ok (.if_icmp .ge 65, 3) := by decide +kernel
theorem dX11_marries_80 : decode cX11_marries 80 = .ok (.iload_n 1, 1) := by decide +kernel
theorem dX11_marries_81 : decode cX11_marries 81 = .ok (.iload_n 3, 1) := by decide +kernel
theorem dX11_marries_82 : decode cX11_marries 82 = .ok (.invokestatic 103, 3) := by decide +kernel
theorem dX11_marries_85 : decode cX11_marries 85 = .ok (.ifCond .eq 51, 3) := by decide +kernel
theorem dX11_marries_88 : decode cX11_marries 88 = .ok (.aload_n 0, 1) := by decide +kernel
theorem dX11_marries_89 : decode cX11_marries 89 = .ok (.getfield 89, 3) := by decide +kernel
theorem dX11_marries_92 : decode cX11_marries 92 = .ok (.iload_n 2, 1) := by decide +kernel
theorem dX11_marries_93 : decode cX11_marries 93 = .ok (.iaload, 1) := by decide +kernel
theorem dX11_marries_94 : decode cX11_marries 94 = .ok (.iload_n 3, 1) := by decide +kernel
theorem dX11_marries_95 : decode cX11_marries 95 = .ok (.invokestatic 103, 3) := by decide +kernel
theorem dX11_marries_98 : decode cX11_marries 98 = .ok (.ifCond .eq 38, 3) := by decide +kernel
theorem dX11_marries_101 : decode cX11_marries 101 = .ok (.aload_n 0, 1) := by decide +kernel
theorem dX11_marries_102 : decode cX11_marries 102 = .ok (.getfield 89, 3) := by decide +kernel
theorem dX11_marries_105 : decode cX11_marries 105 = .ok (.iload_n 3, 1) := by decide +kernel
theorem dX11_marries_106 : decode cX11_marries 106 = .ok (.iaload, 1) := by decide +kernel
theorem dX11_marries_107 : decode cX11_marries 107 = .ok (.iload_n 2, 1) := by decide +kernel
theorem dX11_marries_108 : decode cX11_marries 108 = .ok (.invokestatic 103, 3) := by decide +kernel
theorem dX11_marries_111 : decode cX11_marries 111 = .ok (.ifCond .eq 25, 3) := by decide +kernel
theorem dX11_marries_114 : decode cX11_marries 114 = .ok (.aload_n 0, 1) := by decide +kernel
theorem dX11_marries_115 : decode cX11_marries 115 = .ok (.getfield 92, 3) := by decide +kernel
theorem dX11_marries_118 : decode cX11_marries 118 = .ok (.iload_n 1, 1) := by decide +kernel
theorem dX11_marries_119 : decode cX11_marries 119 = .ok (.aload_n 0, 1) := by decide +kernel
theorem dX11_marries_120 : decode cX11_marries 120 = .ok (.getfield 92, 3) := by decide +kernel
theorem dX11_marries_123 : decode cX11_marries 123 = .ok (.iload_n 1, 1) := by decide +kernel
theorem dX11_marries_124 : decode cX11_marries 124 = .ok (.iaload, 1) := by decide +kernel
theorem dX11_marries_125 : decode cX11_marries 125 = .ok (.aload_n 0, 1) := by decide +kernel
theorem dX11_marries_126 : decode cX11_marries 126 = .ok (.iload_n 1, 1) := by decide +kernel
theorem dX11_marries_127 : decode cX11_marries 127 = .ok (.iload_n 2, 1) := by decide +kernel
theorem dX11_marries_128 : decode cX11_marries 128 = .ok (.iload_n 3, 1) := by decide +kernel
theorem dX11_marries_129 : decode cX11_marries 129 = .ok (.invokevirtual 467, 3) := by decide +kernel
theorem dX11_marries_132 : decode cX11_marries 132 = .ok (.invokestatic 448, 3) := by decide +kernel
theorem dX11_marries_135 : decode cX11_marries 135 = .ok (.iastore, 1) := by decide +kernel
theorem dX11_marries_136 : decode cX11_marries 136 = .ok (.iinc 3 1, 3) := by decide +kernel
theorem dX11_marries_139 : decode cX11_marries 139 = .ok (.goto (-67), 3) := by decide +kernel
theorem dX11_marries_142 : decode cX11_marries 142 = .ok (.iinc 1 1, 3) := by decide +kernel
theorem dX11_marries_145 : decode cX11_marries 145 = .ok (.goto (-116), 3) := by decide +kernel
theorem dX11_marries_148 : decode cX11_marries 148 = .ok (.return_, 1) := by decide +kernel
theorem dX11_married_0 : decode cX11_married 0 = .ok (.aload_n 0, 1) := by decide +kernel
theorem dX11_married_1 : decode cX11_married 1 = .ok (.iconst 0, 1) := by decide +kernel
theorem dX11_married_2 : decode cX11_married 2 = .ok (.putfield 3, 3) := by decide +kernel
theorem dX11_married_5 : decode cX11_married 5 = .ok (.aload_n 0, 1) := by decide +kernel
theorem dX11_married_6 : decode cX11_married 6 = .ok (.iload_n 1, 1) := by decide +kernel
theorem dX11_married_7 : decode cX11_married 7 = .ok (.iconst (-1), 1) := by decide +kernel
theorem dX11_married_8 : decode cX11_married 8 = .ok (.if_icmp .eq 15, 3) := by decide +kernel
theorem dX11_married_11 : decode cX11_married 11 = .ok (.aload_n 0, 1) := by decide +kernel
theorem dX11_married_12 : decode cX11_married 12 = .ok (.iload_n 1, 1) := by decide +kernel
theorem dX11_married_13 : decode cX11_married 13 = .ok (.invokevirtual 359, 3) := by decide +kernel
theorem dX11_married_16 : decode cX11_married 16 = .ok (.ifCond .eq 7, 3) := by decide +kernel
theorem dX11_married_19 : decode cX11_married 19 = .ok (.iconst 1, 1) := by decide +kernel
theorem dX11_married_20 : decode cX11_married 20 = .ok (.goto 4, 3) := by decide +kernel
theorem dX11_married_23 : decode cX11_married 23 = .ok (.iconst 0, 1) := by decide +kernel
theorem dX11_married_24 : decode cX11_married 24 = .ok (.iconst 1, 1) := by decide +kernel
theorem dX11_married_25 : decode cX11_married 25 = .ok (.invokevirtual 322, 3) := by decide +kernel
theorem dX11_married_28 : decode cX11_married 28 = .ok (.ifCond .eq 5, 3) := by decide +kernel
theorem dX11_married_31 : decode cX11_married 31 = .ok (.iconst 0, 1) := by decide +kernel
theorem dX11_married_32 : decode cX11_married 32 = .ok (.ireturn, 1) := by decide +kernel
theorem dX11_married_33 : decode cX11_married 33 = .ok (.aload_n 0, 1) := by decide +kernel
theorem dX11_married_34 : decode cX11_married 34 = .ok (.invokevirtual 470, 3) := by decide +kernel
theorem dX11_married_37 : decode cX11_married 37 = .ok (.iconst 1, 1) := by decide +kernel
theorem dX11_married_38 : decode cX11_married 38 = .ok (.aload_n 0, 1) := by decide +kernel
theorem dX11_married_39 : decode cX11_married 39 = .ok (.invokevirtual 107, 3) := by decide +kernel
theorem dX11_married_42 : decode cX11_married 42 = .ok (.ishl, 1) := by decide +kernel
theorem dX11_married_43 : decode cX11_married 43 = .ok (.iconst 1, 1) := by decide +kernel
theorem dX11_married_44 : decode cX11_married 44 = .ok (.isub, 1) := by decide +kernel
theorem dX11_married_45 : decode cX11_married 45 = .ok (.istore_n 2, 1) := by decide +kernel
theorem dX11_married_46 : decode cX11_married 46 = .ok (.iload_n 1, 1) := by decide +kernel
theorem dX11_married_47 : decode cX11_married 47 = .ok (.iconst (-1), 1) := by decide +kernel
theorem dX11_married_48 : decode cX11_married 48 = .ok (.if_icmp .ne 10, 3) := by decide +kernel
theorem dX11_married_51 : decode cX11_married 51 = .ok (.aload_n 0, 1) := by decide +kernel
theorem dX11_married_52 : decode cX11_married 52 = .ok (.getfield 92, 3) := by decide +kernel
theorem dX11_married_55 : decode cX11_married 55 = .ok (.iload_n 2, 1) := by decide +kernel
theorem dX11_married_56 : decode cX11_married 56 = .ok (.iaload, 1) := by decide +kernel
theorem dX11_married_57 : decode cX11_married 57 = .ok (.ireturn, 1) := by decide +kernel
theorem dX11_married_58 : decode cX11_married 58 = .ok (.iload_n 2, 1) := by decide +kernel
theorem dX11_married_59 : decode cX11_married 59 = .ok (.ifCond .eq 153, 3) := by decide +kernel
theorem dX11_married_62 : decode cX11_married 62 = .ok (.iload_n 2, 1) := by decide +kernel
theorem dX11_married_63 : decode cX11_married 63 = .ok (.invokestatic 401, 3) := by decide +kernel
theorem dX11_married_66 : decode cX11_married 66 = .ok (.istore_n 3, 1) := by decide +kernel
theorem dX11_married_67 : decode cX11_married 67 = .ok (.iload_n 3, 1) := by decide +kernel
theorem dX11_married_68 : decode cX11_married 68 = .ok (.iconst 1, 1) := by decide +kernel
theorem dX11_married_69 : decode cX11_married 69 = .ok (.iadd, 1) := by decide +kernel
theorem dX11_married_70 : decode cX11_married 70 = .ok (.istore 4, 2) := by decide +kernel
theorem dX11_married_72 : decode cX11_married 72 = .ok (.iload 4, 2) := by decide +kernel
theorem dX11_married_74 : decode cX11_married 74 = .ok (.aload_n 0, 1) := by decide +kernel
theorem dX11_married_75 : decode cX11_married 75 = .ok (.invokevirtual 107, 3) := by decide +kernel
theorem dX11_married_78 : decode cX11_married 78 = .ok (.if_icmp .ge 63, 3) := by decide +kernel
theorem dX11_married_81 : decode cX11_married 81 = .ok (.iload_n 2, 1) := by decide +kernel
theorem dX11_married_82 : decode cX11_married 82 = .ok (.iload 4, 2) := by decide +kernel
theorem dX11_married_84 : decode cX11_married 84 = .ok (.invokestatic 103, 3) := by decide +kernel
theorem dX11_married_87 : decode cX11_married 87 = .ok (.ifCond .eq 48, 3) := by decide +kernel
theorem dX11_married_90 : decode cX11_married 90 = .ok (.aload_n 0, 1) := by decide +kernel
theorem dX11_married_91 : decode cX11_married 91 = .ok (.getfield 89, 3) := by decide +kernel
theorem dX11_married_94 : decode cX11_married 94 = .ok (.iload_n 3, 1) := by decide +kernel
theorem dX11_married_95 : decode cX11_married 95 = .ok (.iaload, 1) := by decide +kernel
theorem dX11_married_96 : decode cX11_married 96 = .ok (.iload 4, 2) := by decide +kernel
theorem dX11_married_98 : decode cX11_married 98 = .ok (.invokestatic 103, 3) := by decide +kernel
theorem dX11_married_101 : decode cX11_married 101 = .ok (.ifCond .eq 34, 3) := by decide +kernel
theorem dX11_married_104 : decode cX11_married 104 = .ok (.aload_n 0, 1) := by decide +kernel
theorem dX11_married_105 : decode cX11_married 105 = .ok (.getfield 89, 3) := by decide +kernel
theorem dX11_married_108 : decode cX11_married 108 = .ok (.iload 4, 2) := by decide +kernel
theorem dX11_married_110 : decode cX11_married 110 = .ok (.iaload, 1) := by decide +kernel
theorem dX11_married_111 : decode cX11_married 111 = .ok (.iload_n 3, 1) := by decide +kernel
theorem dX11_married_112 : decode cX11_married 112 = .ok (.invokestatic 103, 3) := by decide +kernel
theorem dX11_married_115 : decode cX11_married 115 = .ok (.ifCond .eq 20, 3) := by decide +kernel
theorem dX11_married_118 : decode cX11_married 118 = .ok (.aload_n 0, 1) := by decide +kernel
theorem dX11_married_119 : decode cX11_married 119 = .ok (.iload_n 2, 1) := by decide +kernel
theorem dX11_married_120 : decode cX11_married 120 = .ok (.iload_n 3, 1) := by decide +kernel
theorem dX11_married_121 : decode cX11_married 121 = .ok (.iload 4, 2) := by decide +kernel
theorem dX11_married_123 : decode cX11_married 123 = .ok (.invokevirtual 467, 3) := by decide +kernel
theorem dX11_married_126 : decode cX11_married 126 = .ok (.aload_n 0, 1) := by decide +kernel
theorem dX11_married_127 : decode cX11_married 127 = .ok (.getfield 92, 3) := by decide +kernel
theorem dX11_married_130 : decode cX11_married 130 = .ok (.iload_n 2, 1) := by decide +kernel
theorem dX11_married_131 : decode cX11_married 131 = .ok (.iaload, 1) := by decide +kernel
theorem dX11_married_132 : decode cX11_married 132 = .ok (.if_icmp .eq 9, 3) := by decide +kernel
theorem dX11_married_135 : decode cX11_married 135 = .ok (.iinc 4 1, 3) := by decide +kernel
theorem dX11_married_138 : decode cX11_married 138 = .ok (.goto (-66), 3) := by decide +kernel
theorem dX11_married_141 : decode cX11_married 141 = .ok (.iload_n 3, 1) := by decide +kernel
theorem dX11_married_142 : decode cX11_married 142 = .ok (.iload_n 1, 1) := by decide +kernel
theorem dX11_married_143 : decode cX11_married 143 = .ok (.if_icmp .eq 9, 3) := by decide +kernel
theorem dX11_married_146 : decode cX11_married 146 = .ok (.iload 4, 2) := by decide +kernel
theorem dX11_married_148 : decode cX11_married 148 = .ok (.iload_n 1, 1) := by decide +kernel
theorem dX11_married_149 : decode cX11_married 149 = .ok (.if_icmp .ne 28, 3) := by decide +kernel
theorem dX11_married_152 : decode cX11_married 152 = .ok (.iload 4, 2) := by decide +kernel
theorem dX11_married_154 : decode cX11_married 154 = .ok (.aload_n 0, 1) := by decide +kernel
theorem dX11_married_155 : decode cX11_married 155 = .ok (.invokevirtual 107, 3) := by decide +kernel
theorem dX11_married_158 : decode cX11_married 158 = .ok (.if_icmp .ne 7, 3) := by decide +kernel
theorem dX11_married_161 : decode cX11_married 161 = .ok (.iconst (-1), 1) := by decide +kernel
theorem dX11_married_162 : decode cX11_married 162 = .ok (.goto 14, 3) := by decide +kernel
theorem dX11_married_165 : decode cX11_married 165 = .ok (.iload_n 3, 1) := by decide +kernel
theorem dX11_married_166 : decode cX11_married 166 = .ok (.iload_n 1, 1) := by decide +kernel
theorem dX11_married_167 : decode cX11_married 167 = .ok (.if_icmp .ne 8, 3) := by decide +kernel
theorem dX11_married_170 : decode cX11_married 170 = .ok (.iload 4, 2) := by decide +kernel
theorem dX11_married_172 : decode cX11_married 172 = .ok (.goto 4, 3) := by decide +kernel
theorem dX11_married_175 : decode cX11_married 175 = .ok (.iload_n 3, 1) := by decide +kernel
theorem dX11_married_176 : decode cX11_married 176 = .ok (.ireturn, 1) := by decide +kernel
theorem dX11_married_177 : decode cX11_married 177 = .ok (.iload_n 2, 1) := by decide +kernel
theorem dX11_married_178 : decode cX11_married 178 = .ok (.iload 4, 2) := by decide +kernel
theorem dX11_married_180 : decode cX11_married 180 = .ok (.aload_n 0, 1) := by decide +kernel
theorem dX11_married_181 : decode cX11_married 181 = .ok (.invokevirtual 107, 3) := by decide +kernel
theorem dX11_married_184 : decode cX11_married 184 = .ok (.if_icmp .ne 11, 3) := by decide +kernel
theorem dX11_married_187 : decode cX11_married 187 = .ok (.iconst 1, 1) := by decide +kernel
theorem dX11_married_188 : decode cX11_married 188 = .ok (.iload_n 3, 1) := by decide +kernel
theorem dX11_married_189 : decode cX11_married 189 = .ok (.ishl, 1) := by decide +kernel
theorem dX11_married_190 : decode cX11_married 190 = .ok (.iconst (-1), 1) := by decide +kernel
theorem dX11_married_191 : decode cX11_married 191 = .ok (.ixor, 1) := by decide +kernel
theorem dX11_married_192 : decode cX11_married 192 = .ok (.goto 15, 3) := by decide +kernel
theorem dX11_married_195 : decode cX11_married 195 = .ok (.iconst 1, 1) := by decide +kernel
theorem dX11_married_196 : decode cX11_married 196 = .ok (.iload_n 3, 1) := by decide +kernel
theorem dX11_married_197 : decode cX11_married 197 = .ok (.ishl, 1) := by decide +kernel
theorem dX11_married_198 : decode cX11_married 198 = .ok (.iconst (-1), 1) := by decide +kernel
theorem dX11_married_199 : decode cX11_married 199 = .ok (.ixor, 1) := by decide +kernel
theorem dX11_married_200 : decode cX11_married 200 = .ok (.iconst 1, 1) := by decide +kernel
theorem dX11_married_201 : decode cX11_married 201 = .ok (.iload 4, 2) := by decide +kernel
theorem dX11_married_203 : decode cX11_married 203 = .ok (.ishl, 1) := by decide +kernel
theorem dX11_married_204 : decode cX11_married 204 = .ok (.iconst (-1), 1) := by decide +kernel
theorem dX11_married_205 : decode cX11_married 205 = .ok (.ixor, 1) := by decide +kernel
theorem dX11_married_206 : decode cX11_married 206 = .ok (.iand, 1) := by decide +kernel
theorem dX11_married_207 : decode cX11_married 207 = .ok (.iand, 1) := by decide +kernel
theorem dX11_married_208 : decode cX11_married 208 = .ok (.istore_n 2, 1) := by decide +kernel
theorem dX11_married_209 : decode cX11_married 209 = .ok (.goto (-151), 3) := by decide +kernel
theorem dX11_married_212 : decode cX11_married 212 = .ok (.iconst (-1), 1) := by decide +kernel
theorem dX11_married_213 : decode cX11_married 213 = .ok (.ireturn, 1) := by decide +kernel
theorem dX11_led_0 : decode cX11_led 0 = .ok (.aload_n 0, 1) := by decide +kernel
theorem dX11_led_1 : decode cX11_led 1 = .ok (.iconst 0, 1) := by decide +kernel
theorem dX11_led_2 : decode cX11_led 2 = .ok (.putfield 3, 3) := by decide +kernel
theorem dX11_led_5 : decode cX11_led 5 = .ok (.aload_n 0, 1) := by decide +kernel
theorem dX11_led_6 : decode cX11_led 6 = .ok (.aload_n 0, 1) := by decide +kernel
theorem dX11_led_7 : decode cX11_led 7 = .ok (.iload_n 1, 1) := by decide +kernel
theorem dX11_led_8 : decode cX11_led 8 = .ok (.invokevirtual 359, 3) := by decide +kernel
theorem dX11_led_11 : decode cX11_led 11 = .ok (.iconst 1, 1) := by decide +kernel
theorem dX11_led_12 : decode cX11_led 12 = .ok (.invokevirtual 322, 3) := by decide +kernel
theorem dX11_led_15 : decode cX11_led 15 = .ok (.ifCond .eq 5, 3) := by decide +kernel
theorem dX11_led_18 : decode cX11_led 18 = .ok (.iconst 0, 1) := by decide +kernel
theorem dX11_led_19 : decode cX11_led 19 = .ok (.ireturn, 1) := by decide +kernel
theorem dX11_led_20 : decode cX11_led 20 = .ok (.iconst 0, 1) := by decide +kernel
theorem dX11_led_21 : decode cX11_led 21 = .ok (.istore_n 2, 1) := by decide +kernel
theorem dX11_led_22 : decode cX11_led 22 = .ok (.iload_n 2, 1) := by decide +kernel
theorem dX11_led_23 : decode cX11_led 23 = .ok (.aload_n 0, 1) := by decide +kernel
theorem dX11_led_24 : decode cX11_led 24 = .ok (.getfield 13, 3) := by decide +kernel
theorem dX11_led_27 : decode cX11_led 27 = .ok (.bipush 9, 2) := by decide +kernel
theorem dX11_led_29 : decode cX11_led 29 = .ok (.iaload, 1) := by decide +kernel
theorem dX11_led_30 : decode cX11_led 30 = .ok (.if_icmp .ge 30, 3) := by decide +kernel
theorem dX11_led_33 : decode cX11_led 33 = .ok (.aload_n 0, 1) := by decide +kernel
theorem dX11_led_34 : decode cX11_led 34 = .ok (.getfield 13, 3) := by decide +kernel
theorem dX11_led_37 : decode cX11_led 37 = .ok (.sipush 5140, 3) := by decide +kernel
theorem dX11_led_40 : decode cX11_led 40 = .ok (.iconst 5, 1) := by decide +kernel
theorem dX11_led_41 : decode cX11_led 41 = .ok (.iload_n 2, 1) := by decide +kernel
theorem dX11_led_42 : decode cX11_led 42 = .ok (.imul, 1) := by decide +kernel
theorem dX11_led_43 : decode cX11_led 43 = .ok (.iadd, 1) := by decide +kernel
theorem dX11_led_44 : decode cX11_led 44 = .ok (.iconst 4, 1) := by decide +kernel
theorem dX11_led_45 : decode cX11_led 45 = .ok (.iadd, 1) := by decide +kernel
theorem dX11_led_46 : decode cX11_led 46 = .ok (.iaload, 1) := by decide +kernel
theorem dX11_led_47 : decode cX11_led 47 = .ok (.iload_n 1, 1) := by decide +kernel
theorem dX11_led_48 : decode cX11_led 48 = .ok (.invokestatic 103, 3) := by decide +kernel
theorem dX11_led_51 : decode cX11_led 51 = .ok (.ifCond .eq 9, 3) := by decide +kernel
theorem dX11_led_54 : decode cX11_led 54 = .ok (.iinc 2 1, 3) := by decide +kernel
theorem dX11_led_57 : decode cX11_led 57 = .ok (.goto (-35), 3) := by decide +kernel
theorem dX11_led_60 : decode cX11_led 60 = .ok (.iload_n 2, 1) := by decide +kernel
theorem dX11_led_61 : decode cX11_led 61 = .ok (.ifCond .ne 7, 3) := by decide +kernel
theorem dX11_led_64 : decode cX11_led 64 = .ok (.iconst (-1), 1) := by decide +kernel
theorem dX11_led_65 : decode cX11_led 65 = .ok (.goto 6, 3) := by decide +kernel
theorem dX11_led_68 : decode cX11_led 68 = .ok (.iload_n 2, 1) := by decide +kernel
theorem dX11_led_69 : decode cX11_led 69 = .ok (.iconst 1, 1) := by decide +kernel
theorem dX11_led_70 : decode cX11_led 70 = .ok (.isub, 1) := by decide +kernel
theorem dX11_led_71 : decode cX11_led 71 = .ok (.ireturn, 1) := by decide +kernel
theorem dX11_widest_0 : decode cX11_widest 0 = .ok (.aload_n 0, 1) := by decide +kernel
theorem dX11_widest_1 : decode cX11_widest 1 = .ok (.iconst 0, 1) := by decide +kernel
theorem dX11_widest_2 : decode cX11_widest 2 = .ok (.putfield 3, 3) := by decide +kernel
theorem dX11_widest_5 : decode cX11_widest 5 = .ok (.iconst (-1), 1) := by decide +kernel
theorem dX11_widest_6 : decode cX11_widest 6 = .ok (.istore_n 1, 1) := by decide +kernel
theorem dX11_widest_7 : decode cX11_widest 7 = .ok (.iconst 0, 1) := by decide +kernel
theorem dX11_widest_8 : decode cX11_widest 8 = .ok (.istore_n 2, 1) := by decide +kernel
theorem dX11_widest_9 : decode cX11_widest 9 = .ok (.iload_n 2, 1) := by decide +kernel
theorem dX11_widest_10 : decode cX11_widest 10 = .ok (.aload_n 0, 1) := by decide +kernel
theorem dX11_widest_11 : decode cX11_widest 11 = .ok (.invokevirtual 107, 3) := by decide +kernel
theorem dX11_widest_14 : decode cX11_widest 14 = .ok (.if_icmp .ge 36, 3) := by decide +kernel
theorem dX11_widest_17 : decode cX11_widest 17 = .ok (.iload_n 1, 1) := by decide +kernel
theorem dX11_widest_18 : decode cX11_widest 18 = .ok (.ifCond .lt 24, 3) := by decide +kernel
theorem dX11_widest_21 : decode cX11_widest 21 = .ok (.aload_n 0, 1) := by decide +kernel
theorem dX11_widest_22 : decode cX11_widest 22 = .ok (.iload_n 2, 1) := by decide +kernel
theorem dX11_widest_23 : decode cX11_widest 23 = .ok (.aload_n 0, 1) := by decide +kernel
theorem dX11_widest_24 : decode cX11_widest 24 = .ok (.invokevirtual 121, 3) := by decide +kernel
theorem dX11_widest_27 : decode cX11_widest 27 = .ok (.invokevirtual 392, 3) := by decide +kernel
theorem dX11_widest_30 : decode cX11_widest 30 = .ok (.aload_n 0, 1) := by decide +kernel
theorem dX11_widest_31 : decode cX11_widest 31 = .ok (.iload_n 1, 1) := by decide +kernel
theorem dX11_widest_32 : decode cX11_widest 32 = .ok (.aload_n 0, 1) := by decide +kernel
theorem dX11_widest_33 : decode cX11_widest 33 = .ok (.invokevirtual 121, 3) := by decide +kernel
theorem dX11_widest_36 : decode cX11_widest 36 = .ok (.invokevirtual 392, 3) := by decide +kernel
theorem dX11_widest_39 : decode cX11_widest 39 = .ok (.if_icmp .le 5, 3) := by decide +kernel
theorem dX11_widest_42 : decode cX11_widest 42 = .ok (.iload_n 2, 1) := by decide +kernel
theorem dX11_widest_43 : decode cX11_widest 43 = .ok (.istore_n 1, 1) := by decide +kernel
theorem dX11_widest_44 : decode cX11_widest 44 = .ok (.iinc 2 1, 3) := by decide +kernel
theorem dX11_widest_47 : decode cX11_widest 47 = .ok (.goto (-38), 3) := by decide +kernel
theorem dX11_widest_50 : decode cX11_widest 50 = .ok (.iload_n 1, 1) := by decide +kernel
theorem dX11_widest_51 : decode cX11_widest 51 = .ok (.ireturn, 1) := by decide +kernel
theorem dX11_possibleAll_0 : decode cX11_possibleAll 0 = .ok (.iconst 0, 1) := by decide +kernel
theorem dX11_possibleAll_1 : decode cX11_possibleAll 1 = .ok (.istore_n 2, 1) := by decide +kernel
theorem dX11_possibleAll_2 : decode cX11_possibleAll 2 = .ok (.iconst 0, 1) := by decide +kernel
theorem dX11_possibleAll_3 : decode cX11_possibleAll 3 = .ok (.istore_n 3, 1) := by decide +kernel
theorem dX11_possibleAll_4 : decode cX11_possibleAll 4 = .ok (.iload_n 3, 1) := by decide +kernel
theorem dX11_possibleAll_5 : decode cX11_possibleAll 5 = .ok (.aload_n 0, 1) := by decide +kernel
theorem dX11_possibleAll_6 : decode cX11_possibleAll 6 = .ok (.invokevirtual 107, 3) := by decide +kernel
theorem dX11_possibleAll_9 : decode cX11_possibleAll 9 = .ok (.if_icmp .ge 25, 3) := by decide +kernel
theorem dX11_possibleAll_12 : decode cX11_possibleAll 12 = .ok (.iload_n 2, 1) := by decide +kernel
theorem dX11_possibleAll_13 : decode cX11_possibleAll 13 = .ok (.aload_n 0, 1) := by decide +kernel
theorem dX11_possibleAll_14 : decode cX11_possibleAll 14 = .ok (.iload_n 1, 1) := by decide +kernel
theorem dX11_possibleAll_15 : decode cX11_possibleAll 15 = .ok (.iload_n 3, 1) := by decide +kernel
theorem dX11_possibleAll_16 : decode cX11_possibleAll 16 = .ok (.aload_n 0, 1) := by decide +kernel
theorem dX11_possibleAll_17 : decode cX11_possibleAll 17 = .ok (.invokevirtual 121, 3) := by decide +kernel
theorem dX11_possibleAll_20 : decode cX11_possibleAll 20 = .ok (.invokevirtual 139, 3) := by decide +kernel
theorem dX11_possibleAll_23 : decode cX11_possibleAll 23 = .ok (.invokestatic 418, 3) := by decide +kernel
theorem dX11_possibleAll_26 : decode cX11_possibleAll 26 = .ok (.iadd, 1) := by decide +kernel
theorem dX11_possibleAll_27 : decode cX11_possibleAll 27 = .ok (.istore_n 2, 1) := by decide +kernel
theorem dX11_possibleAll_28 : decode cX11_possibleAll 28 = .ok (.iinc 3 1, 3) := by decide +kernel
theorem dX11_possibleAll_31 : decode cX11_possibleAll 31 = .ok (.goto (-27), 3) := by decide +kernel
theorem dX11_possibleAll_34 : decode cX11_possibleAll 34 = .ok (.iload_n 2, 1) := by decide +kernel
theorem dX11_possibleAll_35 : decode cX11_possibleAll 35 = .ok (.ireturn, 1) := by decide +kernel
theorem dX11_under_0 : decode cX11_under 0 = .ok (.aload_n 0, 1) := by decide +kernel
theorem dX11_under_1 : decode cX11_under 1 = .ok (.iconst 0, 1) := by decide +kernel
theorem dX11_under_2 : decode cX11_under 2 = .ok (.putfield 3, 3) := by decide +kernel
theorem dX11_under_5 : decode cX11_under 5 = .ok (.iconst (-1), 1) := by decide +kernel
theorem dX11_under_6 : decode cX11_under 6 = .ok (.istore_n 1, 1) := by decide +kernel
theorem dX11_under_7 : decode cX11_under 7 = .ok (.iconst 0, 1) := by decide +kernel
theorem dX11_under_8 : decode cX11_under 8 = .ok (.istore_n 2, 1) := by decide +kernel
theorem dX11_under_9 : decode cX11_under 9 = .ok (.iload_n 2, 1) := by decide +kernel
theorem dX11_under_10 : decode cX11_under 10 = .ok (.aload_n 0, 1) := by decide +kernel
theorem dX11_under_11 : decode cX11_under 11 = .ok (.invokevirtual 107, 3) := by decide +kernel
theorem dX11_under_14 : decode cX11_under 14 = .ok (.if_icmp .ge 28, 3) := by decide +kernel
theorem dX11_under_17 : decode cX11_under 17 = .ok (.iload_n 1, 1) := by decide +kernel
theorem dX11_under_18 : decode cX11_under 18 = .ok (.ifCond .lt 16, 3) := by decide +kernel
theorem dX11_under_21 : decode cX11_under 21 = .ok (.aload_n 0, 1) := by decide +kernel
theorem dX11_under_22 : decode cX11_under 22 = .ok (.iload_n 2, 1) := by decide +kernel
theorem dX11_under_23 : decode cX11_under 23 = .ok (.invokevirtual 473, 3) := by decide +kernel
theorem dX11_under_26 : decode cX11_under 26 = .ok (.aload_n 0, 1) := by decide +kernel
theorem dX11_under_27 : decode cX11_under 27 = .ok (.iload_n 1, 1) := by decide +kernel
theorem dX11_under_28 : decode cX11_under 28 = .ok (.invokevirtual 473, 3) := by decide +kernel
theorem dX11_under_31 : decode cX11_under 31 = .ok (.if_icmp .ge 5, 3) := by decide +kernel
theorem dX11_under_34 : decode cX11_under 34 = .ok (.iload_n 2, 1) := by decide +kernel
theorem dX11_under_35 : decode cX11_under 35 = .ok (.istore_n 1, 1) := by decide +kernel
theorem dX11_under_36 : decode cX11_under 36 = .ok (.iinc 2 1, 3) := by decide +kernel
theorem dX11_under_39 : decode cX11_under 39 = .ok (.goto (-30), 3) := by decide +kernel
theorem dX11_under_42 : decode cX11_under 42 = .ok (.iload_n 1, 1) := by decide +kernel
theorem dX11_under_43 : decode cX11_under 43 = .ok (.ireturn, 1) := by decide +kernel
theorem dX11_log_0 : decode cX11_log 0 = .ok (.aload_n 0, 1) := by decide +kernel
theorem dX11_log_1 : decode cX11_log 1 = .ok (.iconst 0, 1) := by decide +kernel
theorem dX11_log_2 : decode cX11_log 2 = .ok (.putfield 3, 3) := by decide +kernel
theorem dX11_log_5 : decode cX11_log 5 = .ok (.aload_n 0, 1) := by decide +kernel
theorem dX11_log_6 : decode cX11_log 6 = .ok (.iload_n 2, 1) := by decide +kernel
theorem dX11_log_7 : decode cX11_log 7 = .ok (.iconst 0, 1) := by decide +kernel
theorem dX11_log_8 : decode cX11_log 8 = .ok (.iconst 4, 1) := by decide +kernel
theorem dX11_log_9 : decode cX11_log 9 = .ok (.invokestatic 111, 3) := by decide +kernel
theorem dX11_log_12 : decode cX11_log 12 = .ok (.ifCond .ne 7, 3) := by decide +kernel
theorem dX11_log_15 : decode cX11_log 15 = .ok (.iconst 1, 1) := by decide +kernel
theorem dX11_log_16 : decode cX11_log 16 = .ok (.goto 4, 3) := by decide +kernel
theorem dX11_log_19 : decode cX11_log 19 = .ok (.iconst 0, 1) := by decide +kernel
theorem dX11_log_20 : decode cX11_log 20 = .ok (.iconst 1, 1) := by decide +kernel
theorem dX11_log_21 : decode cX11_log 21 = .ok (.invokevirtual 322, 3) := by decide +kernel
theorem dX11_log_24 : decode cX11_log 24 = .ok (.ifCond .eq 5, 3) := by decide +kernel
theorem dX11_log_27 : decode cX11_log 27 = .ok (.iconst 0, 1) := by decide +kernel
theorem dX11_log_28 : decode cX11_log 28 = .ok (.ireturn, 1) := by decide +kernel
theorem dX11_log_29 : decode cX11_log 29 = .ok (.iload_n 1, 1) := by decide +kernel
theorem dX11_log_30 : decode cX11_log 30 = .ok (.iconst 0, 1) := by decide +kernel
theorem dX11_log_31 : decode cX11_log 31 = .ok (.aload_n 0, 1) := by decide +kernel
theorem dX11_log_32 : decode cX11_log 32 = .ok (.getfield 13, 3) := by decide +kernel
theorem dX11_log_35 : decode cX11_log 35 = .ok (.bipush 9, 2) := by decide +kernel
theorem dX11_log_37 : decode cX11_log 37 = .ok (.iaload, 1) := by decide +kernel
theorem dX11_log_38 : decode cX11_log 38 = .ok (.iconst 1, 1) := by decide +kernel
theorem dX11_log_39 : decode cX11_log 39 = .ok (.isub, 1) := by decide +kernel
theorem dX11_log_40 : decode cX11_log 40 = .ok (.invokestatic 111, 3) := by decide +kernel
theorem dX11_log_43 : decode cX11_log 43 = .ok (.ifCond .eq 20, 3) := by decide +kernel
theorem dX11_log_46 : decode cX11_log 46 = .ok (.aload_n 0, 1) := by decide +kernel
theorem dX11_log_47 : decode cX11_log 47 = .ok (.getfield 13, 3) := by decide +kernel
theorem dX11_log_50 : decode cX11_log 50 = .ok (.sipush 5140, 3) := by decide +kernel
theorem dX11_log_53 : decode cX11_log 53 = .ok (.iconst 5, 1) := by decide +kernel
theorem dX11_log_54 : decode cX11_log 54 = .ok (.iload_n 1, 1) := by decide +kernel
theorem dX11_log_55 : decode cX11_log 55 = .ok (.imul, 1) := by decide +kernel
theorem dX11_log_56 : decode cX11_log 56 = .ok (.iadd, 1) := by decide +kernel
theorem dX11_log_57 : decode cX11_log 57 = .ok (.iload_n 2, 1) := by decide +kernel
theorem dX11_log_58 : decode cX11_log 58 = .ok (.iadd, 1) := by decide +kernel
theorem dX11_log_59 : decode cX11_log 59 = .ok (.iaload, 1) := by decide +kernel
theorem dX11_log_60 : decode cX11_log 60 = .ok (.goto 4, 3) := by decide +kernel
theorem dX11_log_63 : decode cX11_log 63 = .ok (.iconst (-1), 1) := by decide +kernel
theorem dX11_log_64 : decode cX11_log 64 = .ok (.ireturn, 1) := by decide +kernel
theorem dX11_seed_0 : decode cX11_seed 0 = .ok (.aload_n 0, 1) := by decide +kernel
theorem dX11_seed_1 : decode cX11_seed 1 = .ok (.iconst 0, 1) := by decide +kernel
theorem dX11_seed_2 : decode cX11_seed 2 = .ok (.putfield 3, 3) := by decide +kernel
theorem dX11_seed_5 : decode cX11_seed 5 = .ok (.aload_n 0, 1) := by decide +kernel
theorem dX11_seed_6 : decode cX11_seed 6 = .ok (.getfield 13, 3) := by decide +kernel
theorem dX11_seed_9 : decode cX11_seed 9 = .ok (.iconst 5, 1) := by decide +kernel
theorem dX11_seed_10 : decode cX11_seed 10 = .ok (.iaload, 1) := by decide +kernel
theorem dX11_seed_11 : decode cX11_seed 11 = .ok (.istore_n 2, 1) := by decide +kernel
theorem dX11_seed_12 : decode cX11_seed 12 = .ok (.aload_n 0, 1) := by decide +kernel
theorem dX11_seed_13 : decode cX11_seed 13 = .ok (.getfield 13, 3) := by decide +kernel
theorem dX11_seed_16 : decode cX11_seed 16 = .ok (.iconst 5, 1) := by decide +kernel
theorem dX11_seed_17 : decode cX11_seed 17 = .ok (.iload_n 1, 1) := by decide +kernel
theorem dX11_seed_18 : decode cX11_seed 18 = .ok (.iastore, 1) := by decide +kernel
theorem dX11_seed_19 : decode cX11_seed 19 = .ok (.iload_n 2, 1) := by decide +kernel
theorem dX11_seed_20 : decode cX11_seed 20 = .ok (.ireturn, 1) := by decide +kernel
theorem dX11_count_0 : decode cX11_count 0 = .ok (.aload_n 0, 1) := by decide +kernel
theorem dX11_count_1 : decode cX11_count 1 = .ok (.iconst 0, 1) := by decide +kernel
theorem dX11_count_2 : decode cX11_count 2 = .ok (.putfield 3, 3) := by decide +kernel
theorem dX11_count_5 : decode cX11_count 5 = .ok (.iconst 0, 1) := by decide +kernel
theorem dX11_count_6 : decode cX11_count 6 = .ok (.istore_n 2, 1) := by decide +kernel
theorem dX11_count_7 : decode cX11_count 7 = .ok (.iload_n 1, 1) := by decide +kernel
theorem dX11_count_8 : decode cX11_count 8 = .ok (.tableswitch 173 0 10 #[60, 65, 70, 77, 100, 107, 112, 146, 151, 160, 168], 60) := by decide +kernel
theorem dX11_count_68 : decode cX11_count 68 = .ok (.aload_n 0, 1) := by decide +kernel
theorem dX11_count_69 : decode cX11_count 69 = .ok (.invokevirtual 107, 3) := by decide +kernel
theorem dX11_count_72 : decode cX11_count 72 = .ok (.ireturn, 1) := by decide +kernel
theorem dX11_count_73 : decode cX11_count 73 = .ok (.aload_n 0, 1) := by decide +kernel
theorem dX11_count_74 : decode cX11_count 74 = .ok (.invokevirtual 118, 3) := by decide +kernel
theorem dX11_count_77 : decode cX11_count 77 = .ok (.ireturn, 1) := by decide +kernel
theorem dX11_count_78 : decode cX11_count 78 = .ok (.aload_n 0, 1) := by decide +kernel
theorem dX11_count_79 : decode cX11_count 79 = .ok (.getfield 13, 3) := by decide +kernel
theorem dX11_count_82 : decode cX11_count 82 = .ok (.iconst 2, 1) := by decide +kernel
theorem dX11_count_83 : decode cX11_count 83 = .ok (.iaload, 1) := by decide +kernel
theorem dX11_count_84 : decode cX11_count 84 = .ok (.ireturn, 1) := by decide +kernel
theorem dX11_count_85 : decode cX11_count 85 = .ok (.aload_n 0, 1) := by decide +kernel
theorem dX11_count_86 : decode cX11_count 86 = .ok (.getfield 13, 3) := by decide +kernel
theorem dX11_count_89 : decode cX11_count 89 = .ok (.iconst 3, 1) := by decide +kernel
theorem dX11_count_90 : decode cX11_count 90 = .ok (.iaload, 1) := by decide +kernel
theorem dX11_count_91 : decode cX11_count 91 = .ok (.iconst 1, 1) := by decide +kernel
theorem dX11_count_92 : decode cX11_count 92 = .ok (.if_icmp .ne 14, 3) := by decide +kernel
theorem dX11_count_95 : decode cX11_count 95 = .ok (.aload_n 0, 1) := by decide +kernel
theorem dX11_count_96 : decode cX11_count 96 = .ok (.getfield 13, 3) := by decide +kernel
theorem dX11_count_99 : decode cX11_count 99 = .ok (.sipush 5440, 3) := by decide +kernel
theorem dX11_count_102 : decode cX11_count 102 = .ok (.iaload, 1) := by decide +kernel
theorem dX11_count_103 : decode cX11_count 103 = .ok (.goto 4, 3) := by decide +kernel
theorem dX11_count_106 : decode cX11_count 106 = .ok (.iconst (-1), 1) := by decide +kernel
theorem dX11_count_107 : decode cX11_count 107 = .ok (.ireturn, 1) := by decide +kernel
theorem dX11_count_108 : decode cX11_count 108 = .ok (.aload_n 0, 1) := by decide +kernel
theorem dX11_count_109 : decode cX11_count 109 = .ok (.getfield 13, 3) := by decide +kernel
theorem dX11_count_112 : decode cX11_count 112 = .ok (.iconst 4, 1) := by decide +kernel
theorem dX11_count_113 : decode cX11_count 113 = .ok (.iaload, 1) := by decide +kernel
theorem dX11_count_114 : decode cX11_count 114 = .ok (.ireturn, 1) := by decide +kernel
theorem dX11_count_115 : decode cX11_count 115 = .ok (.aload_n 0, 1) := by decide +kernel
theorem dX11_count_116 : decode cX11_count 116 = .ok (.invokevirtual 115, 3) := by decide +kernel
theorem dX11_count_119 : decode cX11_count 119 = .ok (.ireturn, 1) := by decide +kernel
theorem dX11_count_120 : decode cX11_count 120 = .ok (.iconst 0, 1) := by decide +kernel
theorem dX11_count_121 : decode cX11_count 121 = .ok (.istore_n 3, 1) := by decide +kernel
theorem dX11_count_122 : decode cX11_count 122 = .ok (.iload_n 3, 1) := by decide +kernel
theorem dX11_count_123 : decode cX11_count 123 = .ok (.aload_n 0, 1) := by decide +kernel
theorem dX11_count_124 : decode cX11_count 124 = .ok (.invokevirtual 115, 3) := by decide +kernel
theorem dX11_count_127 : decode cX11_count 127 = .ok (.if_icmp .ge 25, 3) := by decide +kernel
theorem dX11_count_130 : decode cX11_count 130 = .ok (.iload_n 2, 1) := by decide +kernel
theorem dX11_count_131 : decode cX11_count 131 = .ok (.aload_n 0, 1) := by decide +kernel
theorem dX11_count_132 : decode cX11_count 132 = .ok (.iload_n 3, 1) := by decide +kernel
theorem dX11_count_133 : decode cX11_count 133 = .ok (.invokevirtual 128, 3) := by decide +kernel
theorem dX11_count_136 : decode cX11_count 136 = .ok (.ifCond .eq 7, 3) := by decide +kernel
theorem dX11_count_139 : decode cX11_count 139 = .ok (.iconst 1, 1) := by decide +kernel
theorem dX11_count_140 : decode cX11_count 140 = .ok (.goto 4, 3) := by decide +kernel
theorem dX11_count_143 : decode cX11_count 143 = .ok (.iconst 0, 1) := by decide +kernel
theorem dX11_count_144 : decode cX11_count 144 = .ok (.iadd, 1) := by decide +kernel
theorem dX11_count_145 : decode cX11_count 145 = .ok (.istore_n 2, 1) := by decide +kernel
theorem dX11_count_146 : decode cX11_count 146 = .ok (.iinc 3 1, 3) := by decide +kernel
theorem dX11_count_149 : decode cX11_count 149 = .ok (.goto (-27), 3) := by decide +kernel
theorem dX11_count_152 : decode cX11_count 152 = .ok (.iload_n 2, 1) := by decide +kernel
theorem dX11_count_153 : decode cX11_count 153 = .ok (.ireturn, 1) := by decide +kernel
theorem dX11_count_154 : decode cX11_count 154 = .ok (.aload_n 0, 1) := by decide +kernel
theorem dX11_count_155 : decode cX11_count 155 = .ok (.invokevirtual 121, 3) := by decide +kernel
theorem dX11_count_158 : decode cX11_count 158 = .ok (.ireturn, 1) := by decide +kernel
theorem dX11_count_159 : decode cX11_count 159 = .ok (.aload_n 0, 1) := by decide +kernel
theorem dX11_count_160 : decode cX11_count 160 = .ok (.aload_n 0, 1) := by decide +kernel
theorem dX11_count_161 : decode cX11_count 161 = .ok (.invokevirtual 121, 3) := by decide +kernel
theorem dX11_count_164 : decode cX11_count 164 = .ok (.invokevirtual 340, 3) := by decide +kernel
theorem dX11_count_167 : decode cX11_count 167 = .ok (.ireturn, 1) := by decide +kernel
theorem dX11_count_168 : decode cX11_count 168 = .ok (.aload_n 0, 1) := by decide +kernel
theorem dX11_count_169 : decode cX11_count 169 = .ok (.getfield 13, 3) := by decide +kernel
theorem dX11_count_172 : decode cX11_count 172 = .ok (.bipush 9, 2) := by decide +kernel
theorem dX11_count_174 : decode cX11_count 174 = .ok (.iaload, 1) := by decide +kernel
theorem dX11_count_175 : decode cX11_count 175 = .ok (.ireturn, 1) := by decide +kernel
theorem dX11_count_176 : decode cX11_count 176 = .ok (.aload_n 0, 1) := by decide +kernel
theorem dX11_count_177 : decode cX11_count 177 = .ok (.getfield 99, 3) := by decide +kernel
theorem dX11_count_180 : decode cX11_count 180 = .ok (.ireturn, 1) := by decide +kernel
theorem dX11_count_181 : decode cX11_count 181 = .ok (.iconst (-1), 1) := by decide +kernel
theorem dX11_count_182 : decode cX11_count 182 = .ok (.ireturn, 1) := by decide +kernel
