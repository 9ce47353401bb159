theorem zob_0 : zq_ob 0 11 := ⟨_, rfl⟩
theorem zfd_0_0 : zq_fd 0 11 0 (1, 26) := ⟨_, rfl, rfl⟩
theorem zfd_0_1 : zq_fd 0 11 1 (1, 31) := ⟨_, rfl, rfl⟩
theorem zfd_0_2 : zq_fd 0 11 2 (1, 38) := ⟨_, rfl, rfl⟩
theorem zfd_0_3 : zq_fd 0 11 3 (1, 42) := ⟨_, rfl, rfl⟩
theorem zfd_0_4 : zq_fd 0 11 4 (1, 44) := ⟨_, rfl, rfl⟩
theorem zfd_0_5 : zq_fd 0 11 5 (1, 46) := ⟨_, rfl, rfl⟩
theorem zfd_0_6 : zq_fd 0 11 6 (1, 49) := ⟨_, rfl, rfl⟩
theorem zfd_0_7 : zq_fd 0 11 7 (1, zf true) := ⟨_, rfl, rfl⟩
theorem zfd_0_8 : zq_fd 0 11 8 (1, 56) := ⟨_, rfl, rfl⟩
theorem zfd_0_9 : zq_fd 0 11 9 (1, 54) := ⟨_, rfl, rfl⟩
theorem zfd_0_10 : zq_fd 0 11 10 (2, 0) := ⟨_, rfl, rfl⟩
theorem zpt_0 : zq_pt 0 0 11 10 := ⟨zfd_0_10, by decide +kernel⟩
theorem zfd_0_11 : zq_fd 0 11 11 (2, 1) := ⟨_, rfl, rfl⟩
theorem zpt_1 : zq_pt 1 0 11 11 := ⟨zfd_0_11, by decide +kernel⟩
theorem zfd_0_12 : zq_fd 0 11 12 (0, 0) := ⟨_, rfl, rfl⟩
theorem zsh_1 : zq_sh[1]? = some (.inl (3, 4096)) := rfl
theorem zsh_3 : zq_sh[3]? = some (.inl (1, 400)) := rfl
theorem zsh_4 : zq_sh[4]? = some (.inl (0, 100)) := rfl
theorem zsh_5 : zq_sh[5]? = some (.inl (0, 100)) := rfl
theorem zsh_6 : zq_sh[6]? = some (.inl (0, 100)) := rfl
theorem zsh_7 : zq_sh[7]? = some (.inl (0, 10)) := rfl
theorem zsh_8 : zq_sh[8]? = some (.inl (0, 10)) := rfl
theorem zsh_9 : zq_sh[9]? = some (.inl (0, 10)) := rfl
theorem zsh_10 : zq_sh[10]? = some (.inl (0, 10)) := rfl
theorem zsh_11 : zq_sh[11]? = some (.inl (0, 10)) := rfl
theorem zsh_12 : zq_sh[12]? = some (.inl (0, 10)) := rfl
theorem zsh_13 : zq_sh[13]? = some (.inl (0, 10)) := rfl
theorem zsh_15 : zq_sh[15]? = some (.inl (1, 400)) := rfl
theorem zsh_16 : zq_sh[16]? = some (.inl (0, 100)) := rfl
theorem zsh_17 : zq_sh[17]? = some (.inl (0, 100)) := rfl
theorem zsh_18 : zq_sh[18]? = some (.inl (0, 100)) := rfl
theorem zsh_19 : zq_sh[19]? = some (.inl (0, 10)) := rfl
theorem zsh_20 : zq_sh[20]? = some (.inl (0, 10)) := rfl
theorem zsh_21 : zq_sh[21]? = some (.inl (0, 10)) := rfl
theorem zsh_22 : zq_sh[22]? = some (.inl (0, 10)) := rfl
theorem zsh_23 : zq_sh[23]? = some (.inl (0, 10)) := rfl
theorem zsh_24 : zq_sh[24]? = some (.inl (0, 10)) := rfl
theorem zsh_25 : zq_sh[25]? = some (.inl (0, 10)) := rfl
theorem zob_26 : zq_ob 26 5 := ⟨_, rfl⟩
theorem zfd_26_0 : zq_fd 26 5 0 (1, 27) := ⟨_, rfl, rfl⟩
theorem zfd_26_1 : zq_fd 26 5 1 (0, 0) := ⟨_, rfl, rfl⟩
theorem zfd_26_2 : zq_fd 26 5 2 (0, 0) := ⟨_, rfl, rfl⟩
theorem zfd_26_3 : zq_fd 26 5 3 (2, 2) := ⟨_, rfl, rfl⟩
theorem zpt_2 : zq_pt 2 26 5 3 := ⟨zfd_26_3, by decide +kernel⟩
theorem zfd_26_4 : zq_fd 26 5 4 (0, 0) := ⟨_, rfl, rfl⟩
theorem zfd_26_5 : zq_fd 26 5 5 (1, 28) := ⟨_, rfl, rfl⟩
theorem zfd_26_6 : zq_fd 26 5 6 (0, 0) := ⟨_, rfl, rfl⟩
theorem zfd_26_7 : zq_fd 26 5 7 (0, 0) := ⟨_, rfl, rfl⟩
theorem zfd_26_8 : zq_fd 26 5 8 (0, 0) := ⟨_, rfl, rfl⟩
theorem zfd_26_9 : zq_fd 26 5 9 (0, 0) := ⟨_, rfl, rfl⟩
theorem zfd_26_10 : zq_fd 26 5 10 (1, 29) := ⟨_, rfl, rfl⟩
theorem zfd_26_11 : zq_fd 26 5 11 (1, 30) := ⟨_, rfl, rfl⟩
theorem zsh_27 : zq_sh[27]? = some (.inl (1, 400)) := rfl
theorem zsh_28 : zq_sh[28]? = some (.inl (0, 8)) := rfl
theorem zsh_29 : zq_sh[29]? = some (.inl (0, 10)) := rfl
theorem zsh_30 : zq_sh[30]? = some (.inl (0, 10)) := rfl
theorem zob_31 : zq_ob 31 3 := ⟨_, rfl⟩
theorem zfd_31_0 : zq_fd 31 3 0 (2, 3) := ⟨_, rfl, rfl⟩
theorem zpt_3 : zq_pt 3 31 3 0 := ⟨zfd_31_0, by decide +kernel⟩
theorem zfd_31_1 : zq_fd 31 3 1 (1, 32) := ⟨_, rfl, rfl⟩
theorem zfd_31_2 : zq_fd 31 3 2 (1, 33) := ⟨_, rfl, rfl⟩
theorem zfd_31_3 : zq_fd 31 3 3 (1, 34) := ⟨_, rfl, rfl⟩
theorem zfd_31_4 : zq_fd 31 3 4 (1, 35) := ⟨_, rfl, rfl⟩
theorem zfd_31_5 : zq_fd 31 3 5 (1, 36) := ⟨_, rfl, rfl⟩
theorem zfd_31_6 : zq_fd 31 3 6 (1, 37) := ⟨_, rfl, rfl⟩
theorem zfd_31_7 : zq_fd 31 3 7 (0, 0) := ⟨_, rfl, rfl⟩
theorem zfd_31_8 : zq_fd 31 3 8 (0, 0) := ⟨_, rfl, rfl⟩
theorem zfd_31_9 : zq_fd 31 3 9 (0, 0) := ⟨_, rfl, rfl⟩
theorem zsh_32 : zq_sh[32]? = some (.inl (0, 10)) := rfl
theorem zsh_33 : zq_sh[33]? = some (.inl (0, 4)) := rfl
theorem zsh_34 : zq_sh[34]? = some (.inl (0, 10)) := rfl
theorem zsh_35 : zq_sh[35]? = some (.inl (0, 10)) := rfl
theorem zsh_36 : zq_sh[36]? = some (.inl (0, 10)) := rfl
theorem zsh_37 : zq_sh[37]? = some (.inl (0, 1024)) := rfl
theorem zob_38 : zq_ob 38 9 := ⟨_, rfl⟩
theorem zfd_38_0 : zq_fd 38 9 0 (1, zf false) := ⟨_, rfl, rfl⟩
theorem zfd_38_1 : zq_fd 38 9 1 (2, 4) := ⟨_, rfl, rfl⟩
theorem zpt_4 : zq_pt 4 38 9 1 := ⟨zfd_38_1, by decide +kernel⟩
theorem zsh_40 : zq_sh[40]? = some (.inl (3, 5120)) := rfl
theorem zsh_41 : zq_sh[41]? = some (.inl (0, 1024)) := rfl
theorem zob_42 : zq_ob 42 0 := ⟨_, rfl⟩
theorem zfd_42_0 : zq_fd 42 0 0 (1, 43) := ⟨_, rfl, rfl⟩
theorem zfd_42_1 : zq_fd 42 0 1 (0, 0) := ⟨_, rfl, rfl⟩
theorem zsh_43 : zq_sh[43]? = some (.inl (3, 200)) := rfl
theorem zob_44 : zq_ob 44 4 := ⟨_, rfl⟩
theorem zfd_44_0 : zq_fd 44 4 0 (1, 31) := ⟨_, rfl, rfl⟩
theorem zfd_44_1 : zq_fd 44 4 1 (1, 38) := ⟨_, rfl, rfl⟩
theorem zfd_44_2 : zq_fd 44 4 2 (1, 42) := ⟨_, rfl, rfl⟩
theorem zfd_44_3 : zq_fd 44 4 3 (1, 1) := ⟨_, rfl, rfl⟩
theorem zfd_44_4 : zq_fd 44 4 4 (1, 45) := ⟨_, rfl, rfl⟩
theorem zfd_44_5 : zq_fd 44 4 5 (0, 0) := ⟨_, rfl, rfl⟩
theorem zsh_45 : zq_sh[45]? = some (.inl (3, 1024)) := rfl
theorem zob_46 : zq_ob 46 6 := ⟨_, rfl⟩
theorem zfd_46_0 : zq_fd 46 6 0 (1, 31) := ⟨_, rfl, rfl⟩
theorem zfd_46_1 : zq_fd 46 6 1 (1, 38) := ⟨_, rfl, rfl⟩
theorem zfd_46_2 : zq_fd 46 6 2 (1, 42) := ⟨_, rfl, rfl⟩
theorem zfd_46_3 : zq_fd 46 6 3 (1, 1) := ⟨_, rfl, rfl⟩
theorem zfd_46_4 : zq_fd 46 6 4 (1, 47) := ⟨_, rfl, rfl⟩
theorem zfd_46_5 : zq_fd 46 6 5 (1, 48) := ⟨_, rfl, rfl⟩
theorem zfd_46_6 : zq_fd 46 6 6 (0, 0) := ⟨_, rfl, rfl⟩
theorem zfd_46_7 : zq_fd 46 6 7 (0, 0) := ⟨_, rfl, rfl⟩
theorem zsh_47 : zq_sh[47]? = some (.inl (0, 10)) := rfl
theorem zsh_48 : zq_sh[48]? = some (.inl (3, 4)) := rfl
theorem zob_49 : zq_ob 49 10 := ⟨_, rfl⟩
theorem zfd_49_0 : zq_fd 49 10 0 (1, 31) := ⟨_, rfl, rfl⟩
theorem zfd_49_1 : zq_fd 49 10 1 (1, 38) := ⟨_, rfl, rfl⟩
theorem zfd_49_2 : zq_fd 49 10 2 (1, 1) := ⟨_, rfl, rfl⟩
theorem zfd_49_3 : zq_fd 49 10 3 (1, 50) := ⟨_, rfl, rfl⟩
theorem zfd_49_4 : zq_fd 49 10 4 (0, 0) := ⟨_, rfl, rfl⟩
theorem zfd_49_5 : zq_fd 49 10 5 (0, 0) := ⟨_, rfl, rfl⟩
theorem zsh_50 : zq_sh[50]? = some (.inl (0, 1024)) := rfl
theorem zsh_52 : zq_sh[52]? = some (.inl (3, 25)) := rfl
theorem zsh_53 : zq_sh[53]? = some (.inl (0, 5)) := rfl
theorem zob_54 : zq_ob 54 2 := ⟨_, rfl⟩
theorem zfd_54_0 : zq_fd 54 2 0 (1, 55) := ⟨_, rfl, rfl⟩
theorem zsh_55 : zq_sh[55]? = some (.inl (3, 100)) := rfl
theorem zob_56 : zq_ob 56 1 := ⟨_, rfl⟩
theorem zfd_56_0 : zq_fd 56 1 0 (1, 31) := ⟨_, rfl, rfl⟩
theorem zfd_56_1 : zq_fd 56 1 1 (1, 38) := ⟨_, rfl, rfl⟩
theorem zfd_56_2 : zq_fd 56 1 2 (1, zf true) := ⟨_, rfl, rfl⟩
theorem zfd_56_3 : zq_fd 56 1 3 (1, 54) := ⟨_, rfl, rfl⟩
theorem zfd_56_4 : zq_fd 56 1 4 (1, 1) := ⟨_, rfl, rfl⟩
theorem zfd_56_5 : zq_fd 56 1 5 (0, 0) := ⟨_, rfl, rfl⟩
theorem zob_57 : zq_ob 57 12 := ⟨_, rfl⟩
theorem zfd_57_0 : zq_fd 57 12 0 (0, 0) := ⟨_, rfl, rfl⟩
theorem zfd_57_1 : zq_fd 57 12 1 (1, 58) := ⟨_, rfl, rfl⟩
theorem zfd_57_2 : zq_fd 57 12 2 (1, 59) := ⟨_, rfl, rfl⟩
theorem zfd_57_3 : zq_fd 57 12 3 (1, 60) := ⟨_, rfl, rfl⟩
theorem zfd_57_4 : zq_fd 57 12 4 (1, 61) := ⟨_, rfl, rfl⟩
theorem zfd_57_5 : zq_fd 57 12 5 (0, 0) := ⟨_, rfl, rfl⟩
theorem zfd_57_6 : zq_fd 57 12 6 (0, 0) := ⟨_, rfl, rfl⟩
theorem zfd_57_7 : zq_fd 57 12 7 (1, 62) := ⟨_, rfl, rfl⟩
theorem zfd_57_8 : zq_fd 57 12 8 (1, 63) := ⟨_, rfl, rfl⟩
theorem zfd_57_9 : zq_fd 57 12 9 (1, 64) := ⟨_, rfl, rfl⟩
theorem zfd_57_10 : zq_fd 57 12 10 (1, 65) := ⟨_, rfl, rfl⟩
theorem zfd_57_11 : zq_fd 57 12 11 (1, 66) := ⟨_, rfl, rfl⟩
theorem zfd_57_12 : zq_fd 57 12 12 (1, 67) := ⟨_, rfl, rfl⟩
theorem zfd_57_13 : zq_fd 57 12 13 (1, 68) := ⟨_, rfl, rfl⟩
theorem zfd_57_14 : zq_fd 57 12 14 (1, 69) := ⟨_, rfl, rfl⟩
theorem zfd_57_15 : zq_fd 57 12 15 (1, 70) := ⟨_, rfl, rfl⟩
theorem zfd_57_16 : zq_fd 57 12 16 (0, 0) := ⟨_, rfl, rfl⟩
theorem zfd_57_17 : zq_fd 57 12 17 (0, 0) := ⟨_, rfl, rfl⟩
theorem zfd_57_18 : zq_fd 57 12 18 (0, 0) := ⟨_, rfl, rfl⟩
theorem zfd_57_19 : zq_fd 57 12 19 (0, 0) := ⟨_, rfl, rfl⟩
theorem zfd_57_20 : zq_fd 57 12 20 (0, 0) := ⟨_, rfl, rfl⟩
theorem zfd_57_21 : zq_fd 57 12 21 (0, 0) := ⟨_, rfl, rfl⟩
theorem zfd_57_22 : zq_fd 57 12 22 (1, 71) := ⟨_, rfl, rfl⟩
theorem zfd_57_23 : zq_fd 57 12 23 (1, 72) := ⟨_, rfl, rfl⟩
theorem zfd_57_24 : zq_fd 57 12 24 (1, 73) := ⟨_, rfl, rfl⟩
theorem zfd_57_25 : zq_fd 57 12 25 (1, 74) := ⟨_, rfl, rfl⟩
theorem zfd_57_26 : zq_fd 57 12 26 (1, 75) := ⟨_, rfl, rfl⟩
theorem zfd_57_27 : zq_fd 57 12 27 (0, 0) := ⟨_, rfl, rfl⟩
theorem zfd_57_28 : zq_fd 57 12 28 (0, 0) := ⟨_, rfl, rfl⟩
theorem zfd_57_29 : zq_fd 57 12 29 (0, 0) := ⟨_, rfl, rfl⟩
theorem zfd_57_30 : zq_fd 57 12 30 (0, 0) := ⟨_, rfl, rfl⟩
theorem zfd_57_31 : zq_fd 57 12 31 (0, 0) := ⟨_, rfl, rfl⟩
theorem zfd_57_32 : zq_fd 57 12 32 (1, 76) := ⟨_, rfl, rfl⟩
theorem zfd_57_33 : zq_fd 57 12 33 (0, 0) := ⟨_, rfl, rfl⟩
theorem zfd_57_34 : zq_fd 57 12 34 (0, 0) := ⟨_, rfl, rfl⟩
theorem zfd_57_35 : zq_fd 57 12 35 (1, 77) := ⟨_, rfl, rfl⟩
theorem zfd_57_36 : zq_fd 57 12 36 (0, 0) := ⟨_, rfl, rfl⟩
theorem zfd_57_37 : zq_fd 57 12 37 (0, 0) := ⟨_, rfl, rfl⟩
theorem zfd_57_38 : zq_fd 57 12 38 (1, 78) := ⟨_, rfl, rfl⟩
theorem zfd_57_39 : zq_fd 57 12 39 (1, 79) := ⟨_, rfl, rfl⟩
theorem zfd_57_40 : zq_fd 57 12 40 (1, 80) := ⟨_, rfl, rfl⟩
theorem zfd_57_41 : zq_fd 57 12 41 (1, 81) := ⟨_, rfl, rfl⟩
theorem zfd_57_42 : zq_fd 57 12 42 (1, 82) := ⟨_, rfl, rfl⟩
theorem zfd_57_43 : zq_fd 57 12 43 (1, 83) := ⟨_, rfl, rfl⟩
theorem zfd_57_44 : zq_fd 57 12 44 (0, 0) := ⟨_, rfl, rfl⟩
theorem zfd_57_45 : zq_fd 57 12 45 (1, 84) := ⟨_, rfl, rfl⟩
theorem zfd_57_46 : zq_fd 57 12 46 (1, 85) := ⟨_, rfl, rfl⟩
theorem zfd_57_47 : zq_fd 57 12 47 (1, 86) := ⟨_, rfl, rfl⟩
theorem zfd_57_48 : zq_fd 57 12 48 (1, 87) := ⟨_, rfl, rfl⟩
theorem zfd_57_49 : zq_fd 57 12 49 (1, 88) := ⟨_, rfl, rfl⟩
theorem zfd_57_50 : zq_fd 57 12 50 (1, 89) := ⟨_, rfl, rfl⟩
theorem zfd_57_51 : zq_fd 57 12 51 (1, 90) := ⟨_, rfl, rfl⟩
theorem zfd_57_52 : zq_fd 57 12 52 (0, 0) := ⟨_, rfl, rfl⟩
theorem zfd_57_53 : zq_fd 57 12 53 (1, 91) := ⟨_, rfl, rfl⟩
theorem zfd_57_54 : zq_fd 57 12 54 (0, 0) := ⟨_, rfl, rfl⟩
theorem zfd_57_55 : zq_fd 57 12 55 (1, 92) := ⟨_, rfl, rfl⟩
theorem zfd_57_56 : zq_fd 57 12 56 (1, 93) := ⟨_, rfl, rfl⟩
theorem zfd_57_57 : zq_fd 57 12 57 (1, 94) := ⟨_, rfl, rfl⟩
theorem zfd_57_58 : zq_fd 57 12 58 (1, 95) := ⟨_, rfl, rfl⟩
theorem zfd_57_59 : zq_fd 57 12 59 (0, 0) := ⟨_, rfl, rfl⟩
theorem zfd_57_60 : zq_fd 57 12 60 (1, 96) := ⟨_, rfl, rfl⟩
theorem zfd_57_61 : zq_fd 57 12 61 (1, 97) := ⟨_, rfl, rfl⟩
theorem zsh_58 : zq_sh[58]? = some (.inl (0, 400)) := rfl
theorem zsh_59 : zq_sh[59]? = some (.inl (0, 400)) := rfl
theorem zsh_60 : zq_sh[60]? = some (.inl (0, 400)) := rfl
theorem zsh_61 : zq_sh[61]? = some (.inl (0, 400)) := rfl
theorem zsh_62 : zq_sh[62]? = some (.inl (0, 10)) := rfl
theorem zsh_63 : zq_sh[63]? = some (.inl (0, 10)) := rfl
theorem zsh_64 : zq_sh[64]? = some (.inl (0, 10)) := rfl
theorem zsh_65 : zq_sh[65]? = some (.inl (0, 10)) := rfl
theorem zsh_66 : zq_sh[66]? = some (.inl (0, 10)) := rfl
theorem zsh_67 : zq_sh[67]? = some (.inl (0, 10)) := rfl
theorem zsh_68 : zq_sh[68]? = some (.inl (0, 10)) := rfl
theorem zsh_69 : zq_sh[69]? = some (.inl (2, 16)) := rfl
theorem zsh_70 : zq_sh[70]? = some (.inl (0, 400)) := rfl
theorem zsh_71 : zq_sh[71]? = some (.inl (0, 400)) := rfl
theorem zsh_72 : zq_sh[72]? = some (.inl (0, 400)) := rfl
theorem zsh_73 : zq_sh[73]? = some (.inl (0, 400)) := rfl
theorem zsh_74 : zq_sh[74]? = some (.inl (0, 400)) := rfl
theorem zsh_75 : zq_sh[75]? = some (.inl (0, 400)) := rfl
theorem zsh_76 : zq_sh[76]? = some (.inl (0, 8)) := rfl
theorem zsh_77 : zq_sh[77]? = some (.inl (0, 1600)) := rfl
theorem zsh_78 : zq_sh[78]? = some (.inl (2, 1024)) := rfl
theorem zsh_79 : zq_sh[79]? = some (.inl (0, 1024)) := rfl
theorem zsh_80 : zq_sh[80]? = some (.inl (3, 1024)) := rfl
theorem zsh_81 : zq_sh[81]? = some (.inl (3, 1024)) := rfl
theorem zsh_82 : zq_sh[82]? = some (.inl (0, 4096)) := rfl
theorem zsh_83 : zq_sh[83]? = some (.inl (0, 4096)) := rfl
theorem zsh_84 : zq_sh[84]? = some (.inl (0, 1024)) := rfl
theorem zsh_85 : zq_sh[85]? = some (.inl (0, 40960)) := rfl
theorem zsh_86 : zq_sh[86]? = some (.inl (3, 1024)) := rfl
theorem zsh_87 : zq_sh[87]? = some (.inl (0, 1024)) := rfl
theorem zsh_88 : zq_sh[88]? = some (.inl (0, 40)) := rfl
theorem zsh_89 : zq_sh[89]? = some (.inl (0, 40)) := rfl
theorem zsh_90 : zq_sh[90]? = some (.inl (0, 41)) := rfl
theorem zsh_91 : zq_sh[91]? = some (.inl (0, 40)) := rfl
theorem zsh_92 : zq_sh[92]? = some (.inl (0, 4)) := rfl
theorem zsh_93 : zq_sh[93]? = some (.inl (0, 160)) := rfl
theorem zsh_94 : zq_sh[94]? = some (.inl (3, 4096)) := rfl
theorem zsh_95 : zq_sh[95]? = some (.inl (3, 4096)) := rfl
theorem zsh_96 : zq_sh[96]? = some (.inl (2, 10000)) := rfl
theorem zsh_97 : zq_sh[97]? = some (.inl (3, 1024)) := rfl
theorem zob_s (b : Bool) : zq_ob (zs b) 7 := by cases b <;> exact ⟨_, rfl⟩
theorem zfd_s_0 (b : Bool) : zq_fd (zs b) 7 0 (1, zs b + 1) := by cases b <;> exact ⟨_, rfl, rfl⟩
theorem zsh_s1 (b : Bool) : zq_sh[zs b + 1]? = some (.inl (1, 400)) := by cases b <;> rfl
theorem zfd_s_1 (b : Bool) : zq_fd (zs b) 7 1 (0, 0) := by cases b <;> exact ⟨_, rfl, rfl⟩
theorem zfd_s_2 (b : Bool) : zq_fd (zs b) 7 2 (0, 0) := by cases b <;> exact ⟨_, rfl, rfl⟩
theorem zfd_s_3 (b : Bool) : zq_fd (zs b) 7 3 (1, zs b + 2) := by cases b <;> exact ⟨_, rfl, rfl⟩
theorem zsh_s2 (b : Bool) : zq_sh[zs b + 2]? = some (.inl (0, 100)) := by cases b <;> rfl
theorem zfd_s_4 (b : Bool) : zq_fd (zs b) 7 4 (1, zs b + 3) := by cases b <;> exact ⟨_, rfl, rfl⟩
theorem zsh_s3 (b : Bool) : zq_sh[zs b + 3]? = some (.inl (0, 100)) := by cases b <;> rfl
theorem zfd_s_5 (b : Bool) : zq_fd (zs b) 7 5 (1, zs b + 4) := by cases b <;> exact ⟨_, rfl, rfl⟩
theorem zsh_s4 (b : Bool) : zq_sh[zs b + 4]? = some (.inl (0, 100)) := by cases b <;> rfl
theorem zfd_s_6 (b : Bool) : zq_fd (zs b) 7 6 (0, 0) := by cases b <;> exact ⟨_, rfl, rfl⟩
theorem zfd_s_7 (b : Bool) : zq_fd (zs b) 7 7 (0, 0) := by cases b <;> exact ⟨_, rfl, rfl⟩
theorem zfd_s_8 (b : Bool) : zq_fd (zs b) 7 8 (0, 0) := by cases b <;> exact ⟨_, rfl, rfl⟩
theorem zfd_s_9 (b : Bool) : zq_fd (zs b) 7 9 (1, zs b + 5) := by cases b <;> exact ⟨_, rfl, rfl⟩
theorem zsh_s5 (b : Bool) : zq_sh[zs b + 5]? = some (.inl (0, 10)) := by cases b <;> rfl
theorem zfd_s_10 (b : Bool) : zq_fd (zs b) 7 10 (1, zs b + 6) := by cases b <;> exact ⟨_, rfl, rfl⟩
theorem zsh_s6 (b : Bool) : zq_sh[zs b + 6]? = some (.inl (0, 10)) := by cases b <;> rfl
theorem zfd_s_11 (b : Bool) : zq_fd (zs b) 7 11 (1, zs b + 7) := by cases b <;> exact ⟨_, rfl, rfl⟩
theorem zsh_s7 (b : Bool) : zq_sh[zs b + 7]? = some (.inl (0, 10)) := by cases b <;> rfl
theorem zfd_s_12 (b : Bool) : zq_fd (zs b) 7 12 (1, zs b + 8) := by cases b <;> exact ⟨_, rfl, rfl⟩
theorem zsh_s8 (b : Bool) : zq_sh[zs b + 8]? = some (.inl (0, 10)) := by cases b <;> rfl
theorem zfd_s_13 (b : Bool) : zq_fd (zs b) 7 13 (1, zs b + 9) := by cases b <;> exact ⟨_, rfl, rfl⟩
theorem zsh_s9 (b : Bool) : zq_sh[zs b + 9]? = some (.inl (0, 10)) := by cases b <;> rfl
theorem zfd_s_14 (b : Bool) : zq_fd (zs b) 7 14 (1, zs b + 10) := by cases b <;> exact ⟨_, rfl, rfl⟩
theorem zsh_s10 (b : Bool) : zq_sh[zs b + 10]? = some (.inl (0, 10)) := by cases b <;> rfl
theorem zfd_s_15 (b : Bool) : zq_fd (zs b) 7 15 (1, zs b + 11) := by cases b <;> exact ⟨_, rfl, rfl⟩
theorem zsh_s11 (b : Bool) : zq_sh[zs b + 11]? = some (.inl (0, 10)) := by cases b <;> rfl
theorem zob_f (b : Bool) : zq_ob (zf b) 8 := by cases b <;> exact ⟨_, rfl⟩
theorem zfd_f_0 (b : Bool) : zq_fd (zf b) 8 0 (0, 0) := by cases b <;> exact ⟨_, rfl, rfl⟩
theorem zfd_f_1 (b : Bool) : zq_fd (zf b) 8 1 (1, zf b + 1) := by cases b <;> exact ⟨_, rfl, rfl⟩
theorem zsh_f1 (b : Bool) : zq_sh[zf b + 1]? = some (.inl (3, zfP b)) := by cases b <;> rfl
theorem zfd_f_2 (b : Bool) : zq_fd (zf b) 8 2 (1, zf b + 2) := by cases b <;> exact ⟨_, rfl, rfl⟩
theorem zsh_f2 (b : Bool) : zq_sh[zf b + 2]? = some (.inl (0, zfS b)) := by cases b <;> rfl
theorem zu_0 : ∀ w ∈ u_ws RX0 TX0 2, w ∈ lw_tbl ∧ goodWord w = true := by
  intro w h
  have e : u_ws RX0 TX0 2 = ([330, 332] : List Nat).filterMap (fun i => lw_tbl[i]?) := by decide +kernel
  have g : (u_ws RX0 TX0 2).all goodWord = true := by decide +kernel
  refine ⟨?_, List.all_eq_true.mp g w h⟩
  rw [e] at h
  obtain ⟨i, -, hi⟩ := List.mem_filterMap.mp h
  exact List.mem_of_getElem? hi
theorem zc_0 : zq_cl 0 RX0 TX0 2 tyX0 := ⟨rfl, zu_0, tyX0_ok, nmX0⟩
theorem zu_1 : ∀ w ∈ u_ws RX1 TX1 6, w ∈ lw_tbl ∧ goodWord w = true := by
  intro w h
  have e : u_ws RX1 TX1 6 = ([441, 443, 445, 447, 449, 451] : List Nat).filterMap (fun i => lw_tbl[i]?) := by decide +kernel
  have g : (u_ws RX1 TX1 6).all goodWord = true := by decide +kernel
  refine ⟨?_, List.all_eq_true.mp g w h⟩
  rw [e] at h
  obtain ⟨i, -, hi⟩ := List.mem_filterMap.mp h
  exact List.mem_of_getElem? hi
theorem zc_1 : zq_cl 1 RX1 TX1 6 tyX1 := ⟨rfl, zu_1, tyX1_ok, nmX1⟩
theorem zu_2 : ∀ w ∈ u_ws RX2 TX2 1, w ∈ lw_tbl ∧ goodWord w = true := by
  intro w h
  have e : u_ws RX2 TX2 1 = ([425] : List Nat).filterMap (fun i => lw_tbl[i]?) := by decide +kernel
  have g : (u_ws RX2 TX2 1).all goodWord = true := by decide +kernel
  refine ⟨?_, List.all_eq_true.mp g w h⟩
  rw [e] at h
  obtain ⟨i, -, hi⟩ := List.mem_filterMap.mp h
  exact List.mem_of_getElem? hi
theorem zc_2 : zq_cl 2 RX2 TX2 1 tyX2 := ⟨rfl, zu_2, tyX2_ok, nmX2⟩
theorem zu_3 : ∀ w ∈ u_ws RX3 TX3 10, w ∈ lw_tbl ∧ goodWord w = true := by
  intro w h
  have e : u_ws RX3 TX3 10 = ([268, 270, 272, 274, 276, 278, 280, 282, 284, 286] : List Nat).filterMap (fun i => lw_tbl[i]?) := by decide +kernel
  have g : (u_ws RX3 TX3 10).all goodWord = true := by decide +kernel
  refine ⟨?_, List.all_eq_true.mp g w h⟩
  rw [e] at h
  obtain ⟨i, -, hi⟩ := List.mem_filterMap.mp h
  exact List.mem_of_getElem? hi
theorem zc_3 : zq_cl 3 RX3 TX3 10 tyX3 := ⟨rfl, zu_3, tyX3_ok, nmX3⟩
theorem zu_4 : ∀ w ∈ u_ws RX4 TX4 6, w ∈ lw_tbl ∧ goodWord w = true := by
  intro w h
  have e : u_ws RX4 TX4 6 = ([347, 349, 351, 353, 355, 357] : List Nat).filterMap (fun i => lw_tbl[i]?) := by decide +kernel
  have g : (u_ws RX4 TX4 6).all goodWord = true := by decide +kernel
  refine ⟨?_, List.all_eq_true.mp g w h⟩
  rw [e] at h
  obtain ⟨i, -, hi⟩ := List.mem_filterMap.mp h
  exact List.mem_of_getElem? hi
theorem zc_4 : zq_cl 4 RX4 TX4 6 tyX4 := ⟨rfl, zu_4, tyX4_ok, nmX4⟩
theorem zu_5 : ∀ w ∈ u_ws RX5 TX5 12, w ∈ lw_tbl ∧ goodWord w = true := by
  intro w h
  have e : u_ws RX5 TX5 12 = ([217, 219, 221, 223, 225, 227, 229, 231, 233, 235, 237, 239] : List Nat).filterMap (fun i => lw_tbl[i]?) := by decide +kernel
  have g : (u_ws RX5 TX5 12).all goodWord = true := by decide +kernel
  refine ⟨?_, List.all_eq_true.mp g w h⟩
  rw [e] at h
  obtain ⟨i, -, hi⟩ := List.mem_filterMap.mp h
  exact List.mem_of_getElem? hi
theorem zc_5 : zq_cl 5 RX5 TX5 12 tyX5 := ⟨rfl, zu_5, tyX5_ok, nmX5⟩
theorem zu_6 : ∀ w ∈ u_ws RX6 TX6 8, w ∈ lw_tbl ∧ goodWord w = true := by
  intro w h
  have e : u_ws RX6 TX6 8 = ([374, 376, 378, 380, 382, 384, 386, 388] : List Nat).filterMap (fun i => lw_tbl[i]?) := by decide +kernel
  have g : (u_ws RX6 TX6 8).all goodWord = true := by decide +kernel
  refine ⟨?_, List.all_eq_true.mp g w h⟩
  rw [e] at h
  obtain ⟨i, -, hi⟩ := List.mem_filterMap.mp h
  exact List.mem_of_getElem? hi
theorem zc_6 : zq_cl 6 RX6 TX6 8 tyX6 := ⟨rfl, zu_6, tyX6_ok, nmX6⟩
theorem zu_7 : ∀ w ∈ u_ws RX7 TX7 16, w ∈ lw_tbl ∧ goodWord w = true := by
  intro w h
  have e : u_ws RX7 TX7 16 = ([161, 163, 165, 167, 169, 171, 173, 175, 177, 179, 181, 183, 185, 187, 189, 191] : List Nat).filterMap (fun i => lw_tbl[i]?) := by decide +kernel
  have g : (u_ws RX7 TX7 16).all goodWord = true := by decide +kernel
  refine ⟨?_, List.all_eq_true.mp g w h⟩
  rw [e] at h
  obtain ⟨i, -, hi⟩ := List.mem_filterMap.mp h
  exact List.mem_of_getElem? hi
theorem zc_7 : zq_cl 7 RX7 TX7 16 tyX7 := ⟨rfl, zu_7, tyX7_ok, nmX7⟩
theorem zu_8 : ∀ w ∈ u_ws RX8 TX8 3, w ∈ lw_tbl ∧ goodWord w = true := by
  intro w h
  have e : u_ws RX8 TX8 3 = ([307, 309, 311] : List Nat).filterMap (fun i => lw_tbl[i]?) := by decide +kernel
  have g : (u_ws RX8 TX8 3).all goodWord = true := by decide +kernel
  refine ⟨?_, List.all_eq_true.mp g w h⟩
  rw [e] at h
  obtain ⟨i, -, hi⟩ := List.mem_filterMap.mp h
  exact List.mem_of_getElem? hi
theorem zc_8 : zq_cl 8 RX8 TX8 3 tyX8 := ⟨rfl, zu_8, tyX8_ok, nmX8⟩
theorem zu_9 : ∀ w ∈ u_ws RX9 TX9 2, w ∈ lw_tbl ∧ goodWord w = true := by
  intro w h
  have e : u_ws RX9 TX9 2 = ([316, 318] : List Nat).filterMap (fun i => lw_tbl[i]?) := by decide +kernel
  have g : (u_ws RX9 TX9 2).all goodWord = true := by decide +kernel
  refine ⟨?_, List.all_eq_true.mp g w h⟩
  rw [e] at h
  obtain ⟨i, -, hi⟩ := List.mem_filterMap.mp h
  exact List.mem_of_getElem? hi
theorem zc_9 : zq_cl 9 RX9 TX9 2 tyX9 := ⟨rfl, zu_9, tyX9_ok, nmX9⟩
theorem zu_10 : ∀ w ∈ u_ws RX10 TX10 6, w ∈ lw_tbl ∧ goodWord w = true := by
  intro w h
  have e : u_ws RX10 TX10 6 = ([403, 405, 407, 409, 411, 413] : List Nat).filterMap (fun i => lw_tbl[i]?) := by decide +kernel
  have g : (u_ws RX10 TX10 6).all goodWord = true := by decide +kernel
  refine ⟨?_, List.all_eq_true.mp g w h⟩
  rw [e] at h
  obtain ⟨i, -, hi⟩ := List.mem_filterMap.mp h
  exact List.mem_of_getElem? hi
theorem zc_10 : zq_cl 10 RX10 TX10 6 tyX10 := ⟨rfl, zu_10, tyX10_ok, nmX10⟩
theorem zu_11 : ∀ w ∈ u_ws RX11 TX11 13, w ∈ lw_tbl ∧ goodWord w = true := by
  intro w h
  have e : u_ws RX11 TX11 13 = ([467, 469, 471, 473, 475, 477, 479, 481, 483, 485, 487, 489, 491] : List Nat).filterMap (fun i => lw_tbl[i]?) := by decide +kernel
  have g : (u_ws RX11 TX11 13).all goodWord = true := by decide +kernel
  refine ⟨?_, List.all_eq_true.mp g w h⟩
  rw [e] at h
  obtain ⟨i, -, hi⟩ := List.mem_filterMap.mp h
  exact List.mem_of_getElem? hi
theorem zc_11 : zq_cl 11 RX11 TX11 13 tyX11 := ⟨rfl, zu_11, tyX11_ok, nmX11⟩
theorem zu_12 : ∀ w ∈ u_ws RX12 TX12 62, w ∈ lw_tbl ∧ goodWord w = true := by
  intro w h
  have e : u_ws RX12 TX12 62 = ([1197, 1199, 1201, 1203, 1205, 1207, 1209, 1211, 1213, 1215, 1217, 1219, 1221, 1223, 1225, 1227, 1229, 1231, 1233, 1235, 1237, 1239, 1241, 1243, 1245, 1247, 1249, 1251, 1253, 1255, 1257, 1259, 1261, 1263, 1265, 1267, 1269, 1271, 1273, 1275, 1277, 1279, 1281, 1283, 1285, 1287, 1289, 1291, 1293, 1295, 1297, 1299, 1301, 1303, 1305, 1307, 1309, 1311, 1313, 1315, 1317, 1319] : List Nat).filterMap (fun i => lw_tbl[i]?) := by decide +kernel
  have g : (u_ws RX12 TX12 62).all goodWord = true := by decide +kernel
  refine ⟨?_, List.all_eq_true.mp g w h⟩
  rw [e] at h
  obtain ⟨i, -, hi⟩ := List.mem_filterMap.mp h
  exact List.mem_of_getElem? hi
theorem zc_12 : zq_cl 12 RX12 TX12 62 tyX12 := ⟨rfl, zu_12, tyX12_ok, nmX12⟩
