theorem lw_s {w : Cond} (i : Nat) (h : (k2_sels lw_privs)[i]? = some w) (g : goodWord w = true) : w ∈ lw_ok := List.mem_filter.mpr ⟨List.mem_append_left _ (List.mem_of_getElem? h), g⟩
theorem lw_ta {w : Cond} (h : w ∈ tables_1) (g : goodWord w = true) : w ∈ lw_ok := List.mem_filter.mpr ⟨List.mem_append_right _ h, g⟩
theorem lw_i1 {w : Cond} (i : Nat) (h : tables_1_1[i]? = some w) (g : goodWord w = true) : w ∈ lw_ok := lw_ta (List.mem_append_left _ (List.mem_of_getElem? h)) g
theorem lw_i2 {w : Cond} (i : Nat) (h : tables_1_2[i]? = some w) (g : goodWord w = true) : w ∈ lw_ok := lw_ta (List.mem_append_right _ (List.mem_append_left _ (List.mem_of_getElem? h))) g
theorem lw_i3 {w : Cond} (i : Nat) (h : tables_1_3[i]? = some w) (g : goodWord w = true) : w ∈ lw_ok := lw_ta (List.mem_append_right _ (List.mem_append_right _ (List.mem_append_left _ (List.mem_of_getElem? h)))) g
theorem lw_i4 {w : Cond} (i : Nat) (h : tables_1_4[i]? = some w) (g : goodWord w = true) : w ∈ lw_ok := lw_ta (List.mem_append_right _ (List.mem_append_right _ (List.mem_append_right _ (List.mem_append_left _ (List.mem_of_getElem? h))))) g
theorem lw_i5 {w : Cond} (i : Nat) (h : tables_1_5[i]? = some w) (g : goodWord w = true) : w ∈ lw_ok := lw_ta (List.mem_append_right _ (List.mem_append_right _ (List.mem_append_right _ (List.mem_append_right _ (List.mem_of_getElem? h))))) g
def SHc : List Sh := [.inl (7, [(1, 1), (1, 13), (1, 15), (1, 57), (1, 65), (1, 70), (1, 73), (2, 0), (0, 0)]), .inl (6, [(1, 2), (0, 0), (0, 0), (0, 0), (0, 0), (0, 0), (2, 0)]), .inr (0, 240, 0, 0), .inl (1, [(0, 0), (0, 0), (0, 0), (0, 0), (1, 4), (0, 0), (1, 5), (1, 6), (1, 7), (0, 0), (1, 8), (1, 9), (1, 10), (0, 0), (0, 0), (1, 11), (1, 12)]), .inr (0, 8, 0, 0), .inr (0, 10, 0, 0), .inr (0, 10, 0, 0), .inr (0, 10, 0, 0), .inr (0, 10, 0, 0), .inr (0, 10, 0, 0), .inr (0, 10, 0, 0), .inr (0, 5, 0, 0), .inr (0, 256, 0, 0), .inl (4, [(1, 14), (0, 0), (0, 0), (0, 0), (0, 0)]), .inr (0, 5, 0, 0), .inl (3, [(1, 16), (0, 0), (0, 0)]), .inr (2, 20, 17, 20), .inl (4, [(1, 18), (0, 0), (0, 0), (0, 0), (0, 0)]), .inr (0, 5, 0, 0), .inl (4, [(1, 20), (0, 0), (0, 0), (0, 0), (0, 0)]), .inr (0, 5, 0, 0), .inl (4, [(1, 22), (0, 0), (0, 0), (0, 0), (0, 0)]), .inr (0, 5, 0, 0), .inl (4, [(1, 24), (0, 0), (0, 0), (0, 0), (0, 0)]), .inr (0, 5, 0, 0), .inl (4, [(1, 26), (0, 0), (0, 0), (0, 0), (0, 0)]), .inr (0, 5, 0, 0), .inl (4, [(1, 28), (0, 0), (0, 0), (0, 0), (0, 0)]), .inr (0, 5, 0, 0), .inl (4, [(1, 30), (0, 0), (0, 0), (0, 0), (0, 0)]), .inr (0, 5, 0, 0), .inl (4, [(1, 32), (0, 0), (0, 0), (0, 0), (0, 0)]), .inr (0, 5, 0, 0), .inl (4, [(1, 34), (0, 0), (0, 0), (0, 0), (0, 0)]), .inr (0, 5, 0, 0), .inl (4, [(1, 36), (0, 0), (0, 0), (0, 0), (0, 0)]), .inr (0, 5, 0, 0), .inl (4, [(1, 38), (0, 0), (0, 0), (0, 0), (0, 0)]), .inr (0, 5, 0, 0), .inl (4, [(1, 40), (0, 0), (0, 0), (0, 0), (0, 0)]), .inr (0, 5, 0, 0), .inl (4, [(1, 42), (0, 0), (0, 0), (0, 0), (0, 0)]), .inr (0, 5, 0, 0), .inl (4, [(1, 44), (0, 0), (0, 0), (0, 0), (0, 0)]), .inr (0, 5, 0, 0), .inl (4, [(1, 46), (0, 0), (0, 0), (0, 0), (0, 0)]), .inr (0, 5, 0, 0), .inl (4, [(1, 48), (0, 0), (0, 0), (0, 0), (0, 0)]), .inr (0, 5, 0, 0), .inl (4, [(1, 50), (0, 0), (0, 0), (0, 0), (0, 0)]), .inr (0, 5, 0, 0), .inl (4, [(1, 52), (0, 0), (0, 0), (0, 0), (0, 0)]), .inr (0, 5, 0, 0), .inl (4, [(1, 54), (0, 0), (0, 0), (0, 0), (0, 0)]), .inr (0, 5, 0, 0), .inl (4, [(1, 56), (0, 0), (0, 0), (0, 0), (0, 0)]), .inr (0, 5, 0, 0), .inl (2, [(1, 58), (1, 59), (1, 60)]), .inr (2, 2, 61, 2), .inr (0, 2, 0, 0), .inr (1, 2, 0, 0), .inl (4, [(1, 62), (0, 0), (0, 0), (0, 0), (0, 0)]), .inr (0, 5, 0, 0), .inl (4, [(1, 64), (0, 0), (0, 0), (0, 0), (0, 0)]), .inr (0, 5, 0, 0), .inl (5, [(1, 66), (1, 67), (1, 68), (1, 69), (0, 0), (0, 0), (0, 0), (0, 0)]), .inr (0, 6, 0, 0), .inr (0, 6, 0, 0), .inr (1, 6, 0, 0), .inr (0, 8, 0, 0), .inl (0, [(1, 71), (1, 72), (0, 0)]), .inr (0, 15, 0, 0), .inr (0, 15, 0, 0), .inr (0, 8, 0, 0), .inl (1, [(0, 0), (0, 0), (0, 0), (0, 0), (1, 75), (0, 0), (1, 76), (1, 77), (1, 78), (0, 0), (1, 79), (1, 80), (1, 81), (0, 0), (0, 0), (1, 82), (1, 83)]), .inr (0, 8, 0, 0), .inr (0, 10, 0, 0), .inr (0, 10, 0, 0), .inr (0, 10, 0, 0), .inr (0, 10, 0, 0), .inr (0, 10, 0, 0), .inr (0, 10, 0, 0), .inr (0, 5, 0, 0), .inr (0, 256, 0, 0), .inl (8, [(0, 0), (0, 0), (0, 0), (1, 85), (0, 0), (1, 86), (1, 87), (1, 88), (0, 0), (1, 89), (1, 90), (1, 91), (0, 0), (1, 92), (0, 0), (1, 93), (0, 0), (0, 0), (0, 0), (0, 0), (0, 0), (1, 94), (0, 0), (1, 95), (0, 0), (1, 96), (1, 97), (1, 98), (0, 0), (1, 99), (1, 100), (1, 101), (0, 0), (0, 0), (1, 102), (0, 0), (1, 103), (1, 104), (0, 0), (1, 105), (1, 106), (1, 107), (1, 108), (0, 0), (1, 109), (1, 110), (1, 111), (1, 112)]), .inr (0, 8, 0, 0), .inr (0, 10, 0, 0), .inr (0, 10, 0, 0), .inr (0, 10, 0, 0), .inr (0, 10, 0, 0), .inr (0, 10, 0, 0), .inr (0, 10, 0, 0), .inr (0, 9, 0, 0), .inr (0, 240, 0, 0), .inr (0, 2, 0, 0), .inr (0, 8, 0, 0), .inr (0, 10, 0, 0), .inr (0, 10, 0, 0), .inr (0, 10, 0, 0), .inr (0, 10, 0, 0), .inr (0, 10, 0, 0), .inr (0, 10, 0, 0), .inr (0, 5, 0, 0), .inr (0, 180, 0, 0), .inr (0, 8, 0, 0), .inr (0, 6, 0, 0), .inr (0, 6, 0, 0), .inr (1, 6, 0, 0), .inr (0, 8, 0, 0), .inr (0, 15, 0, 0), .inr (0, 15, 0, 0), .inr (0, 20, 0, 0), .inr (1, 2, 0, 0)]
theorem sh_0 : SHc[0]? = some (.inl (7, [(1, 1), (1, 13), (1, 15), (1, 57), (1, 65), (1, 70), (1, 73), (2, 0), (0, 0)])) := rfl
theorem sh_1 : SHc[1]? = some (.inl (6, [(1, 2), (0, 0), (0, 0), (0, 0), (0, 0), (0, 0), (2, 0)])) := rfl
theorem sh_2 : SHc[2]? = some (.inr (0, 240, 0, 0)) := rfl
theorem sh_3 : SHc[3]? = some (.inl (1, [(0, 0), (0, 0), (0, 0), (0, 0), (1, 4), (0, 0), (1, 5), (1, 6), (1, 7), (0, 0), (1, 8), (1, 9), (1, 10), (0, 0), (0, 0), (1, 11), (1, 12)])) := rfl
theorem sh_4 : SHc[4]? = some (.inr (0, 8, 0, 0)) := rfl
theorem sh_5 : SHc[5]? = some (.inr (0, 10, 0, 0)) := rfl
theorem sh_6 : SHc[6]? = some (.inr (0, 10, 0, 0)) := rfl
theorem sh_7 : SHc[7]? = some (.inr (0, 10, 0, 0)) := rfl
theorem sh_8 : SHc[8]? = some (.inr (0, 10, 0, 0)) := rfl
theorem sh_9 : SHc[9]? = some (.inr (0, 10, 0, 0)) := rfl
theorem sh_10 : SHc[10]? = some (.inr (0, 10, 0, 0)) := rfl
theorem sh_11 : SHc[11]? = some (.inr (0, 5, 0, 0)) := rfl
theorem sh_12 : SHc[12]? = some (.inr (0, 256, 0, 0)) := rfl
theorem sh_13 : SHc[13]? = some (.inl (4, [(1, 14), (0, 0), (0, 0), (0, 0), (0, 0)])) := rfl
theorem sh_14 : SHc[14]? = some (.inr (0, 5, 0, 0)) := rfl
theorem sh_15 : SHc[15]? = some (.inl (3, [(1, 16), (0, 0), (0, 0)])) := rfl
theorem sh_16 : SHc[16]? = some (.inr (2, 20, 17, 20)) := rfl
theorem sh_17 : SHc[17]? = some (.inl (4, [(1, 18), (0, 0), (0, 0), (0, 0), (0, 0)])) := rfl
theorem sh_18 : SHc[18]? = some (.inr (0, 5, 0, 0)) := rfl
theorem sh_19 : SHc[19]? = some (.inl (4, [(1, 20), (0, 0), (0, 0), (0, 0), (0, 0)])) := rfl
theorem sh_20 : SHc[20]? = some (.inr (0, 5, 0, 0)) := rfl
theorem sh_21 : SHc[21]? = some (.inl (4, [(1, 22), (0, 0), (0, 0), (0, 0), (0, 0)])) := rfl
theorem sh_22 : SHc[22]? = some (.inr (0, 5, 0, 0)) := rfl
theorem sh_23 : SHc[23]? = some (.inl (4, [(1, 24), (0, 0), (0, 0), (0, 0), (0, 0)])) := rfl
theorem sh_24 : SHc[24]? = some (.inr (0, 5, 0, 0)) := rfl
theorem sh_25 : SHc[25]? = some (.inl (4, [(1, 26), (0, 0), (0, 0), (0, 0), (0, 0)])) := rfl
theorem sh_26 : SHc[26]? = some (.inr (0, 5, 0, 0)) := rfl
theorem sh_27 : SHc[27]? = some (.inl (4, [(1, 28), (0, 0), (0, 0), (0, 0), (0, 0)])) := rfl
theorem sh_28 : SHc[28]? = some (.inr (0, 5, 0, 0)) := rfl
theorem sh_29 : SHc[29]? = some (.inl (4, [(1, 30), (0, 0), (0, 0), (0, 0), (0, 0)])) := rfl
theorem sh_30 : SHc[30]? = some (.inr (0, 5, 0, 0)) := rfl
theorem sh_31 : SHc[31]? = some (.inl (4, [(1, 32), (0, 0), (0, 0), (0, 0), (0, 0)])) := rfl
theorem sh_32 : SHc[32]? = some (.inr (0, 5, 0, 0)) := rfl
theorem sh_33 : SHc[33]? = some (.inl (4, [(1, 34), (0, 0), (0, 0), (0, 0), (0, 0)])) := rfl
theorem sh_34 : SHc[34]? = some (.inr (0, 5, 0, 0)) := rfl
theorem sh_35 : SHc[35]? = some (.inl (4, [(1, 36), (0, 0), (0, 0), (0, 0), (0, 0)])) := rfl
theorem sh_36 : SHc[36]? = some (.inr (0, 5, 0, 0)) := rfl
theorem sh_37 : SHc[37]? = some (.inl (4, [(1, 38), (0, 0), (0, 0), (0, 0), (0, 0)])) := rfl
theorem sh_38 : SHc[38]? = some (.inr (0, 5, 0, 0)) := rfl
theorem sh_39 : SHc[39]? = some (.inl (4, [(1, 40), (0, 0), (0, 0), (0, 0), (0, 0)])) := rfl
theorem sh_40 : SHc[40]? = some (.inr (0, 5, 0, 0)) := rfl
theorem sh_41 : SHc[41]? = some (.inl (4, [(1, 42), (0, 0), (0, 0), (0, 0), (0, 0)])) := rfl
theorem sh_42 : SHc[42]? = some (.inr (0, 5, 0, 0)) := rfl
theorem sh_43 : SHc[43]? = some (.inl (4, [(1, 44), (0, 0), (0, 0), (0, 0), (0, 0)])) := rfl
theorem sh_44 : SHc[44]? = some (.inr (0, 5, 0, 0)) := rfl
theorem sh_45 : SHc[45]? = some (.inl (4, [(1, 46), (0, 0), (0, 0), (0, 0), (0, 0)])) := rfl
theorem sh_46 : SHc[46]? = some (.inr (0, 5, 0, 0)) := rfl
theorem sh_47 : SHc[47]? = some (.inl (4, [(1, 48), (0, 0), (0, 0), (0, 0), (0, 0)])) := rfl
theorem sh_48 : SHc[48]? = some (.inr (0, 5, 0, 0)) := rfl
theorem sh_49 : SHc[49]? = some (.inl (4, [(1, 50), (0, 0), (0, 0), (0, 0), (0, 0)])) := rfl
theorem sh_50 : SHc[50]? = some (.inr (0, 5, 0, 0)) := rfl
theorem sh_51 : SHc[51]? = some (.inl (4, [(1, 52), (0, 0), (0, 0), (0, 0), (0, 0)])) := rfl
theorem sh_52 : SHc[52]? = some (.inr (0, 5, 0, 0)) := rfl
theorem sh_53 : SHc[53]? = some (.inl (4, [(1, 54), (0, 0), (0, 0), (0, 0), (0, 0)])) := rfl
theorem sh_54 : SHc[54]? = some (.inr (0, 5, 0, 0)) := rfl
theorem sh_55 : SHc[55]? = some (.inl (4, [(1, 56), (0, 0), (0, 0), (0, 0), (0, 0)])) := rfl
theorem sh_56 : SHc[56]? = some (.inr (0, 5, 0, 0)) := rfl
theorem sh_57 : SHc[57]? = some (.inl (2, [(1, 58), (1, 59), (1, 60)])) := rfl
theorem sh_58 : SHc[58]? = some (.inr (2, 2, 61, 2)) := rfl
theorem sh_59 : SHc[59]? = some (.inr (0, 2, 0, 0)) := rfl
theorem sh_60 : SHc[60]? = some (.inr (1, 2, 0, 0)) := rfl
theorem sh_61 : SHc[61]? = some (.inl (4, [(1, 62), (0, 0), (0, 0), (0, 0), (0, 0)])) := rfl
theorem sh_62 : SHc[62]? = some (.inr (0, 5, 0, 0)) := rfl
theorem sh_63 : SHc[63]? = some (.inl (4, [(1, 64), (0, 0), (0, 0), (0, 0), (0, 0)])) := rfl
theorem sh_64 : SHc[64]? = some (.inr (0, 5, 0, 0)) := rfl
theorem sh_65 : SHc[65]? = some (.inl (5, [(1, 66), (1, 67), (1, 68), (1, 69), (0, 0), (0, 0), (0, 0), (0, 0)])) := rfl
theorem sh_66 : SHc[66]? = some (.inr (0, 6, 0, 0)) := rfl
theorem sh_67 : SHc[67]? = some (.inr (0, 6, 0, 0)) := rfl
theorem sh_68 : SHc[68]? = some (.inr (1, 6, 0, 0)) := rfl
theorem sh_69 : SHc[69]? = some (.inr (0, 8, 0, 0)) := rfl
theorem sh_70 : SHc[70]? = some (.inl (0, [(1, 71), (1, 72), (0, 0)])) := rfl
theorem sh_71 : SHc[71]? = some (.inr (0, 15, 0, 0)) := rfl
theorem sh_72 : SHc[72]? = some (.inr (0, 15, 0, 0)) := rfl
theorem sh_73 : SHc[73]? = some (.inr (0, 8, 0, 0)) := rfl
theorem sh_74 : SHc[74]? = some (.inl (1, [(0, 0), (0, 0), (0, 0), (0, 0), (1, 75), (0, 0), (1, 76), (1, 77), (1, 78), (0, 0), (1, 79), (1, 80), (1, 81), (0, 0), (0, 0), (1, 82), (1, 83)])) := rfl
theorem sh_75 : SHc[75]? = some (.inr (0, 8, 0, 0)) := rfl
theorem sh_76 : SHc[76]? = some (.inr (0, 10, 0, 0)) := rfl
theorem sh_77 : SHc[77]? = some (.inr (0, 10, 0, 0)) := rfl
theorem sh_78 : SHc[78]? = some (.inr (0, 10, 0, 0)) := rfl
theorem sh_79 : SHc[79]? = some (.inr (0, 10, 0, 0)) := rfl
theorem sh_80 : SHc[80]? = some (.inr (0, 10, 0, 0)) := rfl
theorem sh_81 : SHc[81]? = some (.inr (0, 10, 0, 0)) := rfl
theorem sh_82 : SHc[82]? = some (.inr (0, 5, 0, 0)) := rfl
theorem sh_83 : SHc[83]? = some (.inr (0, 256, 0, 0)) := rfl
theorem sh_84 : SHc[84]? = some (.inl (8, [(0, 0), (0, 0), (0, 0), (1, 85), (0, 0), (1, 86), (1, 87), (1, 88), (0, 0), (1, 89), (1, 90), (1, 91), (0, 0), (1, 92), (0, 0), (1, 93), (0, 0), (0, 0), (0, 0), (0, 0), (0, 0), (1, 94), (0, 0), (1, 95), (0, 0), (1, 96), (1, 97), (1, 98), (0, 0), (1, 99), (1, 100), (1, 101), (0, 0), (0, 0), (1, 102), (0, 0), (1, 103), (1, 104), (0, 0), (1, 105), (1, 106), (1, 107), (1, 108), (0, 0), (1, 109), (1, 110), (1, 111), (1, 112)])) := rfl
theorem sh_85 : SHc[85]? = some (.inr (0, 8, 0, 0)) := rfl
theorem sh_86 : SHc[86]? = some (.inr (0, 10, 0, 0)) := rfl
theorem sh_87 : SHc[87]? = some (.inr (0, 10, 0, 0)) := rfl
theorem sh_88 : SHc[88]? = some (.inr (0, 10, 0, 0)) := rfl
theorem sh_89 : SHc[89]? = some (.inr (0, 10, 0, 0)) := rfl
theorem sh_90 : SHc[90]? = some (.inr (0, 10, 0, 0)) := rfl
theorem sh_91 : SHc[91]? = some (.inr (0, 10, 0, 0)) := rfl
theorem sh_92 : SHc[92]? = some (.inr (0, 9, 0, 0)) := rfl
theorem sh_93 : SHc[93]? = some (.inr (0, 240, 0, 0)) := rfl
theorem sh_94 : SHc[94]? = some (.inr (0, 2, 0, 0)) := rfl
theorem sh_95 : SHc[95]? = some (.inr (0, 8, 0, 0)) := rfl
theorem sh_96 : SHc[96]? = some (.inr (0, 10, 0, 0)) := rfl
theorem sh_97 : SHc[97]? = some (.inr (0, 10, 0, 0)) := rfl
theorem sh_98 : SHc[98]? = some (.inr (0, 10, 0, 0)) := rfl
theorem sh_99 : SHc[99]? = some (.inr (0, 10, 0, 0)) := rfl
theorem sh_100 : SHc[100]? = some (.inr (0, 10, 0, 0)) := rfl
theorem sh_101 : SHc[101]? = some (.inr (0, 10, 0, 0)) := rfl
theorem sh_102 : SHc[102]? = some (.inr (0, 5, 0, 0)) := rfl
theorem sh_103 : SHc[103]? = some (.inr (0, 180, 0, 0)) := rfl
theorem sh_104 : SHc[104]? = some (.inr (0, 8, 0, 0)) := rfl
theorem sh_105 : SHc[105]? = some (.inr (0, 6, 0, 0)) := rfl
theorem sh_106 : SHc[106]? = some (.inr (0, 6, 0, 0)) := rfl
theorem sh_107 : SHc[107]? = some (.inr (1, 6, 0, 0)) := rfl
theorem sh_108 : SHc[108]? = some (.inr (0, 8, 0, 0)) := rfl
theorem sh_109 : SHc[109]? = some (.inr (0, 15, 0, 0)) := rfl
theorem sh_110 : SHc[110]? = some (.inr (0, 15, 0, 0)) := rfl
theorem sh_111 : SHc[111]? = some (.inr (0, 20, 0, 0)) := rfl
theorem sh_112 : SHc[112]? = some (.inr (1, 2, 0, 0)) := rfl
def isCnt (c : Nat) : Prop := c = 3 ∨ c = 74
theorem cnt_dx (v : Int32) : isCnt (md_dx v) := by
  unfold md_dx isCnt
  split
  · exact Or.inl rfl
  · exact Or.inr rfl
theorem cnt_ex {c : Nat} (hc : isCnt c) : md_dx (md_ex c) = c := by
  rcases hc with rfl | rfl <;> rfl
theorem cn_4 {c : Nat} (hc : isCnt c) : SHc[c + 1]? = some (.inr (0, 8, 0, 0)) := by
  rcases hc with rfl | rfl <;> rfl
theorem cn_6 {c : Nat} (hc : isCnt c) : SHc[c + 2]? = some (.inr (0, 10, 0, 0)) := by
  rcases hc with rfl | rfl <;> rfl
theorem cn_7 {c : Nat} (hc : isCnt c) : SHc[c + 3]? = some (.inr (0, 10, 0, 0)) := by
  rcases hc with rfl | rfl <;> rfl
theorem cn_8 {c : Nat} (hc : isCnt c) : SHc[c + 4]? = some (.inr (0, 10, 0, 0)) := by
  rcases hc with rfl | rfl <;> rfl
theorem cn_10 {c : Nat} (hc : isCnt c) : SHc[c + 5]? = some (.inr (0, 10, 0, 0)) := by
  rcases hc with rfl | rfl <;> rfl
theorem cn_11 {c : Nat} (hc : isCnt c) : SHc[c + 6]? = some (.inr (0, 10, 0, 0)) := by
  rcases hc with rfl | rfl <;> rfl
theorem cn_12 {c : Nat} (hc : isCnt c) : SHc[c + 7]? = some (.inr (0, 10, 0, 0)) := by
  rcases hc with rfl | rfl <;> rfl
theorem cn_15 {c : Nat} (hc : isCnt c) : SHc[c + 8]? = some (.inr (0, 5, 0, 0)) := by
  rcases hc with rfl | rfl <;> rfl
theorem cn_16 {c : Nat} (hc : isCnt c) : SHc[c + 9]? = some (.inr (0, 256, 0, 0)) := by
  rcases hc with rfl | rfl <;> rfl
theorem cn_o {c : Nat} (hc : isCnt c) : SHc[c]? = some (.inl (1, [(0, 0), (0, 0), (0, 0), (0, 0), (1, c + 1), (0, 0), (1, c + 2), (1, c + 3), (1, c + 4), (0, 0), (1, c + 5), (1, c + 6), (1, c + 7), (0, 0), (0, 0), (1, c + 8), (1, c + 9)])) := by
  rcases hc with rfl | rfl <;> rfl
def isPst (c : Nat) : Prop := c = 13 ∨ (∃ j, j < 20 ∧ c = 17 + 2 * j) ∨ ∃ j, j < 2 ∧ c = 61 + 2 * j
theorem ps_o_a : ∀ j, j < 20 → SHc[17 + 2 * j]? = some (.inl (4, [(1, 17 + 2 * j + 1), (0, 0), (0, 0), (0, 0), (0, 0)])) ∧ SHc[17 + 2 * j + 1]? = some (.inr (0, 5, 0, 0)) := by
  intro j hj
  rcases (by omega : j = 0 ∨ j = 1 ∨ j = 2 ∨ j = 3 ∨ j = 4 ∨ j = 5 ∨ j = 6 ∨ j = 7 ∨ j = 8 ∨ j = 9 ∨ j = 10 ∨ j = 11 ∨ j = 12 ∨ j = 13 ∨ j = 14 ∨ j = 15 ∨ j = 16 ∨ j = 17 ∨ j = 18 ∨ j = 19) with rfl | rfl | rfl | rfl | rfl | rfl | rfl | rfl | rfl | rfl | rfl | rfl | rfl | rfl | rfl | rfl | rfl | rfl | rfl | rfl <;> exact ⟨rfl, rfl⟩
theorem ps_o_b : ∀ j, j < 2 → SHc[61 + 2 * j]? = some (.inl (4, [(1, 61 + 2 * j + 1), (0, 0), (0, 0), (0, 0), (0, 0)])) ∧ SHc[61 + 2 * j + 1]? = some (.inr (0, 5, 0, 0)) := by
  intro j hj
  rcases (by omega : j = 0 ∨ j = 1) with rfl | rfl <;> exact ⟨rfl, rfl⟩
theorem ps_o {c : Nat} (hc : isPst c) : SHc[c]? = some (.inl (4, [(1, c + 1), (0, 0), (0, 0), (0, 0), (0, 0)])) := by
  rcases hc with rfl | ⟨j, hj, rfl⟩ | ⟨j, hj, rfl⟩
  · rfl
  · exact (ps_o_a j hj).1
  · exact (ps_o_b j hj).1
theorem ps_0 {c : Nat} (hc : isPst c) : SHc[c + 1]? = some (.inr (0, 5, 0, 0)) := by
  rcases hc with rfl | ⟨j, hj, rfl⟩ | ⟨j, hj, rfl⟩
  · rfl
  · exact (ps_o_a j hj).2
  · exact (ps_o_b j hj).2
theorem ps_13 : isPst 13 := Or.inl rfl
theorem ps_ring {i : Int32} (h : md_in i 20 = true) : isPst (17 + 2 * i.toNatClampNeg) := Or.inr (Or.inl ⟨_, Nat.not_le.mp fun q => (md_in_vp h) (Or.inr q), rfl⟩)
theorem ps_img {i : Int32} (h : md_in i 2 = true) : isPst (61 + 2 * i.toNatClampNeg) := Or.inr (Or.inr ⟨_, Nat.not_le.mp fun q => (md_in_vp h) (Or.inr q), rfl⟩)
theorem okX0 : ∀ w ∈ u_ws RX0 TX0 3, w ∈ lw_ok := fun w hw => List.mem_filter.mpr ⟨inX0 w hw, List.all_eq_true.mp (by decide +kernel : (u_ws RX0 TX0 3).all goodWord = true) w hw⟩
theorem okX1 : ∀ w ∈ u_ws RX1 TX1 17, w ∈ lw_ok := fun w hw => List.mem_filter.mpr ⟨inX1 w hw, List.all_eq_true.mp (by decide +kernel : (u_ws RX1 TX1 17).all goodWord = true) w hw⟩
theorem okX2 : ∀ w ∈ u_ws RX2 TX2 3, w ∈ lw_ok := fun w hw => List.mem_filter.mpr ⟨inX2 w hw, List.all_eq_true.mp (by decide +kernel : (u_ws RX2 TX2 3).all goodWord = true) w hw⟩
theorem okX3 : ∀ w ∈ u_ws RX3 TX3 3, w ∈ lw_ok := fun w hw => List.mem_filter.mpr ⟨inX3 w hw, List.all_eq_true.mp (by decide +kernel : (u_ws RX3 TX3 3).all goodWord = true) w hw⟩
theorem okX4 : ∀ w ∈ u_ws RX4 TX4 5, w ∈ lw_ok := fun w hw => List.mem_filter.mpr ⟨inX4 w hw, List.all_eq_true.mp (by decide +kernel : (u_ws RX4 TX4 5).all goodWord = true) w hw⟩
theorem okX5 : ∀ w ∈ u_ws RX5 TX5 8, w ∈ lw_ok := fun w hw => List.mem_filter.mpr ⟨inX5 w hw, List.all_eq_true.mp (by decide +kernel : (u_ws RX5 TX5 8).all goodWord = true) w hw⟩
theorem okX6 : ∀ w ∈ u_ws RX6 TX6 7, w ∈ lw_ok := fun w hw => List.mem_filter.mpr ⟨inX6 w hw, List.all_eq_true.mp (by decide +kernel : (u_ws RX6 TX6 7).all goodWord = true) w hw⟩
theorem okX7 : ∀ w ∈ u_ws RX7 TX7 9, w ∈ lw_ok := fun w hw => List.mem_filter.mpr ⟨inX7 w hw, List.all_eq_true.mp (by decide +kernel : (u_ws RX7 TX7 9).all goodWord = true) w hw⟩
theorem okX8 : ∀ w ∈ u_ws RX8 TX8 48, w ∈ lw_ok := fun w hw => List.mem_filter.mpr ⟨inX8 w hw, List.all_eq_true.mp (by decide +kernel : (u_ws RX8 TX8 48).all goodWord = true) w hw⟩
theorem fl_X0_9 : Cond.fieldLink RX0 9 (TX0 0).1 (TX0 0).2.1 (TX0 0).2.2.1 ∈ lw_ok := lw_i2 8 rfl rfl
theorem ff_X0_9 : FFd RX0 9 0 0 := ⟨_, _, _, rfl, by decide, okX0, fl_X0_9⟩
theorem fl_X0_15 : Cond.fieldLink RX0 15 (TX0 1).1 (TX0 1).2.1 (TX0 1).2.2.1 ∈ lw_ok := lw_i2 9 rfl rfl
theorem ff_X0_15 : FFd RX0 15 0 1 := ⟨_, _, _, rfl, by decide, okX0, fl_X0_15⟩
theorem fl_X0_18 : Cond.fieldLink RX0 18 (TX0 2).1 (TX0 2).2.1 (TX0 2).2.2.1 ∈ lw_ok := lw_i2 10 rfl rfl
theorem ff_X0_18 : FFd RX0 18 0 2 := ⟨_, _, _, rfl, by decide, okX0, fl_X0_18⟩
theorem fp_X0_18 : FFp RX0 18 0 2 .int := ⟨_, _, _, tyX0, rfl, by decide, okX0, fl_X0_18, tyX0_ok, nmX0, rfl, by decide +kernel⟩
theorem fl_X1_9 : Cond.fieldLink RX1 9 (TX1 4).1 (TX1 4).2.1 (TX1 4).2.2.1 ∈ lw_ok := lw_i1 44 rfl rfl
theorem ff_X1_9 : FFd RX1 9 1 4 := ⟨_, _, _, rfl, by decide, okX1, fl_X1_9⟩
theorem fl_X1_15 : Cond.fieldLink RX1 15 (TX1 6).1 (TX1 6).2.1 (TX1 6).2.2.1 ∈ lw_ok := lw_i1 50 rfl rfl
theorem ff_X1_15 : FFd RX1 15 1 6 := ⟨_, _, _, rfl, by decide, okX1, fl_X1_15⟩
theorem fl_X1_18 : Cond.fieldLink RX1 18 (TX1 7).1 (TX1 7).2.1 (TX1 7).2.2.1 ∈ lw_ok := lw_i1 52 rfl rfl
theorem ff_X1_18 : FFd RX1 18 1 7 := ⟨_, _, _, rfl, by decide, okX1, fl_X1_18⟩
theorem fl_X1_21 : Cond.fieldLink RX1 21 (TX1 8).1 (TX1 8).2.1 (TX1 8).2.2.1 ∈ lw_ok := lw_i1 54 rfl rfl
theorem ff_X1_21 : FFd RX1 21 1 8 := ⟨_, _, _, rfl, by decide, okX1, fl_X1_21⟩
theorem fl_X1_24 : Cond.fieldLink RX1 24 (TX1 10).1 (TX1 10).2.1 (TX1 10).2.2.1 ∈ lw_ok := lw_i1 59 rfl rfl
theorem ff_X1_24 : FFd RX1 24 1 10 := ⟨_, _, _, rfl, by decide, okX1, fl_X1_24⟩
theorem fl_X1_27 : Cond.fieldLink RX1 27 (TX1 11).1 (TX1 11).2.1 (TX1 11).2.2.1 ∈ lw_ok := lw_i1 62 rfl rfl
theorem ff_X1_27 : FFd RX1 27 1 11 := ⟨_, _, _, rfl, by decide, okX1, fl_X1_27⟩
theorem fl_X1_30 : Cond.fieldLink RX1 30 (TX1 12).1 (TX1 12).2.1 (TX1 12).2.2.1 ∈ lw_ok := lw_i1 65 rfl rfl
theorem ff_X1_30 : FFd RX1 30 1 12 := ⟨_, _, _, rfl, by decide, okX1, fl_X1_30⟩
theorem fl_X1_33 : Cond.fieldLink RX1 33 (TX1 15).1 (TX1 15).2.1 (TX1 15).2.2.1 ∈ lw_ok := lw_i1 74 rfl rfl
theorem fl_X1_36 : Cond.fieldLink RX1 36 (TX1 16).1 (TX1 16).2.1 (TX1 16).2.2.1 ∈ lw_ok := lw_i1 77 rfl rfl
theorem ff_X1_36 : FFd RX1 36 1 16 := ⟨_, _, _, rfl, by decide, okX1, fl_X1_36⟩
theorem fl_X1_39 : Cond.fieldLink RX1 39 (TX1 0).1 (TX1 0).2.1 (TX1 0).2.2.1 ∈ lw_ok := lw_i1 32 rfl rfl
theorem fp_X1_39 : FFp RX1 39 1 0 .boolean := ⟨_, _, _, tyX1, rfl, by decide, okX1, fl_X1_39, tyX1_ok, nmX1, rfl, by decide +kernel⟩
theorem fl_X1_43 : Cond.fieldLink RX1 43 (TX1 1).1 (TX1 1).2.1 (TX1 1).2.2.1 ∈ lw_ok := lw_i1 35 rfl rfl
theorem ff_X1_43 : FFd RX1 43 1 1 := ⟨_, _, _, rfl, by decide, okX1, fl_X1_43⟩
theorem fp_X1_43 : FFp RX1 43 1 1 .int := ⟨_, _, _, tyX1, rfl, by decide, okX1, fl_X1_43, tyX1_ok, nmX1, rfl, by decide +kernel⟩
theorem fl_X1_47 : Cond.fieldLink RX1 47 (TX1 2).1 (TX1 2).2.1 (TX1 2).2.2.1 ∈ lw_ok := lw_i1 38 rfl rfl
theorem fp_X1_47 : FFp RX1 47 1 2 .int := ⟨_, _, _, tyX1, rfl, by decide, okX1, fl_X1_47, tyX1_ok, nmX1, rfl, by decide +kernel⟩
theorem fl_X1_50 : Cond.fieldLink RX1 50 (TX1 3).1 (TX1 3).2.1 (TX1 3).2.2.1 ∈ lw_ok := lw_i1 41 rfl rfl
theorem ff_X1_50 : FFd RX1 50 1 3 := ⟨_, _, _, rfl, by decide, okX1, fl_X1_50⟩
theorem fp_X1_50 : FFp RX1 50 1 3 .int := ⟨_, _, _, tyX1, rfl, by decide, okX1, fl_X1_50, tyX1_ok, nmX1, rfl, by decide +kernel⟩
theorem fl_X1_53 : Cond.fieldLink RX1 53 (TX1 5).1 (TX1 5).2.1 (TX1 5).2.2.1 ∈ lw_ok := lw_i1 47 rfl rfl
theorem ff_X1_53 : FFd RX1 53 1 5 := ⟨_, _, _, rfl, by decide, okX1, fl_X1_53⟩
theorem fp_X1_53 : FFp RX1 53 1 5 .int := ⟨_, _, _, tyX1, rfl, by decide, okX1, fl_X1_53, tyX1_ok, nmX1, rfl, by decide +kernel⟩
theorem fl_X1_56 : Cond.fieldLink RX1 56 (TX1 9).1 (TX1 9).2.1 (TX1 9).2.2.1 ∈ lw_ok := lw_i1 56 rfl rfl
theorem ff_X1_56 : FFd RX1 56 1 9 := ⟨_, _, _, rfl, by decide, okX1, fl_X1_56⟩
theorem fp_X1_56 : FFp RX1 56 1 9 .int := ⟨_, _, _, tyX1, rfl, by decide, okX1, fl_X1_56, tyX1_ok, nmX1, rfl, by decide +kernel⟩
theorem fl_X1_59 : Cond.fieldLink RX1 59 (TX1 13).1 (TX1 13).2.1 (TX1 13).2.2.1 ∈ lw_ok := lw_i1 68 rfl rfl
theorem fp_X1_59 : FFp RX1 59 1 13 .int := ⟨_, _, _, tyX1, rfl, by decide, okX1, fl_X1_59, tyX1_ok, nmX1, rfl, by decide +kernel⟩
theorem fl_X1_62 : Cond.fieldLink RX1 62 (TX1 14).1 (TX1 14).2.1 (TX1 14).2.2.1 ∈ lw_ok := lw_i1 71 rfl rfl
theorem ff_X1_62 : FFd RX1 62 1 14 := ⟨_, _, _, rfl, by decide, okX1, fl_X1_62⟩
theorem fp_X1_62 : FFp RX1 62 1 14 .int := ⟨_, _, _, tyX1, rfl, by decide, okX1, fl_X1_62, tyX1_ok, nmX1, rfl, by decide +kernel⟩
theorem fl_X2_11 : Cond.fieldLink RX2 11 (TX2 0).1 (TX2 0).2.1 (TX2 0).2.2.1 ∈ lw_ok := lw_i1 193 rfl rfl
theorem ff_X2_11 : FFd RX2 11 2 0 := ⟨_, _, _, rfl, by decide, okX2, fl_X2_11⟩
theorem fl_X2_17 : Cond.fieldLink RX2 17 (TX2 1).1 (TX2 1).2.1 (TX2 1).2.2.1 ∈ lw_ok := lw_i1 195 rfl rfl
theorem ff_X2_17 : FFd RX2 17 2 1 := ⟨_, _, _, rfl, by decide, okX2, fl_X2_17⟩
theorem fl_X2_21 : Cond.fieldLink RX2 21 (TX2 2).1 (TX2 2).2.1 (TX2 2).2.2.1 ∈ lw_ok := lw_i1 197 rfl rfl
theorem ff_X2_21 : FFd RX2 21 2 2 := ⟨_, _, _, rfl, by decide, okX2, fl_X2_21⟩
theorem fl_X3_11 : Cond.fieldLink RX3 11 (TX3 0).1 (TX3 0).2.1 (TX3 0).2.2.1 ∈ lw_ok := lw_i1 174 rfl rfl
theorem ff_X3_11 : FFd RX3 11 3 0 := ⟨_, _, _, rfl, by decide, okX3, fl_X3_11⟩
theorem fl_X3_18 : Cond.fieldLink RX3 18 (TX3 1).1 (TX3 1).2.1 (TX3 1).2.2.1 ∈ lw_ok := lw_i1 175 rfl rfl
theorem ff_X3_18 : FFd RX3 18 3 1 := ⟨_, _, _, rfl, by decide, okX3, fl_X3_18⟩
theorem fp_X3_18 : FFp RX3 18 3 1 .int := ⟨_, _, _, tyX3, rfl, by decide, okX3, fl_X3_18, tyX3_ok, nmX3, rfl, by decide +kernel⟩
theorem fl_X3_26 : Cond.fieldLink RX3 26 (TX3 2).1 (TX3 2).2.1 (TX3 2).2.2.1 ∈ lw_ok := lw_i1 176 rfl rfl
theorem ff_X3_26 : FFd RX3 26 3 2 := ⟨_, _, _, rfl, by decide, okX3, fl_X3_26⟩
theorem fp_X3_26 : FFp RX3 26 3 2 .int := ⟨_, _, _, tyX3, rfl, by decide, okX3, fl_X3_26, tyX3_ok, nmX3, rfl, by decide +kernel⟩
theorem fl_X4_9 : Cond.fieldLink RX4 9 (TX4 0).1 (TX4 0).2.1 (TX4 0).2.2.1 ∈ lw_ok := lw_i1 145 rfl rfl
theorem ff_X4_9 : FFd RX4 9 4 0 := ⟨_, _, _, rfl, by decide, okX4, fl_X4_9⟩
theorem fl_X4_21 : Cond.fieldLink RX4 21 (TX1 15).1 (TX1 15).2.1 (TX1 15).2.2.1 ∈ lw_ok := lw_i1 75 rfl rfl
theorem ff_X4_21 : FFd RX4 21 1 15 := ⟨_, _, _, rfl, by decide, okX1, fl_X4_21⟩
theorem fl_X4_22 : Cond.fieldLink RX4 22 (TX1 13).1 (TX1 13).2.1 (TX1 13).2.2.1 ∈ lw_ok := lw_i1 69 rfl rfl
theorem ff_X4_22 : FFd RX4 22 1 13 := ⟨_, _, _, rfl, by decide, okX1, fl_X4_22⟩
theorem fl_X4_26 : Cond.fieldLink RX4 26 (TX4 1).1 (TX4 1).2.1 (TX4 1).2.2.1 ∈ lw_ok := lw_i1 146 rfl rfl
theorem ff_X4_26 : FFd RX4 26 4 1 := ⟨_, _, _, rfl, by decide, okX4, fl_X4_26⟩
theorem fp_X4_26 : FFp RX4 26 4 1 .int := ⟨_, _, _, tyX4, rfl, by decide, okX4, fl_X4_26, tyX4_ok, nmX4, rfl, by decide +kernel⟩
theorem fl_X4_27 : Cond.fieldLink RX4 27 (TX4 2).1 (TX4 2).2.1 (TX4 2).2.2.1 ∈ lw_ok := lw_i1 148 rfl rfl
theorem ff_X4_27 : FFd RX4 27 4 2 := ⟨_, _, _, rfl, by decide, okX4, fl_X4_27⟩
theorem fp_X4_27 : FFp RX4 27 4 2 .int := ⟨_, _, _, tyX4, rfl, by decide, okX4, fl_X4_27, tyX4_ok, nmX4, rfl, by decide +kernel⟩
theorem fl_X4_30 : Cond.fieldLink RX4 30 (TX4 3).1 (TX4 3).2.1 (TX4 3).2.2.1 ∈ lw_ok := lw_i1 150 rfl rfl
theorem ff_X4_30 : FFd RX4 30 4 3 := ⟨_, _, _, rfl, by decide, okX4, fl_X4_30⟩
theorem fp_X4_30 : FFp RX4 30 4 3 .int := ⟨_, _, _, tyX4, rfl, by decide, okX4, fl_X4_30, tyX4_ok, nmX4, rfl, by decide +kernel⟩
theorem fl_X4_33 : Cond.fieldLink RX4 33 (TX4 4).1 (TX4 4).2.1 (TX4 4).2.2.1 ∈ lw_ok := lw_i1 152 rfl rfl
theorem ff_X4_33 : FFd RX4 33 4 4 := ⟨_, _, _, rfl, by decide, okX4, fl_X4_33⟩
theorem fp_X4_33 : FFp RX4 33 4 4 .int := ⟨_, _, _, tyX4, rfl, by decide, okX4, fl_X4_33, tyX4_ok, nmX4, rfl, by decide +kernel⟩
theorem fl_X5_9 : Cond.fieldLink RX5 9 (TX5 0).1 (TX5 0).2.1 (TX5 0).2.2.1 ∈ lw_ok := lw_i1 213 rfl rfl
theorem ff_X5_9 : FFd RX5 9 5 0 := ⟨_, _, _, rfl, by decide, okX5, fl_X5_9⟩
theorem fl_X5_15 : Cond.fieldLink RX5 15 (TX5 1).1 (TX5 1).2.1 (TX5 1).2.2.1 ∈ lw_ok := lw_i1 214 rfl rfl
theorem ff_X5_15 : FFd RX5 15 5 1 := ⟨_, _, _, rfl, by decide, okX5, fl_X5_15⟩
theorem fl_X5_18 : Cond.fieldLink RX5 18 (TX5 2).1 (TX5 2).2.1 (TX5 2).2.2.1 ∈ lw_ok := lw_i1 215 rfl rfl
theorem ff_X5_18 : FFd RX5 18 5 2 := ⟨_, _, _, rfl, by decide, okX5, fl_X5_18⟩
theorem fl_X5_22 : Cond.fieldLink RX5 22 (TX5 3).1 (TX5 3).2.1 (TX5 3).2.2.1 ∈ lw_ok := lw_i1 216 rfl rfl
theorem ff_X5_22 : FFd RX5 22 5 3 := ⟨_, _, _, rfl, by decide, okX5, fl_X5_22⟩
theorem fl_X5_25 : Cond.fieldLink RX5 25 (TX5 4).1 (TX5 4).2.1 (TX5 4).2.2.1 ∈ lw_ok := lw_i1 217 rfl rfl
theorem ff_X5_25 : FFd RX5 25 5 4 := ⟨_, _, _, rfl, by decide, okX5, fl_X5_25⟩
theorem fp_X5_25 : FFp RX5 25 5 4 .int := ⟨_, _, _, tyX5, rfl, by decide, okX5, fl_X5_25, tyX5_ok, nmX5, rfl, by decide +kernel⟩
theorem fl_X5_29 : Cond.fieldLink RX5 29 (TX5 5).1 (TX5 5).2.1 (TX5 5).2.2.1 ∈ lw_ok := lw_i1 219 rfl rfl
theorem ff_X5_29 : FFd RX5 29 5 5 := ⟨_, _, _, rfl, by decide, okX5, fl_X5_29⟩
theorem fp_X5_29 : FFp RX5 29 5 5 .int := ⟨_, _, _, tyX5, rfl, by decide, okX5, fl_X5_29, tyX5_ok, nmX5, rfl, by decide +kernel⟩
theorem fl_X5_32 : Cond.fieldLink RX5 32 (TX5 6).1 (TX5 6).2.1 (TX5 6).2.2.1 ∈ lw_ok := lw_i1 221 rfl rfl
theorem ff_X5_32 : FFd RX5 32 5 6 := ⟨_, _, _, rfl, by decide, okX5, fl_X5_32⟩
theorem fp_X5_32 : FFp RX5 32 5 6 .int := ⟨_, _, _, tyX5, rfl, by decide, okX5, fl_X5_32, tyX5_ok, nmX5, rfl, by decide +kernel⟩
theorem fl_X5_35 : Cond.fieldLink RX5 35 (TX5 7).1 (TX5 7).2.1 (TX5 7).2.2.1 ∈ lw_ok := lw_i1 223 rfl rfl
theorem ff_X5_35 : FFd RX5 35 5 7 := ⟨_, _, _, rfl, by decide, okX5, fl_X5_35⟩
theorem fp_X5_35 : FFp RX5 35 5 7 .int := ⟨_, _, _, tyX5, rfl, by decide, okX5, fl_X5_35, tyX5_ok, nmX5, rfl, by decide +kernel⟩
theorem fl_X6_9 : Cond.fieldLink RX6 9 (TX6 0).1 (TX6 0).2.1 (TX6 0).2.2.1 ∈ lw_ok := lw_i1 114 rfl rfl
theorem ff_X6_9 : FFd RX6 9 6 0 := ⟨_, _, _, rfl, by decide, okX6, fl_X6_9⟩
theorem fl_X6_15 : Cond.fieldLink RX6 15 (TX6 2).1 (TX6 2).2.1 (TX6 2).2.2.1 ∈ lw_ok := lw_i1 117 rfl rfl
theorem fp_X6_15 : FFp RX6 15 6 2 .int := ⟨_, _, _, tyX6, rfl, by decide, okX6, fl_X6_15, tyX6_ok, nmX6, rfl, by decide +kernel⟩
theorem fl_X6_22 : Cond.fieldLink RX6 22 (TX6 6).1 (TX6 6).2.1 (TX6 6).2.2.1 ∈ lw_ok := lw_i1 123 rfl rfl
theorem ff_X6_22 : FFd RX6 22 6 6 := ⟨_, _, _, rfl, by decide, okX6, fl_X6_22⟩
theorem fp_X6_22 : FFp RX6 22 6 6 (.object "MindDuty$Country") := ⟨_, _, _, tyX6, rfl, by decide, okX6, fl_X6_22, tyX6_ok, nmX6, rfl, by decide +kernel⟩
theorem fl_X6_26 : Cond.fieldLink RX6 26 (TX6 1).1 (TX6 1).2.1 (TX6 1).2.2.1 ∈ lw_ok := lw_i1 115 rfl rfl
theorem ff_X6_26 : FFd RX6 26 6 1 := ⟨_, _, _, rfl, by decide, okX6, fl_X6_26⟩
theorem fp_X6_26 : FFp RX6 26 6 1 .int := ⟨_, _, _, tyX6, rfl, by decide, okX6, fl_X6_26, tyX6_ok, nmX6, rfl, by decide +kernel⟩
theorem fl_X6_32 : Cond.fieldLink RX6 32 (TX6 4).1 (TX6 4).2.1 (TX6 4).2.2.1 ∈ lw_ok := lw_i1 121 rfl rfl
theorem ff_X6_32 : FFd RX6 32 6 4 := ⟨_, _, _, rfl, by decide, okX6, fl_X6_32⟩
theorem fp_X6_32 : FFp RX6 32 6 4 .int := ⟨_, _, _, tyX6, rfl, by decide, okX6, fl_X6_32, tyX6_ok, nmX6, rfl, by decide +kernel⟩
theorem fl_X6_35 : Cond.fieldLink RX6 35 (TX6 3).1 (TX6 3).2.1 (TX6 3).2.2.1 ∈ lw_ok := lw_i1 120 rfl rfl
theorem ff_X6_35 : FFd RX6 35 6 3 := ⟨_, _, _, rfl, by decide, okX6, fl_X6_35⟩
theorem fp_X6_35 : FFp RX6 35 6 3 .int := ⟨_, _, _, tyX6, rfl, by decide, okX6, fl_X6_35, tyX6_ok, nmX6, rfl, by decide +kernel⟩
theorem fl_X6_73 : Cond.fieldLink RX6 73 (TX1 0).1 (TX1 0).2.1 (TX1 0).2.2.1 ∈ lw_ok := lw_i1 33 rfl rfl
theorem ff_X6_73 : FFd RX6 73 1 0 := ⟨_, _, _, rfl, by decide, okX1, fl_X6_73⟩
theorem fp_X6_73 : FFp RX6 73 1 0 .boolean := ⟨_, _, _, tyX1, rfl, by decide, okX1, fl_X6_73, tyX1_ok, nmX1, rfl, by decide +kernel⟩
theorem fl_X6_81 : Cond.fieldLink RX6 81 (TX1 3).1 (TX1 3).2.1 (TX1 3).2.2.1 ∈ lw_ok := lw_i1 43 rfl rfl
theorem ff_X6_81 : FFd RX6 81 1 3 := ⟨_, _, _, rfl, by decide, okX1, fl_X6_81⟩
theorem fp_X6_81 : FFp RX6 81 1 3 .int := ⟨_, _, _, tyX1, rfl, by decide, okX1, fl_X6_81, tyX1_ok, nmX1, rfl, by decide +kernel⟩
theorem fl_X6_84 : Cond.fieldLink RX6 84 (TX1 5).1 (TX1 5).2.1 (TX1 5).2.2.1 ∈ lw_ok := lw_i1 49 rfl rfl
theorem ff_X6_84 : FFd RX6 84 1 5 := ⟨_, _, _, rfl, by decide, okX1, fl_X6_84⟩
theorem fp_X6_84 : FFp RX6 84 1 5 .int := ⟨_, _, _, tyX1, rfl, by decide, okX1, fl_X6_84, tyX1_ok, nmX1, rfl, by decide +kernel⟩
theorem fl_X6_87 : Cond.fieldLink RX6 87 (TX1 9).1 (TX1 9).2.1 (TX1 9).2.2.1 ∈ lw_ok := lw_i1 58 rfl rfl
theorem ff_X6_87 : FFd RX6 87 1 9 := ⟨_, _, _, rfl, by decide, okX1, fl_X6_87⟩
theorem fp_X6_87 : FFp RX6 87 1 9 .int := ⟨_, _, _, tyX1, rfl, by decide, okX1, fl_X6_87, tyX1_ok, nmX1, rfl, by decide +kernel⟩
theorem fl_X6_90 : Cond.fieldLink RX6 90 (TX1 14).1 (TX1 14).2.1 (TX1 14).2.2.1 ∈ lw_ok := lw_i1 73 rfl rfl
theorem ff_X6_90 : FFd RX6 90 1 14 := ⟨_, _, _, rfl, by decide, okX1, fl_X6_90⟩
theorem fp_X6_90 : FFp RX6 90 1 14 .int := ⟨_, _, _, tyX1, rfl, by decide, okX1, fl_X6_90, tyX1_ok, nmX1, rfl, by decide +kernel⟩
theorem fl_X6_97 : Cond.fieldLink RX6 97 (TX1 1).1 (TX1 1).2.1 (TX1 1).2.2.1 ∈ lw_ok := lw_i1 37 rfl rfl
theorem fp_X6_97 : FFp RX6 97 1 1 .int := ⟨_, _, _, tyX1, rfl, by decide, okX1, fl_X6_97, tyX1_ok, nmX1, rfl, by decide +kernel⟩
theorem fl_X6_100 : Cond.fieldLink RX6 100 (TX1 2).1 (TX1 2).2.1 (TX1 2).2.2.1 ∈ lw_ok := lw_i1 40 rfl rfl
theorem fp_X6_100 : FFp RX6 100 1 2 .int := ⟨_, _, _, tyX1, rfl, by decide, okX1, fl_X6_100, tyX1_ok, nmX1, rfl, by decide +kernel⟩
theorem fl_X6_103 : Cond.fieldLink RX6 103 (TX1 4).1 (TX1 4).2.1 (TX1 4).2.2.1 ∈ lw_ok := lw_i1 46 rfl rfl
theorem ff_X6_103 : FFd RX6 103 1 4 := ⟨_, _, _, rfl, by decide, okX1, fl_X6_103⟩
theorem fl_X6_109 : Cond.fieldLink RX6 109 (TX6 5).1 (TX6 5).2.1 (TX6 5).2.2.1 ∈ lw_ok := lw_i1 122 rfl rfl
theorem ff_X6_109 : FFd RX6 109 6 5 := ⟨_, _, _, rfl, by decide, okX6, fl_X6_109⟩
theorem fp_X6_109 : FFp RX6 109 6 5 .int := ⟨_, _, _, tyX6, rfl, by decide, okX6, fl_X6_109, tyX6_ok, nmX6, rfl, by decide +kernel⟩
theorem fl_X6_112 : Cond.fieldLink RX6 112 (TX1 6).1 (TX1 6).2.1 (TX1 6).2.2.1 ∈ lw_ok := lw_i1 51 rfl rfl
theorem ff_X6_112 : FFd RX6 112 1 6 := ⟨_, _, _, rfl, by decide, okX1, fl_X6_112⟩
theorem fl_X6_115 : Cond.fieldLink RX6 115 (TX1 7).1 (TX1 7).2.1 (TX1 7).2.2.1 ∈ lw_ok := lw_i1 53 rfl rfl
theorem ff_X6_115 : FFd RX6 115 1 7 := ⟨_, _, _, rfl, by decide, okX1, fl_X6_115⟩
theorem fl_X6_118 : Cond.fieldLink RX6 118 (TX1 8).1 (TX1 8).2.1 (TX1 8).2.2.1 ∈ lw_ok := lw_i1 55 rfl rfl
theorem ff_X6_118 : FFd RX6 118 1 8 := ⟨_, _, _, rfl, by decide, okX1, fl_X6_118⟩
theorem fl_X6_121 : Cond.fieldLink RX6 121 (TX1 10).1 (TX1 10).2.1 (TX1 10).2.2.1 ∈ lw_ok := lw_i1 60 rfl rfl
theorem ff_X6_121 : FFd RX6 121 1 10 := ⟨_, _, _, rfl, by decide, okX1, fl_X6_121⟩
theorem fl_X6_124 : Cond.fieldLink RX6 124 (TX1 11).1 (TX1 11).2.1 (TX1 11).2.2.1 ∈ lw_ok := lw_i1 63 rfl rfl
theorem ff_X6_124 : FFd RX6 124 1 11 := ⟨_, _, _, rfl, by decide, okX1, fl_X6_124⟩
theorem fl_X6_127 : Cond.fieldLink RX6 127 (TX1 12).1 (TX1 12).2.1 (TX1 12).2.2.1 ∈ lw_ok := lw_i1 66 rfl rfl
theorem ff_X6_127 : FFd RX6 127 1 12 := ⟨_, _, _, rfl, by decide, okX1, fl_X6_127⟩
theorem fl_X6_130 : Cond.fieldLink RX6 130 (TX1 13).1 (TX1 13).2.1 (TX1 13).2.2.1 ∈ lw_ok := lw_i1 70 rfl rfl
theorem ff_X6_130 : FFd RX6 130 1 13 := ⟨_, _, _, rfl, by decide, okX1, fl_X6_130⟩
theorem fp_X6_130 : FFp RX6 130 1 13 .int := ⟨_, _, _, tyX1, rfl, by decide, okX1, fl_X6_130, tyX1_ok, nmX1, rfl, by decide +kernel⟩
theorem fl_X6_133 : Cond.fieldLink RX6 133 (TX1 15).1 (TX1 15).2.1 (TX1 15).2.2.1 ∈ lw_ok := lw_i1 76 rfl rfl
theorem ff_X6_133 : FFd RX6 133 1 15 := ⟨_, _, _, rfl, by decide, okX1, fl_X6_133⟩
theorem fl_X7_10 : Cond.fieldLink RX7 10 (TX7 0).1 (TX7 0).2.1 (TX7 0).2.2.1 ∈ lw_ok := lw_i2 21 rfl rfl
theorem ff_X7_10 : FFd RX7 10 7 0 := ⟨_, _, _, rfl, by decide, okX7, fl_X7_10⟩
theorem fl_X7_19 : Cond.fieldLink RX7 19 (TX7 1).1 (TX7 1).2.1 (TX7 1).2.2.1 ∈ lw_ok := lw_i2 22 rfl rfl
theorem ff_X7_19 : FFd RX7 19 7 1 := ⟨_, _, _, rfl, by decide, okX7, fl_X7_19⟩
theorem fl_X7_26 : Cond.fieldLink RX7 26 (TX7 2).1 (TX7 2).2.1 (TX7 2).2.2.1 ∈ lw_ok := lw_i2 23 rfl rfl
theorem ff_X7_26 : FFd RX7 26 7 2 := ⟨_, _, _, rfl, by decide, okX7, fl_X7_26⟩
theorem fl_X7_33 : Cond.fieldLink RX7 33 (TX7 3).1 (TX7 3).2.1 (TX7 3).2.2.1 ∈ lw_ok := lw_i2 24 rfl rfl
theorem ff_X7_33 : FFd RX7 33 7 3 := ⟨_, _, _, rfl, by decide, okX7, fl_X7_33⟩
theorem fl_X7_40 : Cond.fieldLink RX7 40 (TX7 4).1 (TX7 4).2.1 (TX7 4).2.2.1 ∈ lw_ok := lw_i2 25 rfl rfl
theorem ff_X7_40 : FFd RX7 40 7 4 := ⟨_, _, _, rfl, by decide, okX7, fl_X7_40⟩
theorem fl_X7_47 : Cond.fieldLink RX7 47 (TX7 5).1 (TX7 5).2.1 (TX7 5).2.2.1 ∈ lw_ok := lw_i2 26 rfl rfl
theorem ff_X7_47 : FFd RX7 47 7 5 := ⟨_, _, _, rfl, by decide, okX7, fl_X7_47⟩
theorem fl_X7_51 : Cond.fieldLink RX7 51 (TX7 6).1 (TX7 6).2.1 (TX7 6).2.2.1 ∈ lw_ok := lw_i2 27 rfl rfl
theorem ff_X7_51 : FFd RX7 51 7 6 := ⟨_, _, _, rfl, by decide, okX7, fl_X7_51⟩
theorem fl_X7_58 : Cond.fieldLink RX7 58 (TX7 7).1 (TX7 7).2.1 (TX7 7).2.2.1 ∈ lw_ok := lw_i2 28 rfl rfl
theorem ff_X7_58 : FFd RX7 58 7 7 := ⟨_, _, _, rfl, by decide, okX7, fl_X7_58⟩
theorem fp_X7_58 : FFp RX7 58 7 7 (.object "MindDuty$Country") := ⟨_, _, _, tyX7, rfl, by decide, okX7, fl_X7_58, tyX7_ok, nmX7, rfl, by decide +kernel⟩
theorem fl_X7_67 : Cond.fieldLink RX7 67 (TX6 1).1 (TX6 1).2.1 (TX6 1).2.2.1 ∈ lw_ok := lw_i1 116 rfl rfl
theorem ff_X7_67 : FFd RX7 67 6 1 := ⟨_, _, _, rfl, by decide, okX6, fl_X7_67⟩
theorem fp_X7_67 : FFp RX7 67 6 1 .int := ⟨_, _, _, tyX6, rfl, by decide, okX6, fl_X7_67, tyX6_ok, nmX6, rfl, by decide +kernel⟩
theorem fl_X7_76 : Cond.fieldLink RX7 76 (TX6 3).1 (TX6 3).2.1 (TX6 3).2.2.1 ∈ lw_ok := lw_i1 119 rfl rfl
theorem ff_X7_76 : FFd RX7 76 6 3 := ⟨_, _, _, rfl, by decide, okX6, fl_X7_76⟩
theorem fl_X7_90 : Cond.fieldLink RX7 90 (TX3 2).1 (TX3 2).2.1 (TX3 2).2.2.1 ∈ lw_ok := lw_i1 177 rfl rfl
theorem ff_X7_90 : FFd RX7 90 3 2 := ⟨_, _, _, rfl, by decide, okX3, fl_X7_90⟩
theorem fp_X7_90 : FFp RX7 90 3 2 .int := ⟨_, _, _, tyX3, rfl, by decide, okX3, fl_X7_90, tyX3_ok, nmX3, rfl, by decide +kernel⟩
theorem fl_X7_96 : Cond.fieldLink RX7 96 (TX5 4).1 (TX5 4).2.1 (TX5 4).2.2.1 ∈ lw_ok := lw_i1 218 rfl rfl
theorem ff_X7_96 : FFd RX7 96 5 4 := ⟨_, _, _, rfl, by decide, okX5, fl_X7_96⟩
theorem fp_X7_96 : FFp RX7 96 5 4 .int := ⟨_, _, _, tyX5, rfl, by decide, okX5, fl_X7_96, tyX5_ok, nmX5, rfl, by decide +kernel⟩
theorem fl_X7_97 : Cond.fieldLink RX7 97 (TX0 2).1 (TX0 2).2.1 (TX0 2).2.2.1 ∈ lw_ok := lw_i2 11 rfl rfl
theorem ff_X7_97 : FFd RX7 97 0 2 := ⟨_, _, _, rfl, by decide, okX0, fl_X7_97⟩
theorem fp_X7_97 : FFp RX7 97 0 2 .int := ⟨_, _, _, tyX0, rfl, by decide, okX0, fl_X7_97, tyX0_ok, nmX0, rfl, by decide +kernel⟩
theorem fl_X7_98 : Cond.fieldLink RX7 98 (TX1 3).1 (TX1 3).2.1 (TX1 3).2.2.1 ∈ lw_ok := lw_i1 42 rfl rfl
theorem ff_X7_98 : FFd RX7 98 1 3 := ⟨_, _, _, rfl, by decide, okX1, fl_X7_98⟩
theorem fl_X7_101 : Cond.fieldLink RX7 101 (TX6 2).1 (TX6 2).2.1 (TX6 2).2.2.1 ∈ lw_ok := lw_i1 118 rfl rfl
theorem ff_X7_101 : FFd RX7 101 6 2 := ⟨_, _, _, rfl, by decide, okX6, fl_X7_101⟩
theorem fl_X7_104 : Cond.fieldLink RX7 104 (TX1 1).1 (TX1 1).2.1 (TX1 1).2.2.1 ∈ lw_ok := lw_i1 36 rfl rfl
theorem ff_X7_104 : FFd RX7 104 1 1 := ⟨_, _, _, rfl, by decide, okX1, fl_X7_104⟩
theorem fl_X7_107 : Cond.fieldLink RX7 107 (TX1 2).1 (TX1 2).2.1 (TX1 2).2.2.1 ∈ lw_ok := lw_i1 39 rfl rfl
theorem ff_X7_107 : FFd RX7 107 1 2 := ⟨_, _, _, rfl, by decide, okX1, fl_X7_107⟩
theorem fl_X7_110 : Cond.fieldLink RX7 110 (TX1 5).1 (TX1 5).2.1 (TX1 5).2.2.1 ∈ lw_ok := lw_i1 48 rfl rfl
theorem ff_X7_110 : FFd RX7 110 1 5 := ⟨_, _, _, rfl, by decide, okX1, fl_X7_110⟩
theorem fl_X7_113 : Cond.fieldLink RX7 113 (TX1 9).1 (TX1 9).2.1 (TX1 9).2.2.1 ∈ lw_ok := lw_i1 57 rfl rfl
theorem ff_X7_113 : FFd RX7 113 1 9 := ⟨_, _, _, rfl, by decide, okX1, fl_X7_113⟩
theorem fl_X7_116 : Cond.fieldLink RX7 116 (TX1 14).1 (TX1 14).2.1 (TX1 14).2.2.1 ∈ lw_ok := lw_i1 72 rfl rfl
theorem ff_X7_116 : FFd RX7 116 1 14 := ⟨_, _, _, rfl, by decide, okX1, fl_X7_116⟩
theorem fl_X7_119 : Cond.fieldLink RX7 119 (TX4 1).1 (TX4 1).2.1 (TX4 1).2.2.1 ∈ lw_ok := lw_i1 147 rfl rfl
theorem ff_X7_119 : FFd RX7 119 4 1 := ⟨_, _, _, rfl, by decide, okX4, fl_X7_119⟩
theorem fp_X7_119 : FFp RX7 119 4 1 .int := ⟨_, _, _, tyX4, rfl, by decide, okX4, fl_X7_119, tyX4_ok, nmX4, rfl, by decide +kernel⟩
theorem fl_X7_126 : Cond.fieldLink RX7 126 (TX4 2).1 (TX4 2).2.1 (TX4 2).2.2.1 ∈ lw_ok := lw_i1 149 rfl rfl
theorem ff_X7_126 : FFd RX7 126 4 2 := ⟨_, _, _, rfl, by decide, okX4, fl_X7_126⟩
theorem fl_X7_132 : Cond.fieldLink RX7 132 (TX4 3).1 (TX4 3).2.1 (TX4 3).2.2.1 ∈ lw_ok := lw_i1 151 rfl rfl
theorem ff_X7_132 : FFd RX7 132 4 3 := ⟨_, _, _, rfl, by decide, okX4, fl_X7_132⟩
theorem fp_X7_132 : FFp RX7 132 4 3 .int := ⟨_, _, _, tyX4, rfl, by decide, okX4, fl_X7_132, tyX4_ok, nmX4, rfl, by decide +kernel⟩
theorem fl_X7_135 : Cond.fieldLink RX7 135 (TX4 4).1 (TX4 4).2.1 (TX4 4).2.2.1 ∈ lw_ok := lw_i1 153 rfl rfl
theorem ff_X7_135 : FFd RX7 135 4 4 := ⟨_, _, _, rfl, by decide, okX4, fl_X7_135⟩
theorem fp_X7_135 : FFp RX7 135 4 4 .int := ⟨_, _, _, tyX4, rfl, by decide, okX4, fl_X7_135, tyX4_ok, nmX4, rfl, by decide +kernel⟩
theorem fl_X7_141 : Cond.fieldLink RX7 141 (TX1 4).1 (TX1 4).2.1 (TX1 4).2.2.1 ∈ lw_ok := lw_i1 45 rfl rfl
theorem ff_X7_141 : FFd RX7 141 1 4 := ⟨_, _, _, rfl, by decide, okX1, fl_X7_141⟩
theorem fl_X7_200 : Cond.fieldLink RX7 200 (TX1 0).1 (TX1 0).2.1 (TX1 0).2.2.1 ∈ lw_ok := lw_i1 34 rfl rfl
theorem ff_X7_200 : FFd RX7 200 1 0 := ⟨_, _, _, rfl, by decide, okX1, fl_X7_200⟩
theorem fl_X7_247 : Cond.fieldLink RX7 247 (TX5 5).1 (TX5 5).2.1 (TX5 5).2.2.1 ∈ lw_ok := lw_i1 220 rfl rfl
theorem ff_X7_247 : FFd RX7 247 5 5 := ⟨_, _, _, rfl, by decide, okX5, fl_X7_247⟩
theorem fl_X7_250 : Cond.fieldLink RX7 250 (TX5 6).1 (TX5 6).2.1 (TX5 6).2.2.1 ∈ lw_ok := lw_i1 222 rfl rfl
theorem ff_X7_250 : FFd RX7 250 5 6 := ⟨_, _, _, rfl, by decide, okX5, fl_X7_250⟩
theorem fl_X7_253 : Cond.fieldLink RX7 253 (TX5 7).1 (TX5 7).2.1 (TX5 7).2.2.1 ∈ lw_ok := lw_i1 224 rfl rfl
theorem ff_X7_253 : FFd RX7 253 5 7 := ⟨_, _, _, rfl, by decide, okX5, fl_X7_253⟩
theorem fl_X7_265 : Cond.fieldLink RX7 265 (TX7 8).1 (TX7 8).2.1 (TX7 8).2.2.1 ∈ lw_ok := lw_i2 29 rfl rfl
theorem ff_X7_265 : FFd RX7 265 7 8 := ⟨_, _, _, rfl, by decide, okX7, fl_X7_265⟩
theorem fp_X7_265 : FFp RX7 265 7 8 .int := ⟨_, _, _, tyX7, rfl, by decide, okX7, fl_X7_265, tyX7_ok, nmX7, rfl, by decide +kernel⟩
theorem fl_X7_272 : Cond.fieldLink RX7 272 (TX2 2).1 (TX2 2).2.1 (TX2 2).2.2.1 ∈ lw_ok := lw_i1 198 rfl rfl
theorem ff_X7_272 : FFd RX7 272 2 2 := ⟨_, _, _, rfl, by decide, okX2, fl_X7_272⟩
theorem fl_X7_276 : Cond.fieldLink RX7 276 (TX2 0).1 (TX2 0).2.1 (TX2 0).2.2.1 ∈ lw_ok := lw_i1 194 rfl rfl
theorem ff_X7_276 : FFd RX7 276 2 0 := ⟨_, _, _, rfl, by decide, okX2, fl_X7_276⟩
theorem fl_X7_283 : Cond.fieldLink RX7 283 (TX2 1).1 (TX2 1).2.1 (TX2 1).2.2.1 ∈ lw_ok := lw_i1 196 rfl rfl
theorem ff_X7_283 : FFd RX7 283 2 1 := ⟨_, _, _, rfl, by decide, okX2, fl_X7_283⟩
theorem fl_X7_296 : Cond.fieldLink RX7 296 (TX1 11).1 (TX1 11).2.1 (TX1 11).2.2.1 ∈ lw_ok := lw_i1 64 rfl rfl
theorem ff_X7_296 : FFd RX7 296 1 11 := ⟨_, _, _, rfl, by decide, okX1, fl_X7_296⟩
theorem fl_X7_299 : Cond.fieldLink RX7 299 (TX1 10).1 (TX1 10).2.1 (TX1 10).2.2.1 ∈ lw_ok := lw_i1 61 rfl rfl
theorem ff_X7_299 : FFd RX7 299 1 10 := ⟨_, _, _, rfl, by decide, okX1, fl_X7_299⟩
theorem fl_X7_302 : Cond.fieldLink RX7 302 (TX1 12).1 (TX1 12).2.1 (TX1 12).2.2.1 ∈ lw_ok := lw_i1 67 rfl rfl
theorem ff_X7_302 : FFd RX7 302 1 12 := ⟨_, _, _, rfl, by decide, okX1, fl_X7_302⟩
theorem fl_X8_7 : Cond.fieldLink RX8 7 (TX8 3).1 (TX8 3).2.1 (TX8 3).2.2.1 ∈ lw_ok := lw_i3 224 rfl rfl
theorem ff_X8_7 : FFd RX8 7 8 3 := ⟨_, _, _, rfl, by decide, okX8, fl_X8_7⟩
theorem fl_X8_13 : Cond.fieldLink RX8 13 (TX8 5).1 (TX8 5).2.1 (TX8 5).2.2.1 ∈ lw_ok := lw_i3 226 rfl rfl
theorem ff_X8_13 : FFd RX8 13 8 5 := ⟨_, _, _, rfl, by decide, okX8, fl_X8_13⟩
theorem fl_X8_16 : Cond.fieldLink RX8 16 (TX8 6).1 (TX8 6).2.1 (TX8 6).2.2.1 ∈ lw_ok := lw_i3 227 rfl rfl
theorem ff_X8_16 : FFd RX8 16 8 6 := ⟨_, _, _, rfl, by decide, okX8, fl_X8_16⟩
theorem fl_X8_19 : Cond.fieldLink RX8 19 (TX8 7).1 (TX8 7).2.1 (TX8 7).2.2.1 ∈ lw_ok := lw_i3 228 rfl rfl
theorem ff_X8_19 : FFd RX8 19 8 7 := ⟨_, _, _, rfl, by decide, okX8, fl_X8_19⟩
theorem fl_X8_22 : Cond.fieldLink RX8 22 (TX8 9).1 (TX8 9).2.1 (TX8 9).2.2.1 ∈ lw_ok := lw_i3 230 rfl rfl
theorem ff_X8_22 : FFd RX8 22 8 9 := ⟨_, _, _, rfl, by decide, okX8, fl_X8_22⟩
theorem fl_X8_25 : Cond.fieldLink RX8 25 (TX8 10).1 (TX8 10).2.1 (TX8 10).2.2.1 ∈ lw_ok := lw_i3 231 rfl rfl
theorem ff_X8_25 : FFd RX8 25 8 10 := ⟨_, _, _, rfl, by decide, okX8, fl_X8_25⟩
theorem fl_X8_28 : Cond.fieldLink RX8 28 (TX8 11).1 (TX8 11).2.1 (TX8 11).2.2.1 ∈ lw_ok := lw_i3 232 rfl rfl
theorem ff_X8_28 : FFd RX8 28 8 11 := ⟨_, _, _, rfl, by decide, okX8, fl_X8_28⟩
theorem fl_X8_31 : Cond.fieldLink RX8 31 (TX8 13).1 (TX8 13).2.1 (TX8 13).2.2.1 ∈ lw_ok := lw_i3 234 rfl rfl
theorem ff_X8_31 : FFd RX8 31 8 13 := ⟨_, _, _, rfl, by decide, okX8, fl_X8_31⟩
theorem fl_X8_34 : Cond.fieldLink RX8 34 (TX8 15).1 (TX8 15).2.1 (TX8 15).2.2.1 ∈ lw_ok := lw_i3 236 rfl rfl
theorem ff_X8_34 : FFd RX8 34 8 15 := ⟨_, _, _, rfl, by decide, okX8, fl_X8_34⟩
theorem fl_X8_37 : Cond.fieldLink RX8 37 (TX8 17).1 (TX8 17).2.1 (TX8 17).2.2.1 ∈ lw_ok := lw_i3 238 rfl rfl
theorem ff_X8_37 : FFd RX8 37 8 17 := ⟨_, _, _, rfl, by decide, okX8, fl_X8_37⟩
theorem fp_X8_37 : FFp RX8 37 8 17 .int := ⟨_, _, _, tyX8, rfl, by decide, okX8, fl_X8_37, tyX8_ok, nmX8, rfl, by decide +kernel⟩
theorem fl_X8_41 : Cond.fieldLink RX8 41 (TX8 21).1 (TX8 21).2.1 (TX8 21).2.2.1 ∈ lw_ok := lw_i4 2 rfl rfl
theorem ff_X8_41 : FFd RX8 41 8 21 := ⟨_, _, _, rfl, by decide, okX8, fl_X8_41⟩
theorem fl_X8_44 : Cond.fieldLink RX8 44 (TX8 23).1 (TX8 23).2.1 (TX8 23).2.2.1 ∈ lw_ok := lw_i4 4 rfl rfl
theorem ff_X8_44 : FFd RX8 44 8 23 := ⟨_, _, _, rfl, by decide, okX8, fl_X8_44⟩
theorem fl_X8_47 : Cond.fieldLink RX8 47 (TX8 25).1 (TX8 25).2.1 (TX8 25).2.2.1 ∈ lw_ok := lw_i4 6 rfl rfl
theorem ff_X8_47 : FFd RX8 47 8 25 := ⟨_, _, _, rfl, by decide, okX8, fl_X8_47⟩
theorem fl_X8_50 : Cond.fieldLink RX8 50 (TX8 26).1 (TX8 26).2.1 (TX8 26).2.2.1 ∈ lw_ok := lw_i4 7 rfl rfl
theorem ff_X8_50 : FFd RX8 50 8 26 := ⟨_, _, _, rfl, by decide, okX8, fl_X8_50⟩
theorem fl_X8_53 : Cond.fieldLink RX8 53 (TX8 27).1 (TX8 27).2.1 (TX8 27).2.2.1 ∈ lw_ok := lw_i4 8 rfl rfl
theorem ff_X8_53 : FFd RX8 53 8 27 := ⟨_, _, _, rfl, by decide, okX8, fl_X8_53⟩
theorem fl_X8_56 : Cond.fieldLink RX8 56 (TX8 29).1 (TX8 29).2.1 (TX8 29).2.2.1 ∈ lw_ok := lw_i4 10 rfl rfl
theorem ff_X8_56 : FFd RX8 56 8 29 := ⟨_, _, _, rfl, by decide, okX8, fl_X8_56⟩
theorem fl_X8_59 : Cond.fieldLink RX8 59 (TX8 30).1 (TX8 30).2.1 (TX8 30).2.2.1 ∈ lw_ok := lw_i4 11 rfl rfl
theorem ff_X8_59 : FFd RX8 59 8 30 := ⟨_, _, _, rfl, by decide, okX8, fl_X8_59⟩
theorem fl_X8_62 : Cond.fieldLink RX8 62 (TX8 31).1 (TX8 31).2.1 (TX8 31).2.2.1 ∈ lw_ok := lw_i4 12 rfl rfl
theorem ff_X8_62 : FFd RX8 62 8 31 := ⟨_, _, _, rfl, by decide, okX8, fl_X8_62⟩
theorem fl_X8_65 : Cond.fieldLink RX8 65 (TX8 34).1 (TX8 34).2.1 (TX8 34).2.2.1 ∈ lw_ok := lw_i4 15 rfl rfl
theorem ff_X8_65 : FFd RX8 65 8 34 := ⟨_, _, _, rfl, by decide, okX8, fl_X8_65⟩
theorem fl_X8_68 : Cond.fieldLink RX8 68 (TX8 36).1 (TX8 36).2.1 (TX8 36).2.2.1 ∈ lw_ok := lw_i4 17 rfl rfl
theorem ff_X8_68 : FFd RX8 68 8 36 := ⟨_, _, _, rfl, by decide, okX8, fl_X8_68⟩
theorem fl_X8_71 : Cond.fieldLink RX8 71 (TX8 37).1 (TX8 37).2.1 (TX8 37).2.2.1 ∈ lw_ok := lw_i4 18 rfl rfl
theorem ff_X8_71 : FFd RX8 71 8 37 := ⟨_, _, _, rfl, by decide, okX8, fl_X8_71⟩
theorem fl_X8_74 : Cond.fieldLink RX8 74 (TX8 39).1 (TX8 39).2.1 (TX8 39).2.2.1 ∈ lw_ok := lw_i4 20 rfl rfl
theorem ff_X8_74 : FFd RX8 74 8 39 := ⟨_, _, _, rfl, by decide, okX8, fl_X8_74⟩
theorem fl_X8_77 : Cond.fieldLink RX8 77 (TX8 40).1 (TX8 40).2.1 (TX8 40).2.2.1 ∈ lw_ok := lw_i4 21 rfl rfl
theorem ff_X8_77 : FFd RX8 77 8 40 := ⟨_, _, _, rfl, by decide, okX8, fl_X8_77⟩
theorem fl_X8_80 : Cond.fieldLink RX8 80 (TX8 41).1 (TX8 41).2.1 (TX8 41).2.2.1 ∈ lw_ok := lw_i4 22 rfl rfl
theorem ff_X8_80 : FFd RX8 80 8 41 := ⟨_, _, _, rfl, by decide, okX8, fl_X8_80⟩
theorem fl_X8_84 : Cond.fieldLink RX8 84 (TX8 42).1 (TX8 42).2.1 (TX8 42).2.2.1 ∈ lw_ok := lw_i4 23 rfl rfl
theorem ff_X8_84 : FFd RX8 84 8 42 := ⟨_, _, _, rfl, by decide, okX8, fl_X8_84⟩
theorem fl_X8_87 : Cond.fieldLink RX8 87 (TX8 44).1 (TX8 44).2.1 (TX8 44).2.2.1 ∈ lw_ok := lw_i4 25 rfl rfl
theorem ff_X8_87 : FFd RX8 87 8 44 := ⟨_, _, _, rfl, by decide, okX8, fl_X8_87⟩
theorem fl_X8_90 : Cond.fieldLink RX8 90 (TX8 45).1 (TX8 45).2.1 (TX8 45).2.2.1 ∈ lw_ok := lw_i4 26 rfl rfl
theorem ff_X8_90 : FFd RX8 90 8 45 := ⟨_, _, _, rfl, by decide, okX8, fl_X8_90⟩
theorem fl_X8_93 : Cond.fieldLink RX8 93 (TX8 46).1 (TX8 46).2.1 (TX8 46).2.2.1 ∈ lw_ok := lw_i4 27 rfl rfl
theorem ff_X8_93 : FFd RX8 93 8 46 := ⟨_, _, _, rfl, by decide, okX8, fl_X8_93⟩
theorem fl_X8_96 : Cond.fieldLink RX8 96 (TX8 47).1 (TX8 47).2.1 (TX8 47).2.2.1 ∈ lw_ok := lw_i4 28 rfl rfl
theorem ff_X8_96 : FFd RX8 96 8 47 := ⟨_, _, _, rfl, by decide, okX8, fl_X8_96⟩
theorem fl_X8_99 : Cond.fieldLink RX8 99 (TX8 0).1 (TX8 0).2.1 (TX8 0).2.2.1 ∈ lw_ok := lw_i3 221 rfl rfl
theorem ff_X8_99 : FFd RX8 99 8 0 := ⟨_, _, _, rfl, by decide, okX8, fl_X8_99⟩
theorem fp_X8_99 : FFp RX8 99 8 0 .int := ⟨_, _, _, tyX8, rfl, by decide, okX8, fl_X8_99, tyX8_ok, nmX8, rfl, by decide +kernel⟩
theorem fl_X8_103 : Cond.fieldLink RX8 103 (TX8 2).1 (TX8 2).2.1 (TX8 2).2.2.1 ∈ lw_ok := lw_i3 223 rfl rfl
theorem ff_X8_103 : FFd RX8 103 8 2 := ⟨_, _, _, rfl, by decide, okX8, fl_X8_103⟩
theorem fp_X8_103 : FFp RX8 103 8 2 .int := ⟨_, _, _, tyX8, rfl, by decide, okX8, fl_X8_103, tyX8_ok, nmX8, rfl, by decide +kernel⟩
theorem fl_X8_110 : Cond.fieldLink RX8 110 (TX8 12).1 (TX8 12).2.1 (TX8 12).2.2.1 ∈ lw_ok := lw_i3 233 rfl rfl
theorem ff_X8_110 : FFd RX8 110 8 12 := ⟨_, _, _, rfl, by decide, okX8, fl_X8_110⟩
theorem fp_X8_110 : FFp RX8 110 8 12 .int := ⟨_, _, _, tyX8, rfl, by decide, okX8, fl_X8_110, tyX8_ok, nmX8, rfl, by decide +kernel⟩
theorem fl_X8_116 : Cond.fieldLink RX8 116 (TX8 16).1 (TX8 16).2.1 (TX8 16).2.2.1 ∈ lw_ok := lw_i3 237 rfl rfl
theorem ff_X8_116 : FFd RX8 116 8 16 := ⟨_, _, _, rfl, by decide, okX8, fl_X8_116⟩
theorem fp_X8_116 : FFp RX8 116 8 16 .int := ⟨_, _, _, tyX8, rfl, by decide, okX8, fl_X8_116, tyX8_ok, nmX8, rfl, by decide +kernel⟩
theorem fl_X8_120 : Cond.fieldLink RX8 120 (TX8 18).1 (TX8 18).2.1 (TX8 18).2.2.1 ∈ lw_ok := lw_i3 239 rfl rfl
theorem ff_X8_120 : FFd RX8 120 8 18 := ⟨_, _, _, rfl, by decide, okX8, fl_X8_120⟩
theorem fp_X8_120 : FFp RX8 120 8 18 .int := ⟨_, _, _, tyX8, rfl, by decide, okX8, fl_X8_120, tyX8_ok, nmX8, rfl, by decide +kernel⟩
theorem fl_X8_135 : Cond.fieldLink RX8 135 (TX8 20).1 (TX8 20).2.1 (TX8 20).2.2.1 ∈ lw_ok := lw_i4 1 rfl rfl
theorem ff_X8_135 : FFd RX8 135 8 20 := ⟨_, _, _, rfl, by decide, okX8, fl_X8_135⟩
theorem fp_X8_135 : FFp RX8 135 8 20 .int := ⟨_, _, _, tyX8, rfl, by decide, okX8, fl_X8_135, tyX8_ok, nmX8, rfl, by decide +kernel⟩
theorem fl_X8_138 : Cond.fieldLink RX8 138 (TX8 19).1 (TX8 19).2.1 (TX8 19).2.2.1 ∈ lw_ok := lw_i4 0 rfl rfl
theorem ff_X8_138 : FFd RX8 138 8 19 := ⟨_, _, _, rfl, by decide, okX8, fl_X8_138⟩
theorem fp_X8_138 : FFp RX8 138 8 19 .int := ⟨_, _, _, tyX8, rfl, by decide, okX8, fl_X8_138, tyX8_ok, nmX8, rfl, by decide +kernel⟩
theorem fl_X8_148 : Cond.fieldLink RX8 148 (TX8 22).1 (TX8 22).2.1 (TX8 22).2.2.1 ∈ lw_ok := lw_i4 3 rfl rfl
theorem ff_X8_148 : FFd RX8 148 8 22 := ⟨_, _, _, rfl, by decide, okX8, fl_X8_148⟩
theorem fp_X8_148 : FFp RX8 148 8 22 .int := ⟨_, _, _, tyX8, rfl, by decide, okX8, fl_X8_148, tyX8_ok, nmX8, rfl, by decide +kernel⟩
theorem fl_X8_151 : Cond.fieldLink RX8 151 (TX8 24).1 (TX8 24).2.1 (TX8 24).2.2.1 ∈ lw_ok := lw_i4 5 rfl rfl
theorem ff_X8_151 : FFd RX8 151 8 24 := ⟨_, _, _, rfl, by decide, okX8, fl_X8_151⟩
theorem fp_X8_151 : FFp RX8 151 8 24 .int := ⟨_, _, _, tyX8, rfl, by decide, okX8, fl_X8_151, tyX8_ok, nmX8, rfl, by decide +kernel⟩
theorem fl_X8_154 : Cond.fieldLink RX8 154 (TX8 28).1 (TX8 28).2.1 (TX8 28).2.2.1 ∈ lw_ok := lw_i4 9 rfl rfl
theorem ff_X8_154 : FFd RX8 154 8 28 := ⟨_, _, _, rfl, by decide, okX8, fl_X8_154⟩
theorem fp_X8_154 : FFp RX8 154 8 28 .int := ⟨_, _, _, tyX8, rfl, by decide, okX8, fl_X8_154, tyX8_ok, nmX8, rfl, by decide +kernel⟩
theorem fl_X8_157 : Cond.fieldLink RX8 157 (TX8 32).1 (TX8 32).2.1 (TX8 32).2.2.1 ∈ lw_ok := lw_i4 13 rfl rfl
theorem ff_X8_157 : FFd RX8 157 8 32 := ⟨_, _, _, rfl, by decide, okX8, fl_X8_157⟩
theorem fp_X8_157 : FFp RX8 157 8 32 .int := ⟨_, _, _, tyX8, rfl, by decide, okX8, fl_X8_157, tyX8_ok, nmX8, rfl, by decide +kernel⟩
theorem fl_X8_164 : Cond.fieldLink RX8 164 (TX8 33).1 (TX8 33).2.1 (TX8 33).2.2.1 ∈ lw_ok := lw_i4 14 rfl rfl
theorem ff_X8_164 : FFd RX8 164 8 33 := ⟨_, _, _, rfl, by decide, okX8, fl_X8_164⟩
theorem fp_X8_164 : FFp RX8 164 8 33 .int := ⟨_, _, _, tyX8, rfl, by decide, okX8, fl_X8_164, tyX8_ok, nmX8, rfl, by decide +kernel⟩
theorem fl_X8_196 : Cond.fieldLink RX8 196 (TX8 1).1 (TX8 1).2.1 (TX8 1).2.2.1 ∈ lw_ok := lw_i3 222 rfl rfl
theorem ff_X8_196 : FFd RX8 196 8 1 := ⟨_, _, _, rfl, by decide, okX8, fl_X8_196⟩
theorem fp_X8_196 : FFp RX8 196 8 1 .int := ⟨_, _, _, tyX8, rfl, by decide, okX8, fl_X8_196, tyX8_ok, nmX8, rfl, by decide +kernel⟩
theorem fl_X8_199 : Cond.fieldLink RX8 199 (TX8 4).1 (TX8 4).2.1 (TX8 4).2.2.1 ∈ lw_ok := lw_i3 225 rfl rfl
theorem ff_X8_199 : FFd RX8 199 8 4 := ⟨_, _, _, rfl, by decide, okX8, fl_X8_199⟩
theorem fp_X8_199 : FFp RX8 199 8 4 .int := ⟨_, _, _, tyX8, rfl, by decide, okX8, fl_X8_199, tyX8_ok, nmX8, rfl, by decide +kernel⟩
theorem fl_X8_202 : Cond.fieldLink RX8 202 (TX8 8).1 (TX8 8).2.1 (TX8 8).2.2.1 ∈ lw_ok := lw_i3 229 rfl rfl
theorem ff_X8_202 : FFd RX8 202 8 8 := ⟨_, _, _, rfl, by decide, okX8, fl_X8_202⟩
theorem fp_X8_202 : FFp RX8 202 8 8 .int := ⟨_, _, _, tyX8, rfl, by decide, okX8, fl_X8_202, tyX8_ok, nmX8, rfl, by decide +kernel⟩
theorem fl_X8_211 : Cond.fieldLink RX8 211 (TX8 38).1 (TX8 38).2.1 (TX8 38).2.2.1 ∈ lw_ok := lw_i4 19 rfl rfl
theorem ff_X8_211 : FFd RX8 211 8 38 := ⟨_, _, _, rfl, by decide, okX8, fl_X8_211⟩
theorem fp_X8_211 : FFp RX8 211 8 38 .int := ⟨_, _, _, tyX8, rfl, by decide, okX8, fl_X8_211, tyX8_ok, nmX8, rfl, by decide +kernel⟩
theorem fl_X8_214 : Cond.fieldLink RX8 214 (TX8 43).1 (TX8 43).2.1 (TX8 43).2.2.1 ∈ lw_ok := lw_i4 24 rfl rfl
theorem ff_X8_214 : FFd RX8 214 8 43 := ⟨_, _, _, rfl, by decide, okX8, fl_X8_214⟩
theorem fp_X8_214 : FFp RX8 214 8 43 .int := ⟨_, _, _, tyX8, rfl, by decide, okX8, fl_X8_214, tyX8_ok, nmX8, rfl, by decide +kernel⟩
theorem fl_X8_217 : Cond.fieldLink RX8 217 (TX8 35).1 (TX8 35).2.1 (TX8 35).2.2.1 ∈ lw_ok := lw_i4 16 rfl rfl
theorem ff_X8_217 : FFd RX8 217 8 35 := ⟨_, _, _, rfl, by decide, okX8, fl_X8_217⟩
theorem fp_X8_217 : FFp RX8 217 8 35 .int := ⟨_, _, _, tyX8, rfl, by decide, okX8, fl_X8_217, tyX8_ok, nmX8, rfl, by decide +kernel⟩
theorem fl_X8_273 : Cond.fieldLink RX8 273 (TX8 14).1 (TX8 14).2.1 (TX8 14).2.2.1 ∈ lw_ok := lw_i3 235 rfl rfl
theorem ff_X8_273 : FFd RX8 273 8 14 := ⟨_, _, _, rfl, by decide, okX8, fl_X8_273⟩
theorem fp_X8_273 : FFp RX8 273 8 14 .int := ⟨_, _, _, tyX8, rfl, by decide, okX8, fl_X8_273, tyX8_ok, nmX8, rfl, by decide +kernel⟩
theorem nh_X0 : RX0 ≠ "java/lang/invoke/MethodHandle" ∧ RX0 ≠ "java/lang/invoke/VarHandle" ∧ Cond.initialized RX0 ∈ lw_ok := ⟨by decide +kernel, by decide +kernel, lw_i1 8 rfl rfl⟩
theorem nh_X1 : RX1 ≠ "java/lang/invoke/MethodHandle" ∧ RX1 ≠ "java/lang/invoke/VarHandle" ∧ Cond.initialized RX1 ∈ lw_ok := ⟨by decide +kernel, by decide +kernel, lw_i1 3 rfl rfl⟩
theorem nh_X2 : RX2 ≠ "java/lang/invoke/MethodHandle" ∧ RX2 ≠ "java/lang/invoke/VarHandle" ∧ Cond.initialized RX2 ∈ lw_ok := ⟨by decide +kernel, by decide +kernel, lw_i1 6 rfl rfl⟩
theorem nh_X3 : RX3 ≠ "java/lang/invoke/MethodHandle" ∧ RX3 ≠ "java/lang/invoke/VarHandle" ∧ Cond.initialized RX3 ∈ lw_ok := ⟨by decide +kernel, by decide +kernel, lw_i1 5 rfl rfl⟩
theorem nh_X4 : RX4 ≠ "java/lang/invoke/MethodHandle" ∧ RX4 ≠ "java/lang/invoke/VarHandle" ∧ Cond.initialized RX4 ∈ lw_ok := ⟨by decide +kernel, by decide +kernel, lw_i1 4 rfl rfl⟩
theorem nh_X5 : RX5 ≠ "java/lang/invoke/MethodHandle" ∧ RX5 ≠ "java/lang/invoke/VarHandle" ∧ Cond.initialized RX5 ∈ lw_ok := ⟨by decide +kernel, by decide +kernel, lw_i1 7 rfl rfl⟩
theorem nh_X6 : RX6 ≠ "java/lang/invoke/MethodHandle" ∧ RX6 ≠ "java/lang/invoke/VarHandle" ∧ Cond.initialized RX6 ∈ lw_ok := ⟨by decide +kernel, by decide +kernel, lw_i1 2 rfl rfl⟩
theorem nh_X7 : RX7 ≠ "java/lang/invoke/MethodHandle" ∧ RX7 ≠ "java/lang/invoke/VarHandle" ∧ Cond.initialized RX7 ∈ lw_ok := ⟨by decide +kernel, by decide +kernel, lw_i1 1 rfl rfl⟩
theorem nh_X8 : RX8 ≠ "java/lang/invoke/MethodHandle" ∧ RX8 ≠ "java/lang/invoke/VarHandle" ∧ Cond.initialized RX8 ∈ lw_ok := ⟨by decide +kernel, by decide +kernel, lw_i1 9 rfl rfl⟩
theorem nh_J6 : RJ6 ≠ "java/lang/invoke/MethodHandle" ∧ RJ6 ≠ "java/lang/invoke/VarHandle" ∧ Cond.initialized RJ6 ∈ lw_ok := ⟨by decide +kernel, by decide +kernel, lw_i1 11 rfl rfl⟩
theorem nh_J9 : RJ9 ≠ "java/lang/invoke/MethodHandle" ∧ RJ9 ≠ "java/lang/invoke/VarHandle" ∧ Cond.initialized RJ9 ∈ lw_ok := ⟨by decide +kernel, by decide +kernel, lw_i1 10 rfl rfl⟩
theorem nh_L : RL ≠ "java/lang/invoke/MethodHandle" ∧ RL ≠ "java/lang/invoke/VarHandle" ∧ Cond.initialized RL ∈ lw_ok := ⟨by decide +kernel, by decide +kernel, lw_i1 0 rfl rfl⟩
theorem my_X0_init : MY yX0_init cX0_init 1 none 0 := ⟨lw_i2 6 rfl rfl, nh_X0.1, nh_X0.2.1, by decide +kernel, nh_X0.2.2⟩
theorem my_X0_append : MY yX0_append cX0_append 3 (some .boolean) 2 := ⟨lw_i3 184 rfl rfl, nh_X0.1, nh_X0.2.1, by decide +kernel, nh_X0.2.2⟩
theorem mx_X0_append : Cond.instanceMethod yX0_append ∈ lw_ok ∧ Cond.selects yX0_append.cls yX0_append yX0_append ∈ lw_ok := ⟨lw_i3 182 rfl rfl, lw_i3 183 rfl rfl⟩
theorem my_X0_firstWrong : MY yX0_firstWrong cX0_firstWrong 3 (some .int) 1 := ⟨lw_i3 196 rfl rfl, nh_X0.1, nh_X0.2.1, by decide +kernel, nh_X0.2.2⟩
theorem mx_X0_firstWrong : Cond.instanceMethod yX0_firstWrong ∈ lw_ok ∧ Cond.selects yX0_firstWrong.cls yX0_firstWrong yX0_firstWrong ∈ lw_ok := ⟨lw_i3 194 rfl rfl, lw_i3 195 rfl rfl⟩
theorem my_X1_init : MY yX1_init cX1_init 1 none 0 := ⟨lw_i1 30 rfl rfl, nh_X1.1, nh_X1.2.1, by decide +kernel, nh_X1.2.2⟩
theorem my_X1_clear : MY yX1_clear cX1_clear 1 none 0 := ⟨lw_i2 70 rfl rfl, nh_X1.1, nh_X1.2.1, by decide +kernel, nh_X1.2.2⟩
theorem mx_X1_clear : Cond.instanceMethod yX1_clear ∈ lw_ok ∧ Cond.selects yX1_clear.cls yX1_clear yX1_clear ∈ lw_ok := ⟨lw_i2 68 rfl rfl, lw_i2 69 rfl rfl⟩
theorem my_X1_isIdea : MY yX1_isIdea cX1_isIdea 2 (some .boolean) 1 := ⟨lw_i2 204 rfl rfl, nh_X1.1, nh_X1.2.1, by decide +kernel, nh_X1.2.2⟩
theorem mx_X1_isIdea : Cond.instanceMethod yX1_isIdea ∈ lw_ok ∧ Cond.selects yX1_isIdea.cls yX1_isIdea yX1_isIdea ∈ lw_ok := ⟨lw_i2 202 rfl rfl, lw_i2 203 rfl rfl⟩
theorem my_X1_isTraveller : MY yX1_isTraveller cX1_isTraveller 2 (some .boolean) 1 := ⟨lw_i2 152 rfl rfl, nh_X1.1, nh_X1.2.1, by decide +kernel, nh_X1.2.2⟩
theorem mx_X1_isTraveller : Cond.instanceMethod yX1_isTraveller ∈ lw_ok ∧ Cond.selects yX1_isTraveller.cls yX1_isTraveller yX1_isTraveller ∈ lw_ok := ⟨lw_i2 150 rfl rfl, lw_i2 151 rfl rfl⟩
theorem my_X1_isSet : MY yX1_isSet cX1_isSet 2 (some .boolean) 1 := ⟨lw_i2 176 rfl rfl, nh_X1.1, nh_X1.2.1, by decide +kernel, nh_X1.2.2⟩
theorem mx_X1_isSet : Cond.instanceMethod yX1_isSet ∈ lw_ok ∧ Cond.selects yX1_isSet.cls yX1_isSet yX1_isSet ∈ lw_ok := ⟨lw_i2 174 rfl rfl, lw_i2 175 rfl rfl⟩
theorem my_X1_findAllFrom : MY yX1_findAllFrom cX1_findAllFrom 3 none 0 := ⟨lw_i2 140 rfl rfl, nh_X1.1, nh_X1.2.1, by decide +kernel, nh_X1.2.2⟩
theorem mx_X1_findAllFrom : Cond.instanceMethod yX1_findAllFrom ∈ lw_ok ∧ Cond.selects yX1_findAllFrom.cls yX1_findAllFrom yX1_findAllFrom ∈ lw_ok := ⟨lw_i2 138 rfl rfl, lw_i2 139 rfl rfl⟩
theorem my_X1_joined : MY yX1_joined cX1_joined 7 (some .int) 1 := ⟨lw_i2 144 rfl rfl, nh_X1.1, nh_X1.2.1, by decide +kernel, nh_X1.2.2⟩
theorem mx_X1_joined : Cond.instanceMethod yX1_joined ∈ lw_ok ∧ Cond.selects yX1_joined.cls yX1_joined yX1_joined ∈ lw_ok := ⟨lw_i2 143 rfl rfl, lw_s 14 rfl rfl⟩
theorem my_X1_allFrom : MY yX1_allFrom cX1_allFrom 2 (some .int) 1 := ⟨lw_i2 172 rfl rfl, nh_X1.1, nh_X1.2.1, by decide +kernel, nh_X1.2.2⟩
theorem mx_X1_allFrom : Cond.instanceMethod yX1_allFrom ∈ lw_ok ∧ Cond.selects yX1_allFrom.cls yX1_allFrom yX1_allFrom ∈ lw_ok := ⟨lw_i2 170 rfl rfl, lw_i2 171 rfl rfl⟩
theorem my_X1_sizeOf : MY yX1_sizeOf cX1_sizeOf 4 (some .int) 1 := ⟨lw_i2 196 rfl rfl, nh_X1.1, nh_X1.2.1, by decide +kernel, nh_X1.2.2⟩
theorem mx_X1_sizeOf : Cond.instanceMethod yX1_sizeOf ∈ lw_ok ∧ Cond.selects yX1_sizeOf.cls yX1_sizeOf yX1_sizeOf ∈ lw_ok := ⟨lw_i2 194 rfl rfl, lw_i2 195 rfl rfl⟩
theorem my_X1_isStuck : MY yX1_isStuck cX1_isStuck 2 (some .boolean) 1 := ⟨lw_i2 192 rfl rfl, nh_X1.1, nh_X1.2.1, by decide +kernel, nh_X1.2.2⟩
theorem mx_X1_isStuck : Cond.instanceMethod yX1_isStuck ∈ lw_ok ∧ Cond.selects yX1_isStuck.cls yX1_isStuck yX1_isStuck ∈ lw_ok := ⟨lw_i2 190 rfl rfl, lw_i2 191 rfl rfl⟩
theorem my_X1_duty : MY yX1_duty cX1_duty 7 (some .int) 2 := ⟨lw_i2 219 rfl rfl, nh_X1.1, nh_X1.2.1, by decide +kernel, nh_X1.2.2⟩
theorem mx_X1_duty : Cond.instanceMethod yX1_duty ∈ lw_ok ∧ Cond.selects yX1_duty.cls yX1_duty yX1_duty ∈ lw_ok := ⟨lw_i2 217 rfl rfl, lw_i2 218 rfl rfl⟩
theorem my_X1_quickest : MY yX1_quickest cX1_quickest 6 (some .int) 2 := ⟨lw_i3 17 rfl rfl, nh_X1.1, nh_X1.2.1, by decide +kernel, nh_X1.2.2⟩
theorem mx_X1_quickest : Cond.instanceMethod yX1_quickest ∈ lw_ok ∧ Cond.selects yX1_quickest.cls yX1_quickest yX1_quickest ∈ lw_ok := ⟨lw_i3 15 rfl rfl, lw_i3 16 rfl rfl⟩
theorem my_X1_findMinutes : MY yX1_findMinutes cX1_findMinutes 7 none 2 := ⟨lw_i3 86 rfl rfl, nh_X1.1, nh_X1.2.1, by decide +kernel, nh_X1.2.2⟩
theorem mx_X1_findMinutes : Cond.instanceMethod yX1_findMinutes ∈ lw_ok ∧ Cond.selects yX1_findMinutes.cls yX1_findMinutes yX1_findMinutes ∈ lw_ok := ⟨lw_i3 84 rfl rfl, lw_i3 85 rfl rfl⟩
theorem my_X2_init : MY yX2_init cX2_init 2 none 0 := ⟨lw_i1 189 rfl rfl, nh_X2.1, nh_X2.2.1, by decide +kernel, nh_X2.2.2⟩
theorem my_X2_take : MY yX2_take cX2_take 4 none 3 := ⟨lw_i3 208 rfl rfl, nh_X2.1, nh_X2.2.1, by decide +kernel, nh_X2.2.2⟩
theorem mx_X2_take : Cond.instanceMethod yX2_take ∈ lw_ok ∧ Cond.selects yX2_take.cls yX2_take yX2_take ∈ lw_ok := ⟨lw_i3 206 rfl rfl, lw_i3 207 rfl rfl⟩
theorem my_X2_forget : MY yX2_forget cX2_forget 2 none 0 := ⟨lw_i2 156 rfl rfl, nh_X2.1, nh_X2.2.1, by decide +kernel, nh_X2.2.2⟩
theorem mx_X2_forget : Cond.instanceMethod yX2_forget ∈ lw_ok ∧ Cond.selects yX2_forget.cls yX2_forget yX2_forget ∈ lw_ok := ⟨lw_i2 154 rfl rfl, lw_i2 155 rfl rfl⟩
theorem my_X3_init : MY yX3_init cX3_init 2 none 0 := ⟨lw_i1 169 rfl rfl, nh_X3.1, nh_X3.2.1, by decide +kernel, nh_X3.2.2⟩
theorem my_X3_remember : MY yX3_remember cX3_remember 2 none 1 := ⟨lw_i2 229 rfl rfl, nh_X3.1, nh_X3.2.1, by decide +kernel, nh_X3.2.2⟩
theorem mx_X3_remember : Cond.instanceMethod yX3_remember ∈ lw_ok ∧ Cond.selects yX3_remember.cls yX3_remember yX3_remember ∈ lw_ok := ⟨lw_i2 227 rfl rfl, lw_i2 228 rfl rfl⟩
theorem my_X3_bringBack : MY yX3_bringBack cX3_bringBack 2 none 1 := ⟨lw_i3 62 rfl rfl, nh_X3.1, nh_X3.2.1, by decide +kernel, nh_X3.2.2⟩
theorem mx_X3_bringBack : Cond.instanceMethod yX3_bringBack ∈ lw_ok ∧ Cond.selects yX3_bringBack.cls yX3_bringBack yX3_bringBack ∈ lw_ok := ⟨lw_i3 60 rfl rfl, lw_i3 61 rfl rfl⟩
theorem my_X4_init : MY yX4_init cX4_init 1 none 0 := ⟨lw_i1 143 rfl rfl, nh_X4.1, nh_X4.2.1, by decide +kernel, nh_X4.2.2⟩
theorem my_X4_begin : MY yX4_begin cX4_begin 3 none 1 := ⟨lw_i2 148 rfl rfl, nh_X4.1, nh_X4.2.1, by decide +kernel, nh_X4.2.2⟩
theorem mx_X4_begin : Cond.instanceMethod yX4_begin ∈ lw_ok ∧ Cond.selects yX4_begin.cls yX4_begin yX4_begin ∈ lw_ok := ⟨lw_i2 146 rfl rfl, lw_i2 147 rfl rfl⟩
theorem my_X4_become : MY yX4_become cX4_become 3 none 1 := ⟨lw_i2 233 rfl rfl, nh_X4.1, nh_X4.2.1, by decide +kernel, nh_X4.2.2⟩
theorem mx_X4_become : Cond.instanceMethod yX4_become ∈ lw_ok ∧ Cond.selects yX4_become.cls yX4_become yX4_become ∈ lw_ok := ⟨lw_i2 231 rfl rfl, lw_i2 232 rfl rfl⟩
theorem my_X4_mindOf : MY yX4_mindOf cX4_mindOf 2 (some .int) 1 := ⟨lw_i2 188 rfl rfl, nh_X4.1, nh_X4.2.1, by decide +kernel, nh_X4.2.2⟩
theorem mx_X4_mindOf : Cond.instanceMethod yX4_mindOf ∈ lw_ok ∧ Cond.selects yX4_mindOf.cls yX4_mindOf yX4_mindOf ∈ lw_ok := ⟨lw_i2 186 rfl rfl, lw_i2 187 rfl rfl⟩
theorem my_X4_setMind : MY yX4_setMind cX4_setMind 3 none 2 := ⟨lw_i3 24 rfl rfl, nh_X4.1, nh_X4.2.1, by decide +kernel, nh_X4.2.2⟩
theorem mx_X4_setMind : Cond.instanceMethod yX4_setMind ∈ lw_ok ∧ Cond.selects yX4_setMind.cls yX4_setMind yX4_setMind ∈ lw_ok := ⟨lw_i3 22 rfl rfl, lw_i3 23 rfl rfl⟩
theorem my_X4_isGone : MY yX4_isGone cX4_isGone 2 (some .boolean) 1 := ⟨lw_i2 184 rfl rfl, nh_X4.1, nh_X4.2.1, by decide +kernel, nh_X4.2.2⟩
theorem mx_X4_isGone : Cond.instanceMethod yX4_isGone ∈ lw_ok ∧ Cond.selects yX4_isGone.cls yX4_isGone yX4_isGone ∈ lw_ok := ⟨lw_i2 182 rfl rfl, lw_i2 183 rfl rfl⟩
theorem my_X4_comes : MY yX4_comes cX4_comes 3 none 2 := ⟨lw_i3 33 rfl rfl, nh_X4.1, nh_X4.2.1, by decide +kernel, nh_X4.2.2⟩
theorem mx_X4_comes : Cond.instanceMethod yX4_comes ∈ lw_ok ∧ Cond.selects yX4_comes.cls yX4_comes yX4_comes ∈ lw_ok := ⟨lw_i3 31 rfl rfl, lw_i3 32 rfl rfl⟩
theorem my_X4_leaves : MY yX4_leaves cX4_leaves 3 none 2 := ⟨lw_i3 4 rfl rfl, nh_X4.1, nh_X4.2.1, by decide +kernel, nh_X4.2.2⟩
theorem mx_X4_leaves : Cond.instanceMethod yX4_leaves ∈ lw_ok ∧ Cond.selects yX4_leaves.cls yX4_leaves yX4_leaves ∈ lw_ok := ⟨lw_i3 2 rfl rfl, lw_i3 3 rfl rfl⟩
theorem my_X5_init : MY yX5_init cX5_init 1 none 0 := ⟨lw_i1 211 rfl rfl, nh_X5.1, nh_X5.2.1, by decide +kernel, nh_X5.2.2⟩
theorem my_X5_append : MY yX5_append cX5_append 4 (some .boolean) 3 := ⟨lw_i3 145 rfl rfl, nh_X5.1, nh_X5.2.1, by decide +kernel, nh_X5.2.2⟩
theorem mx_X5_append : Cond.instanceMethod yX5_append ∈ lw_ok ∧ Cond.selects yX5_append.cls yX5_append yX5_append ∈ lw_ok := ⟨lw_i3 143 rfl rfl, lw_i3 144 rfl rfl⟩
theorem my_X5_look : MY yX5_look cX5_look 4 none 1 := ⟨lw_i3 153 rfl rfl, nh_X5.1, nh_X5.2.1, by decide +kernel, nh_X5.2.2⟩
theorem mx_X5_look : Cond.instanceMethod yX5_look ∈ lw_ok ∧ Cond.selects yX5_look.cls yX5_look yX5_look ∈ lw_ok := ⟨lw_i3 151 rfl rfl, lw_i3 152 rfl rfl⟩
theorem my_X5_countIdeas : MY yX5_countIdeas cX5_countIdeas 3 none 1 := ⟨lw_i3 165 rfl rfl, nh_X5.1, nh_X5.2.1, by decide +kernel, nh_X5.2.2⟩
theorem mx_X5_countIdeas : Cond.instanceMethod yX5_countIdeas ∈ lw_ok ∧ Cond.selects yX5_countIdeas.cls yX5_countIdeas yX5_countIdeas ∈ lw_ok := ⟨lw_i3 164 rfl rfl, lw_s 26 rfl rfl⟩
theorem my_X5_fits : MY yX5_fits cX5_fits 3 (some .boolean) 1 := ⟨lw_i3 157 rfl rfl, nh_X5.1, nh_X5.2.1, by decide +kernel, nh_X5.2.2⟩
theorem mx_X5_fits : Cond.instanceMethod yX5_fits ∈ lw_ok ∧ Cond.selects yX5_fits.cls yX5_fits yX5_fits ∈ lw_ok := ⟨lw_i3 156 rfl rfl, lw_s 25 rfl rfl⟩
theorem my_X5_isSo : MY yX5_isSo cX5_isSo 3 (some .boolean) 3 := ⟨lw_i3 160 rfl rfl, nh_X5.1, nh_X5.2.1, by decide +kernel, nh_X5.2.2⟩
theorem mx_X5_isSo : Cond.static yX5_isSo ∈ lw_ok := lw_i3 159 rfl rfl
theorem my_X5_bestIdea : MY yX5_bestIdea cX5_bestIdea 5 (some .int) 0 := ⟨lw_i3 173 rfl rfl, nh_X5.1, nh_X5.2.1, by decide +kernel, nh_X5.2.2⟩
theorem mx_X5_bestIdea : Cond.instanceMethod yX5_bestIdea ∈ lw_ok ∧ Cond.selects yX5_bestIdea.cls yX5_bestIdea yX5_bestIdea ∈ lw_ok := ⟨lw_i3 171 rfl rfl, lw_i3 172 rfl rfl⟩
theorem my_X6_init : MY yX6_init cX6_init 1 none 0 := ⟨lw_i1 24 rfl rfl, nh_X6.1, nh_X6.2.1, by decide +kernel, nh_X6.2.2⟩
theorem my_X6_append : MY yX6_append cX6_append 2 (some .boolean) 1 := ⟨lw_i2 57 rfl rfl, nh_X6.1, nh_X6.2.1, by decide +kernel, nh_X6.2.2⟩
theorem mx_X6_append : Cond.instanceMethod yX6_append ∈ lw_ok ∧ Cond.selects yX6_append.cls yX6_append yX6_append ∈ lw_ok := ⟨lw_i2 55 rfl rfl, lw_i2 56 rfl rfl⟩
theorem my_X6_exchange : MY yX6_exchange cX6_exchange 3 (some (.object "MindDuty$Country")) 1 := ⟨lw_i2 136 rfl rfl, nh_X6.1, nh_X6.2.1, by decide +kernel, nh_X6.2.2⟩
theorem mx_X6_exchange : Cond.instanceMethod yX6_exchange ∈ lw_ok ∧ Cond.selects yX6_exchange.cls yX6_exchange yX6_exchange ∈ lw_ok := ⟨lw_i2 134 rfl rfl, lw_i2 135 rfl rfl⟩
theorem my_X6_read : MY yX6_read cX6_read 2 (some .boolean) 0 := ⟨lw_i2 66 rfl rfl, nh_X6.1, nh_X6.2.1, by decide +kernel, nh_X6.2.2⟩
theorem mx_X6_read : Cond.instanceMethod yX6_read ∈ lw_ok ∧ Cond.selects yX6_read.cls yX6_read yX6_read ∈ lw_ok := ⟨lw_i2 64 rfl rfl, lw_i2 65 rfl rfl⟩
theorem my_X6_readClause : MY yX6_readClause cX6_readClause 2 none 0 := ⟨lw_i2 78 rfl rfl, nh_X6.1, nh_X6.2.1, by decide +kernel, nh_X6.2.2⟩
theorem mx_X6_readClause : Cond.instanceMethod yX6_readClause ∈ lw_ok ∧ Cond.selects yX6_readClause.cls yX6_readClause yX6_readClause ∈ lw_ok := ⟨lw_i2 77 rfl rfl, lw_s 1 rfl rfl⟩
theorem my_X6_checkWord : MY yX6_checkWord cX6_checkWord 4 none 1 := ⟨lw_i2 86 rfl rfl, nh_X6.1, nh_X6.2.1, by decide +kernel, nh_X6.2.2⟩
theorem mx_X6_checkWord : Cond.instanceMethod yX6_checkWord ∈ lw_ok ∧ Cond.selects yX6_checkWord.cls yX6_checkWord yX6_checkWord ∈ lw_ok := ⟨lw_i2 85 rfl rfl, lw_s 3 rfl rfl⟩
theorem my_X6_readGate : MY yX6_readGate cX6_readGate 1 none 0 := ⟨lw_i2 94 rfl rfl, nh_X6.1, nh_X6.2.1, by decide +kernel, nh_X6.2.2⟩
theorem mx_X6_readGate : Cond.instanceMethod yX6_readGate ∈ lw_ok ∧ Cond.selects yX6_readGate.cls yX6_readGate yX6_readGate ∈ lw_ok := ⟨lw_i2 93 rfl rfl, lw_s 5 rfl rfl⟩
theorem my_X6_readIdea : MY yX6_readIdea cX6_readIdea 2 none 0 := ⟨lw_i2 108 rfl rfl, nh_X6.1, nh_X6.2.1, by decide +kernel, nh_X6.2.2⟩
theorem mx_X6_readIdea : Cond.instanceMethod yX6_readIdea ∈ lw_ok ∧ Cond.selects yX6_readIdea.cls yX6_readIdea yX6_readIdea ∈ lw_ok := ⟨lw_i2 107 rfl rfl, lw_s 7 rfl rfl⟩
theorem my_X6_readJoining : MY yX6_readJoining cX6_readJoining 4 none 0 := ⟨lw_i2 112 rfl rfl, nh_X6.1, nh_X6.2.1, by decide +kernel, nh_X6.2.2⟩
theorem mx_X6_readJoining : Cond.instanceMethod yX6_readJoining ∈ lw_ok ∧ Cond.selects yX6_readJoining.cls yX6_readJoining yX6_readJoining ∈ lw_ok := ⟨lw_i2 111 rfl rfl, lw_s 8 rfl rfl⟩
theorem my_X6_readTalk : MY yX6_readTalk cX6_readTalk 4 none 0 := ⟨lw_i2 120 rfl rfl, nh_X6.1, nh_X6.2.1, by decide +kernel, nh_X6.2.2⟩
theorem mx_X6_readTalk : Cond.instanceMethod yX6_readTalk ∈ lw_ok ∧ Cond.selects yX6_readTalk.cls yX6_readTalk yX6_readTalk ∈ lw_ok := ⟨lw_i2 119 rfl rfl, lw_s 10 rfl rfl⟩
theorem my_X6_readRegistered : MY yX6_readRegistered cX6_readRegistered 2 none 0 := ⟨lw_i2 124 rfl rfl, nh_X6.1, nh_X6.2.1, by decide +kernel, nh_X6.2.2⟩
theorem mx_X6_readRegistered : Cond.instanceMethod yX6_readRegistered ∈ lw_ok ∧ Cond.selects yX6_readRegistered.cls yX6_readRegistered yX6_readRegistered ∈ lw_ok := ⟨lw_i2 123 rfl rfl, lw_s 11 rfl rfl⟩
theorem my_X6_readTraveller : MY yX6_readTraveller cX6_readTraveller 2 none 0 := ⟨lw_i2 128 rfl rfl, nh_X6.1, nh_X6.2.1, by decide +kernel, nh_X6.2.2⟩
theorem mx_X6_readTraveller : Cond.instanceMethod yX6_readTraveller ∈ lw_ok ∧ Cond.selects yX6_readTraveller.cls yX6_readTraveller yX6_readTraveller ∈ lw_ok := ⟨lw_i2 127 rfl rfl, lw_s 12 rfl rfl⟩
theorem my_X6_readEnd : MY yX6_readEnd cX6_readEnd 1 none 0 := ⟨lw_i2 132 rfl rfl, nh_X6.1, nh_X6.2.1, by decide +kernel, nh_X6.2.2⟩
theorem mx_X6_readEnd : Cond.instanceMethod yX6_readEnd ∈ lw_ok ∧ Cond.selects yX6_readEnd.cls yX6_readEnd yX6_readEnd ∈ lw_ok := ⟨lw_i2 131 rfl rfl, lw_s 13 rfl rfl⟩
theorem my_X6_readToldIdea : MY yX6_readToldIdea cX6_readToldIdea 1 (some .int) 0 := ⟨lw_i2 116 rfl rfl, nh_X6.1, nh_X6.2.1, by decide +kernel, nh_X6.2.2⟩
theorem mx_X6_readToldIdea : Cond.instanceMethod yX6_readToldIdea ∈ lw_ok ∧ Cond.selects yX6_readToldIdea.cls yX6_readToldIdea yX6_readToldIdea ∈ lw_ok := ⟨lw_i2 115 rfl rfl, lw_s 9 rfl rfl⟩
theorem my_X6_readNumber : MY yX6_readNumber cX6_readNumber 5 (some .int) 2 := ⟨lw_i2 98 rfl rfl, nh_X6.1, nh_X6.2.1, by decide +kernel, nh_X6.2.2⟩
theorem mx_X6_readNumber : Cond.instanceMethod yX6_readNumber ∈ lw_ok ∧ Cond.selects yX6_readNumber.cls yX6_readNumber yX6_readNumber ∈ lw_ok := ⟨lw_i2 97 rfl rfl, lw_s 6 rfl rfl⟩
theorem my_X6_isFigure : MY yX6_isFigure cX6_isFigure 1 (some .boolean) 1 := ⟨lw_i2 101 rfl rfl, nh_X6.1, nh_X6.2.1, by decide +kernel, nh_X6.2.2⟩
theorem mx_X6_isFigure : Cond.static yX6_isFigure ∈ lw_ok := lw_i2 100 rfl rfl
theorem my_X6_letterHere : MY yX6_letterHere cX6_letterHere 1 (some .int) 0 := ⟨lw_i2 82 rfl rfl, nh_X6.1, nh_X6.2.1, by decide +kernel, nh_X6.2.2⟩
theorem mx_X6_letterHere : Cond.instanceMethod yX6_letterHere ∈ lw_ok ∧ Cond.selects yX6_letterHere.cls yX6_letterHere yX6_letterHere ∈ lw_ok := ⟨lw_i2 81 rfl rfl, lw_s 2 rfl rfl⟩
theorem my_X6_skipBlanks : MY yX6_skipBlanks cX6_skipBlanks 1 none 0 := ⟨lw_i2 74 rfl rfl, nh_X6.1, nh_X6.2.1, by decide +kernel, nh_X6.2.2⟩
theorem mx_X6_skipBlanks : Cond.instanceMethod yX6_skipBlanks ∈ lw_ok ∧ Cond.selects yX6_skipBlanks.cls yX6_skipBlanks yX6_skipBlanks ∈ lw_ok := ⟨lw_i2 73 rfl rfl, lw_s 0 rfl rfl⟩
theorem my_X6_findFault : MY yX6_findFault cX6_findFault 3 none 2 := ⟨lw_i2 90 rfl rfl, nh_X6.1, nh_X6.2.1, by decide +kernel, nh_X6.2.2⟩
theorem mx_X6_findFault : Cond.instanceMethod yX6_findFault ∈ lw_ok ∧ Cond.selects yX6_findFault.cls yX6_findFault yX6_findFault ∈ lw_ok := ⟨lw_i2 89 rfl rfl, lw_s 4 rfl rfl⟩
theorem my_X7_init : MY yX7_init cX7_init 1 none 0 := ⟨lw_i1 16 rfl rfl, nh_X7.1, nh_X7.2.1, by decide +kernel, nh_X7.2.2⟩
theorem my_X7_feed : MY yX7_feed cX7_feed 2 (some .int) 1 := ⟨lw_i2 52 rfl rfl, nh_X7.1, nh_X7.2.1, by decide +kernel, nh_X7.2.2⟩
theorem mx_X7_feed : Cond.instanceMethod yX7_feed ∈ lw_ok ∧ Cond.selects yX7_feed.cls yX7_feed yX7_feed ∈ lw_ok := ⟨lw_i2 50 rfl rfl, lw_i2 51 rfl rfl⟩
theorem my_X7_thePass : MY yX7_thePass cX7_thePass 2 (some .int) 0 := ⟨lw_i2 62 rfl rfl, nh_X7.1, nh_X7.2.1, by decide +kernel, nh_X7.2.2⟩
theorem mx_X7_thePass : Cond.instanceMethod yX7_thePass ∈ lw_ok ∧ Cond.selects yX7_thePass.cls yX7_thePass yX7_thePass ∈ lw_ok := ⟨lw_i2 60 rfl rfl, lw_i2 61 rfl rfl⟩
theorem my_X7_fault : MY yX7_fault cX7_fault 1 (some .int) 0 := ⟨lw_i2 160 rfl rfl, nh_X7.1, nh_X7.2.1, by decide +kernel, nh_X7.2.2⟩
theorem mx_X7_fault : Cond.instanceMethod yX7_fault ∈ lw_ok ∧ Cond.selects yX7_fault.cls yX7_fault yX7_fault ∈ lw_ok := ⟨lw_i2 158 rfl rfl, lw_i2 159 rfl rfl⟩
theorem my_X7_told : MY yX7_told cX7_told 2 (some .int) 1 := ⟨lw_i2 164 rfl rfl, nh_X7.1, nh_X7.2.1, by decide +kernel, nh_X7.2.2⟩
theorem mx_X7_told : Cond.instanceMethod yX7_told ∈ lw_ok ∧ Cond.selects yX7_told.cls yX7_told yX7_told ∈ lw_ok := ⟨lw_i2 162 rfl rfl, lw_i2 163 rfl rfl⟩
theorem my_X7_size : MY yX7_size cX7_size 2 (some .int) 1 := ⟨lw_i2 200 rfl rfl, nh_X7.1, nh_X7.2.1, by decide +kernel, nh_X7.2.2⟩
theorem mx_X7_size : Cond.instanceMethod yX7_size ∈ lw_ok ∧ Cond.selects yX7_size.cls yX7_size yX7_size ∈ lw_ok := ⟨lw_i2 198 rfl rfl, lw_i2 199 rfl rfl⟩
theorem my_X7_traveller : MY yX7_traveller cX7_traveller 3 (some .int) 2 := ⟨lw_i2 209 rfl rfl, nh_X7.1, nh_X7.2.1, by decide +kernel, nh_X7.2.2⟩
theorem mx_X7_traveller : Cond.instanceMethod yX7_traveller ∈ lw_ok ∧ Cond.selects yX7_traveller.cls yX7_traveller yX7_traveller ∈ lw_ok := ⟨lw_i2 207 rfl rfl, lw_i2 208 rfl rfl⟩
theorem my_X7_pass : MY yX7_pass cX7_pass 2 (some .int) 1 := ⟨lw_i2 224 rfl rfl, nh_X7.1, nh_X7.2.1, by decide +kernel, nh_X7.2.2⟩
theorem mx_X7_pass : Cond.instanceMethod yX7_pass ∈ lw_ok ∧ Cond.selects yX7_pass.cls yX7_pass yX7_pass ∈ lw_ok := ⟨lw_i2 222 rfl rfl, lw_i2 223 rfl rfl⟩
theorem my_X7_goRound : MY yX7_goRound cX7_goRound 4 (some .int) 2 := ⟨lw_i3 9 rfl rfl, nh_X7.1, nh_X7.2.1, by decide +kernel, nh_X7.2.2⟩
theorem mx_X7_goRound : Cond.instanceMethod yX7_goRound ∈ lw_ok ∧ Cond.selects yX7_goRound.cls yX7_goRound yX7_goRound ∈ lw_ok := ⟨lw_i3 7 rfl rfl, lw_i3 8 rfl rfl⟩
theorem my_X7_talk : MY yX7_talk cX7_talk 5 (some .int) 3 := ⟨lw_i3 13 rfl rfl, nh_X7.1, nh_X7.2.1, by decide +kernel, nh_X7.2.2⟩
theorem mx_X7_talk : Cond.instanceMethod yX7_talk ∈ lw_ok ∧ Cond.selects yX7_talk.cls yX7_talk yX7_talk ∈ lw_ok := ⟨lw_i3 11 rfl rfl, lw_i3 12 rfl rfl⟩
theorem my_X7_come : MY yX7_come cX7_come 3 (some .int) 2 := ⟨lw_i3 28 rfl rfl, nh_X7.1, nh_X7.2.1, by decide +kernel, nh_X7.2.2⟩
theorem mx_X7_come : Cond.instanceMethod yX7_come ∈ lw_ok ∧ Cond.selects yX7_come.cls yX7_come yX7_come ∈ lw_ok := ⟨lw_i3 26 rfl rfl, lw_i3 27 rfl rfl⟩
theorem my_X7_register : MY yX7_register cX7_register 4 (some .int) 2 := ⟨lw_i3 38 rfl rfl, nh_X7.1, nh_X7.2.1, by decide +kernel, nh_X7.2.2⟩
theorem mx_X7_register : Cond.instanceMethod yX7_register ∈ lw_ok ∧ Cond.selects yX7_register.cls yX7_register yX7_register ∈ lw_ok := ⟨lw_i3 36 rfl rfl, lw_i3 37 rfl rfl⟩
theorem my_X7_drift : MY yX7_drift cX7_drift 3 (some .int) 1 := ⟨lw_i3 42 rfl rfl, nh_X7.1, nh_X7.2.1, by decide +kernel, nh_X7.2.2⟩
theorem mx_X7_drift : Cond.instanceMethod yX7_drift ∈ lw_ok ∧ Cond.selects yX7_drift.cls yX7_drift yX7_drift ∈ lw_ok := ⟨lw_i3 40 rfl rfl, lw_i3 41 rfl rfl⟩
theorem my_X7_undo : MY yX7_undo cX7_undo 1 (some .int) 0 := ⟨lw_i3 58 rfl rfl, nh_X7.1, nh_X7.2.1, by decide +kernel, nh_X7.2.2⟩
theorem mx_X7_undo : Cond.instanceMethod yX7_undo ∈ lw_ok ∧ Cond.selects yX7_undo.cls yX7_undo yX7_undo ∈ lw_ok := ⟨lw_i3 56 rfl rfl, lw_i3 57 rfl rfl⟩
theorem my_X7_follows : MY yX7_follows cX7_follows 2 (some .int) 1 := ⟨lw_i3 66 rfl rfl, nh_X7.1, nh_X7.2.1, by decide +kernel, nh_X7.2.2⟩
theorem mx_X7_follows : Cond.instanceMethod yX7_follows ∈ lw_ok ∧ Cond.selects yX7_follows.cls yX7_follows yX7_follows ∈ lw_ok := ⟨lw_i3 64 rfl rfl, lw_i3 65 rfl rfl⟩
theorem my_X7_owed : MY yX7_owed cX7_owed 2 (some .int) 1 := ⟨lw_i3 70 rfl rfl, nh_X7.1, nh_X7.2.1, by decide +kernel, nh_X7.2.2⟩
theorem mx_X7_owed : Cond.instanceMethod yX7_owed ∈ lw_ok ∧ Cond.selects yX7_owed.cls yX7_owed yX7_owed ∈ lw_ok := ⟨lw_i3 68 rfl rfl, lw_i3 69 rfl rfl⟩
theorem my_X7_parts : MY yX7_parts cX7_parts 4 (some .int) 2 := ⟨lw_i3 74 rfl rfl, nh_X7.1, nh_X7.2.1, by decide +kernel, nh_X7.2.2⟩
theorem mx_X7_parts : Cond.instanceMethod yX7_parts ∈ lw_ok ∧ Cond.selects yX7_parts.cls yX7_parts yX7_parts ∈ lw_ok := ⟨lw_i3 72 rfl rfl, lw_i3 73 rfl rfl⟩
theorem my_X7_talkDown : MY yX7_talkDown cX7_talkDown 4 (some .int) 3 := ⟨lw_i3 82 rfl rfl, nh_X7.1, nh_X7.2.1, by decide +kernel, nh_X7.2.2⟩
theorem mx_X7_talkDown : Cond.instanceMethod yX7_talkDown ∈ lw_ok ∧ Cond.selects yX7_talkDown.cls yX7_talkDown yX7_talkDown ∈ lw_ok := ⟨lw_i3 80 rfl rfl, lw_i3 81 rfl rfl⟩
theorem my_X7_soonest : MY yX7_soonest cX7_soonest 2 (some .int) 1 := ⟨lw_i3 94 rfl rfl, nh_X7.1, nh_X7.2.1, by decide +kernel, nh_X7.2.2⟩
theorem mx_X7_soonest : Cond.instanceMethod yX7_soonest ∈ lw_ok ∧ Cond.selects yX7_soonest.cls yX7_soonest yX7_soonest ∈ lw_ok := ⟨lw_i3 92 rfl rfl, lw_i3 93 rfl rfl⟩
theorem my_X7_smallest : MY yX7_smallest cX7_smallest 2 (some .int) 1 := ⟨lw_i3 101 rfl rfl, nh_X7.1, nh_X7.2.1, by decide +kernel, nh_X7.2.2⟩
theorem mx_X7_smallest : Cond.instanceMethod yX7_smallest ∈ lw_ok ∧ Cond.selects yX7_smallest.cls yX7_smallest yX7_smallest ∈ lw_ok := ⟨lw_i3 99 rfl rfl, lw_i3 100 rfl rfl⟩
theorem my_X7_better : MY yX7_better cX7_better 3 (some .int) 2 := ⟨lw_i3 119 rfl rfl, nh_X7.1, nh_X7.2.1, by decide +kernel, nh_X7.2.2⟩
theorem mx_X7_better : Cond.instanceMethod yX7_better ∈ lw_ok ∧ Cond.selects yX7_better.cls yX7_better yX7_better ∈ lw_ok := ⟨lw_i3 117 rfl rfl, lw_i3 118 rfl rfl⟩
theorem my_X7_gains : MY yX7_gains cX7_gains 4 (some .int) 2 := ⟨lw_i3 123 rfl rfl, nh_X7.1, nh_X7.2.1, by decide +kernel, nh_X7.2.2⟩
theorem mx_X7_gains : Cond.instanceMethod yX7_gains ∈ lw_ok ∧ Cond.selects yX7_gains.cls yX7_gains yX7_gains ∈ lw_ok := ⟨lw_i3 121 rfl rfl, lw_i3 122 rfl rfl⟩
theorem my_X7_free : MY yX7_free cX7_free 1 (some .int) 0 := ⟨lw_i3 127 rfl rfl, nh_X7.1, nh_X7.2.1, by decide +kernel, nh_X7.2.2⟩
theorem mx_X7_free : Cond.instanceMethod yX7_free ∈ lw_ok ∧ Cond.selects yX7_free.cls yX7_free yX7_free ∈ lw_ok := ⟨lw_i3 125 rfl rfl, lw_i3 126 rfl rfl⟩
theorem my_X7_share : MY yX7_share cX7_share 4 (some .int) 1 := ⟨lw_i3 131 rfl rfl, nh_X7.1, nh_X7.2.1, by decide +kernel, nh_X7.2.2⟩
theorem mx_X7_share : Cond.instanceMethod yX7_share ∈ lw_ok ∧ Cond.selects yX7_share.cls yX7_share yX7_share ∈ lw_ok := ⟨lw_i3 129 rfl rfl, lw_i3 130 rfl rfl⟩
theorem my_X7_glacier : MY yX7_glacier cX7_glacier 5 (some .int) 1 := ⟨lw_i3 135 rfl rfl, nh_X7.1, nh_X7.2.1, by decide +kernel, nh_X7.2.2⟩
theorem mx_X7_glacier : Cond.instanceMethod yX7_glacier ∈ lw_ok ∧ Cond.selects yX7_glacier.cls yX7_glacier yX7_glacier ∈ lw_ok := ⟨lw_i3 133 rfl rfl, lw_i3 134 rfl rfl⟩
theorem my_X7_ask : MY yX7_ask cX7_ask 4 (some .int) 3 := ⟨lw_i3 141 rfl rfl, nh_X7.1, nh_X7.2.1, by decide +kernel, nh_X7.2.2⟩
theorem mx_X7_ask : Cond.instanceMethod yX7_ask ∈ lw_ok ∧ Cond.selects yX7_ask.cls yX7_ask yX7_ask ∈ lw_ok := ⟨lw_i3 139 rfl rfl, lw_i3 140 rfl rfl⟩
theorem my_X7_minds : MY yX7_minds cX7_minds 2 (some .int) 1 := ⟨lw_i3 149 rfl rfl, nh_X7.1, nh_X7.2.1, by decide +kernel, nh_X7.2.2⟩
theorem mx_X7_minds : Cond.instanceMethod yX7_minds ∈ lw_ok ∧ Cond.selects yX7_minds.cls yX7_minds yX7_minds ∈ lw_ok := ⟨lw_i3 147 rfl rfl, lw_i3 148 rfl rfl⟩
theorem my_X7_askNext : MY yX7_askNext cX7_askNext 1 (some .int) 0 := ⟨lw_i3 169 rfl rfl, nh_X7.1, nh_X7.2.1, by decide +kernel, nh_X7.2.2⟩
theorem mx_X7_askNext : Cond.instanceMethod yX7_askNext ∈ lw_ok ∧ Cond.selects yX7_askNext.cls yX7_askNext yX7_askNext ∈ lw_ok := ⟨lw_i3 167 rfl rfl, lw_i3 168 rfl rfl⟩
theorem my_X7_write : MY yX7_write cX7_write 3 (some .int) 2 := ⟨lw_i3 180 rfl rfl, nh_X7.1, nh_X7.2.1, by decide +kernel, nh_X7.2.2⟩
theorem mx_X7_write : Cond.instanceMethod yX7_write ∈ lw_ok ∧ Cond.selects yX7_write.cls yX7_write yX7_write ∈ lw_ok := ⟨lw_i3 178 rfl rfl, lw_i3 179 rfl rfl⟩
theorem my_X7_tear : MY yX7_tear cX7_tear 2 (some .int) 0 := ⟨lw_i3 188 rfl rfl, nh_X7.1, nh_X7.2.1, by decide +kernel, nh_X7.2.2⟩
theorem mx_X7_tear : Cond.instanceMethod yX7_tear ∈ lw_ok ∧ Cond.selects yX7_tear.cls yX7_tear yX7_tear ∈ lw_ok := ⟨lw_i3 186 rfl rfl, lw_i3 187 rfl rfl⟩
theorem my_X7_judge : MY yX7_judge cX7_judge 1 (some .int) 0 := ⟨lw_i3 192 rfl rfl, nh_X7.1, nh_X7.2.1, by decide +kernel, nh_X7.2.2⟩
theorem mx_X7_judge : Cond.instanceMethod yX7_judge ∈ lw_ok ∧ Cond.selects yX7_judge.cls yX7_judge yX7_judge ∈ lw_ok := ⟨lw_i3 190 rfl rfl, lw_i3 191 rfl rfl⟩
theorem my_X7_seed : MY yX7_seed cX7_seed 3 (some .int) 1 := ⟨lw_i3 200 rfl rfl, nh_X7.1, nh_X7.2.1, by decide +kernel, nh_X7.2.2⟩
theorem mx_X7_seed : Cond.instanceMethod yX7_seed ∈ lw_ok ∧ Cond.selects yX7_seed.cls yX7_seed yX7_seed ∈ lw_ok := ⟨lw_i3 198 rfl rfl, lw_i3 199 rfl rfl⟩
theorem my_X7_keep : MY yX7_keep cX7_keep 2 (some .int) 1 := ⟨lw_i3 204 rfl rfl, nh_X7.1, nh_X7.2.1, by decide +kernel, nh_X7.2.2⟩
theorem mx_X7_keep : Cond.instanceMethod yX7_keep ∈ lw_ok ∧ Cond.selects yX7_keep.cls yX7_keep yX7_keep ∈ lw_ok := ⟨lw_i3 202 rfl rfl, lw_i3 203 rfl rfl⟩
theorem my_X7_goBack : MY yX7_goBack cX7_goBack 2 (some .int) 1 := ⟨lw_i3 213 rfl rfl, nh_X7.1, nh_X7.2.1, by decide +kernel, nh_X7.2.2⟩
theorem mx_X7_goBack : Cond.instanceMethod yX7_goBack ∈ lw_ok ∧ Cond.selects yX7_goBack.cls yX7_goBack yX7_goBack ∈ lw_ok := ⟨lw_i3 211 rfl rfl, lw_i3 212 rfl rfl⟩
theorem my_X7_inTheCountry : MY yX7_inTheCountry cX7_inTheCountry 1 (some .int) 0 := ⟨lw_i2 168 rfl rfl, nh_X7.1, nh_X7.2.1, by decide +kernel, nh_X7.2.2⟩
theorem mx_X7_inTheCountry : Cond.instanceMethod yX7_inTheCountry ∈ lw_ok ∧ Cond.selects yX7_inTheCountry.cls yX7_inTheCountry yX7_inTheCountry ∈ lw_ok := ⟨lw_i2 167 rfl rfl, lw_s 15 rfl rfl⟩
theorem my_X7_dutyOf : MY yX7_dutyOf cX7_dutyOf 2 (some .int) 1 := ⟨lw_i2 215 rfl rfl, nh_X7.1, nh_X7.2.1, by decide +kernel, nh_X7.2.2⟩
theorem mx_X7_dutyOf : Cond.instanceMethod yX7_dutyOf ∈ lw_ok ∧ Cond.selects yX7_dutyOf.cls yX7_dutyOf yX7_dutyOf ∈ lw_ok := ⟨lw_i2 214 rfl rfl, lw_s 17 rfl rfl⟩
theorem my_X7_stuckOnes : MY yX7_stuckOnes cX7_stuckOnes 3 (some .int) 0 := ⟨lw_i2 180 rfl rfl, nh_X7.1, nh_X7.2.1, by decide +kernel, nh_X7.2.2⟩
theorem mx_X7_stuckOnes : Cond.instanceMethod yX7_stuckOnes ∈ lw_ok ∧ Cond.selects yX7_stuckOnes.cls yX7_stuckOnes yX7_stuckOnes ∈ lw_ok := ⟨lw_i2 179 rfl rfl, lw_s 16 rfl rfl⟩
theorem my_X7_letPass : MY yX7_letPass cX7_letPass 3 (some .int) 1 := ⟨lw_i2 238 rfl rfl, nh_X7.1, nh_X7.2.1, by decide +kernel, nh_X7.2.2⟩
theorem mx_X7_letPass : Cond.instanceMethod yX7_letPass ∈ lw_ok ∧ Cond.selects yX7_letPass.cls yX7_letPass yX7_letPass ∈ lw_ok := ⟨lw_i2 237 rfl rfl, lw_s 18 rfl rfl⟩
theorem my_X7_driftOneDay : MY yX7_driftOneDay cX7_driftOneDay 3 none 0 := ⟨lw_i3 46 rfl rfl, nh_X7.1, nh_X7.2.1, by decide +kernel, nh_X7.2.2⟩
theorem mx_X7_driftOneDay : Cond.instanceMethod yX7_driftOneDay ∈ lw_ok ∧ Cond.selects yX7_driftOneDay.cls yX7_driftOneDay yX7_driftOneDay ∈ lw_ok := ⟨lw_i3 45 rfl rfl, lw_s 19 rfl rfl⟩
theorem my_X7_draw : MY yX7_draw cX7_draw 2 (some .int) 1 := ⟨lw_i3 50 rfl rfl, nh_X7.1, nh_X7.2.1, by decide +kernel, nh_X7.2.2⟩
theorem mx_X7_draw : Cond.instanceMethod yX7_draw ∈ lw_ok ∧ Cond.selects yX7_draw.cls yX7_draw yX7_draw ∈ lw_ok := ⟨lw_i3 49 rfl rfl, lw_s 20 rfl rfl⟩
theorem my_X7_cheapestParts : MY yX7_cheapestParts cX7_cheapestParts 6 (some .int) 1 := ⟨lw_i3 78 rfl rfl, nh_X7.1, nh_X7.2.1, by decide +kernel, nh_X7.2.2⟩
theorem mx_X7_cheapestParts : Cond.instanceMethod yX7_cheapestParts ∈ lw_ok ∧ Cond.selects yX7_cheapestParts.cls yX7_cheapestParts yX7_cheapestParts ∈ lw_ok := ⟨lw_i3 77 rfl rfl, lw_s 21 rfl rfl⟩
theorem my_X7_nextOnTheWay : MY yX7_nextOnTheWay cX7_nextOnTheWay 6 (some .int) 1 := ⟨lw_i3 90 rfl rfl, nh_X7.1, nh_X7.2.1, by decide +kernel, nh_X7.2.2⟩
theorem mx_X7_nextOnTheWay : Cond.instanceMethod yX7_nextOnTheWay ∈ lw_ok ∧ Cond.selects yX7_nextOnTheWay.cls yX7_nextOnTheWay yX7_nextOnTheWay ∈ lw_ok := ⟨lw_i3 89 rfl rfl, lw_s 22 rfl rfl⟩
theorem my_X7_fewestMinutes : MY yX7_fewestMinutes cX7_fewestMinutes 8 (some .int) 3 := ⟨lw_i3 97 rfl rfl, nh_X7.1, nh_X7.2.1, by decide +kernel, nh_X7.2.2⟩
theorem mx_X7_fewestMinutes : Cond.static yX7_fewestMinutes ∈ lw_ok := lw_i3 96 rfl rfl
theorem my_X7_afterTalk : MY yX7_afterTalk cX7_afterTalk 3 (some .int) 3 := ⟨lw_i3 20 rfl rfl, nh_X7.1, nh_X7.2.1, by decide +kernel, nh_X7.2.2⟩
theorem mx_X7_afterTalk : Cond.static yX7_afterTalk ∈ lw_ok := lw_i3 19 rfl rfl
theorem my_X7_smallestRegister : MY yX7_smallestRegister cX7_smallestRegister 5 (some .int) 0 := ⟨lw_i3 105 rfl rfl, nh_X7.1, nh_X7.2.1, by decide +kernel, nh_X7.2.2⟩
theorem mx_X7_smallestRegister : Cond.instanceMethod yX7_smallestRegister ∈ lw_ok ∧ Cond.selects yX7_smallestRegister.cls yX7_smallestRegister yX7_smallestRegister ∈ lw_ok := ⟨lw_i3 104 rfl rfl, lw_s 23 rfl rfl⟩
theorem my_X7_needless : MY yX7_needless cX7_needless 5 (some .int) 0 := ⟨lw_i3 115 rfl rfl, nh_X7.1, nh_X7.2.1, by decide +kernel, nh_X7.2.2⟩
theorem mx_X7_needless : Cond.instanceMethod yX7_needless ∈ lw_ok ∧ Cond.selects yX7_needless.cls yX7_needless yX7_needless ∈ lw_ok := ⟨lw_i3 114 rfl rfl, lw_s 24 rfl rfl⟩
theorem my_X8_init : MY yX8_init cX8_init 1 none 0 := ⟨lw_i3 219 rfl rfl, nh_X8.1, nh_X8.2.1, by decide +kernel, nh_X8.2.2⟩
theorem my_X8_in : MY yX8_in cX8_in 6 (some .boolean) 3 := ⟨lw_i4 133 rfl rfl, nh_X8.1, nh_X8.2.1, by decide +kernel, nh_X8.2.2⟩
theorem mx_X8_in : Cond.static yX8_in ∈ lw_ok := lw_i4 132 rfl rfl
theorem my_X8_has : MY yX8_has cX8_has 2 (some .boolean) 2 := ⟨lw_i4 196 rfl rfl, nh_X8.1, nh_X8.2.1, by decide +kernel, nh_X8.2.2⟩
theorem mx_X8_has : Cond.static yX8_has ∈ lw_ok := lw_i4 195 rfl rfl
theorem my_X8_bits : MY yX8_bits cX8_bits 3 (some .int) 1 := ⟨lw_i5 126 rfl rfl, nh_X8.1, nh_X8.2.1, by decide +kernel, nh_X8.2.2⟩
theorem mx_X8_bits : Cond.static yX8_bits ∈ lw_ok := lw_i5 125 rfl rfl
theorem my_X8_atMost : MY yX8_atMost cX8_atMost 1 (some .int) 1 := ⟨lw_i5 33 rfl rfl, nh_X8.1, nh_X8.2.1, by decide +kernel, nh_X8.2.2⟩
theorem mx_X8_atMost : Cond.static yX8_atMost ∈ lw_ok := lw_i5 32 rfl rfl
theorem my_X8_isIdea : MY yX8_isIdea cX8_isIdea 2 (some .boolean) 1 := ⟨lw_i5 0 rfl rfl, nh_X8.1, nh_X8.2.1, by decide +kernel, nh_X8.2.2⟩
theorem mx_X8_isIdea : Cond.instanceMethod yX8_isIdea ∈ lw_ok ∧ Cond.selects yX8_isIdea.cls yX8_isIdea yX8_isIdea ∈ lw_ok := ⟨lw_i4 239 rfl rfl, lw_s 47 rfl rfl⟩
theorem my_X8_isSet : MY yX8_isSet cX8_isSet 2 (some .boolean) 1 := ⟨lw_i5 62 rfl rfl, nh_X8.1, nh_X8.2.1, by decide +kernel, nh_X8.2.2⟩
theorem mx_X8_isSet : Cond.instanceMethod yX8_isSet ∈ lw_ok ∧ Cond.selects yX8_isSet.cls yX8_isSet yX8_isSet ∈ lw_ok := ⟨lw_i5 61 rfl rfl, lw_s 55 rfl rfl⟩
theorem my_X8_isTraveller : MY yX8_isTraveller cX8_isTraveller 2 (some .boolean) 1 := ⟨lw_i5 9 rfl rfl, nh_X8.1, nh_X8.2.1, by decide +kernel, nh_X8.2.2⟩
theorem mx_X8_isTraveller : Cond.instanceMethod yX8_isTraveller ∈ lw_ok ∧ Cond.selects yX8_isTraveller.cls yX8_isTraveller yX8_isTraveller ∈ lw_ok := ⟨lw_i5 8 rfl rfl, lw_s 48 rfl rfl⟩
theorem my_X8_feed : MY yX8_feed cX8_feed 2 (some .int) 1 := ⟨lw_i4 129 rfl rfl, nh_X8.1, nh_X8.2.1, by decide +kernel, nh_X8.2.2⟩
theorem mx_X8_feed : Cond.instanceMethod yX8_feed ∈ lw_ok ∧ Cond.selects yX8_feed.cls yX8_feed yX8_feed ∈ lw_ok := ⟨lw_i4 127 rfl rfl, lw_i4 128 rfl rfl⟩
theorem my_X8_here : MY yX8_here cX8_here 1 (some .int) 0 := ⟨lw_i4 143 rfl rfl, nh_X8.1, nh_X8.2.1, by decide +kernel, nh_X8.2.2⟩
theorem mx_X8_here : Cond.instanceMethod yX8_here ∈ lw_ok ∧ Cond.selects yX8_here.cls yX8_here yX8_here ∈ lw_ok := ⟨lw_i4 142 rfl rfl, lw_s 27 rfl rfl⟩
theorem my_X8_fails : MY yX8_fails cX8_fails 3 (some .int) 2 := ⟨lw_i4 155 rfl rfl, nh_X8.1, nh_X8.2.1, by decide +kernel, nh_X8.2.2⟩
theorem mx_X8_fails : Cond.instanceMethod yX8_fails ∈ lw_ok ∧ Cond.selects yX8_fails.cls yX8_fails yX8_fails ∈ lw_ok := ⟨lw_i4 154 rfl rfl, lw_s 30 rfl rfl⟩
theorem my_X8_takeNumber : MY yX8_takeNumber cX8_takeNumber 4 (some .int) 2 := ⟨lw_i4 175 rfl rfl, nh_X8.1, nh_X8.2.1, by decide +kernel, nh_X8.2.2⟩
theorem mx_X8_takeNumber : Cond.instanceMethod yX8_takeNumber ∈ lw_ok ∧ Cond.selects yX8_takeNumber.cls yX8_takeNumber yX8_takeNumber ∈ lw_ok := ⟨lw_i4 174 rfl rfl, lw_s 35 rfl rfl⟩
theorem my_X8_into : MY yX8_into cX8_into 6 (some .int) 4 := ⟨lw_i4 171 rfl rfl, nh_X8.1, nh_X8.2.1, by decide +kernel, nh_X8.2.2⟩
theorem mx_X8_into : Cond.instanceMethod yX8_into ∈ lw_ok ∧ Cond.selects yX8_into.cls yX8_into yX8_into ∈ lw_ok := ⟨lw_i4 170 rfl rfl, lw_s 34 rfl rfl⟩
theorem my_X8_takeGate : MY yX8_takeGate cX8_takeGate 2 (some .int) 0 := ⟨lw_i4 167 rfl rfl, nh_X8.1, nh_X8.2.1, by decide +kernel, nh_X8.2.2⟩
theorem mx_X8_takeGate : Cond.instanceMethod yX8_takeGate ∈ lw_ok ∧ Cond.selects yX8_takeGate.cls yX8_takeGate yX8_takeGate ∈ lw_ok := ⟨lw_i4 166 rfl rfl, lw_s 33 rfl rfl⟩
theorem my_X8_takeIdea : MY yX8_takeIdea cX8_takeIdea 2 (some .int) 0 := ⟨lw_i4 181 rfl rfl, nh_X8.1, nh_X8.2.1, by decide +kernel, nh_X8.2.2⟩
theorem mx_X8_takeIdea : Cond.instanceMethod yX8_takeIdea ∈ lw_ok ∧ Cond.selects yX8_takeIdea.cls yX8_takeIdea yX8_takeIdea ∈ lw_ok := ⟨lw_i4 180 rfl rfl, lw_s 36 rfl rfl⟩
theorem my_X8_takeJoin : MY yX8_takeJoin cX8_takeJoin 3 (some .int) 0 := ⟨lw_i4 185 rfl rfl, nh_X8.1, nh_X8.2.1, by decide +kernel, nh_X8.2.2⟩
theorem mx_X8_takeJoin : Cond.instanceMethod yX8_takeJoin ∈ lw_ok ∧ Cond.selects yX8_takeJoin.cls yX8_takeJoin yX8_takeJoin ∈ lw_ok := ⟨lw_i4 184 rfl rfl, lw_s 37 rfl rfl⟩
theorem my_X8_takeTalk : MY yX8_takeTalk cX8_takeTalk 3 (some .int) 0 := ⟨lw_i4 189 rfl rfl, nh_X8.1, nh_X8.2.1, by decide +kernel, nh_X8.2.2⟩
theorem mx_X8_takeTalk : Cond.instanceMethod yX8_takeTalk ∈ lw_ok ∧ Cond.selects yX8_takeTalk.cls yX8_takeTalk yX8_takeTalk ∈ lw_ok := ⟨lw_i4 188 rfl rfl, lw_s 38 rfl rfl⟩
theorem my_X8_takeRegistered : MY yX8_takeRegistered cX8_takeRegistered 2 (some .int) 0 := ⟨lw_i4 193 rfl rfl, nh_X8.1, nh_X8.2.1, by decide +kernel, nh_X8.2.2⟩
theorem mx_X8_takeRegistered : Cond.instanceMethod yX8_takeRegistered ∈ lw_ok ∧ Cond.selects yX8_takeRegistered.cls yX8_takeRegistered yX8_takeRegistered ∈ lw_ok := ⟨lw_i4 192 rfl rfl, lw_s 39 rfl rfl⟩
theorem my_X8_takeTraveller : MY yX8_takeTraveller cX8_takeTraveller 2 (some .int) 0 := ⟨lw_i4 200 rfl rfl, nh_X8.1, nh_X8.2.1, by decide +kernel, nh_X8.2.2⟩
theorem mx_X8_takeTraveller : Cond.instanceMethod yX8_takeTraveller ∈ lw_ok ∧ Cond.selects yX8_takeTraveller.cls yX8_takeTraveller yX8_takeTraveller ∈ lw_ok := ⟨lw_i4 199 rfl rfl, lw_s 40 rfl rfl⟩
theorem my_X8_whichClause : MY yX8_whichClause cX8_whichClause 2 (some .int) 1 := ⟨lw_i4 151 rfl rfl, nh_X8.1, nh_X8.2.1, by decide +kernel, nh_X8.2.2⟩
theorem mx_X8_whichClause : Cond.instanceMethod yX8_whichClause ∈ lw_ok ∧ Cond.selects yX8_whichClause.cls yX8_whichClause yX8_whichClause ∈ lw_ok := ⟨lw_i4 150 rfl rfl, lw_s 29 rfl rfl⟩
theorem my_X8_isFull : MY yX8_isFull cX8_isFull 2 (some .boolean) 1 := ⟨lw_i4 159 rfl rfl, nh_X8.1, nh_X8.2.1, by decide +kernel, nh_X8.2.2⟩
theorem mx_X8_isFull : Cond.instanceMethod yX8_isFull ∈ lw_ok ∧ Cond.selects yX8_isFull.cls yX8_isFull yX8_isFull ∈ lw_ok := ⟨lw_i4 158 rfl rfl, lw_s 31 rfl rfl⟩
theorem my_X8_takeBody : MY yX8_takeBody cX8_takeBody 2 (some .int) 1 := ⟨lw_i4 163 rfl rfl, nh_X8.1, nh_X8.2.1, by decide +kernel, nh_X8.2.2⟩
theorem mx_X8_takeBody : Cond.instanceMethod yX8_takeBody ∈ lw_ok ∧ Cond.selects yX8_takeBody.cls yX8_takeBody yX8_takeBody ∈ lw_ok := ⟨lw_i4 162 rfl rfl, lw_s 32 rfl rfl⟩
theorem my_X8_takeClause : MY yX8_takeClause cX8_takeClause 3 (some .int) 0 := ⟨lw_i4 147 rfl rfl, nh_X8.1, nh_X8.2.1, by decide +kernel, nh_X8.2.2⟩
theorem mx_X8_takeClause : Cond.instanceMethod yX8_takeClause ∈ lw_ok ∧ Cond.selects yX8_takeClause.cls yX8_takeClause yX8_takeClause ∈ lw_ok := ⟨lw_i4 146 rfl rfl, lw_s 28 rfl rfl⟩
theorem my_X8_takeRead : MY yX8_takeRead cX8_takeRead 2 none 0 := ⟨lw_i4 204 rfl rfl, nh_X8.1, nh_X8.2.1, by decide +kernel, nh_X8.2.2⟩
theorem mx_X8_takeRead : Cond.instanceMethod yX8_takeRead ∈ lw_ok ∧ Cond.selects yX8_takeRead.cls yX8_takeRead yX8_takeRead ∈ lw_ok := ⟨lw_i4 203 rfl rfl, lw_s 41 rfl rfl⟩
theorem my_X8_thePass : MY yX8_thePass cX8_thePass 2 (some .int) 0 := ⟨lw_i4 139 rfl rfl, nh_X8.1, nh_X8.2.1, by decide +kernel, nh_X8.2.2⟩
theorem mx_X8_thePass : Cond.instanceMethod yX8_thePass ∈ lw_ok ∧ Cond.selects yX8_thePass.cls yX8_thePass yX8_thePass ∈ lw_ok := ⟨lw_i4 137 rfl rfl, lw_i4 138 rfl rfl⟩
theorem my_X8_fault : MY yX8_fault cX8_fault 1 (some .int) 0 := ⟨lw_i4 208 rfl rfl, nh_X8.1, nh_X8.2.1, by decide +kernel, nh_X8.2.2⟩
theorem mx_X8_fault : Cond.instanceMethod yX8_fault ∈ lw_ok ∧ Cond.selects yX8_fault.cls yX8_fault yX8_fault ∈ lw_ok := ⟨lw_i4 206 rfl rfl, lw_i4 207 rfl rfl⟩
theorem my_X8_close : MY yX8_close cX8_close 5 (some .int) 1 := ⟨lw_i4 216 rfl rfl, nh_X8.1, nh_X8.2.1, by decide +kernel, nh_X8.2.2⟩
theorem mx_X8_close : Cond.instanceMethod yX8_close ∈ lw_ok ∧ Cond.selects yX8_close.cls yX8_close yX8_close ∈ lw_ok := ⟨lw_i4 215 rfl rfl, lw_s 42 rfl rfl⟩
theorem my_X8_sizeOf : MY yX8_sizeOf cX8_sizeOf 4 (some .int) 1 := ⟨lw_i4 232 rfl rfl, nh_X8.1, nh_X8.2.1, by decide +kernel, nh_X8.2.2⟩
theorem mx_X8_sizeOf : Cond.instanceMethod yX8_sizeOf ∈ lw_ok ∧ Cond.selects yX8_sizeOf.cls yX8_sizeOf yX8_sizeOf ∈ lw_ok := ⟨lw_i4 231 rfl rfl, lw_s 46 rfl rfl⟩
theorem my_X8_owedWhere : MY yX8_owedWhere cX8_owedWhere 5 (some .int) 2 := ⟨lw_i5 17 rfl rfl, nh_X8.1, nh_X8.2.1, by decide +kernel, nh_X8.2.2⟩
theorem mx_X8_owedWhere : Cond.instanceMethod yX8_owedWhere ∈ lw_ok ∧ Cond.selects yX8_owedWhere.cls yX8_owedWhere yX8_owedWhere ∈ lw_ok := ⟨lw_i5 16 rfl rfl, lw_s 50 rfl rfl⟩
theorem my_X8_owedFor : MY yX8_owedFor cX8_owedFor 2 (some .int) 1 := ⟨lw_i5 13 rfl rfl, nh_X8.1, nh_X8.2.1, by decide +kernel, nh_X8.2.2⟩
theorem mx_X8_owedFor : Cond.instanceMethod yX8_owedFor ∈ lw_ok ∧ Cond.selects yX8_owedFor.cls yX8_owedFor yX8_owedFor ∈ lw_ok := ⟨lw_i5 12 rfl rfl, lw_s 49 rfl rfl⟩
theorem my_X8_isGone : MY yX8_isGone cX8_isGone 2 (some .boolean) 1 := ⟨lw_i4 224 rfl rfl, nh_X8.1, nh_X8.2.1, by decide +kernel, nh_X8.2.2⟩
theorem mx_X8_isGone : Cond.instanceMethod yX8_isGone ∈ lw_ok ∧ Cond.selects yX8_isGone.cls yX8_isGone yX8_isGone ∈ lw_ok := ⟨lw_i4 223 rfl rfl, lw_s 44 rfl rfl⟩
theorem my_X8_isStuck : MY yX8_isStuck cX8_isStuck 2 (some .boolean) 1 := ⟨lw_i4 228 rfl rfl, nh_X8.1, nh_X8.2.1, by decide +kernel, nh_X8.2.2⟩
theorem mx_X8_isStuck : Cond.instanceMethod yX8_isStuck ∈ lw_ok ∧ Cond.selects yX8_isStuck.cls yX8_isStuck yX8_isStuck ∈ lw_ok := ⟨lw_i4 227 rfl rfl, lw_s 45 rfl rfl⟩
theorem my_X8_stuckOnes : MY yX8_stuckOnes cX8_stuckOnes 3 (some .int) 0 := ⟨lw_i4 220 rfl rfl, nh_X8.1, nh_X8.2.1, by decide +kernel, nh_X8.2.2⟩
theorem mx_X8_stuckOnes : Cond.instanceMethod yX8_stuckOnes ∈ lw_ok ∧ Cond.selects yX8_stuckOnes.cls yX8_stuckOnes yX8_stuckOnes ∈ lw_ok := ⟨lw_i4 219 rfl rfl, lw_s 43 rfl rfl⟩
theorem my_X8_told : MY yX8_told cX8_told 2 (some .int) 1 := ⟨lw_i4 212 rfl rfl, nh_X8.1, nh_X8.2.1, by decide +kernel, nh_X8.2.2⟩
theorem mx_X8_told : Cond.instanceMethod yX8_told ∈ lw_ok ∧ Cond.selects yX8_told.cls yX8_told yX8_told ∈ lw_ok := ⟨lw_i4 210 rfl rfl, lw_i4 211 rfl rfl⟩
theorem my_X8_size : MY yX8_size cX8_size 2 (some .int) 1 := ⟨lw_i4 236 rfl rfl, nh_X8.1, nh_X8.2.1, by decide +kernel, nh_X8.2.2⟩
theorem mx_X8_size : Cond.instanceMethod yX8_size ∈ lw_ok ∧ Cond.selects yX8_size.cls yX8_size yX8_size ∈ lw_ok := ⟨lw_i4 234 rfl rfl, lw_i4 235 rfl rfl⟩
theorem my_X8_traveller : MY yX8_traveller cX8_traveller 3 (some .int) 2 := ⟨lw_i5 5 rfl rfl, nh_X8.1, nh_X8.2.1, by decide +kernel, nh_X8.2.2⟩
theorem mx_X8_traveller : Cond.instanceMethod yX8_traveller ∈ lw_ok ∧ Cond.selects yX8_traveller.cls yX8_traveller yX8_traveller ∈ lw_ok := ⟨lw_i5 3 rfl rfl, lw_i5 4 rfl rfl⟩
theorem my_X8_remember : MY yX8_remember cX8_remember 2 none 0 := ⟨lw_i5 26 rfl rfl, nh_X8.1, nh_X8.2.1, by decide +kernel, nh_X8.2.2⟩
theorem mx_X8_remember : Cond.instanceMethod yX8_remember ∈ lw_ok ∧ Cond.selects yX8_remember.cls yX8_remember yX8_remember ∈ lw_ok := ⟨lw_i5 25 rfl rfl, lw_s 51 rfl rfl⟩
theorem my_X8_passNow : MY yX8_passNow cX8_passNow 3 (some .int) 1 := ⟨lw_i5 30 rfl rfl, nh_X8.1, nh_X8.2.1, by decide +kernel, nh_X8.2.2⟩
theorem mx_X8_passNow : Cond.instanceMethod yX8_passNow ∈ lw_ok ∧ Cond.selects yX8_passNow.cls yX8_passNow yX8_passNow ∈ lw_ok := ⟨lw_i5 29 rfl rfl, lw_s 52 rfl rfl⟩
theorem my_X8_pass : MY yX8_pass cX8_pass 2 (some .int) 1 := ⟨lw_i5 21 rfl rfl, nh_X8.1, nh_X8.2.1, by decide +kernel, nh_X8.2.2⟩
theorem mx_X8_pass : Cond.instanceMethod yX8_pass ∈ lw_ok ∧ Cond.selects yX8_pass.cls yX8_pass yX8_pass ∈ lw_ok := ⟨lw_i5 19 rfl rfl, lw_i5 20 rfl rfl⟩
theorem my_X8_roundNow : MY yX8_roundNow cX8_roundNow 4 (some .int) 2 := ⟨lw_i5 42 rfl rfl, nh_X8.1, nh_X8.2.1, by decide +kernel, nh_X8.2.2⟩
theorem mx_X8_roundNow : Cond.instanceMethod yX8_roundNow ∈ lw_ok ∧ Cond.selects yX8_roundNow.cls yX8_roundNow yX8_roundNow ∈ lw_ok := ⟨lw_i5 41 rfl rfl, lw_s 53 rfl rfl⟩
theorem my_X8_goRound : MY yX8_goRound cX8_goRound 3 (some .int) 2 := ⟨lw_i5 38 rfl rfl, nh_X8.1, nh_X8.2.1, by decide +kernel, nh_X8.2.2⟩
theorem mx_X8_goRound : Cond.instanceMethod yX8_goRound ∈ lw_ok ∧ Cond.selects yX8_goRound.cls yX8_goRound yX8_goRound ∈ lw_ok := ⟨lw_i5 36 rfl rfl, lw_i5 37 rfl rfl⟩
theorem my_X8_quickest : MY yX8_quickest cX8_quickest 6 (some .int) 2 := ⟨lw_i5 50 rfl rfl, nh_X8.1, nh_X8.2.1, by decide +kernel, nh_X8.2.2⟩
theorem mx_X8_quickest : Cond.instanceMethod yX8_quickest ∈ lw_ok ∧ Cond.selects yX8_quickest.cls yX8_quickest yX8_quickest ∈ lw_ok := ⟨lw_i5 49 rfl rfl, lw_s 54 rfl rfl⟩
theorem my_X8_talked : MY yX8_talked cX8_talked 3 (some .int) 3 := ⟨lw_i5 54 rfl rfl, nh_X8.1, nh_X8.2.1, by decide +kernel, nh_X8.2.2⟩
theorem mx_X8_talked : Cond.static yX8_talked ∈ lw_ok := lw_i5 53 rfl rfl
theorem my_X8_talk : MY yX8_talk cX8_talk 5 (some .int) 3 := ⟨lw_i5 46 rfl rfl, nh_X8.1, nh_X8.2.1, by decide +kernel, nh_X8.2.2⟩
theorem mx_X8_talk : Cond.instanceMethod yX8_talk ∈ lw_ok ∧ Cond.selects yX8_talk.cls yX8_talk yX8_talk ∈ lw_ok := ⟨lw_i5 44 rfl rfl, lw_i5 45 rfl rfl⟩
theorem my_X8_come : MY yX8_come cX8_come 3 (some .int) 2 := ⟨lw_i5 58 rfl rfl, nh_X8.1, nh_X8.2.1, by decide +kernel, nh_X8.2.2⟩
theorem mx_X8_come : Cond.instanceMethod yX8_come ∈ lw_ok ∧ Cond.selects yX8_come.cls yX8_come yX8_come ∈ lw_ok := ⟨lw_i5 56 rfl rfl, lw_i5 57 rfl rfl⟩
theorem my_X8_register : MY yX8_register cX8_register 4 (some .int) 2 := ⟨lw_i5 66 rfl rfl, nh_X8.1, nh_X8.2.1, by decide +kernel, nh_X8.2.2⟩
theorem mx_X8_register : Cond.instanceMethod yX8_register ∈ lw_ok ∧ Cond.selects yX8_register.cls yX8_register yX8_register ∈ lw_ok := ⟨lw_i5 64 rfl rfl, lw_i5 65 rfl rfl⟩
theorem my_X8_draw : MY yX8_draw cX8_draw 2 (some .int) 1 := ⟨lw_i5 79 rfl rfl, nh_X8.1, nh_X8.2.1, by decide +kernel, nh_X8.2.2⟩
theorem mx_X8_draw : Cond.instanceMethod yX8_draw ∈ lw_ok ∧ Cond.selects yX8_draw.cls yX8_draw yX8_draw ∈ lw_ok := ⟨lw_i5 78 rfl rfl, lw_s 57 rfl rfl⟩
theorem my_X8_dayByDraws : MY yX8_dayByDraws cX8_dayByDraws 3 none 0 := ⟨lw_i5 75 rfl rfl, nh_X8.1, nh_X8.2.1, by decide +kernel, nh_X8.2.2⟩
theorem mx_X8_dayByDraws : Cond.instanceMethod yX8_dayByDraws ∈ lw_ok ∧ Cond.selects yX8_dayByDraws.cls yX8_dayByDraws yX8_dayByDraws ∈ lw_ok := ⟨lw_i5 74 rfl rfl, lw_s 56 rfl rfl⟩
theorem my_X8_drift : MY yX8_drift cX8_drift 3 (some .int) 1 := ⟨lw_i5 70 rfl rfl, nh_X8.1, nh_X8.2.1, by decide +kernel, nh_X8.2.2⟩
theorem mx_X8_drift : Cond.instanceMethod yX8_drift ∈ lw_ok ∧ Cond.selects yX8_drift.cls yX8_drift yX8_drift ∈ lw_ok := ⟨lw_i5 68 rfl rfl, lw_i5 69 rfl rfl⟩
theorem my_X8_undo : MY yX8_undo cX8_undo 2 (some .int) 0 := ⟨lw_i5 87 rfl rfl, nh_X8.1, nh_X8.2.1, by decide +kernel, nh_X8.2.2⟩
theorem mx_X8_undo : Cond.instanceMethod yX8_undo ∈ lw_ok ∧ Cond.selects yX8_undo.cls yX8_undo yX8_undo ∈ lw_ok := ⟨lw_i5 85 rfl rfl, lw_i5 86 rfl rfl⟩
theorem my_X8_follows : MY yX8_follows cX8_follows 2 (some .int) 1 := ⟨lw_i5 91 rfl rfl, nh_X8.1, nh_X8.2.1, by decide +kernel, nh_X8.2.2⟩
theorem mx_X8_follows : Cond.instanceMethod yX8_follows ∈ lw_ok ∧ Cond.selects yX8_follows.cls yX8_follows yX8_follows ∈ lw_ok := ⟨lw_i5 89 rfl rfl, lw_i5 90 rfl rfl⟩
theorem my_X8_owed : MY yX8_owed cX8_owed 2 (some .int) 1 := ⟨lw_i5 95 rfl rfl, nh_X8.1, nh_X8.2.1, by decide +kernel, nh_X8.2.2⟩
theorem mx_X8_owed : Cond.instanceMethod yX8_owed ∈ lw_ok ∧ Cond.selects yX8_owed.cls yX8_owed yX8_owed ∈ lw_ok := ⟨lw_i5 93 rfl rfl, lw_i5 94 rfl rfl⟩
theorem my_X8_parts : MY yX8_parts cX8_parts 6 (some .int) 2 := ⟨lw_i5 99 rfl rfl, nh_X8.1, nh_X8.2.1, by decide +kernel, nh_X8.2.2⟩
theorem mx_X8_parts : Cond.instanceMethod yX8_parts ∈ lw_ok ∧ Cond.selects yX8_parts.cls yX8_parts yX8_parts ∈ lw_ok := ⟨lw_i5 97 rfl rfl, lw_i5 98 rfl rfl⟩
theorem my_X8_findMinutes : MY yX8_findMinutes cX8_findMinutes 5 none 1 := ⟨lw_i5 107 rfl rfl, nh_X8.1, nh_X8.2.1, by decide +kernel, nh_X8.2.2⟩
theorem mx_X8_findMinutes : Cond.instanceMethod yX8_findMinutes ∈ lw_ok ∧ Cond.selects yX8_findMinutes.cls yX8_findMinutes yX8_findMinutes ∈ lw_ok := ⟨lw_i5 106 rfl rfl, lw_s 58 rfl rfl⟩
theorem my_X8_talkDown : MY yX8_talkDown cX8_talkDown 7 (some .int) 3 := ⟨lw_i5 103 rfl rfl, nh_X8.1, nh_X8.2.1, by decide +kernel, nh_X8.2.2⟩
theorem mx_X8_talkDown : Cond.instanceMethod yX8_talkDown ∈ lw_ok ∧ Cond.selects yX8_talkDown.cls yX8_talkDown yX8_talkDown ∈ lw_ok := ⟨lw_i5 101 rfl rfl, lw_i5 102 rfl rfl⟩
theorem my_X8_minutesOf : MY yX8_minutesOf cX8_minutesOf 8 (some .int) 2 := ⟨lw_i5 115 rfl rfl, nh_X8.1, nh_X8.2.1, by decide +kernel, nh_X8.2.2⟩
theorem mx_X8_minutesOf : Cond.instanceMethod yX8_minutesOf ∈ lw_ok ∧ Cond.selects yX8_minutesOf.cls yX8_minutesOf yX8_minutesOf ∈ lw_ok := ⟨lw_i5 114 rfl rfl, lw_s 59 rfl rfl⟩
theorem my_X8_soonest : MY yX8_soonest cX8_soonest 5 (some .int) 1 := ⟨lw_i5 111 rfl rfl, nh_X8.1, nh_X8.2.1, by decide +kernel, nh_X8.2.2⟩
theorem mx_X8_soonest : Cond.instanceMethod yX8_soonest ∈ lw_ok ∧ Cond.selects yX8_soonest.cls yX8_soonest yX8_soonest ∈ lw_ok := ⟨lw_i5 109 rfl rfl, lw_i5 110 rfl rfl⟩
theorem my_X8_smallestSet : MY yX8_smallestSet cX8_smallestSet 5 (some .int) 0 := ⟨lw_i5 123 rfl rfl, nh_X8.1, nh_X8.2.1, by decide +kernel, nh_X8.2.2⟩
theorem mx_X8_smallestSet : Cond.instanceMethod yX8_smallestSet ∈ lw_ok ∧ Cond.selects yX8_smallestSet.cls yX8_smallestSet yX8_smallestSet ∈ lw_ok := ⟨lw_i5 122 rfl rfl, lw_s 60 rfl rfl⟩
theorem my_X8_needless : MY yX8_needless cX8_needless 4 (some .int) 0 := ⟨lw_i5 130 rfl rfl, nh_X8.1, nh_X8.2.1, by decide +kernel, nh_X8.2.2⟩
theorem mx_X8_needless : Cond.instanceMethod yX8_needless ∈ lw_ok ∧ Cond.selects yX8_needless.cls yX8_needless yX8_needless ∈ lw_ok := ⟨lw_i5 129 rfl rfl, lw_s 61 rfl rfl⟩
theorem my_X8_smallest : MY yX8_smallest cX8_smallest 2 (some .int) 1 := ⟨lw_i5 119 rfl rfl, nh_X8.1, nh_X8.2.1, by decide +kernel, nh_X8.2.2⟩
theorem mx_X8_smallest : Cond.instanceMethod yX8_smallest ∈ lw_ok ∧ Cond.selects yX8_smallest.cls yX8_smallest yX8_smallest ∈ lw_ok := ⟨lw_i5 117 rfl rfl, lw_i5 118 rfl rfl⟩
theorem my_X8_better : MY yX8_better cX8_better 3 (some .int) 2 := ⟨lw_i5 134 rfl rfl, nh_X8.1, nh_X8.2.1, by decide +kernel, nh_X8.2.2⟩
theorem mx_X8_better : Cond.instanceMethod yX8_better ∈ lw_ok ∧ Cond.selects yX8_better.cls yX8_better yX8_better ∈ lw_ok := ⟨lw_i5 132 rfl rfl, lw_i5 133 rfl rfl⟩
theorem my_X8_gains : MY yX8_gains cX8_gains 3 (some .int) 2 := ⟨lw_i5 139 rfl rfl, nh_X8.1, nh_X8.2.1, by decide +kernel, nh_X8.2.2⟩
theorem mx_X8_gains : Cond.instanceMethod yX8_gains ∈ lw_ok ∧ Cond.selects yX8_gains.cls yX8_gains yX8_gains ∈ lw_ok := ⟨lw_i5 137 rfl rfl, lw_i5 138 rfl rfl⟩
theorem my_X8_free : MY yX8_free cX8_free 1 (some .int) 0 := ⟨lw_i5 143 rfl rfl, nh_X8.1, nh_X8.2.1, by decide +kernel, nh_X8.2.2⟩
theorem mx_X8_free : Cond.instanceMethod yX8_free ∈ lw_ok ∧ Cond.selects yX8_free.cls yX8_free yX8_free ∈ lw_ok := ⟨lw_i5 141 rfl rfl, lw_i5 142 rfl rfl⟩
theorem my_X8_share : MY yX8_share cX8_share 4 (some .int) 1 := ⟨lw_i5 147 rfl rfl, nh_X8.1, nh_X8.2.1, by decide +kernel, nh_X8.2.2⟩
theorem mx_X8_share : Cond.instanceMethod yX8_share ∈ lw_ok ∧ Cond.selects yX8_share.cls yX8_share yX8_share ∈ lw_ok := ⟨lw_i5 145 rfl rfl, lw_i5 146 rfl rfl⟩
theorem my_X8_glacier : MY yX8_glacier cX8_glacier 5 (some .int) 1 := ⟨lw_i5 151 rfl rfl, nh_X8.1, nh_X8.2.1, by decide +kernel, nh_X8.2.2⟩
theorem mx_X8_glacier : Cond.instanceMethod yX8_glacier ∈ lw_ok ∧ Cond.selects yX8_glacier.cls yX8_glacier yX8_glacier ∈ lw_ok := ⟨lw_i5 149 rfl rfl, lw_i5 150 rfl rfl⟩
theorem my_X8_ask : MY yX8_ask cX8_ask 4 (some .int) 3 := ⟨lw_i5 157 rfl rfl, nh_X8.1, nh_X8.2.1, by decide +kernel, nh_X8.2.2⟩
theorem mx_X8_ask : Cond.instanceMethod yX8_ask ∈ lw_ok ∧ Cond.selects yX8_ask.cls yX8_ask yX8_ask ∈ lw_ok := ⟨lw_i5 155 rfl rfl, lw_i5 156 rfl rfl⟩
theorem my_X8_answers : MY yX8_answers cX8_answers 4 (some .boolean) 3 := ⟨lw_i5 170 rfl rfl, nh_X8.1, nh_X8.2.1, by decide +kernel, nh_X8.2.2⟩
theorem mx_X8_answers : Cond.static yX8_answers ∈ lw_ok := lw_i5 169 rfl rfl
theorem my_X8_couldBe : MY yX8_couldBe cX8_couldBe 4 (some .boolean) 1 := ⟨lw_i5 167 rfl rfl, nh_X8.1, nh_X8.2.1, by decide +kernel, nh_X8.2.2⟩
theorem mx_X8_couldBe : Cond.instanceMethod yX8_couldBe ∈ lw_ok ∧ Cond.selects yX8_couldBe.cls yX8_couldBe yX8_couldBe ∈ lw_ok := ⟨lw_i5 166 rfl rfl, lw_s 62 rfl rfl⟩
theorem my_X8_minds : MY yX8_minds cX8_minds 6 (some .int) 1 := ⟨lw_i5 162 rfl rfl, nh_X8.1, nh_X8.2.1, by decide +kernel, nh_X8.2.2⟩
theorem mx_X8_minds : Cond.instanceMethod yX8_minds ∈ lw_ok ∧ Cond.selects yX8_minds.cls yX8_minds yX8_minds ∈ lw_ok := ⟨lw_i5 160 rfl rfl, lw_i5 161 rfl rfl⟩
theorem my_X8_askNext : MY yX8_askNext cX8_askNext 6 (some .int) 0 := ⟨lw_i5 174 rfl rfl, nh_X8.1, nh_X8.2.1, by decide +kernel, nh_X8.2.2⟩
theorem mx_X8_askNext : Cond.instanceMethod yX8_askNext ∈ lw_ok ∧ Cond.selects yX8_askNext.cls yX8_askNext yX8_askNext ∈ lw_ok := ⟨lw_i5 172 rfl rfl, lw_i5 173 rfl rfl⟩
theorem my_X8_write : MY yX8_write cX8_write 3 (some .int) 2 := ⟨lw_i5 178 rfl rfl, nh_X8.1, nh_X8.2.1, by decide +kernel, nh_X8.2.2⟩
theorem mx_X8_write : Cond.instanceMethod yX8_write ∈ lw_ok ∧ Cond.selects yX8_write.cls yX8_write yX8_write ∈ lw_ok := ⟨lw_i5 176 rfl rfl, lw_i5 177 rfl rfl⟩
theorem my_X8_tear : MY yX8_tear cX8_tear 2 (some .int) 0 := ⟨lw_i5 182 rfl rfl, nh_X8.1, nh_X8.2.1, by decide +kernel, nh_X8.2.2⟩
theorem mx_X8_tear : Cond.instanceMethod yX8_tear ∈ lw_ok ∧ Cond.selects yX8_tear.cls yX8_tear yX8_tear ∈ lw_ok := ⟨lw_i5 180 rfl rfl, lw_i5 181 rfl rfl⟩
theorem my_X8_judge : MY yX8_judge cX8_judge 3 (some .int) 0 := ⟨lw_i5 186 rfl rfl, nh_X8.1, nh_X8.2.1, by decide +kernel, nh_X8.2.2⟩
theorem mx_X8_judge : Cond.instanceMethod yX8_judge ∈ lw_ok ∧ Cond.selects yX8_judge.cls yX8_judge yX8_judge ∈ lw_ok := ⟨lw_i5 184 rfl rfl, lw_i5 185 rfl rfl⟩
theorem my_X8_seed : MY yX8_seed cX8_seed 3 (some .int) 1 := ⟨lw_i5 190 rfl rfl, nh_X8.1, nh_X8.2.1, by decide +kernel, nh_X8.2.2⟩
theorem mx_X8_seed : Cond.instanceMethod yX8_seed ∈ lw_ok ∧ Cond.selects yX8_seed.cls yX8_seed yX8_seed ∈ lw_ok := ⟨lw_i5 188 rfl rfl, lw_i5 189 rfl rfl⟩
theorem my_X8_keep : MY yX8_keep cX8_keep 3 (some .int) 1 := ⟨lw_i5 194 rfl rfl, nh_X8.1, nh_X8.2.1, by decide +kernel, nh_X8.2.2⟩
theorem mx_X8_keep : Cond.instanceMethod yX8_keep ∈ lw_ok ∧ Cond.selects yX8_keep.cls yX8_keep yX8_keep ∈ lw_ok := ⟨lw_i5 192 rfl rfl, lw_i5 193 rfl rfl⟩
theorem my_X8_goBack : MY yX8_goBack cX8_goBack 3 (some .int) 1 := ⟨lw_i5 198 rfl rfl, nh_X8.1, nh_X8.2.1, by decide +kernel, nh_X8.2.2⟩
theorem mx_X8_goBack : Cond.instanceMethod yX8_goBack ∈ lw_ok ∧ Cond.selects yX8_goBack.cls yX8_goBack yX8_goBack ∈ lw_ok := ⟨lw_i5 196 rfl rfl, lw_i5 197 rfl rfl⟩
theorem my_J6_bitCount_0f7a4 : MY yJ6_bitCount_0f7a4 cJ6_bitCount_0f7a4 1 (some .int) 1 := ⟨lw_i3 108 rfl rfl, nh_J6.1, nh_J6.2.1, by decide +kernel, nh_J6.2.2⟩
theorem mx_J6_bitCount_0f7a4 : Cond.static yJ6_bitCount_0f7a4 ∈ lw_ok := lw_i3 107 rfl rfl
theorem my_J9_max_7cf53 : MY yJ9_max_7cf53 cJ9_max_7cf53 2 (some .int) 2 := ⟨lw_i3 176 rfl rfl, nh_J9.1, nh_J9.2.1, by decide +kernel, nh_J9.2.2⟩
theorem mx_J9_max_7cf53 : Cond.static yJ9_max_7cf53 ∈ lw_ok := lw_i3 175 rfl rfl
theorem my_J9_min_7cf53 : MY yJ9_min_7cf53 cJ9_min_7cf53 2 (some .int) 2 := ⟨lw_i2 104 rfl rfl, nh_J9.1, nh_J9.2.1, by decide +kernel, nh_J9.2.2⟩
theorem mx_J9_min_7cf53 : Cond.static yJ9_min_7cf53 ∈ lw_ok := lw_i2 103 rfl rfl
theorem mv_L_13 : MV RL 13 yX7_feed := ⟨lw_i2 49 rfl rfl, mx_X7_feed.1, mx_X7_feed.2⟩
theorem kc_X7_62 : Cond.constant RX7 62 (-1000000002) ∈ lw_ok := lw_i2 53 rfl rfl
theorem mv_X7_63 : MV RX7 63 yX6_append := ⟨lw_i2 54 rfl rfl, mx_X6_append.1, mx_X6_append.2⟩
theorem kc_X7_71 : Cond.constant RX7 71 (-1000000004) ∈ lw_ok := lw_i2 58 rfl rfl
theorem mv_L_18 : MV RL 18 yX7_thePass := ⟨lw_i2 59 rfl rfl, mx_X7_thePass.1, mx_X7_thePass.2⟩
theorem mv_X7_72 : MV RX7 72 yX6_read := ⟨lw_i2 63 rfl rfl, mx_X6_read.1, mx_X6_read.2⟩
theorem mv_X6_29 : MV RX6 29 yX1_clear := ⟨lw_i2 67 rfl rfl, mx_X1_clear.1, mx_X1_clear.2⟩
theorem mv_X6_38 : MV RX6 38 yX6_skipBlanks := ⟨lw_i2 71 rfl rfl, mx_X6_skipBlanks.1, mx_X6_skipBlanks.2⟩
theorem mv_X6_41 : MV RX6 41 yX6_readClause := ⟨lw_i2 75 rfl rfl, mx_X6_readClause.1, mx_X6_readClause.2⟩
theorem mv_X6_44 : MV RX6 44 yX6_letterHere := ⟨lw_i2 79 rfl rfl, mx_X6_letterHere.1, mx_X6_letterHere.2⟩
theorem mv_X6_48 : MV RX6 48 yX6_checkWord := ⟨lw_i2 83 rfl rfl, mx_X6_checkWord.1, mx_X6_checkWord.2⟩
theorem mv_X6_77 : MV RX6 77 yX6_findFault := ⟨lw_i2 87 rfl rfl, mx_X6_findFault.1, mx_X6_findFault.2⟩
theorem mv_X6_52 : MV RX6 52 yX6_readGate := ⟨lw_i2 91 rfl rfl, mx_X6_readGate.1, mx_X6_readGate.2⟩
theorem mv_X6_93 : MV RX6 93 yX6_readNumber := ⟨lw_i2 95 rfl rfl, mx_X6_readNumber.1, mx_X6_readNumber.2⟩
theorem ms_X6_136 : MS RX6 136 yX6_isFigure := ⟨lw_i2 99 rfl rfl, mx_X6_isFigure⟩
theorem ms_X6_140 : MS RX6 140 yJ9_min_7cf53 := ⟨lw_i2 102 rfl rfl, mx_J9_min_7cf53⟩
theorem mv_X6_55 : MV RX6 55 yX6_readIdea := ⟨lw_i2 105 rfl rfl, mx_X6_readIdea.1, mx_X6_readIdea.2⟩
theorem mv_X6_58 : MV RX6 58 yX6_readJoining := ⟨lw_i2 109 rfl rfl, mx_X6_readJoining.1, mx_X6_readJoining.2⟩
theorem mv_X6_106 : MV RX6 106 yX6_readToldIdea := ⟨lw_i2 113 rfl rfl, mx_X6_readToldIdea.1, mx_X6_readToldIdea.2⟩
theorem mv_X6_61 : MV RX6 61 yX6_readTalk := ⟨lw_i2 117 rfl rfl, mx_X6_readTalk.1, mx_X6_readTalk.2⟩
theorem mv_X6_64 : MV RX6 64 yX6_readRegistered := ⟨lw_i2 121 rfl rfl, mx_X6_readRegistered.1, mx_X6_readRegistered.2⟩
theorem mv_X6_67 : MV RX6 67 yX6_readTraveller := ⟨lw_i2 125 rfl rfl, mx_X6_readTraveller.1, mx_X6_readTraveller.2⟩
theorem mv_X6_70 : MV RX6 70 yX6_readEnd := ⟨lw_i2 129 rfl rfl, mx_X6_readEnd.1, mx_X6_readEnd.2⟩
theorem mv_X7_79 : MV RX7 79 yX6_exchange := ⟨lw_i2 133 rfl rfl, mx_X6_exchange.1, mx_X6_exchange.2⟩
theorem mv_X7_83 : MV RX7 83 yX1_findAllFrom := ⟨lw_i2 137 rfl rfl, mx_X1_findAllFrom.1, mx_X1_findAllFrom.2⟩
theorem mv_X1_65 : MV RX1 65 yX1_joined := ⟨lw_i2 141 rfl rfl, mx_X1_joined.1, mx_X1_joined.2⟩
theorem mv_X7_86 : MV RX7 86 yX4_begin := ⟨lw_i2 145 rfl rfl, mx_X4_begin.1, mx_X4_begin.2⟩
theorem mv_X4_15 : MV RX4 15 yX1_isTraveller := ⟨lw_i2 149 rfl rfl, mx_X1_isTraveller.1, mx_X1_isTraveller.2⟩
theorem mv_X7_93 : MV RX7 93 yX2_forget := ⟨lw_i2 153 rfl rfl, mx_X2_forget.1, mx_X2_forget.2⟩
theorem mv_L_23 : MV RL 23 yX7_fault := ⟨lw_i2 157 rfl rfl, mx_X7_fault.1, mx_X7_fault.2⟩
theorem mv_L_27 : MV RL 27 yX7_told := ⟨lw_i2 161 rfl rfl, mx_X7_told.1, mx_X7_told.2⟩
theorem mv_X7_122 : MV RX7 122 yX7_inTheCountry := ⟨lw_i2 165 rfl rfl, mx_X7_inTheCountry.1, mx_X7_inTheCountry.2⟩
theorem mv_X7_210 : MV RX7 210 yX1_allFrom := ⟨lw_i2 169 rfl rfl, mx_X1_allFrom.1, mx_X1_allFrom.2⟩
theorem mv_X1_69 : MV RX1 69 yX1_isSet := ⟨lw_i2 173 rfl rfl, mx_X1_isSet.1, mx_X1_isSet.2⟩
theorem mv_X7_129 : MV RX7 129 yX7_stuckOnes := ⟨lw_i2 177 rfl rfl, mx_X7_stuckOnes.1, mx_X7_stuckOnes.2⟩
theorem mv_X7_158 : MV RX7 158 yX4_isGone := ⟨lw_i2 181 rfl rfl, mx_X4_isGone.1, mx_X4_isGone.2⟩
theorem mv_X7_148 : MV RX7 148 yX4_mindOf := ⟨lw_i2 185 rfl rfl, mx_X4_mindOf.1, mx_X4_mindOf.2⟩
theorem mv_X7_161 : MV RX7 161 yX1_isStuck := ⟨lw_i2 189 rfl rfl, mx_X1_isStuck.1, mx_X1_isStuck.2⟩
theorem mv_X1_73 : MV RX1 73 yX1_sizeOf := ⟨lw_i2 193 rfl rfl, mx_X1_sizeOf.1, mx_X1_sizeOf.2⟩
theorem mv_L_31 : MV RL 31 yX7_size := ⟨lw_i2 197 rfl rfl, mx_X7_size.1, mx_X7_size.2⟩
theorem mv_X7_138 : MV RX7 138 yX1_isIdea := ⟨lw_i2 201 rfl rfl, mx_X1_isIdea.1, mx_X1_isIdea.2⟩
theorem kc_X7_144 : Cond.constant RX7 144 (-1000000001) ∈ lw_ok := lw_i2 205 rfl rfl
theorem mv_L_35 : MV RL 35 yX7_traveller := ⟨lw_i2 206 rfl rfl, mx_X7_traveller.1, mx_X7_traveller.2⟩
theorem mv_X7_145 : MV RX7 145 yX1_isTraveller := ⟨lw_i2 210 rfl rfl, mx_X1_isTraveller.1, mx_X1_isTraveller.2⟩
theorem mv_X7_152 : MV RX7 152 yX1_sizeOf := ⟨lw_i2 211 rfl rfl, mx_X1_sizeOf.1, mx_X1_sizeOf.2⟩
theorem mv_X7_155 : MV RX7 155 yX7_dutyOf := ⟨lw_i2 212 rfl rfl, mx_X7_dutyOf.1, mx_X7_dutyOf.2⟩
theorem mv_X7_213 : MV RX7 213 yX1_duty := ⟨lw_i2 216 rfl rfl, mx_X1_duty.1, mx_X1_duty.2⟩
theorem mv_X1_76 : MV RX1 76 yX1_allFrom := ⟨lw_i2 220 rfl rfl, mx_X1_allFrom.1, mx_X1_allFrom.2⟩
theorem mv_L_40 : MV RL 40 yX7_pass := ⟨lw_i2 221 rfl rfl, mx_X7_pass.1, mx_X7_pass.2⟩
theorem kc_X7_164 : Cond.constant RX7 164 (-1000000003) ∈ lw_ok := lw_i2 225 rfl rfl
theorem mv_X7_165 : MV RX7 165 yX3_remember := ⟨lw_i2 226 rfl rfl, mx_X3_remember.1, mx_X3_remember.2⟩
theorem mv_X3_22 : MV RX3 22 yX4_become := ⟨lw_i2 230 rfl rfl, mx_X4_become.1, mx_X4_become.2⟩
theorem ms_X3_29 : MS RX3 29 yJ9_min_7cf53 := ⟨lw_i2 234 rfl rfl, mx_J9_min_7cf53⟩
theorem mv_X7_169 : MV RX7 169 yX7_letPass := ⟨lw_i2 235 rfl rfl, mx_X7_letPass.1, mx_X7_letPass.2⟩
theorem kc_X7_188 : Cond.constant RX7 188 (999999) ∈ lw_ok := lw_i2 239 rfl rfl
theorem ms_X7_189 : MS RX7 189 yJ9_min_7cf53 := ⟨lw_i3 0 rfl rfl, mx_J9_min_7cf53⟩
theorem mv_X7_172 : MV RX7 172 yX4_leaves := ⟨lw_i3 1 rfl rfl, mx_X4_leaves.1, mx_X4_leaves.2⟩
theorem mv_X4_40 : MV RX4 40 yX4_mindOf := ⟨lw_i3 5 rfl rfl, mx_X4_mindOf.1, mx_X4_mindOf.2⟩
theorem mv_L_44 : MV RL 44 yX7_goRound := ⟨lw_i3 6 rfl rfl, mx_X7_goRound.1, mx_X7_goRound.2⟩
theorem mv_L_49 : MV RL 49 yX7_talk := ⟨lw_i3 10 rfl rfl, mx_X7_talk.1, mx_X7_talk.2⟩
theorem mv_X7_176 : MV RX7 176 yX1_quickest := ⟨lw_i3 14 rfl rfl, mx_X1_quickest.1, mx_X1_quickest.2⟩
theorem ms_X7_180 : MS RX7 180 yX7_afterTalk := ⟨lw_i3 18 rfl rfl, mx_X7_afterTalk⟩
theorem mv_X7_184 : MV RX7 184 yX4_setMind := ⟨lw_i3 21 rfl rfl, mx_X4_setMind.1, mx_X4_setMind.2⟩
theorem mv_L_54 : MV RL 54 yX7_come := ⟨lw_i3 25 rfl rfl, mx_X7_come.1, mx_X7_come.2⟩
theorem mv_X7_194 : MV RX7 194 yX1_isSet := ⟨lw_i3 29 rfl rfl, mx_X1_isSet.1, mx_X1_isSet.2⟩
theorem mv_X7_197 : MV RX7 197 yX4_comes := ⟨lw_i3 30 rfl rfl, mx_X4_comes.1, mx_X4_comes.2⟩
theorem mv_X4_36 : MV RX4 36 yX4_setMind := ⟨lw_i3 34 rfl rfl, mx_X4_setMind.1, mx_X4_setMind.2⟩
theorem mv_L_58 : MV RL 58 yX7_register := ⟨lw_i3 35 rfl rfl, mx_X7_register.1, mx_X7_register.2⟩
theorem mv_L_62 : MV RL 62 yX7_drift := ⟨lw_i3 39 rfl rfl, mx_X7_drift.1, mx_X7_drift.2⟩
theorem mv_X7_204 : MV RX7 204 yX7_driftOneDay := ⟨lw_i3 43 rfl rfl, mx_X7_driftOneDay.1, mx_X7_driftOneDay.2⟩
theorem mv_X7_286 : MV RX7 286 yX7_draw := ⟨lw_i3 47 rfl rfl, mx_X7_draw.1, mx_X7_draw.2⟩
theorem kc_X7_289 : Cond.constantLong RX7 289 (1103515245) ∈ lw_ok := lw_i3 51 rfl rfl
theorem kc_X7_291 : Cond.constantLong RX7 291 (12345) ∈ lw_ok := lw_i3 52 rfl rfl
theorem kc_X7_293 : Cond.constantLong RX7 293 (2147483647) ∈ lw_ok := lw_i3 53 rfl rfl
theorem kc_X7_295 : Cond.constant RX7 295 (65536) ∈ lw_ok := lw_i3 54 rfl rfl
theorem mv_L_66 : MV RL 66 yX7_undo := ⟨lw_i3 55 rfl rfl, mx_X7_undo.1, mx_X7_undo.2⟩
theorem mv_X7_207 : MV RX7 207 yX3_bringBack := ⟨lw_i3 59 rfl rfl, mx_X3_bringBack.1, mx_X3_bringBack.2⟩
theorem mv_L_70 : MV RL 70 yX7_follows := ⟨lw_i3 63 rfl rfl, mx_X7_follows.1, mx_X7_follows.2⟩
theorem mv_L_74 : MV RL 74 yX7_owed := ⟨lw_i3 67 rfl rfl, mx_X7_owed.1, mx_X7_owed.2⟩
theorem mv_L_78 : MV RL 78 yX7_parts := ⟨lw_i3 71 rfl rfl, mx_X7_parts.1, mx_X7_parts.2⟩
theorem mv_X7_216 : MV RX7 216 yX7_cheapestParts := ⟨lw_i3 75 rfl rfl, mx_X7_cheapestParts.1, mx_X7_cheapestParts.2⟩
theorem mv_L_82 : MV RL 82 yX7_talkDown := ⟨lw_i3 79 rfl rfl, mx_X7_talkDown.1, mx_X7_talkDown.2⟩
theorem mv_X7_219 : MV RX7 219 yX1_findMinutes := ⟨lw_i3 83 rfl rfl, mx_X1_findMinutes.1, mx_X1_findMinutes.2⟩
theorem mv_X7_223 : MV RX7 223 yX7_nextOnTheWay := ⟨lw_i3 87 rfl rfl, mx_X7_nextOnTheWay.1, mx_X7_nextOnTheWay.2⟩
theorem mv_L_86 : MV RL 86 yX7_soonest := ⟨lw_i3 91 rfl rfl, mx_X7_soonest.1, mx_X7_soonest.2⟩
theorem ms_X7_226 : MS RX7 226 yX7_fewestMinutes := ⟨lw_i3 95 rfl rfl, mx_X7_fewestMinutes⟩
theorem mv_L_90 : MV RL 90 yX7_smallest := ⟨lw_i3 98 rfl rfl, mx_X7_smallest.1, mx_X7_smallest.2⟩
theorem mv_X7_230 : MV RX7 230 yX7_smallestRegister := ⟨lw_i3 102 rfl rfl, mx_X7_smallestRegister.1, mx_X7_smallestRegister.2⟩
theorem ms_X7_305 : MS RX7 305 yJ6_bitCount_0f7a4 := ⟨lw_i3 106 rfl rfl, mx_J6_bitCount_0f7a4⟩
theorem kc_J6_265 : Cond.constant RJ6 265 (1431655765) ∈ lw_ok := lw_i3 109 rfl rfl
theorem kc_J6_266 : Cond.constant RJ6 266 (858993459) ∈ lw_ok := lw_i3 110 rfl rfl
theorem kc_J6_267 : Cond.constant RJ6 267 (252645135) ∈ lw_ok := lw_i3 111 rfl rfl
theorem mv_X7_233 : MV RX7 233 yX7_needless := ⟨lw_i3 112 rfl rfl, mx_X7_needless.1, mx_X7_needless.2⟩
theorem mv_L_94 : MV RL 94 yX7_better := ⟨lw_i3 116 rfl rfl, mx_X7_better.1, mx_X7_better.2⟩
theorem mv_L_98 : MV RL 98 yX7_gains := ⟨lw_i3 120 rfl rfl, mx_X7_gains.1, mx_X7_gains.2⟩
theorem mv_L_102 : MV RL 102 yX7_free := ⟨lw_i3 124 rfl rfl, mx_X7_free.1, mx_X7_free.2⟩
theorem mv_L_106 : MV RL 106 yX7_share := ⟨lw_i3 128 rfl rfl, mx_X7_share.1, mx_X7_share.2⟩
theorem mv_L_110 : MV RL 110 yX7_glacier := ⟨lw_i3 132 rfl rfl, mx_X7_glacier.1, mx_X7_glacier.2⟩
theorem kc_X7_236 : Cond.constantLong RX7 236 (1000000000) ∈ lw_ok := lw_i3 136 rfl rfl
theorem kc_X7_238 : Cond.constantLong RX7 238 (100) ∈ lw_ok := lw_i3 137 rfl rfl
theorem mv_L_114 : MV RL 114 yX7_ask := ⟨lw_i3 138 rfl rfl, mx_X7_ask.1, mx_X7_ask.2⟩
theorem mv_X7_240 : MV RX7 240 yX5_append := ⟨lw_i3 142 rfl rfl, mx_X5_append.1, mx_X5_append.2⟩
theorem mv_L_119 : MV RL 119 yX7_minds := ⟨lw_i3 146 rfl rfl, mx_X7_minds.1, mx_X7_minds.2⟩
theorem mv_X7_243 : MV RX7 243 yX5_look := ⟨lw_i3 150 rfl rfl, mx_X5_look.1, mx_X5_look.2⟩
theorem mv_X5_38 : MV RX5 38 yX5_fits := ⟨lw_i3 154 rfl rfl, mx_X5_fits.1, mx_X5_fits.2⟩
theorem ms_X5_46 : MS RX5 46 yX5_isSo := ⟨lw_i3 158 rfl rfl, mx_X5_isSo⟩
theorem ms_X5_50 : MS RX5 50 yJ6_bitCount_0f7a4 := ⟨lw_i3 161 rfl rfl, mx_J6_bitCount_0f7a4⟩
theorem mv_X5_42 : MV RX5 42 yX5_countIdeas := ⟨lw_i3 162 rfl rfl, mx_X5_countIdeas.1, mx_X5_countIdeas.2⟩
theorem mv_L_123 : MV RL 123 yX7_askNext := ⟨lw_i3 166 rfl rfl, mx_X7_askNext.1, mx_X7_askNext.2⟩
theorem mv_X7_256 : MV RX7 256 yX5_bestIdea := ⟨lw_i3 170 rfl rfl, mx_X5_bestIdea.1, mx_X5_bestIdea.2⟩
theorem ms_X5_56 : MS RX5 56 yJ9_max_7cf53 := ⟨lw_i3 174 rfl rfl, mx_J9_max_7cf53⟩
theorem mv_L_127 : MV RL 127 yX7_write := ⟨lw_i3 177 rfl rfl, mx_X7_write.1, mx_X7_write.2⟩
theorem mv_X7_259 : MV RX7 259 yX0_append := ⟨lw_i3 181 rfl rfl, mx_X0_append.1, mx_X0_append.2⟩
theorem mv_L_131 : MV RL 131 yX7_tear := ⟨lw_i3 185 rfl rfl, mx_X7_tear.1, mx_X7_tear.2⟩
theorem mv_L_135 : MV RL 135 yX7_judge := ⟨lw_i3 189 rfl rfl, mx_X7_judge.1, mx_X7_judge.2⟩
theorem mv_X7_262 : MV RX7 262 yX0_firstWrong := ⟨lw_i3 193 rfl rfl, mx_X0_firstWrong.1, mx_X0_firstWrong.2⟩
theorem mv_L_139 : MV RL 139 yX7_seed := ⟨lw_i3 197 rfl rfl, mx_X7_seed.1, mx_X7_seed.2⟩
theorem mv_L_143 : MV RL 143 yX7_keep := ⟨lw_i3 201 rfl rfl, mx_X7_keep.1, mx_X7_keep.2⟩
theorem mv_X7_268 : MV RX7 268 yX2_take := ⟨lw_i3 205 rfl rfl, mx_X2_take.1, mx_X2_take.2⟩
theorem mv_X2_26 : MV RX2 26 yX4_become := ⟨lw_i3 209 rfl rfl, mx_X4_become.1, mx_X4_become.2⟩
theorem mv_L_147 : MV RL 147 yX7_goBack := ⟨lw_i3 210 rfl rfl, mx_X7_goBack.1, mx_X7_goBack.2⟩
theorem mv_X7_280 : MV RX7 280 yX4_become := ⟨lw_i3 214 rfl rfl, mx_X4_become.1, mx_X4_become.2⟩
theorem mv_L_17 : MV RL 17 yX8_feed := ⟨lw_i4 126 rfl rfl, mx_X8_feed.1, mx_X8_feed.2⟩
theorem kc_X8_113 : Cond.constantLong RX8 113 (255) ∈ lw_ok := lw_i4 130 rfl rfl
theorem ms_X8_106 : MS RX8 106 yX8_in := ⟨lw_i4 131 rfl rfl, mx_X8_in⟩
theorem kc_X8_115 : Cond.constant RX8 115 (-1000000002) ∈ lw_ok := lw_i4 134 rfl rfl
theorem kc_X8_119 : Cond.constant RX8 119 (-1000000004) ∈ lw_ok := lw_i4 135 rfl rfl
theorem mv_L_22 : MV RL 22 yX8_thePass := ⟨lw_i4 136 rfl rfl, mx_X8_thePass.1, mx_X8_thePass.2⟩
theorem mv_X8_123 : MV RX8 123 yX8_here := ⟨lw_i4 140 rfl rfl, mx_X8_here.1, mx_X8_here.2⟩
theorem mv_X8_205 : MV RX8 205 yX8_takeClause := ⟨lw_i4 144 rfl rfl, mx_X8_takeClause.1, mx_X8_takeClause.2⟩
theorem mv_X8_185 : MV RX8 185 yX8_whichClause := ⟨lw_i4 148 rfl rfl, mx_X8_whichClause.1, mx_X8_whichClause.2⟩
theorem mv_X8_131 : MV RX8 131 yX8_fails := ⟨lw_i4 152 rfl rfl, mx_X8_fails.1, mx_X8_fails.2⟩
theorem mv_X8_189 : MV RX8 189 yX8_isFull := ⟨lw_i4 156 rfl rfl, mx_X8_isFull.1, mx_X8_isFull.2⟩
theorem mv_X8_193 : MV RX8 193 yX8_takeBody := ⟨lw_i4 160 rfl rfl, mx_X8_takeBody.1, mx_X8_takeBody.2⟩
theorem mv_X8_167 : MV RX8 167 yX8_takeGate := ⟨lw_i4 164 rfl rfl, mx_X8_takeGate.1, mx_X8_takeGate.2⟩
theorem mv_X8_144 : MV RX8 144 yX8_into := ⟨lw_i4 168 rfl rfl, mx_X8_into.1, mx_X8_into.2⟩
theorem mv_X8_141 : MV RX8 141 yX8_takeNumber := ⟨lw_i4 172 rfl rfl, mx_X8_takeNumber.1, mx_X8_takeNumber.2⟩
theorem kc_X8_127 : Cond.constantLong RX8 127 (48) ∈ lw_ok := lw_i4 176 rfl rfl
theorem kc_X8_129 : Cond.constantLong RX8 129 (57) ∈ lw_ok := lw_i4 177 rfl rfl
theorem mv_X8_170 : MV RX8 170 yX8_takeIdea := ⟨lw_i4 178 rfl rfl, mx_X8_takeIdea.1, mx_X8_takeIdea.2⟩
theorem mv_X8_173 : MV RX8 173 yX8_takeJoin := ⟨lw_i4 182 rfl rfl, mx_X8_takeJoin.1, mx_X8_takeJoin.2⟩
theorem mv_X8_176 : MV RX8 176 yX8_takeTalk := ⟨lw_i4 186 rfl rfl, mx_X8_takeTalk.1, mx_X8_takeTalk.2⟩
theorem mv_X8_179 : MV RX8 179 yX8_takeRegistered := ⟨lw_i4 190 rfl rfl, mx_X8_takeRegistered.1, mx_X8_takeRegistered.2⟩
theorem ms_X8_160 : MS RX8 160 yX8_has := ⟨lw_i4 194 rfl rfl, mx_X8_has⟩
theorem mv_X8_182 : MV RX8 182 yX8_takeTraveller := ⟨lw_i4 197 rfl rfl, mx_X8_takeTraveller.1, mx_X8_takeTraveller.2⟩
theorem mv_X8_208 : MV RX8 208 yX8_takeRead := ⟨lw_i4 201 rfl rfl, mx_X8_takeRead.1, mx_X8_takeRead.2⟩
theorem mv_L_26 : MV RL 26 yX8_fault := ⟨lw_i4 205 rfl rfl, mx_X8_fault.1, mx_X8_fault.2⟩
theorem mv_L_30 : MV RL 30 yX8_told := ⟨lw_i4 209 rfl rfl, mx_X8_told.1, mx_X8_told.2⟩
theorem mv_X8_220 : MV RX8 220 yX8_close := ⟨lw_i4 213 rfl rfl, mx_X8_close.1, mx_X8_close.2⟩
theorem mv_X8_235 : MV RX8 235 yX8_stuckOnes := ⟨lw_i4 217 rfl rfl, mx_X8_stuckOnes.1, mx_X8_stuckOnes.2⟩
theorem mv_X8_229 : MV RX8 229 yX8_isGone := ⟨lw_i4 221 rfl rfl, mx_X8_isGone.1, mx_X8_isGone.2⟩
theorem mv_X8_232 : MV RX8 232 yX8_isStuck := ⟨lw_i4 225 rfl rfl, mx_X8_isStuck.1, mx_X8_isStuck.2⟩
theorem mv_X8_226 : MV RX8 226 yX8_sizeOf := ⟨lw_i4 229 rfl rfl, mx_X8_sizeOf.1, mx_X8_sizeOf.2⟩
theorem mv_L_34 : MV RL 34 yX8_size := ⟨lw_i4 233 rfl rfl, mx_X8_size.1, mx_X8_size.2⟩
theorem mv_X8_238 : MV RX8 238 yX8_isIdea := ⟨lw_i4 237 rfl rfl, mx_X8_isIdea.1, mx_X8_isIdea.2⟩
theorem kc_X8_241 : Cond.constant RX8 241 (-1000000001) ∈ lw_ok := lw_i5 1 rfl rfl
theorem mv_L_39 : MV RL 39 yX8_traveller := ⟨lw_i5 2 rfl rfl, mx_X8_traveller.1, mx_X8_traveller.2⟩
theorem mv_X8_242 : MV RX8 242 yX8_isTraveller := ⟨lw_i5 6 rfl rfl, mx_X8_isTraveller.1, mx_X8_isTraveller.2⟩
theorem mv_X8_245 : MV RX8 245 yX8_owedFor := ⟨lw_i5 10 rfl rfl, mx_X8_owedFor.1, mx_X8_owedFor.2⟩
theorem mv_X8_223 : MV RX8 223 yX8_owedWhere := ⟨lw_i5 14 rfl rfl, mx_X8_owedWhere.1, mx_X8_owedWhere.2⟩
theorem mv_L_43 : MV RL 43 yX8_pass := ⟨lw_i5 18 rfl rfl, mx_X8_pass.1, mx_X8_pass.2⟩
theorem kc_X8_251 : Cond.constant RX8 251 (-1000000003) ∈ lw_ok := lw_i5 22 rfl rfl
theorem mv_X8_252 : MV RX8 252 yX8_remember := ⟨lw_i5 23 rfl rfl, mx_X8_remember.1, mx_X8_remember.2⟩
theorem mv_X8_255 : MV RX8 255 yX8_passNow := ⟨lw_i5 27 rfl rfl, mx_X8_passNow.1, mx_X8_passNow.2⟩
theorem ms_X8_248 : MS RX8 248 yX8_atMost := ⟨lw_i5 31 rfl rfl, mx_X8_atMost⟩
theorem kc_X8_102 : Cond.constant RX8 102 (999999) ∈ lw_ok := lw_i5 34 rfl rfl
theorem mv_L_48 : MV RL 48 yX8_goRound := ⟨lw_i5 35 rfl rfl, mx_X8_goRound.1, mx_X8_goRound.2⟩
theorem mv_X8_258 : MV RX8 258 yX8_roundNow := ⟨lw_i5 39 rfl rfl, mx_X8_roundNow.1, mx_X8_roundNow.2⟩
theorem mv_L_53 : MV RL 53 yX8_talk := ⟨lw_i5 43 rfl rfl, mx_X8_talk.1, mx_X8_talk.2⟩
theorem mv_X8_263 : MV RX8 263 yX8_quickest := ⟨lw_i5 47 rfl rfl, mx_X8_quickest.1, mx_X8_quickest.2⟩
theorem kc_X8_262 : Cond.constant RX8 262 (1000000) ∈ lw_ok := lw_i5 51 rfl rfl
theorem ms_X8_266 : MS RX8 266 yX8_talked := ⟨lw_i5 52 rfl rfl, mx_X8_talked⟩
theorem mv_L_57 : MV RL 57 yX8_come := ⟨lw_i5 55 rfl rfl, mx_X8_come.1, mx_X8_come.2⟩
theorem mv_X8_270 : MV RX8 270 yX8_isSet := ⟨lw_i5 59 rfl rfl, mx_X8_isSet.1, mx_X8_isSet.2⟩
theorem mv_L_61 : MV RL 61 yX8_register := ⟨lw_i5 63 rfl rfl, mx_X8_register.1, mx_X8_register.2⟩
theorem mv_L_65 : MV RL 65 yX8_drift := ⟨lw_i5 67 rfl rfl, mx_X8_drift.1, mx_X8_drift.2⟩
theorem kc_X8_286 : Cond.constantLong RX8 286 (60) ∈ lw_ok := lw_i5 71 rfl rfl
theorem mv_X8_288 : MV RX8 288 yX8_dayByDraws := ⟨lw_i5 72 rfl rfl, mx_X8_dayByDraws.1, mx_X8_dayByDraws.2⟩
theorem mv_X8_283 : MV RX8 283 yX8_draw := ⟨lw_i5 76 rfl rfl, mx_X8_draw.1, mx_X8_draw.2⟩
theorem kc_X8_276 : Cond.constantLong RX8 276 (1103515245) ∈ lw_ok := lw_i5 80 rfl rfl
theorem kc_X8_278 : Cond.constantLong RX8 278 (12345) ∈ lw_ok := lw_i5 81 rfl rfl
theorem kc_X8_280 : Cond.constantLong RX8 280 (2147483648) ∈ lw_ok := lw_i5 82 rfl rfl
theorem kc_X8_282 : Cond.constant RX8 282 (65536) ∈ lw_ok := lw_i5 83 rfl rfl
theorem mv_L_69 : MV RL 69 yX8_undo := ⟨lw_i5 84 rfl rfl, mx_X8_undo.1, mx_X8_undo.2⟩
theorem mv_L_73 : MV RL 73 yX8_follows := ⟨lw_i5 88 rfl rfl, mx_X8_follows.1, mx_X8_follows.2⟩
theorem mv_L_77 : MV RL 77 yX8_owed := ⟨lw_i5 92 rfl rfl, mx_X8_owed.1, mx_X8_owed.2⟩
theorem mv_L_81 : MV RL 81 yX8_parts := ⟨lw_i5 96 rfl rfl, mx_X8_parts.1, mx_X8_parts.2⟩
theorem mv_L_85 : MV RL 85 yX8_talkDown := ⟨lw_i5 100 rfl rfl, mx_X8_talkDown.1, mx_X8_talkDown.2⟩
theorem mv_X8_291 : MV RX8 291 yX8_findMinutes := ⟨lw_i5 104 rfl rfl, mx_X8_findMinutes.1, mx_X8_findMinutes.2⟩
theorem mv_L_89 : MV RL 89 yX8_soonest := ⟨lw_i5 108 rfl rfl, mx_X8_soonest.1, mx_X8_soonest.2⟩
theorem mv_X8_295 : MV RX8 295 yX8_minutesOf := ⟨lw_i5 112 rfl rfl, mx_X8_minutesOf.1, mx_X8_minutesOf.2⟩
theorem mv_L_93 : MV RL 93 yX8_smallest := ⟨lw_i5 116 rfl rfl, mx_X8_smallest.1, mx_X8_smallest.2⟩
theorem mv_X8_301 : MV RX8 301 yX8_smallestSet := ⟨lw_i5 120 rfl rfl, mx_X8_smallestSet.1, mx_X8_smallestSet.2⟩
theorem ms_X8_298 : MS RX8 298 yX8_bits := ⟨lw_i5 124 rfl rfl, mx_X8_bits⟩
theorem mv_X8_304 : MV RX8 304 yX8_needless := ⟨lw_i5 127 rfl rfl, mx_X8_needless.1, mx_X8_needless.2⟩
theorem mv_L_97 : MV RL 97 yX8_better := ⟨lw_i5 131 rfl rfl, mx_X8_better.1, mx_X8_better.2⟩
theorem kc_X8_307 : Cond.constantLong RX8 307 (9999) ∈ lw_ok := lw_i5 135 rfl rfl
theorem mv_L_101 : MV RL 101 yX8_gains := ⟨lw_i5 136 rfl rfl, mx_X8_gains.1, mx_X8_gains.2⟩
theorem mv_L_105 : MV RL 105 yX8_free := ⟨lw_i5 140 rfl rfl, mx_X8_free.1, mx_X8_free.2⟩
theorem mv_L_109 : MV RL 109 yX8_share := ⟨lw_i5 144 rfl rfl, mx_X8_share.1, mx_X8_share.2⟩
theorem mv_L_113 : MV RL 113 yX8_glacier := ⟨lw_i5 148 rfl rfl, mx_X8_glacier.1, mx_X8_glacier.2⟩
theorem kc_X8_309 : Cond.constantLong RX8 309 (1000000000) ∈ lw_ok := lw_i5 152 rfl rfl
theorem kc_X8_311 : Cond.constantLong RX8 311 (100) ∈ lw_ok := lw_i5 153 rfl rfl
theorem mv_L_118 : MV RL 118 yX8_ask := ⟨lw_i5 154 rfl rfl, mx_X8_ask.1, mx_X8_ask.2⟩
theorem kc_X8_313 : Cond.constantLong RX8 313 (10) ∈ lw_ok := lw_i5 158 rfl rfl
theorem mv_L_122 : MV RL 122 yX8_minds := ⟨lw_i5 159 rfl rfl, mx_X8_minds.1, mx_X8_minds.2⟩
theorem kc_X8_319 : Cond.constantLong RX8 319 (2) ∈ lw_ok := lw_i5 163 rfl rfl
theorem mv_X8_321 : MV RX8 321 yX8_couldBe := ⟨lw_i5 164 rfl rfl, mx_X8_couldBe.1, mx_X8_couldBe.2⟩
theorem ms_X8_315 : MS RX8 315 yX8_answers := ⟨lw_i5 168 rfl rfl, mx_X8_answers⟩
theorem mv_L_126 : MV RL 126 yX8_askNext := ⟨lw_i5 171 rfl rfl, mx_X8_askNext.1, mx_X8_askNext.2⟩
theorem mv_L_130 : MV RL 130 yX8_write := ⟨lw_i5 175 rfl rfl, mx_X8_write.1, mx_X8_write.2⟩
theorem mv_L_134 : MV RL 134 yX8_tear := ⟨lw_i5 179 rfl rfl, mx_X8_tear.1, mx_X8_tear.2⟩
theorem mv_L_138 : MV RL 138 yX8_judge := ⟨lw_i5 183 rfl rfl, mx_X8_judge.1, mx_X8_judge.2⟩
theorem mv_L_142 : MV RL 142 yX8_seed := ⟨lw_i5 187 rfl rfl, mx_X8_seed.1, mx_X8_seed.2⟩
theorem mv_L_146 : MV RL 146 yX8_keep := ⟨lw_i5 191 rfl rfl, mx_X8_keep.1, mx_X8_keep.2⟩
theorem mv_L_150 : MV RL 150 yX8_goBack := ⟨lw_i5 195 rfl rfl, mx_X8_goBack.1, mx_X8_goBack.2⟩
theorem mm_min : Cond.static Lib.Math.min.name ∈ lw_ok ∧ Cond.initialized "java/lang/Math" ∈ lw_ok ∧ Cond.code Lib.Math.min.name Lib.Math.min.code 2 (some .int) ∈ lw_ok := ⟨lw_i2 103 rfl rfl, lw_i1 10 rfl rfl, lw_i2 104 rfl rfl⟩
theorem ml_X6_140 : Cond.methodLink RX6 140 Lib.Math.min.name ∈ lw_ok := lw_i2 102 rfl rfl
theorem ml_X3_29 : Cond.methodLink RX3 29 Lib.Math.min.name ∈ lw_ok := lw_i2 234 rfl rfl
theorem ml_X7_189 : Cond.methodLink RX7 189 Lib.Math.min.name ∈ lw_ok := lw_i3 0 rfl rfl
theorem mm_max : Cond.static Lib.Math.max.name ∈ lw_ok ∧ Cond.initialized "java/lang/Math" ∈ lw_ok ∧ Cond.code Lib.Math.max.name Lib.Math.max.code 2 (some .int) ∈ lw_ok := ⟨lw_i3 175 rfl rfl, lw_i1 10 rfl rfl, lw_i3 176 rfl rfl⟩
theorem ml_X5_56 : Cond.methodLink RX5 56 Lib.Math.max.name ∈ lw_ok := lw_i3 174 rfl rfl
