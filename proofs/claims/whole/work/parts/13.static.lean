/-! THE HEAP BEHIND THE CONSTRUCTORS -/
def rK0 : List rKd := [.inr 7, .inr 6, .inl (160, .int), .inr 3, .inr 2, .inl (162, .int), .inl (32, .int), .inr 1, .inl (12, .int), .inr 4, .inl (4, .object "RingDrop$Formula"), .inr 2, .inl (162, .int), .inl (32, .int), .inr 2, .inl (162, .int), .inl (32, .int), .inr 2, .inl (162, .int), .inl (32, .int), .inr 2, .inl (162, .int), .inl (32, .int), .inr 4, .inl (4, .object "RingDrop$Formula"), .inr 2, .inl (162, .int), .inl (32, .int), .inr 2, .inl (162, .int), .inl (32, .int), .inr 2, .inl (162, .int), .inl (32, .int), .inr 2, .inl (162, .int), .inl (32, .int), .inl (12, .array .int), .inl (12, .int), .inl (12, .int), .inl (12, .int), .inl (12, .int), .inl (12, .int), .inl (12, .int), .inl (12, .int), .inl (12, .int), .inl (12, .int), .inl (12, .int), .inl (12, .int), .inl (12, .int), .inl (12, .int), .inl (12, .int), .inl (6, .array .int), .inl (24, .int), .inl (24, .int), .inl (24, .int), .inl (24, .int), .inl (24, .int), .inl (24, .int), .inl (24, .int), .inr 5, .inl (24, .int), .inl (24, .int), .inl (7, .int), .inl (2, .array .int), .inl (24, .int), .inl (24, .int), .inl (2, .array .int), .inl (24, .int), .inl (24, .int), .inl (24, .int), .inl (24, .int), .inl (120, .int), .inl (12, .object "RingDrop$Body"), .inr 0, .inl (12, .int), .inr 0, .inl (12, .int), .inr 0, .inl (12, .int), .inr 0, .inl (12, .int), .inr 0, .inl (12, .int), .inr 0, .inl (12, .int), .inr 0, .inl (12, .int), .inr 0, .inl (12, .int), .inr 0, .inl (12, .int), .inr 0, .inl (12, .int), .inr 0, .inl (12, .int), .inr 0, .inl (12, .int), .inr 5, .inl (24, .int), .inl (24, .int), .inl (7, .int), .inl (2, .array .int), .inl (24, .int), .inl (24, .int), .inl (2, .array .int), .inl (24, .int), .inl (24, .int), .inl (24, .int), .inl (24, .int), .inl (120, .int), .inl (12, .object "RingDrop$Body"), .inr 0, .inl (12, .int), .inr 0, .inl (12, .int), .inr 0, .inl (12, .int), .inr 0, .inl (12, .int), .inr 0, .inl (12, .int), .inr 0, .inl (12, .int), .inr 0, .inl (12, .int), .inr 0, .inl (12, .int), .inr 0, .inl (12, .int), .inr 0, .inl (12, .int), .inr 0, .inl (12, .int), .inr 0, .inl (12, .int), .inr 5, .inl (24, .int), .inl (24, .int), .inl (7, .int), .inl (2, .array .int), .inl (24, .int), .inl (24, .int), .inl (2, .array .int), .inl (24, .int), .inl (24, .int), .inl (24, .int), .inl (24, .int), .inl (120, .int), .inl (12, .object "RingDrop$Body"), .inr 0, .inl (12, .int), .inr 0, .inl (12, .int), .inr 0, .inl (12, .int), .inr 0, .inl (12, .int), .inr 0, .inl (12, .int), .inr 0, .inl (12, .int), .inr 0, .inl (12, .int), .inr 0, .inl (12, .int), .inr 0, .inl (12, .int), .inr 0, .inl (12, .int), .inr 0, .inl (12, .int), .inr 0, .inl (12, .int), .inr 8, .inl (160, .int), .inl (3060, .int), .inl (3060, .int), .inl (9, .int), .inl (9, .int), .inl (810, .int), .inl (810, .int), .inl (810, .int), .inl (7, .int), .inl (80, .int), .inl (156, .int), .inl (12, .int), .inl (416, .int), .inl (416, .int), .inl (416, .int), .inl (12, .int), .inl (12, .int), .inl (12, .int), .inl (48, .int), .inl (24, .int), .inl (144, .int), .inl (24, .int), .inl (1, .long)]
def rS0L : List (List (Option Nat)) := [[some 1, some 3, some 7, some 9, some 23, some 37, some 50, some 51, some 52, some 59, some 60, some 98, some 136], [some 2], [], [some 1, some 4], [some 5, some 6], [], [], [some 1, some 8], [], [some 10], [some 11, some 14, some 17, some 20], [some 12, some 13], [], [], [some 15, some 16], [], [], [some 18, some 19], [], [], [some 21, some 22], [], [], [some 24], [some 25, some 28, some 31, some 34], [some 26, some 27], [], [], [some 29, some 30], [], [], [some 32, some 33], [], [], [some 35, some 36], [], [], [some 38, some 39, some 40, some 41, some 42, some 43, some 44, some 45, some 46, some 47, some 48, some 49], [], [], [], [], [], [], [], [], [], [], [], [], [], [], [some 53, some 54, some 55, some 56, some 57, some 58], [], [], [], [], [], [], [], [some 61, some 62, some 63, none, some 64, some 67, some 70, some 71, some 72, some 73], [], [], [], [some 65, some 66], [], [], [some 68, some 69], [], [], [], [], [], [], [some 75], [], [some 77], [], [some 79], [], [some 81], [], [some 83], [], [some 85], [], [some 87], [], [some 89], [], [some 91], [], [some 93], [], [some 95], [], [some 97], [], [some 99, some 100, some 101, none, some 102, some 105, some 108, some 109, some 110, some 111], [], [], [], [some 103, some 104], [], [], [some 106, some 107], [], [], [], [], [], [], [some 113], [], [some 115], [], [some 117], [], [some 119], [], [some 121], [], [some 123], [], [some 125], [], [some 127], [], [some 129], [], [some 131], [], [some 133], [], [some 135], [], [some 137, some 138, some 139, none, some 140, some 143, some 146, some 147, some 148, some 149], [], [], [], [some 141, some 142], [], [], [some 144, some 145], [], [], [], [], [], [], [some 151], [], [some 153], [], [some 155], [], [some 157], [], [some 159], [], [some 161], [], [some 163], [], [some 165], [], [some 167], [], [some 169], [], [some 171], [], [some 173], [], [none, some 175, none, none, none, none, some 176, some 177, some 178, some 179, some 180, some 181, some 182, none, none, none, none, some 183, some 184, some 185, some 186, none, none, none, some 187, some 188, some 189, none, none, none, none, some 190, some 191, some 192, none, some 193, some 194, none, none, none, some 195, none, some 196], [], [], [], [], [], [], [], [], [], [], [], [], [], [], [], [], [], [], [], [], [], [], []]
def rS0 (k j : Nat) : Option Nat := (rS0L.getD k []).getD j none
def rZ (X : Nat × (Nat → Int32)) : rS := (rK0, rS0, false, X.1, X.2)
def isStrip (k : Nat) : Bool := ([60, 98, 136] : List Nat).contains k
def isBody (k : Nat) : Bool := ([74, 76, 78, 80, 82, 84, 86, 88, 90, 92, 94, 96, 112, 114, 116, 118, 120, 122, 124, 126, 128, 130, 132, 134, 150, 152, 154, 156, 158, 160, 162, 164, 166, 168, 170, 172] : List Nat).contains k
def isForm (k : Nat) : Bool := ([4, 11, 14, 17, 20, 25, 28, 31, 34] : List Nat).contains k
def isShelf (k : Nat) : Bool := ([9, 23] : List Nat).contains k
def isIA (a n : Nat) : Prop := rK0[a]? = some (.inl (n, .int))
theorem k0_0 {X : Nat × (Nat → Int32)} : (rZ X).1[0]? = some (.inr 7) := rfl
theorem k0_1 {X : Nat × (Nat → Int32)} : (rZ X).1[1]? = some (.inr 6) := rfl
theorem k0_2 {X : Nat × (Nat → Int32)} : (rZ X).1[2]? = some (.inl (160, .int)) := rfl
theorem k0_3 {X : Nat × (Nat → Int32)} : (rZ X).1[3]? = some (.inr 3) := rfl
theorem k0_4 {X : Nat × (Nat → Int32)} : (rZ X).1[4]? = some (.inr 2) := rfl
theorem k0_5 {X : Nat × (Nat → Int32)} : (rZ X).1[5]? = some (.inl (162, .int)) := rfl
theorem k0_6 {X : Nat × (Nat → Int32)} : (rZ X).1[6]? = some (.inl (32, .int)) := rfl
theorem k0_7 {X : Nat × (Nat → Int32)} : (rZ X).1[7]? = some (.inr 1) := rfl
theorem k0_8 {X : Nat × (Nat → Int32)} : (rZ X).1[8]? = some (.inl (12, .int)) := rfl
theorem k0_9 {X : Nat × (Nat → Int32)} : (rZ X).1[9]? = some (.inr 4) := rfl
theorem k0_10 {X : Nat × (Nat → Int32)} : (rZ X).1[10]? = some (.inl (4, .object "RingDrop$Formula")) := rfl
theorem k0_11 {X : Nat × (Nat → Int32)} : (rZ X).1[11]? = some (.inr 2) := rfl
theorem k0_12 {X : Nat × (Nat → Int32)} : (rZ X).1[12]? = some (.inl (162, .int)) := rfl
theorem k0_13 {X : Nat × (Nat → Int32)} : (rZ X).1[13]? = some (.inl (32, .int)) := rfl
theorem k0_14 {X : Nat × (Nat → Int32)} : (rZ X).1[14]? = some (.inr 2) := rfl
theorem k0_15 {X : Nat × (Nat → Int32)} : (rZ X).1[15]? = some (.inl (162, .int)) := rfl
theorem k0_16 {X : Nat × (Nat → Int32)} : (rZ X).1[16]? = some (.inl (32, .int)) := rfl
theorem k0_17 {X : Nat × (Nat → Int32)} : (rZ X).1[17]? = some (.inr 2) := rfl
theorem k0_18 {X : Nat × (Nat → Int32)} : (rZ X).1[18]? = some (.inl (162, .int)) := rfl
theorem k0_19 {X : Nat × (Nat → Int32)} : (rZ X).1[19]? = some (.inl (32, .int)) := rfl
theorem k0_20 {X : Nat × (Nat → Int32)} : (rZ X).1[20]? = some (.inr 2) := rfl
theorem k0_21 {X : Nat × (Nat → Int32)} : (rZ X).1[21]? = some (.inl (162, .int)) := rfl
theorem k0_22 {X : Nat × (Nat → Int32)} : (rZ X).1[22]? = some (.inl (32, .int)) := rfl
theorem k0_23 {X : Nat × (Nat → Int32)} : (rZ X).1[23]? = some (.inr 4) := rfl
theorem k0_24 {X : Nat × (Nat → Int32)} : (rZ X).1[24]? = some (.inl (4, .object "RingDrop$Formula")) := rfl
theorem k0_25 {X : Nat × (Nat → Int32)} : (rZ X).1[25]? = some (.inr 2) := rfl
theorem k0_26 {X : Nat × (Nat → Int32)} : (rZ X).1[26]? = some (.inl (162, .int)) := rfl
theorem k0_27 {X : Nat × (Nat → Int32)} : (rZ X).1[27]? = some (.inl (32, .int)) := rfl
theorem k0_28 {X : Nat × (Nat → Int32)} : (rZ X).1[28]? = some (.inr 2) := rfl
theorem k0_29 {X : Nat × (Nat → Int32)} : (rZ X).1[29]? = some (.inl (162, .int)) := rfl
theorem k0_30 {X : Nat × (Nat → Int32)} : (rZ X).1[30]? = some (.inl (32, .int)) := rfl
theorem k0_31 {X : Nat × (Nat → Int32)} : (rZ X).1[31]? = some (.inr 2) := rfl
theorem k0_32 {X : Nat × (Nat → Int32)} : (rZ X).1[32]? = some (.inl (162, .int)) := rfl
theorem k0_33 {X : Nat × (Nat → Int32)} : (rZ X).1[33]? = some (.inl (32, .int)) := rfl
theorem k0_34 {X : Nat × (Nat → Int32)} : (rZ X).1[34]? = some (.inr 2) := rfl
theorem k0_35 {X : Nat × (Nat → Int32)} : (rZ X).1[35]? = some (.inl (162, .int)) := rfl
theorem k0_36 {X : Nat × (Nat → Int32)} : (rZ X).1[36]? = some (.inl (32, .int)) := rfl
theorem k0_37 {X : Nat × (Nat → Int32)} : (rZ X).1[37]? = some (.inl (12, .array .int)) := rfl
theorem k0_38 {X : Nat × (Nat → Int32)} : (rZ X).1[38]? = some (.inl (12, .int)) := rfl
theorem k0_39 {X : Nat × (Nat → Int32)} : (rZ X).1[39]? = some (.inl (12, .int)) := rfl
theorem k0_40 {X : Nat × (Nat → Int32)} : (rZ X).1[40]? = some (.inl (12, .int)) := rfl
theorem k0_41 {X : Nat × (Nat → Int32)} : (rZ X).1[41]? = some (.inl (12, .int)) := rfl
theorem k0_42 {X : Nat × (Nat → Int32)} : (rZ X).1[42]? = some (.inl (12, .int)) := rfl
theorem k0_43 {X : Nat × (Nat → Int32)} : (rZ X).1[43]? = some (.inl (12, .int)) := rfl
theorem k0_44 {X : Nat × (Nat → Int32)} : (rZ X).1[44]? = some (.inl (12, .int)) := rfl
theorem k0_45 {X : Nat × (Nat → Int32)} : (rZ X).1[45]? = some (.inl (12, .int)) := rfl
theorem k0_46 {X : Nat × (Nat → Int32)} : (rZ X).1[46]? = some (.inl (12, .int)) := rfl
theorem k0_47 {X : Nat × (Nat → Int32)} : (rZ X).1[47]? = some (.inl (12, .int)) := rfl
theorem k0_48 {X : Nat × (Nat → Int32)} : (rZ X).1[48]? = some (.inl (12, .int)) := rfl
theorem k0_49 {X : Nat × (Nat → Int32)} : (rZ X).1[49]? = some (.inl (12, .int)) := rfl
theorem k0_50 {X : Nat × (Nat → Int32)} : (rZ X).1[50]? = some (.inl (12, .int)) := rfl
theorem k0_51 {X : Nat × (Nat → Int32)} : (rZ X).1[51]? = some (.inl (12, .int)) := rfl
theorem k0_52 {X : Nat × (Nat → Int32)} : (rZ X).1[52]? = some (.inl (6, .array .int)) := rfl
theorem k0_53 {X : Nat × (Nat → Int32)} : (rZ X).1[53]? = some (.inl (24, .int)) := rfl
theorem k0_54 {X : Nat × (Nat → Int32)} : (rZ X).1[54]? = some (.inl (24, .int)) := rfl
theorem k0_55 {X : Nat × (Nat → Int32)} : (rZ X).1[55]? = some (.inl (24, .int)) := rfl
theorem k0_56 {X : Nat × (Nat → Int32)} : (rZ X).1[56]? = some (.inl (24, .int)) := rfl
theorem k0_57 {X : Nat × (Nat → Int32)} : (rZ X).1[57]? = some (.inl (24, .int)) := rfl
theorem k0_58 {X : Nat × (Nat → Int32)} : (rZ X).1[58]? = some (.inl (24, .int)) := rfl
theorem k0_59 {X : Nat × (Nat → Int32)} : (rZ X).1[59]? = some (.inl (24, .int)) := rfl
theorem k0_60 {X : Nat × (Nat → Int32)} : (rZ X).1[60]? = some (.inr 5) := rfl
theorem k0_61 {X : Nat × (Nat → Int32)} : (rZ X).1[61]? = some (.inl (24, .int)) := rfl
theorem k0_62 {X : Nat × (Nat → Int32)} : (rZ X).1[62]? = some (.inl (24, .int)) := rfl
theorem k0_63 {X : Nat × (Nat → Int32)} : (rZ X).1[63]? = some (.inl (7, .int)) := rfl
theorem k0_64 {X : Nat × (Nat → Int32)} : (rZ X).1[64]? = some (.inl (2, .array .int)) := rfl
theorem k0_65 {X : Nat × (Nat → Int32)} : (rZ X).1[65]? = some (.inl (24, .int)) := rfl
theorem k0_66 {X : Nat × (Nat → Int32)} : (rZ X).1[66]? = some (.inl (24, .int)) := rfl
theorem k0_67 {X : Nat × (Nat → Int32)} : (rZ X).1[67]? = some (.inl (2, .array .int)) := rfl
theorem k0_68 {X : Nat × (Nat → Int32)} : (rZ X).1[68]? = some (.inl (24, .int)) := rfl
theorem k0_69 {X : Nat × (Nat → Int32)} : (rZ X).1[69]? = some (.inl (24, .int)) := rfl
theorem k0_70 {X : Nat × (Nat → Int32)} : (rZ X).1[70]? = some (.inl (24, .int)) := rfl
theorem k0_71 {X : Nat × (Nat → Int32)} : (rZ X).1[71]? = some (.inl (24, .int)) := rfl
theorem k0_72 {X : Nat × (Nat → Int32)} : (rZ X).1[72]? = some (.inl (120, .int)) := rfl
theorem k0_73 {X : Nat × (Nat → Int32)} : (rZ X).1[73]? = some (.inl (12, .object "RingDrop$Body")) := rfl
theorem k0_74 {X : Nat × (Nat → Int32)} : (rZ X).1[74]? = some (.inr 0) := rfl
theorem k0_75 {X : Nat × (Nat → Int32)} : (rZ X).1[75]? = some (.inl (12, .int)) := rfl
theorem k0_76 {X : Nat × (Nat → Int32)} : (rZ X).1[76]? = some (.inr 0) := rfl
theorem k0_77 {X : Nat × (Nat → Int32)} : (rZ X).1[77]? = some (.inl (12, .int)) := rfl
theorem k0_78 {X : Nat × (Nat → Int32)} : (rZ X).1[78]? = some (.inr 0) := rfl
theorem k0_79 {X : Nat × (Nat → Int32)} : (rZ X).1[79]? = some (.inl (12, .int)) := rfl
theorem k0_80 {X : Nat × (Nat → Int32)} : (rZ X).1[80]? = some (.inr 0) := rfl
theorem k0_81 {X : Nat × (Nat → Int32)} : (rZ X).1[81]? = some (.inl (12, .int)) := rfl
theorem k0_82 {X : Nat × (Nat → Int32)} : (rZ X).1[82]? = some (.inr 0) := rfl
theorem k0_83 {X : Nat × (Nat → Int32)} : (rZ X).1[83]? = some (.inl (12, .int)) := rfl
theorem k0_84 {X : Nat × (Nat → Int32)} : (rZ X).1[84]? = some (.inr 0) := rfl
theorem k0_85 {X : Nat × (Nat → Int32)} : (rZ X).1[85]? = some (.inl (12, .int)) := rfl
theorem k0_86 {X : Nat × (Nat → Int32)} : (rZ X).1[86]? = some (.inr 0) := rfl
theorem k0_87 {X : Nat × (Nat → Int32)} : (rZ X).1[87]? = some (.inl (12, .int)) := rfl
theorem k0_88 {X : Nat × (Nat → Int32)} : (rZ X).1[88]? = some (.inr 0) := rfl
theorem k0_89 {X : Nat × (Nat → Int32)} : (rZ X).1[89]? = some (.inl (12, .int)) := rfl
theorem k0_90 {X : Nat × (Nat → Int32)} : (rZ X).1[90]? = some (.inr 0) := rfl
theorem k0_91 {X : Nat × (Nat → Int32)} : (rZ X).1[91]? = some (.inl (12, .int)) := rfl
theorem k0_92 {X : Nat × (Nat → Int32)} : (rZ X).1[92]? = some (.inr 0) := rfl
theorem k0_93 {X : Nat × (Nat → Int32)} : (rZ X).1[93]? = some (.inl (12, .int)) := rfl
theorem k0_94 {X : Nat × (Nat → Int32)} : (rZ X).1[94]? = some (.inr 0) := rfl
theorem k0_95 {X : Nat × (Nat → Int32)} : (rZ X).1[95]? = some (.inl (12, .int)) := rfl
theorem k0_96 {X : Nat × (Nat → Int32)} : (rZ X).1[96]? = some (.inr 0) := rfl
theorem k0_97 {X : Nat × (Nat → Int32)} : (rZ X).1[97]? = some (.inl (12, .int)) := rfl
theorem k0_98 {X : Nat × (Nat → Int32)} : (rZ X).1[98]? = some (.inr 5) := rfl
theorem k0_99 {X : Nat × (Nat → Int32)} : (rZ X).1[99]? = some (.inl (24, .int)) := rfl
theorem k0_100 {X : Nat × (Nat → Int32)} : (rZ X).1[100]? = some (.inl (24, .int)) := rfl
theorem k0_101 {X : Nat × (Nat → Int32)} : (rZ X).1[101]? = some (.inl (7, .int)) := rfl
theorem k0_102 {X : Nat × (Nat → Int32)} : (rZ X).1[102]? = some (.inl (2, .array .int)) := rfl
theorem k0_103 {X : Nat × (Nat → Int32)} : (rZ X).1[103]? = some (.inl (24, .int)) := rfl
theorem k0_104 {X : Nat × (Nat → Int32)} : (rZ X).1[104]? = some (.inl (24, .int)) := rfl
theorem k0_105 {X : Nat × (Nat → Int32)} : (rZ X).1[105]? = some (.inl (2, .array .int)) := rfl
theorem k0_106 {X : Nat × (Nat → Int32)} : (rZ X).1[106]? = some (.inl (24, .int)) := rfl
theorem k0_107 {X : Nat × (Nat → Int32)} : (rZ X).1[107]? = some (.inl (24, .int)) := rfl
theorem k0_108 {X : Nat × (Nat → Int32)} : (rZ X).1[108]? = some (.inl (24, .int)) := rfl
theorem k0_109 {X : Nat × (Nat → Int32)} : (rZ X).1[109]? = some (.inl (24, .int)) := rfl
theorem k0_110 {X : Nat × (Nat → Int32)} : (rZ X).1[110]? = some (.inl (120, .int)) := rfl
theorem k0_111 {X : Nat × (Nat → Int32)} : (rZ X).1[111]? = some (.inl (12, .object "RingDrop$Body")) := rfl
theorem k0_112 {X : Nat × (Nat → Int32)} : (rZ X).1[112]? = some (.inr 0) := rfl
theorem k0_113 {X : Nat × (Nat → Int32)} : (rZ X).1[113]? = some (.inl (12, .int)) := rfl
theorem k0_114 {X : Nat × (Nat → Int32)} : (rZ X).1[114]? = some (.inr 0) := rfl
theorem k0_115 {X : Nat × (Nat → Int32)} : (rZ X).1[115]? = some (.inl (12, .int)) := rfl
theorem k0_116 {X : Nat × (Nat → Int32)} : (rZ X).1[116]? = some (.inr 0) := rfl
theorem k0_117 {X : Nat × (Nat → Int32)} : (rZ X).1[117]? = some (.inl (12, .int)) := rfl
theorem k0_118 {X : Nat × (Nat → Int32)} : (rZ X).1[118]? = some (.inr 0) := rfl
theorem k0_119 {X : Nat × (Nat → Int32)} : (rZ X).1[119]? = some (.inl (12, .int)) := rfl
theorem k0_120 {X : Nat × (Nat → Int32)} : (rZ X).1[120]? = some (.inr 0) := rfl
theorem k0_121 {X : Nat × (Nat → Int32)} : (rZ X).1[121]? = some (.inl (12, .int)) := rfl
theorem k0_122 {X : Nat × (Nat → Int32)} : (rZ X).1[122]? = some (.inr 0) := rfl
theorem k0_123 {X : Nat × (Nat → Int32)} : (rZ X).1[123]? = some (.inl (12, .int)) := rfl
theorem k0_124 {X : Nat × (Nat → Int32)} : (rZ X).1[124]? = some (.inr 0) := rfl
theorem k0_125 {X : Nat × (Nat → Int32)} : (rZ X).1[125]? = some (.inl (12, .int)) := rfl
theorem k0_126 {X : Nat × (Nat → Int32)} : (rZ X).1[126]? = some (.inr 0) := rfl
theorem k0_127 {X : Nat × (Nat → Int32)} : (rZ X).1[127]? = some (.inl (12, .int)) := rfl
theorem k0_128 {X : Nat × (Nat → Int32)} : (rZ X).1[128]? = some (.inr 0) := rfl
theorem k0_129 {X : Nat × (Nat → Int32)} : (rZ X).1[129]? = some (.inl (12, .int)) := rfl
theorem k0_130 {X : Nat × (Nat → Int32)} : (rZ X).1[130]? = some (.inr 0) := rfl
theorem k0_131 {X : Nat × (Nat → Int32)} : (rZ X).1[131]? = some (.inl (12, .int)) := rfl
theorem k0_132 {X : Nat × (Nat → Int32)} : (rZ X).1[132]? = some (.inr 0) := rfl
theorem k0_133 {X : Nat × (Nat → Int32)} : (rZ X).1[133]? = some (.inl (12, .int)) := rfl
theorem k0_134 {X : Nat × (Nat → Int32)} : (rZ X).1[134]? = some (.inr 0) := rfl
theorem k0_135 {X : Nat × (Nat → Int32)} : (rZ X).1[135]? = some (.inl (12, .int)) := rfl
theorem k0_136 {X : Nat × (Nat → Int32)} : (rZ X).1[136]? = some (.inr 5) := rfl
theorem k0_137 {X : Nat × (Nat → Int32)} : (rZ X).1[137]? = some (.inl (24, .int)) := rfl
theorem k0_138 {X : Nat × (Nat → Int32)} : (rZ X).1[138]? = some (.inl (24, .int)) := rfl
theorem k0_139 {X : Nat × (Nat → Int32)} : (rZ X).1[139]? = some (.inl (7, .int)) := rfl
theorem k0_140 {X : Nat × (Nat → Int32)} : (rZ X).1[140]? = some (.inl (2, .array .int)) := rfl
theorem k0_141 {X : Nat × (Nat → Int32)} : (rZ X).1[141]? = some (.inl (24, .int)) := rfl
theorem k0_142 {X : Nat × (Nat → Int32)} : (rZ X).1[142]? = some (.inl (24, .int)) := rfl
theorem k0_143 {X : Nat × (Nat → Int32)} : (rZ X).1[143]? = some (.inl (2, .array .int)) := rfl
theorem k0_144 {X : Nat × (Nat → Int32)} : (rZ X).1[144]? = some (.inl (24, .int)) := rfl
theorem k0_145 {X : Nat × (Nat → Int32)} : (rZ X).1[145]? = some (.inl (24, .int)) := rfl
theorem k0_146 {X : Nat × (Nat → Int32)} : (rZ X).1[146]? = some (.inl (24, .int)) := rfl
theorem k0_147 {X : Nat × (Nat → Int32)} : (rZ X).1[147]? = some (.inl (24, .int)) := rfl
theorem k0_148 {X : Nat × (Nat → Int32)} : (rZ X).1[148]? = some (.inl (120, .int)) := rfl
theorem k0_149 {X : Nat × (Nat → Int32)} : (rZ X).1[149]? = some (.inl (12, .object "RingDrop$Body")) := rfl
theorem k0_150 {X : Nat × (Nat → Int32)} : (rZ X).1[150]? = some (.inr 0) := rfl
theorem k0_151 {X : Nat × (Nat → Int32)} : (rZ X).1[151]? = some (.inl (12, .int)) := rfl
theorem k0_152 {X : Nat × (Nat → Int32)} : (rZ X).1[152]? = some (.inr 0) := rfl
theorem k0_153 {X : Nat × (Nat → Int32)} : (rZ X).1[153]? = some (.inl (12, .int)) := rfl
theorem k0_154 {X : Nat × (Nat → Int32)} : (rZ X).1[154]? = some (.inr 0) := rfl
theorem k0_155 {X : Nat × (Nat → Int32)} : (rZ X).1[155]? = some (.inl (12, .int)) := rfl
theorem k0_156 {X : Nat × (Nat → Int32)} : (rZ X).1[156]? = some (.inr 0) := rfl
theorem k0_157 {X : Nat × (Nat → Int32)} : (rZ X).1[157]? = some (.inl (12, .int)) := rfl
theorem k0_158 {X : Nat × (Nat → Int32)} : (rZ X).1[158]? = some (.inr 0) := rfl
theorem k0_159 {X : Nat × (Nat → Int32)} : (rZ X).1[159]? = some (.inl (12, .int)) := rfl
theorem k0_160 {X : Nat × (Nat → Int32)} : (rZ X).1[160]? = some (.inr 0) := rfl
theorem k0_161 {X : Nat × (Nat → Int32)} : (rZ X).1[161]? = some (.inl (12, .int)) := rfl
theorem k0_162 {X : Nat × (Nat → Int32)} : (rZ X).1[162]? = some (.inr 0) := rfl
theorem k0_163 {X : Nat × (Nat → Int32)} : (rZ X).1[163]? = some (.inl (12, .int)) := rfl
theorem k0_164 {X : Nat × (Nat → Int32)} : (rZ X).1[164]? = some (.inr 0) := rfl
theorem k0_165 {X : Nat × (Nat → Int32)} : (rZ X).1[165]? = some (.inl (12, .int)) := rfl
theorem k0_166 {X : Nat × (Nat → Int32)} : (rZ X).1[166]? = some (.inr 0) := rfl
theorem k0_167 {X : Nat × (Nat → Int32)} : (rZ X).1[167]? = some (.inl (12, .int)) := rfl
theorem k0_168 {X : Nat × (Nat → Int32)} : (rZ X).1[168]? = some (.inr 0) := rfl
theorem k0_169 {X : Nat × (Nat → Int32)} : (rZ X).1[169]? = some (.inl (12, .int)) := rfl
theorem k0_170 {X : Nat × (Nat → Int32)} : (rZ X).1[170]? = some (.inr 0) := rfl
theorem k0_171 {X : Nat × (Nat → Int32)} : (rZ X).1[171]? = some (.inl (12, .int)) := rfl
theorem k0_172 {X : Nat × (Nat → Int32)} : (rZ X).1[172]? = some (.inr 0) := rfl
theorem k0_173 {X : Nat × (Nat → Int32)} : (rZ X).1[173]? = some (.inl (12, .int)) := rfl
theorem k0_174 {X : Nat × (Nat → Int32)} : (rZ X).1[174]? = some (.inr 8) := rfl
theorem k0_175 {X : Nat × (Nat → Int32)} : (rZ X).1[175]? = some (.inl (160, .int)) := rfl
theorem k0_176 {X : Nat × (Nat → Int32)} : (rZ X).1[176]? = some (.inl (3060, .int)) := rfl
theorem k0_177 {X : Nat × (Nat → Int32)} : (rZ X).1[177]? = some (.inl (3060, .int)) := rfl
theorem k0_178 {X : Nat × (Nat → Int32)} : (rZ X).1[178]? = some (.inl (9, .int)) := rfl
theorem k0_179 {X : Nat × (Nat → Int32)} : (rZ X).1[179]? = some (.inl (9, .int)) := rfl
theorem k0_180 {X : Nat × (Nat → Int32)} : (rZ X).1[180]? = some (.inl (810, .int)) := rfl
theorem k0_181 {X : Nat × (Nat → Int32)} : (rZ X).1[181]? = some (.inl (810, .int)) := rfl
theorem k0_182 {X : Nat × (Nat → Int32)} : (rZ X).1[182]? = some (.inl (810, .int)) := rfl
theorem k0_183 {X : Nat × (Nat → Int32)} : (rZ X).1[183]? = some (.inl (7, .int)) := rfl
theorem k0_184 {X : Nat × (Nat → Int32)} : (rZ X).1[184]? = some (.inl (80, .int)) := rfl
theorem k0_185 {X : Nat × (Nat → Int32)} : (rZ X).1[185]? = some (.inl (156, .int)) := rfl
theorem k0_186 {X : Nat × (Nat → Int32)} : (rZ X).1[186]? = some (.inl (12, .int)) := rfl
theorem k0_187 {X : Nat × (Nat → Int32)} : (rZ X).1[187]? = some (.inl (416, .int)) := rfl
theorem k0_188 {X : Nat × (Nat → Int32)} : (rZ X).1[188]? = some (.inl (416, .int)) := rfl
theorem k0_189 {X : Nat × (Nat → Int32)} : (rZ X).1[189]? = some (.inl (416, .int)) := rfl
theorem k0_190 {X : Nat × (Nat → Int32)} : (rZ X).1[190]? = some (.inl (12, .int)) := rfl
theorem k0_191 {X : Nat × (Nat → Int32)} : (rZ X).1[191]? = some (.inl (12, .int)) := rfl
theorem k0_192 {X : Nat × (Nat → Int32)} : (rZ X).1[192]? = some (.inl (12, .int)) := rfl
theorem k0_193 {X : Nat × (Nat → Int32)} : (rZ X).1[193]? = some (.inl (48, .int)) := rfl
theorem k0_194 {X : Nat × (Nat → Int32)} : (rZ X).1[194]? = some (.inl (24, .int)) := rfl
theorem k0_195 {X : Nat × (Nat → Int32)} : (rZ X).1[195]? = some (.inl (144, .int)) := rfl
theorem k0_196 {X : Nat × (Nat → Int32)} : (rZ X).1[196]? = some (.inl (24, .int)) := rfl
theorem k0_197 {X : Nat × (Nat → Int32)} : (rZ X).1[197]? = some (.inl (1, .long)) := rfl
theorem g0_0_0 {X : Nat × (Nat → Int32)} {v : rV} : rVal (rtab 7 0) (rZ X).2.1 v 0 0 = .ref 1 := rfl
theorem g0_0_1 {X : Nat × (Nat → Int32)} {v : rV} : rVal (rtab 7 1) (rZ X).2.1 v 0 1 = .ref 3 := rfl
theorem g0_0_2 {X : Nat × (Nat → Int32)} {v : rV} : rVal (rtab 7 2) (rZ X).2.1 v 0 2 = .ref 7 := rfl
theorem g0_0_3 {X : Nat × (Nat → Int32)} {v : rV} : rVal (rtab 7 3) (rZ X).2.1 v 0 3 = .ref 9 := rfl
theorem g0_0_4 {X : Nat × (Nat → Int32)} {v : rV} : rVal (rtab 7 4) (rZ X).2.1 v 0 4 = .ref 23 := rfl
theorem g0_0_5 {X : Nat × (Nat → Int32)} {v : rV} : rVal (rtab 7 5) (rZ X).2.1 v 0 5 = .ref 37 := rfl
theorem g0_0_6 {X : Nat × (Nat → Int32)} {v : rV} : rVal (rtab 7 6) (rZ X).2.1 v 0 6 = .ref 50 := rfl
theorem g0_0_7 {X : Nat × (Nat → Int32)} {v : rV} : rVal (rtab 7 7) (rZ X).2.1 v 0 7 = .ref 51 := rfl
theorem g0_0_8 {X : Nat × (Nat → Int32)} {v : rV} : rVal (rtab 7 8) (rZ X).2.1 v 0 8 = .ref 52 := rfl
theorem g0_0_9 {X : Nat × (Nat → Int32)} {v : rV} : rVal (rtab 7 9) (rZ X).2.1 v 0 9 = .ref 59 := rfl
theorem g0_0_10 {X : Nat × (Nat → Int32)} {v : rV} : rVal (rtab 7 10) (rZ X).2.1 v 0 10 = .ref 60 := rfl
theorem g0_0_11 {X : Nat × (Nat → Int32)} {v : rV} : rVal (rtab 7 11) (rZ X).2.1 v 0 11 = .ref 98 := rfl
theorem g0_0_12 {X : Nat × (Nat → Int32)} {v : rV} : rVal (rtab 7 12) (rZ X).2.1 v 0 12 = .ref 136 := rfl
theorem g0_1_0 {X : Nat × (Nat → Int32)} {v : rV} : rVal (rtab 6 0) (rZ X).2.1 v 1 0 = .ref 2 := rfl
theorem g0_3_0 {X : Nat × (Nat → Int32)} {v : rV} : rVal (rtab 3 0) (rZ X).2.1 v 3 0 = .ref 1 := rfl
theorem g0_3_1 {X : Nat × (Nat → Int32)} {v : rV} : rVal (rtab 3 1) (rZ X).2.1 v 3 1 = .ref 4 := rfl
theorem g0_4_0 {X : Nat × (Nat → Int32)} {v : rV} : rVal (rtab 2 0) (rZ X).2.1 v 4 0 = .ref 5 := rfl
theorem g0_4_1 {X : Nat × (Nat → Int32)} {v : rV} : rVal (rtab 2 1) (rZ X).2.1 v 4 1 = .ref 6 := rfl
theorem g0_7_0 {X : Nat × (Nat → Int32)} {v : rV} : rVal (rtab 1 0) (rZ X).2.1 v 7 0 = .ref 1 := rfl
theorem g0_7_1 {X : Nat × (Nat → Int32)} {v : rV} : rVal (rtab 1 1) (rZ X).2.1 v 7 1 = .ref 8 := rfl
theorem g0_9_0 {X : Nat × (Nat → Int32)} {v : rV} : rVal (rtab 4 0) (rZ X).2.1 v 9 0 = .ref 10 := rfl
theorem g0_11_0 {X : Nat × (Nat → Int32)} {v : rV} : rVal (rtab 2 0) (rZ X).2.1 v 11 0 = .ref 12 := rfl
theorem g0_11_1 {X : Nat × (Nat → Int32)} {v : rV} : rVal (rtab 2 1) (rZ X).2.1 v 11 1 = .ref 13 := rfl
theorem g0_14_0 {X : Nat × (Nat → Int32)} {v : rV} : rVal (rtab 2 0) (rZ X).2.1 v 14 0 = .ref 15 := rfl
theorem g0_14_1 {X : Nat × (Nat → Int32)} {v : rV} : rVal (rtab 2 1) (rZ X).2.1 v 14 1 = .ref 16 := rfl
theorem g0_17_0 {X : Nat × (Nat → Int32)} {v : rV} : rVal (rtab 2 0) (rZ X).2.1 v 17 0 = .ref 18 := rfl
theorem g0_17_1 {X : Nat × (Nat → Int32)} {v : rV} : rVal (rtab 2 1) (rZ X).2.1 v 17 1 = .ref 19 := rfl
theorem g0_20_0 {X : Nat × (Nat → Int32)} {v : rV} : rVal (rtab 2 0) (rZ X).2.1 v 20 0 = .ref 21 := rfl
theorem g0_20_1 {X : Nat × (Nat → Int32)} {v : rV} : rVal (rtab 2 1) (rZ X).2.1 v 20 1 = .ref 22 := rfl
theorem g0_23_0 {X : Nat × (Nat → Int32)} {v : rV} : rVal (rtab 4 0) (rZ X).2.1 v 23 0 = .ref 24 := rfl
theorem g0_25_0 {X : Nat × (Nat → Int32)} {v : rV} : rVal (rtab 2 0) (rZ X).2.1 v 25 0 = .ref 26 := rfl
theorem g0_25_1 {X : Nat × (Nat → Int32)} {v : rV} : rVal (rtab 2 1) (rZ X).2.1 v 25 1 = .ref 27 := rfl
theorem g0_28_0 {X : Nat × (Nat → Int32)} {v : rV} : rVal (rtab 2 0) (rZ X).2.1 v 28 0 = .ref 29 := rfl
theorem g0_28_1 {X : Nat × (Nat → Int32)} {v : rV} : rVal (rtab 2 1) (rZ X).2.1 v 28 1 = .ref 30 := rfl
theorem g0_31_0 {X : Nat × (Nat → Int32)} {v : rV} : rVal (rtab 2 0) (rZ X).2.1 v 31 0 = .ref 32 := rfl
theorem g0_31_1 {X : Nat × (Nat → Int32)} {v : rV} : rVal (rtab 2 1) (rZ X).2.1 v 31 1 = .ref 33 := rfl
theorem g0_34_0 {X : Nat × (Nat → Int32)} {v : rV} : rVal (rtab 2 0) (rZ X).2.1 v 34 0 = .ref 35 := rfl
theorem g0_34_1 {X : Nat × (Nat → Int32)} {v : rV} : rVal (rtab 2 1) (rZ X).2.1 v 34 1 = .ref 36 := rfl
theorem g0_60_0 {X : Nat × (Nat → Int32)} {v : rV} : rVal (rtab 5 0) (rZ X).2.1 v 60 0 = .ref 61 := rfl
theorem g0_60_1 {X : Nat × (Nat → Int32)} {v : rV} : rVal (rtab 5 1) (rZ X).2.1 v 60 1 = .ref 62 := rfl
theorem g0_60_2 {X : Nat × (Nat → Int32)} {v : rV} : rVal (rtab 5 2) (rZ X).2.1 v 60 2 = .ref 63 := rfl
theorem g0_60_4 {X : Nat × (Nat → Int32)} {v : rV} : rVal (rtab 5 4) (rZ X).2.1 v 60 4 = .ref 64 := rfl
theorem g0_60_5 {X : Nat × (Nat → Int32)} {v : rV} : rVal (rtab 5 5) (rZ X).2.1 v 60 5 = .ref 67 := rfl
theorem g0_60_6 {X : Nat × (Nat → Int32)} {v : rV} : rVal (rtab 5 6) (rZ X).2.1 v 60 6 = .ref 70 := rfl
theorem g0_60_7 {X : Nat × (Nat → Int32)} {v : rV} : rVal (rtab 5 7) (rZ X).2.1 v 60 7 = .ref 71 := rfl
theorem g0_60_8 {X : Nat × (Nat → Int32)} {v : rV} : rVal (rtab 5 8) (rZ X).2.1 v 60 8 = .ref 72 := rfl
theorem g0_60_9 {X : Nat × (Nat → Int32)} {v : rV} : rVal (rtab 5 9) (rZ X).2.1 v 60 9 = .ref 73 := rfl
theorem g0_74_0 {X : Nat × (Nat → Int32)} {v : rV} : rVal (rtab 0 0) (rZ X).2.1 v 74 0 = .ref 75 := rfl
theorem g0_76_0 {X : Nat × (Nat → Int32)} {v : rV} : rVal (rtab 0 0) (rZ X).2.1 v 76 0 = .ref 77 := rfl
theorem g0_78_0 {X : Nat × (Nat → Int32)} {v : rV} : rVal (rtab 0 0) (rZ X).2.1 v 78 0 = .ref 79 := rfl
theorem g0_80_0 {X : Nat × (Nat → Int32)} {v : rV} : rVal (rtab 0 0) (rZ X).2.1 v 80 0 = .ref 81 := rfl
theorem g0_82_0 {X : Nat × (Nat → Int32)} {v : rV} : rVal (rtab 0 0) (rZ X).2.1 v 82 0 = .ref 83 := rfl
theorem g0_84_0 {X : Nat × (Nat → Int32)} {v : rV} : rVal (rtab 0 0) (rZ X).2.1 v 84 0 = .ref 85 := rfl
theorem g0_86_0 {X : Nat × (Nat → Int32)} {v : rV} : rVal (rtab 0 0) (rZ X).2.1 v 86 0 = .ref 87 := rfl
theorem g0_88_0 {X : Nat × (Nat → Int32)} {v : rV} : rVal (rtab 0 0) (rZ X).2.1 v 88 0 = .ref 89 := rfl
theorem g0_90_0 {X : Nat × (Nat → Int32)} {v : rV} : rVal (rtab 0 0) (rZ X).2.1 v 90 0 = .ref 91 := rfl
theorem g0_92_0 {X : Nat × (Nat → Int32)} {v : rV} : rVal (rtab 0 0) (rZ X).2.1 v 92 0 = .ref 93 := rfl
theorem g0_94_0 {X : Nat × (Nat → Int32)} {v : rV} : rVal (rtab 0 0) (rZ X).2.1 v 94 0 = .ref 95 := rfl
theorem g0_96_0 {X : Nat × (Nat → Int32)} {v : rV} : rVal (rtab 0 0) (rZ X).2.1 v 96 0 = .ref 97 := rfl
theorem g0_98_0 {X : Nat × (Nat → Int32)} {v : rV} : rVal (rtab 5 0) (rZ X).2.1 v 98 0 = .ref 99 := rfl
theorem g0_98_1 {X : Nat × (Nat → Int32)} {v : rV} : rVal (rtab 5 1) (rZ X).2.1 v 98 1 = .ref 100 := rfl
theorem g0_98_2 {X : Nat × (Nat → Int32)} {v : rV} : rVal (rtab 5 2) (rZ X).2.1 v 98 2 = .ref 101 := rfl
theorem g0_98_4 {X : Nat × (Nat → Int32)} {v : rV} : rVal (rtab 5 4) (rZ X).2.1 v 98 4 = .ref 102 := rfl
theorem g0_98_5 {X : Nat × (Nat → Int32)} {v : rV} : rVal (rtab 5 5) (rZ X).2.1 v 98 5 = .ref 105 := rfl
theorem g0_98_6 {X : Nat × (Nat → Int32)} {v : rV} : rVal (rtab 5 6) (rZ X).2.1 v 98 6 = .ref 108 := rfl
theorem g0_98_7 {X : Nat × (Nat → Int32)} {v : rV} : rVal (rtab 5 7) (rZ X).2.1 v 98 7 = .ref 109 := rfl
theorem g0_98_8 {X : Nat × (Nat → Int32)} {v : rV} : rVal (rtab 5 8) (rZ X).2.1 v 98 8 = .ref 110 := rfl
theorem g0_98_9 {X : Nat × (Nat → Int32)} {v : rV} : rVal (rtab 5 9) (rZ X).2.1 v 98 9 = .ref 111 := rfl
theorem g0_112_0 {X : Nat × (Nat → Int32)} {v : rV} : rVal (rtab 0 0) (rZ X).2.1 v 112 0 = .ref 113 := rfl
theorem g0_114_0 {X : Nat × (Nat → Int32)} {v : rV} : rVal (rtab 0 0) (rZ X).2.1 v 114 0 = .ref 115 := rfl
theorem g0_116_0 {X : Nat × (Nat → Int32)} {v : rV} : rVal (rtab 0 0) (rZ X).2.1 v 116 0 = .ref 117 := rfl
theorem g0_118_0 {X : Nat × (Nat → Int32)} {v : rV} : rVal (rtab 0 0) (rZ X).2.1 v 118 0 = .ref 119 := rfl
theorem g0_120_0 {X : Nat × (Nat → Int32)} {v : rV} : rVal (rtab 0 0) (rZ X).2.1 v 120 0 = .ref 121 := rfl
theorem g0_122_0 {X : Nat × (Nat → Int32)} {v : rV} : rVal (rtab 0 0) (rZ X).2.1 v 122 0 = .ref 123 := rfl
theorem g0_124_0 {X : Nat × (Nat → Int32)} {v : rV} : rVal (rtab 0 0) (rZ X).2.1 v 124 0 = .ref 125 := rfl
theorem g0_126_0 {X : Nat × (Nat → Int32)} {v : rV} : rVal (rtab 0 0) (rZ X).2.1 v 126 0 = .ref 127 := rfl
theorem g0_128_0 {X : Nat × (Nat → Int32)} {v : rV} : rVal (rtab 0 0) (rZ X).2.1 v 128 0 = .ref 129 := rfl
theorem g0_130_0 {X : Nat × (Nat → Int32)} {v : rV} : rVal (rtab 0 0) (rZ X).2.1 v 130 0 = .ref 131 := rfl
theorem g0_132_0 {X : Nat × (Nat → Int32)} {v : rV} : rVal (rtab 0 0) (rZ X).2.1 v 132 0 = .ref 133 := rfl
theorem g0_134_0 {X : Nat × (Nat → Int32)} {v : rV} : rVal (rtab 0 0) (rZ X).2.1 v 134 0 = .ref 135 := rfl
theorem g0_136_0 {X : Nat × (Nat → Int32)} {v : rV} : rVal (rtab 5 0) (rZ X).2.1 v 136 0 = .ref 137 := rfl
theorem g0_136_1 {X : Nat × (Nat → Int32)} {v : rV} : rVal (rtab 5 1) (rZ X).2.1 v 136 1 = .ref 138 := rfl
theorem g0_136_2 {X : Nat × (Nat → Int32)} {v : rV} : rVal (rtab 5 2) (rZ X).2.1 v 136 2 = .ref 139 := rfl
theorem g0_136_4 {X : Nat × (Nat → Int32)} {v : rV} : rVal (rtab 5 4) (rZ X).2.1 v 136 4 = .ref 140 := rfl
theorem g0_136_5 {X : Nat × (Nat → Int32)} {v : rV} : rVal (rtab 5 5) (rZ X).2.1 v 136 5 = .ref 143 := rfl
theorem g0_136_6 {X : Nat × (Nat → Int32)} {v : rV} : rVal (rtab 5 6) (rZ X).2.1 v 136 6 = .ref 146 := rfl
theorem g0_136_7 {X : Nat × (Nat → Int32)} {v : rV} : rVal (rtab 5 7) (rZ X).2.1 v 136 7 = .ref 147 := rfl
theorem g0_136_8 {X : Nat × (Nat → Int32)} {v : rV} : rVal (rtab 5 8) (rZ X).2.1 v 136 8 = .ref 148 := rfl
theorem g0_136_9 {X : Nat × (Nat → Int32)} {v : rV} : rVal (rtab 5 9) (rZ X).2.1 v 136 9 = .ref 149 := rfl
theorem g0_150_0 {X : Nat × (Nat → Int32)} {v : rV} : rVal (rtab 0 0) (rZ X).2.1 v 150 0 = .ref 151 := rfl
theorem g0_152_0 {X : Nat × (Nat → Int32)} {v : rV} : rVal (rtab 0 0) (rZ X).2.1 v 152 0 = .ref 153 := rfl
theorem g0_154_0 {X : Nat × (Nat → Int32)} {v : rV} : rVal (rtab 0 0) (rZ X).2.1 v 154 0 = .ref 155 := rfl
theorem g0_156_0 {X : Nat × (Nat → Int32)} {v : rV} : rVal (rtab 0 0) (rZ X).2.1 v 156 0 = .ref 157 := rfl
theorem g0_158_0 {X : Nat × (Nat → Int32)} {v : rV} : rVal (rtab 0 0) (rZ X).2.1 v 158 0 = .ref 159 := rfl
theorem g0_160_0 {X : Nat × (Nat → Int32)} {v : rV} : rVal (rtab 0 0) (rZ X).2.1 v 160 0 = .ref 161 := rfl
theorem g0_162_0 {X : Nat × (Nat → Int32)} {v : rV} : rVal (rtab 0 0) (rZ X).2.1 v 162 0 = .ref 163 := rfl
theorem g0_164_0 {X : Nat × (Nat → Int32)} {v : rV} : rVal (rtab 0 0) (rZ X).2.1 v 164 0 = .ref 165 := rfl
theorem g0_166_0 {X : Nat × (Nat → Int32)} {v : rV} : rVal (rtab 0 0) (rZ X).2.1 v 166 0 = .ref 167 := rfl
theorem g0_168_0 {X : Nat × (Nat → Int32)} {v : rV} : rVal (rtab 0 0) (rZ X).2.1 v 168 0 = .ref 169 := rfl
theorem g0_170_0 {X : Nat × (Nat → Int32)} {v : rV} : rVal (rtab 0 0) (rZ X).2.1 v 170 0 = .ref 171 := rfl
theorem g0_172_0 {X : Nat × (Nat → Int32)} {v : rV} : rVal (rtab 0 0) (rZ X).2.1 v 172 0 = .ref 173 := rfl
theorem g0_174_1 {X : Nat × (Nat → Int32)} {v : rV} : rVal (rtab 8 1) (rZ X).2.1 v 174 1 = .ref 175 := rfl
theorem g0_174_6 {X : Nat × (Nat → Int32)} {v : rV} : rVal (rtab 8 6) (rZ X).2.1 v 174 6 = .ref 176 := rfl
theorem g0_174_7 {X : Nat × (Nat → Int32)} {v : rV} : rVal (rtab 8 7) (rZ X).2.1 v 174 7 = .ref 177 := rfl
theorem g0_174_8 {X : Nat × (Nat → Int32)} {v : rV} : rVal (rtab 8 8) (rZ X).2.1 v 174 8 = .ref 178 := rfl
theorem g0_174_9 {X : Nat × (Nat → Int32)} {v : rV} : rVal (rtab 8 9) (rZ X).2.1 v 174 9 = .ref 179 := rfl
theorem g0_174_10 {X : Nat × (Nat → Int32)} {v : rV} : rVal (rtab 8 10) (rZ X).2.1 v 174 10 = .ref 180 := rfl
theorem g0_174_11 {X : Nat × (Nat → Int32)} {v : rV} : rVal (rtab 8 11) (rZ X).2.1 v 174 11 = .ref 181 := rfl
theorem g0_174_12 {X : Nat × (Nat → Int32)} {v : rV} : rVal (rtab 8 12) (rZ X).2.1 v 174 12 = .ref 182 := rfl
theorem g0_174_17 {X : Nat × (Nat → Int32)} {v : rV} : rVal (rtab 8 17) (rZ X).2.1 v 174 17 = .ref 183 := rfl
theorem g0_174_18 {X : Nat × (Nat → Int32)} {v : rV} : rVal (rtab 8 18) (rZ X).2.1 v 174 18 = .ref 184 := rfl
theorem g0_174_19 {X : Nat × (Nat → Int32)} {v : rV} : rVal (rtab 8 19) (rZ X).2.1 v 174 19 = .ref 185 := rfl
theorem g0_174_20 {X : Nat × (Nat → Int32)} {v : rV} : rVal (rtab 8 20) (rZ X).2.1 v 174 20 = .ref 186 := rfl
theorem g0_174_24 {X : Nat × (Nat → Int32)} {v : rV} : rVal (rtab 8 24) (rZ X).2.1 v 174 24 = .ref 187 := rfl
theorem g0_174_25 {X : Nat × (Nat → Int32)} {v : rV} : rVal (rtab 8 25) (rZ X).2.1 v 174 25 = .ref 188 := rfl
theorem g0_174_26 {X : Nat × (Nat → Int32)} {v : rV} : rVal (rtab 8 26) (rZ X).2.1 v 174 26 = .ref 189 := rfl
theorem g0_174_31 {X : Nat × (Nat → Int32)} {v : rV} : rVal (rtab 8 31) (rZ X).2.1 v 174 31 = .ref 190 := rfl
theorem g0_174_32 {X : Nat × (Nat → Int32)} {v : rV} : rVal (rtab 8 32) (rZ X).2.1 v 174 32 = .ref 191 := rfl
theorem g0_174_33 {X : Nat × (Nat → Int32)} {v : rV} : rVal (rtab 8 33) (rZ X).2.1 v 174 33 = .ref 192 := rfl
theorem g0_174_35 {X : Nat × (Nat → Int32)} {v : rV} : rVal (rtab 8 35) (rZ X).2.1 v 174 35 = .ref 193 := rfl
theorem g0_174_36 {X : Nat × (Nat → Int32)} {v : rV} : rVal (rtab 8 36) (rZ X).2.1 v 174 36 = .ref 194 := rfl
theorem g0_174_40 {X : Nat × (Nat → Int32)} {v : rV} : rVal (rtab 8 40) (rZ X).2.1 v 174 40 = .ref 195 := rfl
theorem g0_174_42 {X : Nat × (Nat → Int32)} {v : rV} : rVal (rtab 8 42) (rZ X).2.1 v 174 42 = .ref 196 := rfl
theorem is_mem {l : List Nat} {k : Nat} {p : Nat → Prop} (h : l.contains k = true) (hp : ∀ x ∈ l, p x) : p k := hp k (by simpa using h)
theorem kStrip_0 {X : Nat × (Nat → Int32)} {k : Nat} (h : isStrip k = true) : (rZ X).1[k]? = some (.inr 5) := is_mem (p := fun k => rK0[k]? = some (.inr 5)) h (by decide +kernel)
theorem kStrip_1 {X : Nat × (Nat → Int32)} {k : Nat} (h : isStrip k = true) : (rZ X).1[k + 1]? = some (.inl (24, .int)) := is_mem (p := fun k => rK0[k + 1]? = some (.inl (24, .int))) h (by decide +kernel)
theorem kStrip_2 {X : Nat × (Nat → Int32)} {k : Nat} (h : isStrip k = true) : (rZ X).1[k + 2]? = some (.inl (24, .int)) := is_mem (p := fun k => rK0[k + 2]? = some (.inl (24, .int))) h (by decide +kernel)
theorem kStrip_3 {X : Nat × (Nat → Int32)} {k : Nat} (h : isStrip k = true) : (rZ X).1[k + 3]? = some (.inl (7, .int)) := is_mem (p := fun k => rK0[k + 3]? = some (.inl (7, .int))) h (by decide +kernel)
theorem kStrip_4 {X : Nat × (Nat → Int32)} {k : Nat} (h : isStrip k = true) : (rZ X).1[k + 4]? = some (.inl (2, .array .int)) := is_mem (p := fun k => rK0[k + 4]? = some (.inl (2, .array .int))) h (by decide +kernel)
theorem kStrip_5 {X : Nat × (Nat → Int32)} {k : Nat} (h : isStrip k = true) : (rZ X).1[k + 5]? = some (.inl (24, .int)) := is_mem (p := fun k => rK0[k + 5]? = some (.inl (24, .int))) h (by decide +kernel)
theorem kStrip_6 {X : Nat × (Nat → Int32)} {k : Nat} (h : isStrip k = true) : (rZ X).1[k + 6]? = some (.inl (24, .int)) := is_mem (p := fun k => rK0[k + 6]? = some (.inl (24, .int))) h (by decide +kernel)
theorem kStrip_7 {X : Nat × (Nat → Int32)} {k : Nat} (h : isStrip k = true) : (rZ X).1[k + 7]? = some (.inl (2, .array .int)) := is_mem (p := fun k => rK0[k + 7]? = some (.inl (2, .array .int))) h (by decide +kernel)
theorem kStrip_8 {X : Nat × (Nat → Int32)} {k : Nat} (h : isStrip k = true) : (rZ X).1[k + 8]? = some (.inl (24, .int)) := is_mem (p := fun k => rK0[k + 8]? = some (.inl (24, .int))) h (by decide +kernel)
theorem kStrip_9 {X : Nat × (Nat → Int32)} {k : Nat} (h : isStrip k = true) : (rZ X).1[k + 9]? = some (.inl (24, .int)) := is_mem (p := fun k => rK0[k + 9]? = some (.inl (24, .int))) h (by decide +kernel)
theorem kStrip_10 {X : Nat × (Nat → Int32)} {k : Nat} (h : isStrip k = true) : (rZ X).1[k + 10]? = some (.inl (24, .int)) := is_mem (p := fun k => rK0[k + 10]? = some (.inl (24, .int))) h (by decide +kernel)
theorem kStrip_11 {X : Nat × (Nat → Int32)} {k : Nat} (h : isStrip k = true) : (rZ X).1[k + 11]? = some (.inl (24, .int)) := is_mem (p := fun k => rK0[k + 11]? = some (.inl (24, .int))) h (by decide +kernel)
theorem kStrip_12 {X : Nat × (Nat → Int32)} {k : Nat} (h : isStrip k = true) : (rZ X).1[k + 12]? = some (.inl (120, .int)) := is_mem (p := fun k => rK0[k + 12]? = some (.inl (120, .int))) h (by decide +kernel)
theorem kStrip_13 {X : Nat × (Nat → Int32)} {k : Nat} (h : isStrip k = true) : (rZ X).1[k + 13]? = some (.inl (12, .object "RingDrop$Body")) := is_mem (p := fun k => rK0[k + 13]? = some (.inl (12, .object "RingDrop$Body"))) h (by decide +kernel)
theorem kStrip_14 {X : Nat × (Nat → Int32)} {k : Nat} (h : isStrip k = true) : (rZ X).1[k + 14]? = some (.inr 0) := is_mem (p := fun k => rK0[k + 14]? = some (.inr 0)) h (by decide +kernel)
theorem kStrip_15 {X : Nat × (Nat → Int32)} {k : Nat} (h : isStrip k = true) : (rZ X).1[k + 15]? = some (.inl (12, .int)) := is_mem (p := fun k => rK0[k + 15]? = some (.inl (12, .int))) h (by decide +kernel)
theorem kStrip_16 {X : Nat × (Nat → Int32)} {k : Nat} (h : isStrip k = true) : (rZ X).1[k + 16]? = some (.inr 0) := is_mem (p := fun k => rK0[k + 16]? = some (.inr 0)) h (by decide +kernel)
theorem kStrip_17 {X : Nat × (Nat → Int32)} {k : Nat} (h : isStrip k = true) : (rZ X).1[k + 17]? = some (.inl (12, .int)) := is_mem (p := fun k => rK0[k + 17]? = some (.inl (12, .int))) h (by decide +kernel)
theorem kStrip_18 {X : Nat × (Nat → Int32)} {k : Nat} (h : isStrip k = true) : (rZ X).1[k + 18]? = some (.inr 0) := is_mem (p := fun k => rK0[k + 18]? = some (.inr 0)) h (by decide +kernel)
theorem kStrip_19 {X : Nat × (Nat → Int32)} {k : Nat} (h : isStrip k = true) : (rZ X).1[k + 19]? = some (.inl (12, .int)) := is_mem (p := fun k => rK0[k + 19]? = some (.inl (12, .int))) h (by decide +kernel)
theorem kStrip_20 {X : Nat × (Nat → Int32)} {k : Nat} (h : isStrip k = true) : (rZ X).1[k + 20]? = some (.inr 0) := is_mem (p := fun k => rK0[k + 20]? = some (.inr 0)) h (by decide +kernel)
theorem kStrip_21 {X : Nat × (Nat → Int32)} {k : Nat} (h : isStrip k = true) : (rZ X).1[k + 21]? = some (.inl (12, .int)) := is_mem (p := fun k => rK0[k + 21]? = some (.inl (12, .int))) h (by decide +kernel)
theorem kStrip_22 {X : Nat × (Nat → Int32)} {k : Nat} (h : isStrip k = true) : (rZ X).1[k + 22]? = some (.inr 0) := is_mem (p := fun k => rK0[k + 22]? = some (.inr 0)) h (by decide +kernel)
theorem kStrip_23 {X : Nat × (Nat → Int32)} {k : Nat} (h : isStrip k = true) : (rZ X).1[k + 23]? = some (.inl (12, .int)) := is_mem (p := fun k => rK0[k + 23]? = some (.inl (12, .int))) h (by decide +kernel)
theorem kStrip_24 {X : Nat × (Nat → Int32)} {k : Nat} (h : isStrip k = true) : (rZ X).1[k + 24]? = some (.inr 0) := is_mem (p := fun k => rK0[k + 24]? = some (.inr 0)) h (by decide +kernel)
theorem kStrip_25 {X : Nat × (Nat → Int32)} {k : Nat} (h : isStrip k = true) : (rZ X).1[k + 25]? = some (.inl (12, .int)) := is_mem (p := fun k => rK0[k + 25]? = some (.inl (12, .int))) h (by decide +kernel)
theorem kStrip_26 {X : Nat × (Nat → Int32)} {k : Nat} (h : isStrip k = true) : (rZ X).1[k + 26]? = some (.inr 0) := is_mem (p := fun k => rK0[k + 26]? = some (.inr 0)) h (by decide +kernel)
theorem kStrip_27 {X : Nat × (Nat → Int32)} {k : Nat} (h : isStrip k = true) : (rZ X).1[k + 27]? = some (.inl (12, .int)) := is_mem (p := fun k => rK0[k + 27]? = some (.inl (12, .int))) h (by decide +kernel)
theorem kStrip_28 {X : Nat × (Nat → Int32)} {k : Nat} (h : isStrip k = true) : (rZ X).1[k + 28]? = some (.inr 0) := is_mem (p := fun k => rK0[k + 28]? = some (.inr 0)) h (by decide +kernel)
theorem kStrip_29 {X : Nat × (Nat → Int32)} {k : Nat} (h : isStrip k = true) : (rZ X).1[k + 29]? = some (.inl (12, .int)) := is_mem (p := fun k => rK0[k + 29]? = some (.inl (12, .int))) h (by decide +kernel)
theorem kStrip_30 {X : Nat × (Nat → Int32)} {k : Nat} (h : isStrip k = true) : (rZ X).1[k + 30]? = some (.inr 0) := is_mem (p := fun k => rK0[k + 30]? = some (.inr 0)) h (by decide +kernel)
theorem kStrip_31 {X : Nat × (Nat → Int32)} {k : Nat} (h : isStrip k = true) : (rZ X).1[k + 31]? = some (.inl (12, .int)) := is_mem (p := fun k => rK0[k + 31]? = some (.inl (12, .int))) h (by decide +kernel)
theorem kStrip_32 {X : Nat × (Nat → Int32)} {k : Nat} (h : isStrip k = true) : (rZ X).1[k + 32]? = some (.inr 0) := is_mem (p := fun k => rK0[k + 32]? = some (.inr 0)) h (by decide +kernel)
theorem kStrip_33 {X : Nat × (Nat → Int32)} {k : Nat} (h : isStrip k = true) : (rZ X).1[k + 33]? = some (.inl (12, .int)) := is_mem (p := fun k => rK0[k + 33]? = some (.inl (12, .int))) h (by decide +kernel)
theorem kStrip_34 {X : Nat × (Nat → Int32)} {k : Nat} (h : isStrip k = true) : (rZ X).1[k + 34]? = some (.inr 0) := is_mem (p := fun k => rK0[k + 34]? = some (.inr 0)) h (by decide +kernel)
theorem kStrip_35 {X : Nat × (Nat → Int32)} {k : Nat} (h : isStrip k = true) : (rZ X).1[k + 35]? = some (.inl (12, .int)) := is_mem (p := fun k => rK0[k + 35]? = some (.inl (12, .int))) h (by decide +kernel)
theorem kStrip_36 {X : Nat × (Nat → Int32)} {k : Nat} (h : isStrip k = true) : (rZ X).1[k + 36]? = some (.inr 0) := is_mem (p := fun k => rK0[k + 36]? = some (.inr 0)) h (by decide +kernel)
theorem kStrip_37 {X : Nat × (Nat → Int32)} {k : Nat} (h : isStrip k = true) : (rZ X).1[k + 37]? = some (.inl (12, .int)) := is_mem (p := fun k => rK0[k + 37]? = some (.inl (12, .int))) h (by decide +kernel)
theorem gStrip_0 {X : Nat × (Nat → Int32)} {k : Nat} {v : rV} (h : isStrip k = true) : rVal (rtab 5 0) (rZ X).2.1 v k 0 = .ref (k + 1) := by
  have e : rS0 k 0 = some (k + 1) := is_mem (p := fun k => rS0 k 0 = some (k + 1)) h (by decide +kernel)
  show va_rf (rRef rS0 v k 0) = _
  rw [rRef, e]
  rfl
theorem gStrip_1 {X : Nat × (Nat → Int32)} {k : Nat} {v : rV} (h : isStrip k = true) : rVal (rtab 5 1) (rZ X).2.1 v k 1 = .ref (k + 2) := by
  have e : rS0 k 1 = some (k + 2) := is_mem (p := fun k => rS0 k 1 = some (k + 2)) h (by decide +kernel)
  show va_rf (rRef rS0 v k 1) = _
  rw [rRef, e]
  rfl
theorem gStrip_2 {X : Nat × (Nat → Int32)} {k : Nat} {v : rV} (h : isStrip k = true) : rVal (rtab 5 2) (rZ X).2.1 v k 2 = .ref (k + 3) := by
  have e : rS0 k 2 = some (k + 3) := is_mem (p := fun k => rS0 k 2 = some (k + 3)) h (by decide +kernel)
  show va_rf (rRef rS0 v k 2) = _
  rw [rRef, e]
  rfl
theorem gStrip_4 {X : Nat × (Nat → Int32)} {k : Nat} {v : rV} (h : isStrip k = true) : rVal (rtab 5 4) (rZ X).2.1 v k 4 = .ref (k + 4) := by
  have e : rS0 k 4 = some (k + 4) := is_mem (p := fun k => rS0 k 4 = some (k + 4)) h (by decide +kernel)
  show va_rf (rRef rS0 v k 4) = _
  rw [rRef, e]
  rfl
theorem gStrip_5 {X : Nat × (Nat → Int32)} {k : Nat} {v : rV} (h : isStrip k = true) : rVal (rtab 5 5) (rZ X).2.1 v k 5 = .ref (k + 7) := by
  have e : rS0 k 5 = some (k + 7) := is_mem (p := fun k => rS0 k 5 = some (k + 7)) h (by decide +kernel)
  show va_rf (rRef rS0 v k 5) = _
  rw [rRef, e]
  rfl
theorem gStrip_6 {X : Nat × (Nat → Int32)} {k : Nat} {v : rV} (h : isStrip k = true) : rVal (rtab 5 6) (rZ X).2.1 v k 6 = .ref (k + 10) := by
  have e : rS0 k 6 = some (k + 10) := is_mem (p := fun k => rS0 k 6 = some (k + 10)) h (by decide +kernel)
  show va_rf (rRef rS0 v k 6) = _
  rw [rRef, e]
  rfl
theorem gStrip_7 {X : Nat × (Nat → Int32)} {k : Nat} {v : rV} (h : isStrip k = true) : rVal (rtab 5 7) (rZ X).2.1 v k 7 = .ref (k + 11) := by
  have e : rS0 k 7 = some (k + 11) := is_mem (p := fun k => rS0 k 7 = some (k + 11)) h (by decide +kernel)
  show va_rf (rRef rS0 v k 7) = _
  rw [rRef, e]
  rfl
theorem gStrip_8 {X : Nat × (Nat → Int32)} {k : Nat} {v : rV} (h : isStrip k = true) : rVal (rtab 5 8) (rZ X).2.1 v k 8 = .ref (k + 12) := by
  have e : rS0 k 8 = some (k + 12) := is_mem (p := fun k => rS0 k 8 = some (k + 12)) h (by decide +kernel)
  show va_rf (rRef rS0 v k 8) = _
  rw [rRef, e]
  rfl
theorem gStrip_9 {X : Nat × (Nat → Int32)} {k : Nat} {v : rV} (h : isStrip k = true) : rVal (rtab 5 9) (rZ X).2.1 v k 9 = .ref (k + 13) := by
  have e : rS0 k 9 = some (k + 13) := is_mem (p := fun k => rS0 k 9 = some (k + 13)) h (by decide +kernel)
  show va_rf (rRef rS0 v k 9) = _
  rw [rRef, e]
  rfl
theorem kBody_0 {X : Nat × (Nat → Int32)} {k : Nat} (h : isBody k = true) : (rZ X).1[k]? = some (.inr 0) := is_mem (p := fun k => rK0[k]? = some (.inr 0)) h (by decide +kernel)
theorem kBody_1 {X : Nat × (Nat → Int32)} {k : Nat} (h : isBody k = true) : (rZ X).1[k + 1]? = some (.inl (12, .int)) := is_mem (p := fun k => rK0[k + 1]? = some (.inl (12, .int))) h (by decide +kernel)
theorem gBody_0 {X : Nat × (Nat → Int32)} {k : Nat} {v : rV} (h : isBody k = true) : rVal (rtab 0 0) (rZ X).2.1 v k 0 = .ref (k + 1) := by
  have e : rS0 k 0 = some (k + 1) := is_mem (p := fun k => rS0 k 0 = some (k + 1)) h (by decide +kernel)
  show va_rf (rRef rS0 v k 0) = _
  rw [rRef, e]
  rfl
theorem kForm_0 {X : Nat × (Nat → Int32)} {k : Nat} (h : isForm k = true) : (rZ X).1[k]? = some (.inr 2) := is_mem (p := fun k => rK0[k]? = some (.inr 2)) h (by decide +kernel)
theorem kForm_1 {X : Nat × (Nat → Int32)} {k : Nat} (h : isForm k = true) : (rZ X).1[k + 1]? = some (.inl (162, .int)) := is_mem (p := fun k => rK0[k + 1]? = some (.inl (162, .int))) h (by decide +kernel)
theorem kForm_2 {X : Nat × (Nat → Int32)} {k : Nat} (h : isForm k = true) : (rZ X).1[k + 2]? = some (.inl (32, .int)) := is_mem (p := fun k => rK0[k + 2]? = some (.inl (32, .int))) h (by decide +kernel)
theorem gForm_0 {X : Nat × (Nat → Int32)} {k : Nat} {v : rV} (h : isForm k = true) : rVal (rtab 2 0) (rZ X).2.1 v k 0 = .ref (k + 1) := by
  have e : rS0 k 0 = some (k + 1) := is_mem (p := fun k => rS0 k 0 = some (k + 1)) h (by decide +kernel)
  show va_rf (rRef rS0 v k 0) = _
  rw [rRef, e]
  rfl
theorem gForm_1 {X : Nat × (Nat → Int32)} {k : Nat} {v : rV} (h : isForm k = true) : rVal (rtab 2 1) (rZ X).2.1 v k 1 = .ref (k + 2) := by
  have e : rS0 k 1 = some (k + 2) := is_mem (p := fun k => rS0 k 1 = some (k + 2)) h (by decide +kernel)
  show va_rf (rRef rS0 v k 1) = _
  rw [rRef, e]
  rfl
theorem kShelf_0 {X : Nat × (Nat → Int32)} {k : Nat} (h : isShelf k = true) : (rZ X).1[k]? = some (.inr 4) := is_mem (p := fun k => rK0[k]? = some (.inr 4)) h (by decide +kernel)
theorem kShelf_1 {X : Nat × (Nat → Int32)} {k : Nat} (h : isShelf k = true) : (rZ X).1[k + 1]? = some (.inl (4, .object "RingDrop$Formula")) := is_mem (p := fun k => rK0[k + 1]? = some (.inl (4, .object "RingDrop$Formula"))) h (by decide +kernel)
theorem gShelf_0 {X : Nat × (Nat → Int32)} {k : Nat} {v : rV} (h : isShelf k = true) : rVal (rtab 4 0) (rZ X).2.1 v k 0 = .ref (k + 1) := by
  have e : rS0 k 0 = some (k + 1) := is_mem (p := fun k => rS0 k 0 = some (k + 1)) h (by decide +kernel)
  show va_rf (rRef rS0 v k 0) = _
  rw [rRef, e]
  rfl
theorem rRef_s {v : rV} {k j r : Nat} (h : rS0 k j = some r) : rRef rS0 v k j = some r := by rw [rRef, h]
theorem rRef_d {v : rV} {k j : Nat} (h : rS0 k j = none) : rRef rS0 v k j = v.2.2 k j := by rw [rRef, h]
theorem rStrip_4 {X : Nat × (Nat → Int32)} {k i : Nat} {v : rV} (h : isStrip k = true) (hi : i < 2) : va_rf (rRef (rZ X).2.1 v (k + 4) i) = .ref (k + 5 + i) := by
  rw [show (rZ X).2.1 = rS0 from rfl, rRef_s (is_mem (p := fun k => ∀ i, i < 2 → rS0 (k + 4) i = some (k + 5 + i)) h (by decide +kernel) i hi)]
  rfl
theorem qStrip_4 {X : Nat × (Nat → Int32)} {k i : Nat} (h : isStrip k = true) (hi : i < 2) : (rZ X).1[k + 5 + i]? = some (.inl (24, .int)) := is_mem (p := fun k => ∀ i, i < 2 → rK0[k + 5 + i]? = some (.inl (24, .int))) h (by decide +kernel) i hi
theorem rStrip_7 {X : Nat × (Nat → Int32)} {k i : Nat} {v : rV} (h : isStrip k = true) (hi : i < 2) : va_rf (rRef (rZ X).2.1 v (k + 7) i) = .ref (k + 8 + i) := by
  rw [show (rZ X).2.1 = rS0 from rfl, rRef_s (is_mem (p := fun k => ∀ i, i < 2 → rS0 (k + 7) i = some (k + 8 + i)) h (by decide +kernel) i hi)]
  rfl
theorem qStrip_7 {X : Nat × (Nat → Int32)} {k i : Nat} (h : isStrip k = true) (hi : i < 2) : (rZ X).1[k + 8 + i]? = some (.inl (24, .int)) := is_mem (p := fun k => ∀ i, i < 2 → rK0[k + 8 + i]? = some (.inl (24, .int))) h (by decide +kernel) i hi
theorem r0_37 {X : Nat × (Nat → Int32)} {i : Nat} {v : rV} (hi : i < 12) : va_rf (rRef (rZ X).2.1 v 37 i) = .ref (38 + i) := by
  rw [show (rZ X).2.1 = rS0 from rfl, rRef_s ((by decide +kernel : ∀ i, i < 12 → rS0 37 i = some (38 + i)) i hi)]
  rfl
theorem q0_37 {X : Nat × (Nat → Int32)} {i : Nat} (hi : i < 12) : (rZ X).1[38 + i]? = some (.inl (12, .int)) := (by decide +kernel : ∀ i, i < 12 → rK0[38 + i]? = some (.inl (12, .int))) i hi
theorem r0_52 {X : Nat × (Nat → Int32)} {i : Nat} {v : rV} (hi : i < 6) : va_rf (rRef (rZ X).2.1 v 52 i) = .ref (53 + i) := by
  rw [show (rZ X).2.1 = rS0 from rfl, rRef_s ((by decide +kernel : ∀ i, i < 6 → rS0 52 i = some (53 + i)) i hi)]
  rfl
theorem q0_52 {X : Nat × (Nat → Int32)} {i : Nat} (hi : i < 6) : (rZ X).1[53 + i]? = some (.inl (24, .int)) := (by decide +kernel : ∀ i, i < 6 → rK0[53 + i]? = some (.inl (24, .int))) i hi
theorem r0_64 {X : Nat × (Nat → Int32)} {i : Nat} {v : rV} (hi : i < 2) : va_rf (rRef (rZ X).2.1 v 64 i) = .ref (65 + i) := by
  rw [show (rZ X).2.1 = rS0 from rfl, rRef_s ((by decide +kernel : ∀ i, i < 2 → rS0 64 i = some (65 + i)) i hi)]
  rfl
theorem q0_64 {X : Nat × (Nat → Int32)} {i : Nat} (hi : i < 2) : (rZ X).1[65 + i]? = some (.inl (24, .int)) := (by decide +kernel : ∀ i, i < 2 → rK0[65 + i]? = some (.inl (24, .int))) i hi
theorem r0_67 {X : Nat × (Nat → Int32)} {i : Nat} {v : rV} (hi : i < 2) : va_rf (rRef (rZ X).2.1 v 67 i) = .ref (68 + i) := by
  rw [show (rZ X).2.1 = rS0 from rfl, rRef_s ((by decide +kernel : ∀ i, i < 2 → rS0 67 i = some (68 + i)) i hi)]
  rfl
theorem q0_67 {X : Nat × (Nat → Int32)} {i : Nat} (hi : i < 2) : (rZ X).1[68 + i]? = some (.inl (24, .int)) := (by decide +kernel : ∀ i, i < 2 → rK0[68 + i]? = some (.inl (24, .int))) i hi
theorem r0_102 {X : Nat × (Nat → Int32)} {i : Nat} {v : rV} (hi : i < 2) : va_rf (rRef (rZ X).2.1 v 102 i) = .ref (103 + i) := by
  rw [show (rZ X).2.1 = rS0 from rfl, rRef_s ((by decide +kernel : ∀ i, i < 2 → rS0 102 i = some (103 + i)) i hi)]
  rfl
theorem q0_102 {X : Nat × (Nat → Int32)} {i : Nat} (hi : i < 2) : (rZ X).1[103 + i]? = some (.inl (24, .int)) := (by decide +kernel : ∀ i, i < 2 → rK0[103 + i]? = some (.inl (24, .int))) i hi
theorem r0_105 {X : Nat × (Nat → Int32)} {i : Nat} {v : rV} (hi : i < 2) : va_rf (rRef (rZ X).2.1 v 105 i) = .ref (106 + i) := by
  rw [show (rZ X).2.1 = rS0 from rfl, rRef_s ((by decide +kernel : ∀ i, i < 2 → rS0 105 i = some (106 + i)) i hi)]
  rfl
theorem q0_105 {X : Nat × (Nat → Int32)} {i : Nat} (hi : i < 2) : (rZ X).1[106 + i]? = some (.inl (24, .int)) := (by decide +kernel : ∀ i, i < 2 → rK0[106 + i]? = some (.inl (24, .int))) i hi
theorem r0_140 {X : Nat × (Nat → Int32)} {i : Nat} {v : rV} (hi : i < 2) : va_rf (rRef (rZ X).2.1 v 140 i) = .ref (141 + i) := by
  rw [show (rZ X).2.1 = rS0 from rfl, rRef_s ((by decide +kernel : ∀ i, i < 2 → rS0 140 i = some (141 + i)) i hi)]
  rfl
theorem q0_140 {X : Nat × (Nat → Int32)} {i : Nat} (hi : i < 2) : (rZ X).1[141 + i]? = some (.inl (24, .int)) := (by decide +kernel : ∀ i, i < 2 → rK0[141 + i]? = some (.inl (24, .int))) i hi
theorem r0_143 {X : Nat × (Nat → Int32)} {i : Nat} {v : rV} (hi : i < 2) : va_rf (rRef (rZ X).2.1 v 143 i) = .ref (144 + i) := by
  rw [show (rZ X).2.1 = rS0 from rfl, rRef_s ((by decide +kernel : ∀ i, i < 2 → rS0 143 i = some (144 + i)) i hi)]
  rfl
theorem q0_143 {X : Nat × (Nat → Int32)} {i : Nat} (hi : i < 2) : (rZ X).1[144 + i]? = some (.inl (24, .int)) := (by decide +kernel : ∀ i, i < 2 → rK0[144 + i]? = some (.inl (24, .int))) i hi
theorem rShelf_1 {X : Nat × (Nat → Int32)} {k i : Nat} {v : rV} (h : isShelf k = true) (hi : i < 4) : va_rf (rRef (rZ X).2.1 v (k + 1) i) = .ref (k + 2 + 3 * i) := by
  rw [show (rZ X).2.1 = rS0 from rfl, rRef_s (is_mem (p := fun k => ∀ i, i < 4 → rS0 (k + 1) i = some (k + 2 + 3 * i)) h (by decide +kernel) i hi)]
  rfl
theorem fShelf {k i : Nat} (h : isShelf k = true) (hi : i < 4) : isForm (k + 2 + 3 * i) = true := is_mem (p := fun k => ∀ i, i < 4 → isForm (k + 2 + 3 * i) = true) h (by decide +kernel) i hi
theorem s0_nil {k j : Nat} (h : rS0L.getD k [] = []) : rS0 k j = none := by
  unfold rS0
  rw [h]
  simp
theorem sStrip_13 {k j : Nat} (h : isStrip k = true) : rS0 (k + 13) j = none := s0_nil (is_mem (p := fun k => rS0L.getD (k + 13) [] = []) h (by decide +kernel))
theorem dStrip_13 {k : Nat} {v : rV} (h : isStrip k = true) : rRef rS0 v (k + 13) = fun i => v.2.2 (k + 13) i := funext fun i => rRef_d (sStrip_13 h)
theorem dStrip_law {k : Nat} {v : rV} (h : isStrip k = true) : rRef rS0 v k 13 = v.2.2 k 13 := rRef_d (is_mem (p := fun k => rS0 k 13 = none) h (by decide +kernel))
