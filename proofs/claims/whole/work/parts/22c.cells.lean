theorem gc_0 (ad : Nat → Nat) (cA : FieldType → ClassId) : gcellOf ad cA s0 0 gshL[0]? = .inr (11, [.ref (ad 1), .ref (ad 7), .ref (ad 26), .ref (ad 27), .ref (ad 32), .ref (ad 58), .ref (ad 67), .ref (ad 69), .ref (ad 81), .ref (ad 84)]) := rfl
theorem gc_1 (ad : Nat → Nat) (cA : FieldType → ClassId) : gcellOf ad cA s0 1 gshL[1]? = .inr (10, [.ref (ad 2), vI 0, vI 0, vI (-1), .ref (ad 3), .ref (ad 4), .ref (ad 5), .ref (ad 6)]) := rfl
theorem gc_2 (ad : Nat → Nat) (cA : FieldType → ClassId) : gcellOf ad cA s0 2 gshL[2]? = .inl (cA .byte, 600, .inl (fun _ => i32 0)) := rfl
theorem gc_3 (ad : Nat → Nat) (cA : FieldType → ClassId) : gcellOf ad cA s0 3 gshL[3]? = .inl (cA .int, 3, .inl (fun _ => i32 0)) := rfl
theorem gc_4 (ad : Nat → Nat) (cA : FieldType → ClassId) : gcellOf ad cA s0 4 gshL[4]? = .inl (cA .int, 8, .inl (fun _ => i32 0)) := rfl
theorem gc_5 (ad : Nat → Nat) (cA : FieldType → ClassId) : gcellOf ad cA s0 5 gshL[5]? = .inl (cA .int, 640, .inl (fun _ => i32 0)) := rfl
theorem gc_6 (ad : Nat → Nat) (cA : FieldType → ClassId) : gcellOf ad cA s0 6 gshL[6]? = .inl (cA .int, 4, .inl (fun _ => i32 0)) := rfl
theorem gc_7 (ad : Nat → Nat) (cA : FieldType → ClassId) : gcellOf ad cA s0 7 gshL[7]? = .inl (cA (.object RX10), 3, .inr (.inr (.inr (.inr (fun k => ([ad 8, ad 14, ad 20] : List Nat)[k]?))))) := by
  show Sum.inl (cA (.object RX10), 3, Sum.inr (Sum.inr (Sum.inr (Sum.inr (fun k : Nat => (gimg[k]?).map ad))))) = _
  rw [gimg_ok]
theorem gc_8 (ad : Nat → Nat) (cA : FieldType → ClassId) : gcellOf ad cA s0 8 gshL[8]? = .inr (10, [.ref (ad 9), vI 0, vI 0, vI (-1), .ref (ad 10), .ref (ad 11), .ref (ad 12), .ref (ad 13)]) := rfl
theorem gc_9 (ad : Nat → Nat) (cA : FieldType → ClassId) : gcellOf ad cA s0 9 gshL[9]? = .inl (cA .byte, 600, .inl (fun _ => i32 0)) := rfl
theorem gc_10 (ad : Nat → Nat) (cA : FieldType → ClassId) : gcellOf ad cA s0 10 gshL[10]? = .inl (cA .int, 3, .inl (fun _ => i32 0)) := rfl
theorem gc_11 (ad : Nat → Nat) (cA : FieldType → ClassId) : gcellOf ad cA s0 11 gshL[11]? = .inl (cA .int, 8, .inl (fun _ => i32 0)) := rfl
theorem gc_12 (ad : Nat → Nat) (cA : FieldType → ClassId) : gcellOf ad cA s0 12 gshL[12]? = .inl (cA .int, 640, .inl (fun _ => i32 0)) := rfl
theorem gc_13 (ad : Nat → Nat) (cA : FieldType → ClassId) : gcellOf ad cA s0 13 gshL[13]? = .inl (cA .int, 4, .inl (fun _ => i32 0)) := rfl
theorem gc_14 (ad : Nat → Nat) (cA : FieldType → ClassId) : gcellOf ad cA s0 14 gshL[14]? = .inr (10, [.ref (ad 15), vI 0, vI 0, vI (-1), .ref (ad 16), .ref (ad 17), .ref (ad 18), .ref (ad 19)]) := rfl
theorem gc_15 (ad : Nat → Nat) (cA : FieldType → ClassId) : gcellOf ad cA s0 15 gshL[15]? = .inl (cA .byte, 600, .inl (fun _ => i32 0)) := rfl
theorem gc_16 (ad : Nat → Nat) (cA : FieldType → ClassId) : gcellOf ad cA s0 16 gshL[16]? = .inl (cA .int, 3, .inl (fun _ => i32 0)) := rfl
theorem gc_17 (ad : Nat → Nat) (cA : FieldType → ClassId) : gcellOf ad cA s0 17 gshL[17]? = .inl (cA .int, 8, .inl (fun _ => i32 0)) := rfl
theorem gc_18 (ad : Nat → Nat) (cA : FieldType → ClassId) : gcellOf ad cA s0 18 gshL[18]? = .inl (cA .int, 640, .inl (fun _ => i32 0)) := rfl
theorem gc_19 (ad : Nat → Nat) (cA : FieldType → ClassId) : gcellOf ad cA s0 19 gshL[19]? = .inl (cA .int, 4, .inl (fun _ => i32 0)) := rfl
theorem gc_20 (ad : Nat → Nat) (cA : FieldType → ClassId) : gcellOf ad cA s0 20 gshL[20]? = .inr (10, [.ref (ad 21), vI 0, vI 0, vI (-1), .ref (ad 22), .ref (ad 23), .ref (ad 24), .ref (ad 25)]) := rfl
theorem gc_21 (ad : Nat → Nat) (cA : FieldType → ClassId) : gcellOf ad cA s0 21 gshL[21]? = .inl (cA .byte, 600, .inl (fun _ => i32 0)) := rfl
theorem gc_22 (ad : Nat → Nat) (cA : FieldType → ClassId) : gcellOf ad cA s0 22 gshL[22]? = .inl (cA .int, 3, .inl (fun _ => i32 0)) := rfl
theorem gc_23 (ad : Nat → Nat) (cA : FieldType → ClassId) : gcellOf ad cA s0 23 gshL[23]? = .inl (cA .int, 8, .inl (fun _ => i32 0)) := rfl
theorem gc_24 (ad : Nat → Nat) (cA : FieldType → ClassId) : gcellOf ad cA s0 24 gshL[24]? = .inl (cA .int, 640, .inl (fun _ => i32 0)) := rfl
theorem gc_25 (ad : Nat → Nat) (cA : FieldType → ClassId) : gcellOf ad cA s0 25 gshL[25]? = .inl (cA .int, 4, .inl (fun _ => i32 0)) := rfl
theorem gc_26 (ad : Nat → Nat) (cA : FieldType → ClassId) : gcellOf ad cA s0 26 gshL[26]? = .inl (cA .boolean, 3, .inl (fun _ => i32 0)) := rfl
theorem gc_27 (ad : Nat → Nat) (cA : FieldType → ClassId) : gcellOf ad cA s0 27 gshL[27]? = .inr (7, [.ref (ad 28), .ref (ad 29), vI 0, vI 0, vI 0, .ref (ad 30), .ref (ad 31), vI 0, vI 0, vI 0, vI 0, vI 0]) := rfl
theorem gc_28 (ad : Nat → Nat) (cA : FieldType → ClassId) : gcellOf ad cA s0 28 gshL[28]? = .inl (cA .int, 4, .inl (fun _ => i32 0)) := rfl
theorem gc_29 (ad : Nat → Nat) (cA : FieldType → ClassId) : gcellOf ad cA s0 29 gshL[29]? = .inl (cA .int, 160, .inl (fun _ => i32 0)) := rfl
theorem gc_30 (ad : Nat → Nat) (cA : FieldType → ClassId) : gcellOf ad cA s0 30 gshL[30]? = .inl (cA .int, 3, .inl (fun _ => i32 0)) := rfl
theorem gc_31 (ad : Nat → Nat) (cA : FieldType → ClassId) : gcellOf ad cA s0 31 gshL[31]? = .inl (cA .byte, 0, .inl (fun _ => i32 0)) := rfl
theorem gc_32 (ad : Nat → Nat) (cA : FieldType → ClassId) : gcellOf ad cA s0 32 gshL[32]? = .inr (8, [.ref (ad 33), .ref (ad 41), .ref (ad 45), vI 1, vI 0, vI 0, vI 0, vI 0, vI 0, vI 0, vI 0, .ref (ad 51), .ref (ad 52), .ref (ad 53), .ref (ad 54), .ref (ad 55), .ref (ad 56), .ref (ad 57), vI 0]) := rfl
theorem gc_33 (ad : Nat → Nat) (cA : FieldType → ClassId) : gcellOf ad cA s0 33 gshL[33]? = .inr (0, [vI 0, .ref (ad 34), .ref (ad 35), .ref (ad 36), .ref (ad 37), .ref (ad 38), .ref (ad 39), .ref (ad 40)]) := rfl
theorem gc_34 (ad : Nat → Nat) (cA : FieldType → ClassId) : gcellOf ad cA s0 34 gshL[34]? = .inl (cA .int, 360, .inl (fun _ => i32 0)) := rfl
theorem gc_35 (ad : Nat → Nat) (cA : FieldType → ClassId) : gcellOf ad cA s0 35 gshL[35]? = .inl (cA .int, 360, .inl (fun _ => i32 0)) := rfl
theorem gc_36 (ad : Nat → Nat) (cA : FieldType → ClassId) : gcellOf ad cA s0 36 gshL[36]? = .inl (cA .boolean, 360, .inl (fun _ => i32 0)) := rfl
theorem gc_37 (ad : Nat → Nat) (cA : FieldType → ClassId) : gcellOf ad cA s0 37 gshL[37]? = .inl (cA .int, 360, .inl (fun _ => i32 0)) := rfl
theorem gc_38 (ad : Nat → Nat) (cA : FieldType → ClassId) : gcellOf ad cA s0 38 gshL[38]? = .inl (cA .int, 360, .inl (fun _ => i32 0)) := rfl
theorem gc_39 (ad : Nat → Nat) (cA : FieldType → ClassId) : gcellOf ad cA s0 39 gshL[39]? = .inl (cA .boolean, 360, .inl (fun _ => i32 0)) := rfl
theorem gc_40 (ad : Nat → Nat) (cA : FieldType → ClassId) : gcellOf ad cA s0 40 gshL[40]? = .inl (cA .int, 360, .inl (fun _ => i32 0)) := rfl
theorem gc_41 (ad : Nat → Nat) (cA : FieldType → ClassId) : gcellOf ad cA s0 41 gshL[41]? = .inr (6, [vI 0, .ref (ad 42), .ref (ad 43), .ref (ad 44)]) := rfl
theorem gc_42 (ad : Nat → Nat) (cA : FieldType → ClassId) : gcellOf ad cA s0 42 gshL[42]? = .inl (cA .int, 360, .inl (fun _ => i32 0)) := rfl
theorem gc_43 (ad : Nat → Nat) (cA : FieldType → ClassId) : gcellOf ad cA s0 43 gshL[43]? = .inl (cA .int, 360, .inl (fun _ => i32 0)) := rfl
theorem gc_44 (ad : Nat → Nat) (cA : FieldType → ClassId) : gcellOf ad cA s0 44 gshL[44]? = .inl (cA .int, 360, .inl (fun _ => i32 0)) := rfl
theorem gc_45 (ad : Nat → Nat) (cA : FieldType → ClassId) : gcellOf ad cA s0 45 gshL[45]? = .inr (4, [vI 1, .ref (ad 46), .ref (ad 47), .ref (ad 48), .ref (ad 49), vI 0, vI 0, .ref (ad 50)]) := rfl
theorem gc_46 (ad : Nat → Nat) (cA : FieldType → ClassId) : gcellOf ad cA s0 46 gshL[46]? = .inl (cA .int, 6, .inl (fun _ => i32 0)) := rfl
theorem gc_47 (ad : Nat → Nat) (cA : FieldType → ClassId) : gcellOf ad cA s0 47 gshL[47]? = .inl (cA .int, 6, .inl (fun _ => i32 0)) := rfl
theorem gc_48 (ad : Nat → Nat) (cA : FieldType → ClassId) : gcellOf ad cA s0 48 gshL[48]? = .inl (cA .int, 6, .inl (fun _ => i32 0)) := rfl
theorem gc_49 (ad : Nat → Nat) (cA : FieldType → ClassId) : gcellOf ad cA s0 49 gshL[49]? = .inl (cA .int, 6, .inl (fun _ => i32 0)) := rfl
theorem gc_50 (ad : Nat → Nat) (cA : FieldType → ClassId) : gcellOf ad cA s0 50 gshL[50]? = .inl (cA .int, 6, .inl (fun _ => i32 0)) := rfl
theorem gc_51 (ad : Nat → Nat) (cA : FieldType → ClassId) : gcellOf ad cA s0 51 gshL[51]? = .inl (cA .int, 6, .inl (fun _ => i32 0)) := rfl
theorem gc_52 (ad : Nat → Nat) (cA : FieldType → ClassId) : gcellOf ad cA s0 52 gshL[52]? = .inl (cA .int, 6, .inl (fun _ => i32 0)) := rfl
theorem gc_53 (ad : Nat → Nat) (cA : FieldType → ClassId) : gcellOf ad cA s0 53 gshL[53]? = .inl (cA .int, 36, .inl (fun _ => i32 0)) := rfl
theorem gc_54 (ad : Nat → Nat) (cA : FieldType → ClassId) : gcellOf ad cA s0 54 gshL[54]? = .inl (cA .int, 324, .inl (fun _ => i32 0)) := rfl
theorem gc_55 (ad : Nat → Nat) (cA : FieldType → ClassId) : gcellOf ad cA s0 55 gshL[55]? = .inl (cA .int, 6, .inl (fun _ => i32 0)) := rfl
theorem gc_56 (ad : Nat → Nat) (cA : FieldType → ClassId) : gcellOf ad cA s0 56 gshL[56]? = .inl (cA .int, 54, .inl (fun _ => i32 0)) := rfl
theorem gc_57 (ad : Nat → Nat) (cA : FieldType → ClassId) : gcellOf ad cA s0 57 gshL[57]? = .inl (cA .int, 6, .inl (fun _ => i32 0)) := rfl
theorem gc_58 (ad : Nat → Nat) (cA : FieldType → ClassId) : gcellOf ad cA s0 58 gshL[58]? = .inr (2, [.ref (ad 59), vI 0, .ref (ad 65), .ref (ad 66), vI 0, vI 0]) := rfl
theorem gc_59 (ad : Nat → Nat) (cA : FieldType → ClassId) : gcellOf ad cA s0 59 gshL[59]? = .inr (4, [vI 1, .ref (ad 60), .ref (ad 61), .ref (ad 62), .ref (ad 63), vI 0, vI 0, .ref (ad 64)]) := rfl
theorem gc_60 (ad : Nat → Nat) (cA : FieldType → ClassId) : gcellOf ad cA s0 60 gshL[60]? = .inl (cA .int, 6, .inl (fun _ => i32 0)) := rfl
theorem gc_61 (ad : Nat → Nat) (cA : FieldType → ClassId) : gcellOf ad cA s0 61 gshL[61]? = .inl (cA .int, 6, .inl (fun _ => i32 0)) := rfl
theorem gc_62 (ad : Nat → Nat) (cA : FieldType → ClassId) : gcellOf ad cA s0 62 gshL[62]? = .inl (cA .int, 6, .inl (fun _ => i32 0)) := rfl
theorem gc_63 (ad : Nat → Nat) (cA : FieldType → ClassId) : gcellOf ad cA s0 63 gshL[63]? = .inl (cA .int, 6, .inl (fun _ => i32 0)) := rfl
theorem gc_64 (ad : Nat → Nat) (cA : FieldType → ClassId) : gcellOf ad cA s0 64 gshL[64]? = .inl (cA .int, 6, .inl (fun _ => i32 0)) := rfl
theorem gc_65 (ad : Nat → Nat) (cA : FieldType → ClassId) : gcellOf ad cA s0 65 gshL[65]? = .inl (cA .long, 61, .inr (.inl (fun _ => i64 0))) := rfl
theorem gc_66 (ad : Nat → Nat) (cA : FieldType → ClassId) : gcellOf ad cA s0 66 gshL[66]? = .inl (cA .int, 60, .inl (fun _ => i32 0)) := rfl
theorem gc_67 (ad : Nat → Nat) (cA : FieldType → ClassId) : gcellOf ad cA s0 67 gshL[67]? = .inr (3, [.ref (ad 68), vI 0]) := rfl
theorem gc_68 (ad : Nat → Nat) (cA : FieldType → ClassId) : gcellOf ad cA s0 68 gshL[68]? = .inl (cA .int, 448, .inl (fun _ => i32 0)) := rfl
theorem gc_69 (ad : Nat → Nat) (cA : FieldType → ClassId) : gcellOf ad cA s0 69 gshL[69]? = .inr (9, [vI 0, .ref (ad 70), .ref (ad 71), .ref (ad 72), .ref (ad 73), .ref (ad 74), .ref (ad 75), .ref (ad 76), .ref (ad 77), .ref (ad 78), .ref (ad 79), .ref (ad 80)]) := rfl
theorem gc_70 (ad : Nat → Nat) (cA : FieldType → ClassId) : gcellOf ad cA s0 70 gshL[70]? = .inl (cA .int, 40, .inl (fun _ => i32 0)) := rfl
theorem gc_71 (ad : Nat → Nat) (cA : FieldType → ClassId) : gcellOf ad cA s0 71 gshL[71]? = .inl (cA .int, 40, .inl (fun _ => i32 0)) := rfl
theorem gc_72 (ad : Nat → Nat) (cA : FieldType → ClassId) : gcellOf ad cA s0 72 gshL[72]? = .inl (cA .int, 40, .inl (fun _ => i32 0)) := rfl
theorem gc_73 (ad : Nat → Nat) (cA : FieldType → ClassId) : gcellOf ad cA s0 73 gshL[73]? = .inl (cA .int, 40, .inl (fun _ => i32 0)) := rfl
theorem gc_74 (ad : Nat → Nat) (cA : FieldType → ClassId) : gcellOf ad cA s0 74 gshL[74]? = .inl (cA .int, 40, .inl (fun _ => i32 0)) := rfl
theorem gc_75 (ad : Nat → Nat) (cA : FieldType → ClassId) : gcellOf ad cA s0 75 gshL[75]? = .inl (cA .int, 40, .inl (fun _ => i32 0)) := rfl
theorem gc_76 (ad : Nat → Nat) (cA : FieldType → ClassId) : gcellOf ad cA s0 76 gshL[76]? = .inl (cA .int, 240, .inl (fun _ => i32 0)) := rfl
theorem gc_77 (ad : Nat → Nat) (cA : FieldType → ClassId) : gcellOf ad cA s0 77 gshL[77]? = .inl (cA .int, 6, .inl (fun _ => i32 0)) := rfl
theorem gc_78 (ad : Nat → Nat) (cA : FieldType → ClassId) : gcellOf ad cA s0 78 gshL[78]? = .inl (cA .int, 6, .inl (fun _ => i32 0)) := rfl
theorem gc_79 (ad : Nat → Nat) (cA : FieldType → ClassId) : gcellOf ad cA s0 79 gshL[79]? = .inl (cA .boolean, 6, .inl (fun _ => i32 0)) := rfl
theorem gc_80 (ad : Nat → Nat) (cA : FieldType → ClassId) : gcellOf ad cA s0 80 gshL[80]? = .inl (cA .int, 6, .inl (fun _ => i32 0)) := rfl
theorem gc_81 (ad : Nat → Nat) (cA : FieldType → ClassId) : gcellOf ad cA s0 81 gshL[81]? = .inr (5, [vI 0, .ref (ad 82), .ref (ad 83)]) := rfl
theorem gc_82 (ad : Nat → Nat) (cA : FieldType → ClassId) : gcellOf ad cA s0 82 gshL[82]? = .inl (cA .int, 36, .inl (fun _ => i32 0)) := rfl
theorem gc_83 (ad : Nat → Nat) (cA : FieldType → ClassId) : gcellOf ad cA s0 83 gshL[83]? = .inl (cA .int, 36, .inl (fun _ => i32 0)) := rfl
theorem gc_84 (ad : Nat → Nat) (cA : FieldType → ClassId) : gcellOf ad cA s0 84 gshL[84]? = .inr (1, [vI 0, vI 0, vI 0, .ref (ad 85), .ref (ad 86), .ref (ad 87)]) := rfl
theorem gc_85 (ad : Nat → Nat) (cA : FieldType → ClassId) : gcellOf ad cA s0 85 gshL[85]? = .inl (cA .int, 24, .inl (fun _ => i32 0)) := rfl
theorem gc_86 (ad : Nat → Nat) (cA : FieldType → ClassId) : gcellOf ad cA s0 86 gshL[86]? = .inl (cA .int, 8640, .inl (fun _ => i32 0)) := rfl
theorem gc_87 (ad : Nat → Nat) (cA : FieldType → ClassId) : gcellOf ad cA s0 87 gshL[87]? = .inl (cA .int, 7, .inl (fun _ => i32 0)) := rfl
theorem gc_88 (ad : Nat → Nat) (cA : FieldType → ClassId) : gcellOf ad cA s0 88 gshL[88]? = .inr (12, [.ref (ad 89), .ref (ad 90), vI 0, vI 0, vI 0, vI 0, vI 0, vI 0, vI 0, .ref (ad 91), vI 0, vI 0, vI 0, vI 0, vI 0, .ref (ad 92), .ref (ad 93), .ref (ad 94), .ref (ad 95), .ref (ad 96), .ref (ad 97), .ref (ad 98), .ref (ad 99), vI 0, vI 0, vI 0, vI 0, vI 0, vI 0, vI 0, .ref (ad 100), .ref (ad 101), .ref (ad 102), .ref (ad 103), .ref (ad 104), .ref (ad 105), .ref (ad 106), .ref (ad 107), .ref (ad 108), .ref (ad 109), .ref (ad 110), vI 0, vI 0, .ref (ad 111), .ref (ad 112), .ref (ad 113), .ref (ad 114), .ref (ad 115), .ref (ad 116), .ref (ad 117), vI 0, .ref (ad 118), .ref (ad 119), .ref (ad 120), .ref (ad 121), .ref (ad 122), .ref (ad 123), .ref (ad 124), .ref (ad 125), .ref (ad 126), .ref (ad 127), vI 0, .ref (ad 128), .ref (ad 129), vI 0, vI 0, .ref (ad 130), .ref (ad 131), vI 0]) := rfl
theorem gc_89 (ad : Nat → Nat) (cA : FieldType → ClassId) : gcellOf ad cA s0 89 gshL[89]? = .inl (cA .int, 3704, .inl (fun (k : Nat) => i32 (if (k : Int) = 6 then -1 else 0))) := rfl
theorem gc_90 (ad : Nat → Nat) (cA : FieldType → ClassId) : gcellOf ad cA s0 90 gshL[90]? = .inl (cA .boolean, 3, .inl (fun _ => i32 0)) := rfl
theorem gc_91 (ad : Nat → Nat) (cA : FieldType → ClassId) : gcellOf ad cA s0 91 gshL[91]? = .inl (cA .int, 121, .inl (fun _ => i32 0)) := rfl
theorem gc_92 (ad : Nat → Nat) (cA : FieldType → ClassId) : gcellOf ad cA s0 92 gshL[92]? = .inl (cA .int, 6, .inl (fun _ => i32 0)) := rfl
theorem gc_93 (ad : Nat → Nat) (cA : FieldType → ClassId) : gcellOf ad cA s0 93 gshL[93]? = .inl (cA .int, 6, .inl (fun _ => i32 0)) := rfl
theorem gc_94 (ad : Nat → Nat) (cA : FieldType → ClassId) : gcellOf ad cA s0 94 gshL[94]? = .inl (cA .int, 324, .inl (fun _ => i32 0)) := rfl
theorem gc_95 (ad : Nat → Nat) (cA : FieldType → ClassId) : gcellOf ad cA s0 95 gshL[95]? = .inl (cA .int, 36, .inl (fun _ => i32 0)) := rfl
theorem gc_96 (ad : Nat → Nat) (cA : FieldType → ClassId) : gcellOf ad cA s0 96 gshL[96]? = .inl (cA .int, 54, .inl (fun _ => i32 0)) := rfl
theorem gc_97 (ad : Nat → Nat) (cA : FieldType → ClassId) : gcellOf ad cA s0 97 gshL[97]? = .inl (cA .int, 6, .inl (fun _ => i32 0)) := rfl
theorem gc_98 (ad : Nat → Nat) (cA : FieldType → ClassId) : gcellOf ad cA s0 98 gshL[98]? = .inl (cA .int, 6, .inl (fun _ => i32 0)) := rfl
theorem gc_99 (ad : Nat → Nat) (cA : FieldType → ClassId) : gcellOf ad cA s0 99 gshL[99]? = .inl (cA .boolean, 6, .inl (fun _ => i32 0)) := rfl
theorem gc_100 (ad : Nat → Nat) (cA : FieldType → ClassId) : gcellOf ad cA s0 100 gshL[100]? = .inl (cA .int, 400, .inl (fun _ => i32 0)) := rfl
theorem gc_101 (ad : Nat → Nat) (cA : FieldType → ClassId) : gcellOf ad cA s0 101 gshL[101]? = .inl (cA .int, 400, .inl (fun _ => i32 0)) := rfl
theorem gc_102 (ad : Nat → Nat) (cA : FieldType → ClassId) : gcellOf ad cA s0 102 gshL[102]? = .inl (cA .boolean, 400, .inl (fun _ => i32 0)) := rfl
theorem gc_103 (ad : Nat → Nat) (cA : FieldType → ClassId) : gcellOf ad cA s0 103 gshL[103]? = .inl (cA .int, 400, .inl (fun _ => i32 0)) := rfl
theorem gc_104 (ad : Nat → Nat) (cA : FieldType → ClassId) : gcellOf ad cA s0 104 gshL[104]? = .inl (cA .int, 400, .inl (fun _ => i32 0)) := rfl
theorem gc_105 (ad : Nat → Nat) (cA : FieldType → ClassId) : gcellOf ad cA s0 105 gshL[105]? = .inl (cA .boolean, 400, .inl (fun _ => i32 0)) := rfl
theorem gc_106 (ad : Nat → Nat) (cA : FieldType → ClassId) : gcellOf ad cA s0 106 gshL[106]? = .inl (cA .int, 400, .inl (fun _ => i32 0)) := rfl
theorem gc_107 (ad : Nat → Nat) (cA : FieldType → ClassId) : gcellOf ad cA s0 107 gshL[107]? = .inl (cA .int, 400, .inl (fun _ => i32 0)) := rfl
theorem gc_108 (ad : Nat → Nat) (cA : FieldType → ClassId) : gcellOf ad cA s0 108 gshL[108]? = .inl (cA .boolean, 400, .inl (fun _ => i32 0)) := rfl
theorem gc_109 (ad : Nat → Nat) (cA : FieldType → ClassId) : gcellOf ad cA s0 109 gshL[109]? = .inl (cA .int, 2520, .inl (fun _ => i32 0)) := rfl
theorem gc_110 (ad : Nat → Nat) (cA : FieldType → ClassId) : gcellOf ad cA s0 110 gshL[110]? = .inl (cA .int, 2520, .inl (fun _ => i32 0)) := rfl
theorem gc_111 (ad : Nat → Nat) (cA : FieldType → ClassId) : gcellOf ad cA s0 111 gshL[111]? = .inl (cA .int, 6, .inl (fun _ => i32 0)) := rfl
theorem gc_112 (ad : Nat → Nat) (cA : FieldType → ClassId) : gcellOf ad cA s0 112 gshL[112]? = .inl (cA .int, 6, .inl (fun _ => i32 0)) := rfl
theorem gc_113 (ad : Nat → Nat) (cA : FieldType → ClassId) : gcellOf ad cA s0 113 gshL[113]? = .inl (cA .int, 6, .inl (fun _ => i32 0)) := rfl
theorem gc_114 (ad : Nat → Nat) (cA : FieldType → ClassId) : gcellOf ad cA s0 114 gshL[114]? = .inl (cA .int, 14400, .inl (fun _ => i32 0)) := rfl
theorem gc_115 (ad : Nat → Nat) (cA : FieldType → ClassId) : gcellOf ad cA s0 115 gshL[115]? = .inl (cA .int, 1200, .inl (fun _ => i32 0)) := rfl
theorem gc_116 (ad : Nat → Nat) (cA : FieldType → ClassId) : gcellOf ad cA s0 116 gshL[116]? = .inl (cA .int, 448, .inl (fun _ => i32 0)) := rfl
theorem gc_117 (ad : Nat → Nat) (cA : FieldType → ClassId) : gcellOf ad cA s0 117 gshL[117]? = .inl (cA .int, 12, .inl (fun _ => i32 0)) := rfl
theorem gc_118 (ad : Nat → Nat) (cA : FieldType → ClassId) : gcellOf ad cA s0 118 gshL[118]? = .inl (cA .int, 40, .inl (fun _ => i32 0)) := rfl
theorem gc_119 (ad : Nat → Nat) (cA : FieldType → ClassId) : gcellOf ad cA s0 119 gshL[119]? = .inl (cA .int, 40, .inl (fun _ => i32 0)) := rfl
theorem gc_120 (ad : Nat → Nat) (cA : FieldType → ClassId) : gcellOf ad cA s0 120 gshL[120]? = .inl (cA .int, 40, .inl (fun _ => i32 0)) := rfl
theorem gc_121 (ad : Nat → Nat) (cA : FieldType → ClassId) : gcellOf ad cA s0 121 gshL[121]? = .inl (cA .int, 40, .inl (fun _ => i32 0)) := rfl
theorem gc_122 (ad : Nat → Nat) (cA : FieldType → ClassId) : gcellOf ad cA s0 122 gshL[122]? = .inl (cA .int, 40, .inl (fun _ => i32 0)) := rfl
theorem gc_123 (ad : Nat → Nat) (cA : FieldType → ClassId) : gcellOf ad cA s0 123 gshL[123]? = .inl (cA .int, 240, .inl (fun _ => i32 0)) := rfl
theorem gc_124 (ad : Nat → Nat) (cA : FieldType → ClassId) : gcellOf ad cA s0 124 gshL[124]? = .inl (cA .int, 6, .inl (fun _ => i32 0)) := rfl
theorem gc_125 (ad : Nat → Nat) (cA : FieldType → ClassId) : gcellOf ad cA s0 125 gshL[125]? = .inl (cA .int, 40, .inl (fun _ => i32 0)) := rfl
theorem gc_126 (ad : Nat → Nat) (cA : FieldType → ClassId) : gcellOf ad cA s0 126 gshL[126]? = .inl (cA .boolean, 40, .inl (fun _ => i32 0)) := rfl
theorem gc_127 (ad : Nat → Nat) (cA : FieldType → ClassId) : gcellOf ad cA s0 127 gshL[127]? = .inl (cA .int, 6, .inl (fun _ => i32 0)) := rfl
theorem gc_128 (ad : Nat → Nat) (cA : FieldType → ClassId) : gcellOf ad cA s0 128 gshL[128]? = .inl (cA .int, 36, .inl (fun _ => i32 0)) := rfl
theorem gc_129 (ad : Nat → Nat) (cA : FieldType → ClassId) : gcellOf ad cA s0 129 gshL[129]? = .inl (cA .int, 36, .inl (fun _ => i32 0)) := rfl
theorem gc_130 (ad : Nat → Nat) (cA : FieldType → ClassId) : gcellOf ad cA s0 130 gshL[130]? = .inl (cA .int, 24, .inl (fun _ => i32 0)) := rfl
theorem gc_131 (ad : Nat → Nat) (cA : FieldType → ClassId) : gcellOf ad cA s0 131 gshL[131]? = .inl (cA .int, 60480, .inl (fun _ => i32 0)) := rfl
