/-! ===== the layout after both constructors; the judgement with the pure program beside it ===== -/
abbrev zS : Type := (Nat → Nat → Int32) × Nat × Nat
def z_SH (L : Nat) : List (Nat × Nat) := [(100, L), (8, 12), (100, 110), (1, 14), (100, 9), (100, 9), (100, 9), (100, 14), (100, 14), (100, 4), (102, 4), (100, 5), (100, 5), (100, 5), (100, 5), (100, 4), (100, 4), (1, 14), (100, 9), (100, 9), (100, 9), (100, 14), (100, 14), (100, 4), (102, 4), (100, 5), (100, 5), (100, 5), (100, 5), (100, 4), (100, 4), (3, 9), (2, 5), (100, 9), (0, 3), (103, 10), (2, 5), (100, 9), (2, 5), (100, 9), (2, 5), (100, 9), (2, 5), (100, 9), (2, 5), (100, 9), (2, 5), (100, 9), (2, 5), (100, 9), (2, 5), (100, 9), (2, 5), (100, 9), (2, 5), (100, 9), (103, 2), (4, 12), (100, 4), (100, 4), (100, 4), (100, 4), (100, 4), (100, 4), (100, 9), (100, 4), (6, 2), (100, 9), (100, 9), (5, 5), (100, 18), (100, 18), (6, 2), (100, 9), (100, 9), (7, 6), (100, 6), (100, 6), (100, 6), (100, 81), (6, 2), (100, 9), (100, 9), (2, 5), (100, 9), (2, 5), (100, 9), (9, 34), (100, 110), (100, 74), (100, 74), (100, 13), (100, 130), (100, 26), (101, 2), (100, 6), (100, 6), (100, 6), (100, 4), (100, 9), (100, 9), (100, 9), (100, 512), (100, 20), (101, 20), (100, 162), (100, 4), (100, 4), (100, 81)]
def z_FRt : List ((Nat × Nat) × Nat) := [((1, 0), 2), ((1, 4), 31), ((1, 5), 32), ((1, 6), 34), ((1, 7), 56), ((1, 9), 57), ((1, 10), 69), ((1, 11), 75), ((3, 1), 4), ((3, 2), 5), ((3, 3), 6), ((3, 5), 7), ((3, 6), 8), ((3, 8), 9), ((3, 9), 10), ((3, 10), 15), ((3, 11), 16), ((10, 0), 11), ((10, 1), 12), ((10, 2), 13), ((10, 3), 14), ((17, 1), 18), ((17, 2), 19), ((17, 3), 20), ((17, 5), 21), ((17, 6), 22), ((17, 8), 23), ((17, 9), 24), ((17, 10), 29), ((17, 11), 30), ((24, 0), 25), ((24, 1), 26), ((24, 2), 27), ((24, 3), 28), ((32, 4), 33), ((34, 0), 35), ((35, 0), 36), ((35, 1), 38), ((35, 2), 40), ((35, 3), 42), ((35, 4), 44), ((35, 5), 46), ((35, 6), 48), ((35, 7), 50), ((35, 8), 52), ((35, 9), 54), ((36, 4), 37), ((38, 4), 39), ((40, 4), 41), ((42, 4), 43), ((44, 4), 45), ((46, 4), 47), ((48, 4), 49), ((50, 4), 51), ((52, 4), 53), ((54, 4), 55), ((56, 0), 83), ((56, 1), 85), ((57, 2), 58), ((57, 3), 59), ((57, 4), 60), ((57, 5), 61), ((57, 6), 62), ((57, 7), 63), ((57, 8), 64), ((57, 9), 65), ((57, 11), 66), ((66, 0), 67), ((66, 1), 68), ((69, 2), 70), ((69, 3), 71), ((69, 4), 72), ((72, 0), 73), ((72, 1), 74), ((75, 1), 76), ((75, 2), 77), ((75, 3), 78), ((75, 4), 79), ((75, 5), 80), ((80, 0), 81), ((80, 1), 82), ((83, 4), 84), ((85, 4), 86), ((87, 1), 88), ((87, 9), 89), ((87, 10), 90), ((87, 11), 91), ((87, 12), 92), ((87, 14), 93), ((87, 15), 94), ((87, 16), 95), ((87, 17), 96), ((87, 18), 97), ((87, 20), 98), ((87, 21), 99), ((87, 22), 100), ((87, 24), 101), ((87, 25), 102), ((87, 26), 103), ((87, 27), 104), ((87, 29), 105), ((87, 30), 106), ((87, 31), 107), ((87, 33), 108)]
def z_FR (pl dr : Nat) : Nat → Nat → Option Nat := fun k j => if k = 1 ∧ j = 2 then some pl else if k = 1 ∧ j = 3 then some dr else z_FRt.lookup (k, j)
def z_mk (V : zV) (S : zS) : zHP := (z_SH V.2.2.2.2.1, S.1, z_FR S.2.1 S.2.2)
def z_w (S : zS) (q j : Nat) (x : Int32) : zS := (z_ui S.1 q (upd (S.1 q) j x), S.2)
abbrev z_in (i : Int32) (n : Nat) : Prop := 0 ≤ i.toInt ∧ i.toInt < n
abbrev z_isP (P : Nat) : Prop := P = 3 ∨ P = 17
abbrev z_isQ (Q : Nat) : Prop := Q ∈ [32, 36, 38, 40, 42, 44, 46, 48, 50, 52, 54, 83, 85]
abbrev z_isW (W : Nat) : Prop := W = 66 ∨ W = 72 ∨ W = 80
def z_isA (A n : Nat) : Prop := 0 < A ∧ ∀ L, (z_SH L)[A]? = some (100, n)
theorem zq_1 (L : Nat) : (z_SH L)[1]? = some (8, 12) := rfl
theorem zq_2 (L : Nat) : (z_SH L)[2]? = some (100, 110) := rfl
theorem zq_3 (L : Nat) : (z_SH L)[3]? = some (1, 14) := rfl
theorem zq_4 (L : Nat) : (z_SH L)[4]? = some (100, 9) := rfl
theorem zq_5 (L : Nat) : (z_SH L)[5]? = some (100, 9) := rfl
theorem zq_6 (L : Nat) : (z_SH L)[6]? = some (100, 9) := rfl
theorem zq_7 (L : Nat) : (z_SH L)[7]? = some (100, 14) := rfl
theorem zq_8 (L : Nat) : (z_SH L)[8]? = some (100, 14) := rfl
theorem zq_9 (L : Nat) : (z_SH L)[9]? = some (100, 4) := rfl
theorem zq_10 (L : Nat) : (z_SH L)[10]? = some (102, 4) := rfl
theorem zq_11 (L : Nat) : (z_SH L)[11]? = some (100, 5) := rfl
theorem zq_12 (L : Nat) : (z_SH L)[12]? = some (100, 5) := rfl
theorem zq_13 (L : Nat) : (z_SH L)[13]? = some (100, 5) := rfl
theorem zq_14 (L : Nat) : (z_SH L)[14]? = some (100, 5) := rfl
theorem zq_15 (L : Nat) : (z_SH L)[15]? = some (100, 4) := rfl
theorem zq_16 (L : Nat) : (z_SH L)[16]? = some (100, 4) := rfl
theorem zq_17 (L : Nat) : (z_SH L)[17]? = some (1, 14) := rfl
theorem zq_18 (L : Nat) : (z_SH L)[18]? = some (100, 9) := rfl
theorem zq_19 (L : Nat) : (z_SH L)[19]? = some (100, 9) := rfl
theorem zq_20 (L : Nat) : (z_SH L)[20]? = some (100, 9) := rfl
theorem zq_21 (L : Nat) : (z_SH L)[21]? = some (100, 14) := rfl
theorem zq_22 (L : Nat) : (z_SH L)[22]? = some (100, 14) := rfl
theorem zq_23 (L : Nat) : (z_SH L)[23]? = some (100, 4) := rfl
theorem zq_24 (L : Nat) : (z_SH L)[24]? = some (102, 4) := rfl
theorem zq_25 (L : Nat) : (z_SH L)[25]? = some (100, 5) := rfl
theorem zq_26 (L : Nat) : (z_SH L)[26]? = some (100, 5) := rfl
theorem zq_27 (L : Nat) : (z_SH L)[27]? = some (100, 5) := rfl
theorem zq_28 (L : Nat) : (z_SH L)[28]? = some (100, 5) := rfl
theorem zq_29 (L : Nat) : (z_SH L)[29]? = some (100, 4) := rfl
theorem zq_30 (L : Nat) : (z_SH L)[30]? = some (100, 4) := rfl
theorem zq_31 (L : Nat) : (z_SH L)[31]? = some (3, 9) := rfl
theorem zq_32 (L : Nat) : (z_SH L)[32]? = some (2, 5) := rfl
theorem zq_33 (L : Nat) : (z_SH L)[33]? = some (100, 9) := rfl
theorem zq_34 (L : Nat) : (z_SH L)[34]? = some (0, 3) := rfl
theorem zq_35 (L : Nat) : (z_SH L)[35]? = some (103, 10) := rfl
theorem zq_36 (L : Nat) : (z_SH L)[36]? = some (2, 5) := rfl
theorem zq_37 (L : Nat) : (z_SH L)[37]? = some (100, 9) := rfl
theorem zq_38 (L : Nat) : (z_SH L)[38]? = some (2, 5) := rfl
theorem zq_39 (L : Nat) : (z_SH L)[39]? = some (100, 9) := rfl
theorem zq_40 (L : Nat) : (z_SH L)[40]? = some (2, 5) := rfl
theorem zq_41 (L : Nat) : (z_SH L)[41]? = some (100, 9) := rfl
theorem zq_42 (L : Nat) : (z_SH L)[42]? = some (2, 5) := rfl
theorem zq_43 (L : Nat) : (z_SH L)[43]? = some (100, 9) := rfl
theorem zq_44 (L : Nat) : (z_SH L)[44]? = some (2, 5) := rfl
theorem zq_45 (L : Nat) : (z_SH L)[45]? = some (100, 9) := rfl
theorem zq_46 (L : Nat) : (z_SH L)[46]? = some (2, 5) := rfl
theorem zq_47 (L : Nat) : (z_SH L)[47]? = some (100, 9) := rfl
theorem zq_48 (L : Nat) : (z_SH L)[48]? = some (2, 5) := rfl
theorem zq_49 (L : Nat) : (z_SH L)[49]? = some (100, 9) := rfl
theorem zq_50 (L : Nat) : (z_SH L)[50]? = some (2, 5) := rfl
theorem zq_51 (L : Nat) : (z_SH L)[51]? = some (100, 9) := rfl
theorem zq_52 (L : Nat) : (z_SH L)[52]? = some (2, 5) := rfl
theorem zq_53 (L : Nat) : (z_SH L)[53]? = some (100, 9) := rfl
theorem zq_54 (L : Nat) : (z_SH L)[54]? = some (2, 5) := rfl
theorem zq_55 (L : Nat) : (z_SH L)[55]? = some (100, 9) := rfl
theorem zq_56 (L : Nat) : (z_SH L)[56]? = some (103, 2) := rfl
theorem zq_57 (L : Nat) : (z_SH L)[57]? = some (4, 12) := rfl
theorem zq_58 (L : Nat) : (z_SH L)[58]? = some (100, 4) := rfl
theorem zq_59 (L : Nat) : (z_SH L)[59]? = some (100, 4) := rfl
theorem zq_60 (L : Nat) : (z_SH L)[60]? = some (100, 4) := rfl
theorem zq_61 (L : Nat) : (z_SH L)[61]? = some (100, 4) := rfl
theorem zq_62 (L : Nat) : (z_SH L)[62]? = some (100, 4) := rfl
theorem zq_63 (L : Nat) : (z_SH L)[63]? = some (100, 4) := rfl
theorem zq_64 (L : Nat) : (z_SH L)[64]? = some (100, 9) := rfl
theorem zq_65 (L : Nat) : (z_SH L)[65]? = some (100, 4) := rfl
theorem zq_66 (L : Nat) : (z_SH L)[66]? = some (6, 2) := rfl
theorem zq_67 (L : Nat) : (z_SH L)[67]? = some (100, 9) := rfl
theorem zq_68 (L : Nat) : (z_SH L)[68]? = some (100, 9) := rfl
theorem zq_69 (L : Nat) : (z_SH L)[69]? = some (5, 5) := rfl
theorem zq_70 (L : Nat) : (z_SH L)[70]? = some (100, 18) := rfl
theorem zq_71 (L : Nat) : (z_SH L)[71]? = some (100, 18) := rfl
theorem zq_72 (L : Nat) : (z_SH L)[72]? = some (6, 2) := rfl
theorem zq_73 (L : Nat) : (z_SH L)[73]? = some (100, 9) := rfl
theorem zq_74 (L : Nat) : (z_SH L)[74]? = some (100, 9) := rfl
theorem zq_75 (L : Nat) : (z_SH L)[75]? = some (7, 6) := rfl
theorem zq_76 (L : Nat) : (z_SH L)[76]? = some (100, 6) := rfl
theorem zq_77 (L : Nat) : (z_SH L)[77]? = some (100, 6) := rfl
theorem zq_78 (L : Nat) : (z_SH L)[78]? = some (100, 6) := rfl
theorem zq_79 (L : Nat) : (z_SH L)[79]? = some (100, 81) := rfl
theorem zq_80 (L : Nat) : (z_SH L)[80]? = some (6, 2) := rfl
theorem zq_81 (L : Nat) : (z_SH L)[81]? = some (100, 9) := rfl
theorem zq_82 (L : Nat) : (z_SH L)[82]? = some (100, 9) := rfl
theorem zq_83 (L : Nat) : (z_SH L)[83]? = some (2, 5) := rfl
theorem zq_84 (L : Nat) : (z_SH L)[84]? = some (100, 9) := rfl
theorem zq_85 (L : Nat) : (z_SH L)[85]? = some (2, 5) := rfl
theorem zq_86 (L : Nat) : (z_SH L)[86]? = some (100, 9) := rfl
theorem zq_87 (L : Nat) : (z_SH L)[87]? = some (9, 34) := rfl
theorem zq_88 (L : Nat) : (z_SH L)[88]? = some (100, 110) := rfl
theorem zq_89 (L : Nat) : (z_SH L)[89]? = some (100, 74) := rfl
theorem zq_90 (L : Nat) : (z_SH L)[90]? = some (100, 74) := rfl
theorem zq_91 (L : Nat) : (z_SH L)[91]? = some (100, 13) := rfl
theorem zq_92 (L : Nat) : (z_SH L)[92]? = some (100, 130) := rfl
theorem zq_93 (L : Nat) : (z_SH L)[93]? = some (100, 26) := rfl
theorem zq_94 (L : Nat) : (z_SH L)[94]? = some (101, 2) := rfl
theorem zq_95 (L : Nat) : (z_SH L)[95]? = some (100, 6) := rfl
theorem zq_96 (L : Nat) : (z_SH L)[96]? = some (100, 6) := rfl
theorem zq_97 (L : Nat) : (z_SH L)[97]? = some (100, 6) := rfl
theorem zq_98 (L : Nat) : (z_SH L)[98]? = some (100, 4) := rfl
theorem zq_99 (L : Nat) : (z_SH L)[99]? = some (100, 9) := rfl
theorem zq_100 (L : Nat) : (z_SH L)[100]? = some (100, 9) := rfl
theorem zq_101 (L : Nat) : (z_SH L)[101]? = some (100, 9) := rfl
theorem zq_102 (L : Nat) : (z_SH L)[102]? = some (100, 512) := rfl
theorem zq_103 (L : Nat) : (z_SH L)[103]? = some (100, 20) := rfl
theorem zq_104 (L : Nat) : (z_SH L)[104]? = some (101, 20) := rfl
theorem zq_105 (L : Nat) : (z_SH L)[105]? = some (100, 162) := rfl
theorem zq_106 (L : Nat) : (z_SH L)[106]? = some (100, 4) := rfl
theorem zq_107 (L : Nat) : (z_SH L)[107]? = some (100, 4) := rfl
theorem zq_108 (L : Nat) : (z_SH L)[108]? = some (100, 81) := rfl
theorem zr_1_0 {pl dr : Nat} : z_FR pl dr 1 0 = some 2 := by unfold z_FR; rw [if_neg (by decide), if_neg (by decide)]; rfl
theorem zr_1_4 {pl dr : Nat} : z_FR pl dr 1 4 = some 31 := by unfold z_FR; rw [if_neg (by decide), if_neg (by decide)]; rfl
theorem zr_1_5 {pl dr : Nat} : z_FR pl dr 1 5 = some 32 := by unfold z_FR; rw [if_neg (by decide), if_neg (by decide)]; rfl
theorem zr_1_6 {pl dr : Nat} : z_FR pl dr 1 6 = some 34 := by unfold z_FR; rw [if_neg (by decide), if_neg (by decide)]; rfl
theorem zr_1_7 {pl dr : Nat} : z_FR pl dr 1 7 = some 56 := by unfold z_FR; rw [if_neg (by decide), if_neg (by decide)]; rfl
theorem zr_1_9 {pl dr : Nat} : z_FR pl dr 1 9 = some 57 := by unfold z_FR; rw [if_neg (by decide), if_neg (by decide)]; rfl
theorem zr_1_10 {pl dr : Nat} : z_FR pl dr 1 10 = some 69 := by unfold z_FR; rw [if_neg (by decide), if_neg (by decide)]; rfl
theorem zr_1_11 {pl dr : Nat} : z_FR pl dr 1 11 = some 75 := by unfold z_FR; rw [if_neg (by decide), if_neg (by decide)]; rfl
theorem zr_3_1 {pl dr : Nat} : z_FR pl dr 3 1 = some 4 := by unfold z_FR; rw [if_neg (by decide), if_neg (by decide)]; rfl
theorem zr_3_2 {pl dr : Nat} : z_FR pl dr 3 2 = some 5 := by unfold z_FR; rw [if_neg (by decide), if_neg (by decide)]; rfl
theorem zr_3_3 {pl dr : Nat} : z_FR pl dr 3 3 = some 6 := by unfold z_FR; rw [if_neg (by decide), if_neg (by decide)]; rfl
theorem zr_3_5 {pl dr : Nat} : z_FR pl dr 3 5 = some 7 := by unfold z_FR; rw [if_neg (by decide), if_neg (by decide)]; rfl
theorem zr_3_6 {pl dr : Nat} : z_FR pl dr 3 6 = some 8 := by unfold z_FR; rw [if_neg (by decide), if_neg (by decide)]; rfl
theorem zr_3_8 {pl dr : Nat} : z_FR pl dr 3 8 = some 9 := by unfold z_FR; rw [if_neg (by decide), if_neg (by decide)]; rfl
theorem zr_3_9 {pl dr : Nat} : z_FR pl dr 3 9 = some 10 := by unfold z_FR; rw [if_neg (by decide), if_neg (by decide)]; rfl
theorem zr_3_10 {pl dr : Nat} : z_FR pl dr 3 10 = some 15 := by unfold z_FR; rw [if_neg (by decide), if_neg (by decide)]; rfl
theorem zr_3_11 {pl dr : Nat} : z_FR pl dr 3 11 = some 16 := by unfold z_FR; rw [if_neg (by decide), if_neg (by decide)]; rfl
theorem zr_17_1 {pl dr : Nat} : z_FR pl dr 17 1 = some 18 := by unfold z_FR; rw [if_neg (by decide), if_neg (by decide)]; rfl
theorem zr_17_2 {pl dr : Nat} : z_FR pl dr 17 2 = some 19 := by unfold z_FR; rw [if_neg (by decide), if_neg (by decide)]; rfl
theorem zr_17_3 {pl dr : Nat} : z_FR pl dr 17 3 = some 20 := by unfold z_FR; rw [if_neg (by decide), if_neg (by decide)]; rfl
theorem zr_17_5 {pl dr : Nat} : z_FR pl dr 17 5 = some 21 := by unfold z_FR; rw [if_neg (by decide), if_neg (by decide)]; rfl
theorem zr_17_6 {pl dr : Nat} : z_FR pl dr 17 6 = some 22 := by unfold z_FR; rw [if_neg (by decide), if_neg (by decide)]; rfl
theorem zr_17_8 {pl dr : Nat} : z_FR pl dr 17 8 = some 23 := by unfold z_FR; rw [if_neg (by decide), if_neg (by decide)]; rfl
theorem zr_17_9 {pl dr : Nat} : z_FR pl dr 17 9 = some 24 := by unfold z_FR; rw [if_neg (by decide), if_neg (by decide)]; rfl
theorem zr_17_10 {pl dr : Nat} : z_FR pl dr 17 10 = some 29 := by unfold z_FR; rw [if_neg (by decide), if_neg (by decide)]; rfl
theorem zr_17_11 {pl dr : Nat} : z_FR pl dr 17 11 = some 30 := by unfold z_FR; rw [if_neg (by decide), if_neg (by decide)]; rfl
theorem zr_32_4 {pl dr : Nat} : z_FR pl dr 32 4 = some 33 := by unfold z_FR; rw [if_neg (by decide), if_neg (by decide)]; rfl
theorem zr_34_0 {pl dr : Nat} : z_FR pl dr 34 0 = some 35 := by unfold z_FR; rw [if_neg (by decide), if_neg (by decide)]; rfl
theorem zr_36_4 {pl dr : Nat} : z_FR pl dr 36 4 = some 37 := by unfold z_FR; rw [if_neg (by decide), if_neg (by decide)]; rfl
theorem zr_38_4 {pl dr : Nat} : z_FR pl dr 38 4 = some 39 := by unfold z_FR; rw [if_neg (by decide), if_neg (by decide)]; rfl
theorem zr_40_4 {pl dr : Nat} : z_FR pl dr 40 4 = some 41 := by unfold z_FR; rw [if_neg (by decide), if_neg (by decide)]; rfl
theorem zr_42_4 {pl dr : Nat} : z_FR pl dr 42 4 = some 43 := by unfold z_FR; rw [if_neg (by decide), if_neg (by decide)]; rfl
theorem zr_44_4 {pl dr : Nat} : z_FR pl dr 44 4 = some 45 := by unfold z_FR; rw [if_neg (by decide), if_neg (by decide)]; rfl
theorem zr_46_4 {pl dr : Nat} : z_FR pl dr 46 4 = some 47 := by unfold z_FR; rw [if_neg (by decide), if_neg (by decide)]; rfl
theorem zr_48_4 {pl dr : Nat} : z_FR pl dr 48 4 = some 49 := by unfold z_FR; rw [if_neg (by decide), if_neg (by decide)]; rfl
theorem zr_50_4 {pl dr : Nat} : z_FR pl dr 50 4 = some 51 := by unfold z_FR; rw [if_neg (by decide), if_neg (by decide)]; rfl
theorem zr_52_4 {pl dr : Nat} : z_FR pl dr 52 4 = some 53 := by unfold z_FR; rw [if_neg (by decide), if_neg (by decide)]; rfl
theorem zr_54_4 {pl dr : Nat} : z_FR pl dr 54 4 = some 55 := by unfold z_FR; rw [if_neg (by decide), if_neg (by decide)]; rfl
theorem zr_57_2 {pl dr : Nat} : z_FR pl dr 57 2 = some 58 := by unfold z_FR; rw [if_neg (by decide), if_neg (by decide)]; rfl
theorem zr_57_3 {pl dr : Nat} : z_FR pl dr 57 3 = some 59 := by unfold z_FR; rw [if_neg (by decide), if_neg (by decide)]; rfl
theorem zr_57_4 {pl dr : Nat} : z_FR pl dr 57 4 = some 60 := by unfold z_FR; rw [if_neg (by decide), if_neg (by decide)]; rfl
theorem zr_57_5 {pl dr : Nat} : z_FR pl dr 57 5 = some 61 := by unfold z_FR; rw [if_neg (by decide), if_neg (by decide)]; rfl
theorem zr_57_6 {pl dr : Nat} : z_FR pl dr 57 6 = some 62 := by unfold z_FR; rw [if_neg (by decide), if_neg (by decide)]; rfl
theorem zr_57_7 {pl dr : Nat} : z_FR pl dr 57 7 = some 63 := by unfold z_FR; rw [if_neg (by decide), if_neg (by decide)]; rfl
theorem zr_57_8 {pl dr : Nat} : z_FR pl dr 57 8 = some 64 := by unfold z_FR; rw [if_neg (by decide), if_neg (by decide)]; rfl
theorem zr_57_9 {pl dr : Nat} : z_FR pl dr 57 9 = some 65 := by unfold z_FR; rw [if_neg (by decide), if_neg (by decide)]; rfl
theorem zr_57_11 {pl dr : Nat} : z_FR pl dr 57 11 = some 66 := by unfold z_FR; rw [if_neg (by decide), if_neg (by decide)]; rfl
theorem zr_66_0 {pl dr : Nat} : z_FR pl dr 66 0 = some 67 := by unfold z_FR; rw [if_neg (by decide), if_neg (by decide)]; rfl
theorem zr_66_1 {pl dr : Nat} : z_FR pl dr 66 1 = some 68 := by unfold z_FR; rw [if_neg (by decide), if_neg (by decide)]; rfl
theorem zr_69_2 {pl dr : Nat} : z_FR pl dr 69 2 = some 70 := by unfold z_FR; rw [if_neg (by decide), if_neg (by decide)]; rfl
theorem zr_69_3 {pl dr : Nat} : z_FR pl dr 69 3 = some 71 := by unfold z_FR; rw [if_neg (by decide), if_neg (by decide)]; rfl
theorem zr_69_4 {pl dr : Nat} : z_FR pl dr 69 4 = some 72 := by unfold z_FR; rw [if_neg (by decide), if_neg (by decide)]; rfl
theorem zr_72_0 {pl dr : Nat} : z_FR pl dr 72 0 = some 73 := by unfold z_FR; rw [if_neg (by decide), if_neg (by decide)]; rfl
theorem zr_72_1 {pl dr : Nat} : z_FR pl dr 72 1 = some 74 := by unfold z_FR; rw [if_neg (by decide), if_neg (by decide)]; rfl
theorem zr_75_1 {pl dr : Nat} : z_FR pl dr 75 1 = some 76 := by unfold z_FR; rw [if_neg (by decide), if_neg (by decide)]; rfl
theorem zr_75_2 {pl dr : Nat} : z_FR pl dr 75 2 = some 77 := by unfold z_FR; rw [if_neg (by decide), if_neg (by decide)]; rfl
theorem zr_75_3 {pl dr : Nat} : z_FR pl dr 75 3 = some 78 := by unfold z_FR; rw [if_neg (by decide), if_neg (by decide)]; rfl
theorem zr_75_4 {pl dr : Nat} : z_FR pl dr 75 4 = some 79 := by unfold z_FR; rw [if_neg (by decide), if_neg (by decide)]; rfl
theorem zr_75_5 {pl dr : Nat} : z_FR pl dr 75 5 = some 80 := by unfold z_FR; rw [if_neg (by decide), if_neg (by decide)]; rfl
theorem zr_80_0 {pl dr : Nat} : z_FR pl dr 80 0 = some 81 := by unfold z_FR; rw [if_neg (by decide), if_neg (by decide)]; rfl
theorem zr_80_1 {pl dr : Nat} : z_FR pl dr 80 1 = some 82 := by unfold z_FR; rw [if_neg (by decide), if_neg (by decide)]; rfl
theorem zr_83_4 {pl dr : Nat} : z_FR pl dr 83 4 = some 84 := by unfold z_FR; rw [if_neg (by decide), if_neg (by decide)]; rfl
theorem zr_85_4 {pl dr : Nat} : z_FR pl dr 85 4 = some 86 := by unfold z_FR; rw [if_neg (by decide), if_neg (by decide)]; rfl
theorem zr_87_1 {pl dr : Nat} : z_FR pl dr 87 1 = some 88 := by unfold z_FR; rw [if_neg (by decide), if_neg (by decide)]; rfl
theorem zr_87_9 {pl dr : Nat} : z_FR pl dr 87 9 = some 89 := by unfold z_FR; rw [if_neg (by decide), if_neg (by decide)]; rfl
theorem zr_87_10 {pl dr : Nat} : z_FR pl dr 87 10 = some 90 := by unfold z_FR; rw [if_neg (by decide), if_neg (by decide)]; rfl
theorem zr_87_11 {pl dr : Nat} : z_FR pl dr 87 11 = some 91 := by unfold z_FR; rw [if_neg (by decide), if_neg (by decide)]; rfl
theorem zr_87_12 {pl dr : Nat} : z_FR pl dr 87 12 = some 92 := by unfold z_FR; rw [if_neg (by decide), if_neg (by decide)]; rfl
theorem zr_87_14 {pl dr : Nat} : z_FR pl dr 87 14 = some 93 := by unfold z_FR; rw [if_neg (by decide), if_neg (by decide)]; rfl
theorem zr_87_15 {pl dr : Nat} : z_FR pl dr 87 15 = some 94 := by unfold z_FR; rw [if_neg (by decide), if_neg (by decide)]; rfl
theorem zr_87_16 {pl dr : Nat} : z_FR pl dr 87 16 = some 95 := by unfold z_FR; rw [if_neg (by decide), if_neg (by decide)]; rfl
theorem zr_87_17 {pl dr : Nat} : z_FR pl dr 87 17 = some 96 := by unfold z_FR; rw [if_neg (by decide), if_neg (by decide)]; rfl
theorem zr_87_18 {pl dr : Nat} : z_FR pl dr 87 18 = some 97 := by unfold z_FR; rw [if_neg (by decide), if_neg (by decide)]; rfl
theorem zr_87_20 {pl dr : Nat} : z_FR pl dr 87 20 = some 98 := by unfold z_FR; rw [if_neg (by decide), if_neg (by decide)]; rfl
theorem zr_87_21 {pl dr : Nat} : z_FR pl dr 87 21 = some 99 := by unfold z_FR; rw [if_neg (by decide), if_neg (by decide)]; rfl
theorem zr_87_22 {pl dr : Nat} : z_FR pl dr 87 22 = some 100 := by unfold z_FR; rw [if_neg (by decide), if_neg (by decide)]; rfl
theorem zr_87_24 {pl dr : Nat} : z_FR pl dr 87 24 = some 101 := by unfold z_FR; rw [if_neg (by decide), if_neg (by decide)]; rfl
theorem zr_87_25 {pl dr : Nat} : z_FR pl dr 87 25 = some 102 := by unfold z_FR; rw [if_neg (by decide), if_neg (by decide)]; rfl
theorem zr_87_26 {pl dr : Nat} : z_FR pl dr 87 26 = some 103 := by unfold z_FR; rw [if_neg (by decide), if_neg (by decide)]; rfl
theorem zr_87_27 {pl dr : Nat} : z_FR pl dr 87 27 = some 104 := by unfold z_FR; rw [if_neg (by decide), if_neg (by decide)]; rfl
theorem zr_87_29 {pl dr : Nat} : z_FR pl dr 87 29 = some 105 := by unfold z_FR; rw [if_neg (by decide), if_neg (by decide)]; rfl
theorem zr_87_30 {pl dr : Nat} : z_FR pl dr 87 30 = some 106 := by unfold z_FR; rw [if_neg (by decide), if_neg (by decide)]; rfl
theorem zr_87_31 {pl dr : Nat} : z_FR pl dr 87 31 = some 107 := by unfold z_FR; rw [if_neg (by decide), if_neg (by decide)]; rfl
theorem zr_87_33 {pl dr : Nat} : z_FR pl dr 87 33 = some 108 := by unfold z_FR; rw [if_neg (by decide), if_neg (by decide)]; rfl
theorem zr_pl {pl dr : Nat} : z_FR pl dr 1 2 = some pl := by unfold z_FR; rw [if_pos ⟨rfl, rfl⟩]
theorem zr_dr {pl dr : Nat} : z_FR pl dr 1 3 = some dr := by unfold z_FR; rw [if_neg (by decide), if_pos ⟨rfl, rfl⟩]
theorem zp_o {P : Nat} (h : z_isP P) (L : Nat) : (z_SH L)[P]? = some (1, 14) := by rcases h with rfl | rfl <;> rfl
theorem zp_1 {P : Nat} (h : z_isP P) (L : Nat) : (z_SH L)[P + 1]? = some (100, 9) := by rcases h with rfl | rfl <;> rfl
theorem zp_p1 {P : Nat} (h : z_isP P) : 0 < P + 1 := Nat.lt_of_lt_of_le (by decide) (Nat.le_add_left _ _)
theorem zp_2 {P : Nat} (h : z_isP P) (L : Nat) : (z_SH L)[P + 2]? = some (100, 9) := by rcases h with rfl | rfl <;> rfl
theorem zp_p2 {P : Nat} (h : z_isP P) : 0 < P + 2 := Nat.lt_of_lt_of_le (by decide) (Nat.le_add_left _ _)
theorem zp_3 {P : Nat} (h : z_isP P) (L : Nat) : (z_SH L)[P + 3]? = some (100, 9) := by rcases h with rfl | rfl <;> rfl
theorem zp_p3 {P : Nat} (h : z_isP P) : 0 < P + 3 := Nat.lt_of_lt_of_le (by decide) (Nat.le_add_left _ _)
theorem zp_4 {P : Nat} (h : z_isP P) (L : Nat) : (z_SH L)[P + 4]? = some (100, 14) := by rcases h with rfl | rfl <;> rfl
theorem zp_p4 {P : Nat} (h : z_isP P) : 0 < P + 4 := Nat.lt_of_lt_of_le (by decide) (Nat.le_add_left _ _)
theorem zp_5 {P : Nat} (h : z_isP P) (L : Nat) : (z_SH L)[P + 5]? = some (100, 14) := by rcases h with rfl | rfl <;> rfl
theorem zp_p5 {P : Nat} (h : z_isP P) : 0 < P + 5 := Nat.lt_of_lt_of_le (by decide) (Nat.le_add_left _ _)
theorem zp_6 {P : Nat} (h : z_isP P) (L : Nat) : (z_SH L)[P + 6]? = some (100, 4) := by rcases h with rfl | rfl <;> rfl
theorem zp_p6 {P : Nat} (h : z_isP P) : 0 < P + 6 := Nat.lt_of_lt_of_le (by decide) (Nat.le_add_left _ _)
theorem zp_7 {P : Nat} (h : z_isP P) (L : Nat) : (z_SH L)[P + 7]? = some (102, 4) := by rcases h with rfl | rfl <;> rfl
theorem zp_p7 {P : Nat} (h : z_isP P) : 0 < P + 7 := Nat.lt_of_lt_of_le (by decide) (Nat.le_add_left _ _)
theorem zp_8 {P : Nat} (h : z_isP P) (L : Nat) : (z_SH L)[P + 8]? = some (100, 5) := by rcases h with rfl | rfl <;> rfl
theorem zp_p8 {P : Nat} (h : z_isP P) : 0 < P + 8 := Nat.lt_of_lt_of_le (by decide) (Nat.le_add_left _ _)
theorem zp_9 {P : Nat} (h : z_isP P) (L : Nat) : (z_SH L)[P + 9]? = some (100, 5) := by rcases h with rfl | rfl <;> rfl
theorem zp_p9 {P : Nat} (h : z_isP P) : 0 < P + 9 := Nat.lt_of_lt_of_le (by decide) (Nat.le_add_left _ _)
theorem zp_10 {P : Nat} (h : z_isP P) (L : Nat) : (z_SH L)[P + 10]? = some (100, 5) := by rcases h with rfl | rfl <;> rfl
theorem zp_p10 {P : Nat} (h : z_isP P) : 0 < P + 10 := Nat.lt_of_lt_of_le (by decide) (Nat.le_add_left _ _)
theorem zp_11 {P : Nat} (h : z_isP P) (L : Nat) : (z_SH L)[P + 11]? = some (100, 5) := by rcases h with rfl | rfl <;> rfl
theorem zp_p11 {P : Nat} (h : z_isP P) : 0 < P + 11 := Nat.lt_of_lt_of_le (by decide) (Nat.le_add_left _ _)
theorem zp_12 {P : Nat} (h : z_isP P) (L : Nat) : (z_SH L)[P + 12]? = some (100, 4) := by rcases h with rfl | rfl <;> rfl
theorem zp_p12 {P : Nat} (h : z_isP P) : 0 < P + 12 := Nat.lt_of_lt_of_le (by decide) (Nat.le_add_left _ _)
theorem zp_13 {P : Nat} (h : z_isP P) (L : Nat) : (z_SH L)[P + 13]? = some (100, 4) := by rcases h with rfl | rfl <;> rfl
theorem zp_p13 {P : Nat} (h : z_isP P) : 0 < P + 13 := Nat.lt_of_lt_of_le (by decide) (Nat.le_add_left _ _)
theorem zp_r1 {P pl dr : Nat} (h : z_isP P) : z_FR pl dr P 1 = some (P + 1) := by
  rcases h with rfl | rfl
  · exact zr_3_1
  · exact zr_17_1
theorem zp_r2 {P pl dr : Nat} (h : z_isP P) : z_FR pl dr P 2 = some (P + 2) := by
  rcases h with rfl | rfl
  · exact zr_3_2
  · exact zr_17_2
theorem zp_r3 {P pl dr : Nat} (h : z_isP P) : z_FR pl dr P 3 = some (P + 3) := by
  rcases h with rfl | rfl
  · exact zr_3_3
  · exact zr_17_3
theorem zp_r5 {P pl dr : Nat} (h : z_isP P) : z_FR pl dr P 5 = some (P + 4) := by
  rcases h with rfl | rfl
  · exact zr_3_5
  · exact zr_17_5
theorem zp_r6 {P pl dr : Nat} (h : z_isP P) : z_FR pl dr P 6 = some (P + 5) := by
  rcases h with rfl | rfl
  · exact zr_3_6
  · exact zr_17_6
theorem zp_r8 {P pl dr : Nat} (h : z_isP P) : z_FR pl dr P 8 = some (P + 6) := by
  rcases h with rfl | rfl
  · exact zr_3_8
  · exact zr_17_8
theorem zp_r9 {P pl dr : Nat} (h : z_isP P) : z_FR pl dr P 9 = some (P + 7) := by
  rcases h with rfl | rfl
  · exact zr_3_9
  · exact zr_17_9
theorem zp_r10 {P pl dr : Nat} (h : z_isP P) : z_FR pl dr P 10 = some (P + 12) := by
  rcases h with rfl | rfl
  · exact zr_3_10
  · exact zr_17_10
theorem zp_r11 {P pl dr : Nat} (h : z_isP P) : z_FR pl dr P 11 = some (P + 13) := by
  rcases h with rfl | rfl
  · exact zr_3_11
  · exact zr_17_11
theorem zp_ring {P pl dr j : Nat} (h : z_isP P) (hj : j < 4) : z_FR pl dr (P + 7) j = some (P + 8 + j) ∧ ∀ L, (z_SH L)[P + 8 + j]? = some (100, 5) := by
  rcases h with rfl | rfl <;> (rcases (show j = 0 ∨ j = 1 ∨ j = 2 ∨ j = 3 by omega) with rfl | rfl | rfl | rfl) <;> exact ⟨by unfold z_FR; rw [if_neg (by decide), if_neg (by decide)]; rfl, fun _ => rfl⟩
theorem zl_o {Q : Nat} (h : z_isQ Q) (L : Nat) : (z_SH L)[Q]? = some (2, 5) ∧ (z_SH L)[Q + 1]? = some (100, 9) := by
  simp only [List.mem_cons, List.not_mem_nil, or_false] at h
  rcases h with rfl | rfl | rfl | rfl | rfl | rfl | rfl | rfl | rfl | rfl | rfl | rfl | rfl <;> exact ⟨rfl, rfl⟩
theorem zl_r {Q pl dr : Nat} (h : z_isQ Q) : z_FR pl dr Q 4 = some (Q + 1) := by
  simp only [List.mem_cons, List.not_mem_nil, or_false] at h
  rcases h with rfl | rfl | rfl | rfl | rfl | rfl | rfl | rfl | rfl | rfl | rfl | rfl | rfl <;> (unfold z_FR; rw [if_neg (by decide), if_neg (by decide)]; rfl)
theorem zl_rows {pl dr j : Nat} (hj : j < 10) : z_FR pl dr 35 j = some (36 + 2 * j) ∧ z_isQ (36 + 2 * j) := by
  rcases (show j = 0 ∨ j = 1 ∨ j = 2 ∨ j = 3 ∨ j = 4 ∨ j = 5 ∨ j = 6 ∨ j = 7 ∨ j = 8 ∨ j = 9 by omega) with rfl | rfl | rfl | rfl | rfl | rfl | rfl | rfl | rfl | rfl <;> exact ⟨by unfold z_FR; rw [if_neg (by decide), if_neg (by decide)]; rfl, by decide⟩
theorem zl_imgs {pl dr j : Nat} (hj : j < 2) : z_FR pl dr 56 j = some (83 + 2 * j) ∧ z_isQ (83 + 2 * j) := by
  rcases (show j = 0 ∨ j = 1 by omega) with rfl | rfl <;> exact ⟨by unfold z_FR; rw [if_neg (by decide), if_neg (by decide)]; rfl, by decide⟩
theorem zw_o {W : Nat} (h : z_isW W) (L : Nat) : (z_SH L)[W]? = some (6, 2) := by rcases h with rfl | rfl | rfl <;> rfl
theorem zw_1 {W : Nat} (h : z_isW W) (L : Nat) : (z_SH L)[W + 1]? = some (100, 9) := by rcases h with rfl | rfl | rfl <;> rfl
theorem zw_p1 {W : Nat} (h : z_isW W) : 0 < W + 1 := Nat.lt_of_lt_of_le (by decide) (Nat.le_add_left _ _)
theorem zw_r0 {W pl dr : Nat} (h : z_isW W) : z_FR pl dr W 0 = some (W + 1) := by rcases h with rfl | rfl | rfl <;> (unfold z_FR; rw [if_neg (by decide), if_neg (by decide)]; rfl)
theorem zw_2 {W : Nat} (h : z_isW W) (L : Nat) : (z_SH L)[W + 2]? = some (100, 9) := by rcases h with rfl | rfl | rfl <;> rfl
theorem zw_p2 {W : Nat} (h : z_isW W) : 0 < W + 2 := Nat.lt_of_lt_of_le (by decide) (Nat.le_add_left _ _)
theorem zw_r1 {W pl dr : Nat} (h : z_isW W) : z_FR pl dr W 1 = some (W + 2) := by rcases h with rfl | rfl | rfl <;> (unfold z_FR; rw [if_neg (by decide), if_neg (by decide)]; rfl)
theorem z_in_vp {i : Int32} {n : Nat} (h : z_in i n) : vp_in i n := vp_in_iff.mpr h
theorem z_in_lt {i : Int32} {n : Nat} (h : z_in i n) : i.toNatClampNeg < n := by
  have h1 := h.1
  have h2 := h.2
  show i.toInt.toNat < n
  omega
section ZS
variable {V : zV} {M M' : zM} {d bc bs pc idx : Nat} {ls st rest : List Value} {S : zS} {Φ : Option Value → zHP → Prop}
theorem zs_getI {ci j n q : Nat} {fin : Bool} (hd : decode M.2.1 pc = .ok (.getfield idx, 3)) (hf : z_F M.1.cls idx ci j fin) (hty : z_tyR (z_ty ci j) = false) (hsh : (z_SH V.2.2.2.2.1)[q]? = some (ci, n)) (hci : ci < 100) (hj : j < n)
    (k : z_G V M d bc bs (pc + 3) ls (.int (S.1 q j) :: st) (z_mk V S) Φ) : z_G V M d bc bs pc ls (.ref q :: st) (z_mk V S) Φ := zg_getI hd hf hty hsh hci hj k
theorem zs_getR {ci j n q r : Nat} {fin : Bool} (hd : decode M.2.1 pc = .ok (.getfield idx, 3)) (hf : z_F M.1.cls idx ci j fin) (hty : z_tyR (z_ty ci j) = true) (hsh : (z_SH V.2.2.2.2.1)[q]? = some (ci, n)) (hci : ci < 100) (hj : j < n) (hr : z_FR S.2.1 S.2.2 q j = some r)
    (k : z_G V M d bc bs (pc + 3) ls (.ref r :: st) (z_mk V S) Φ) : z_G V M d bc bs pc ls (.ref q :: st) (z_mk V S) Φ := zg_getR hd hf hty hsh hci hj hr k
theorem zs_putI {ci j n q : Nat} {x : Int32} (hd : decode M.2.1 pc = .ok (.putfield idx, 3)) (hf : z_F M.1.cls idx ci j false) (hty : z_ty ci j = .int) (hsh : (z_SH V.2.2.2.2.1)[q]? = some (ci, n)) (hci : ci < 100) (hj : j < n)
    (k : z_G V M d bc bs (pc + 3) ls st (z_mk V (z_w S q j x)) Φ) : z_G V M d bc bs pc ls (.int x :: .ref q :: st) (z_mk V S) Φ := zg_putI hd hf hty hsh hci hj k
theorem zs_putZ {ci j n q : Nat} {x : Int32} (hd : decode M.2.1 pc = .ok (.putfield idx, 3)) (hf : z_F M.1.cls idx ci j false) (hty : z_ty ci j = .boolean) (hx : x = 0 ∨ x = 1) (hsh : (z_SH V.2.2.2.2.1)[q]? = some (ci, n)) (hci : ci < 100) (hj : j < n)
    (k : z_G V M d bc bs (pc + 3) ls st (z_mk V (z_w S q j x)) Φ) : z_G V M d bc bs pc ls (.int x :: .ref q :: st) (z_mk V S) Φ := zg_putZ hd hf hty hx hsh hci hj k
theorem z_FR_pl (pl dr r : Nat) : z_ur (z_FR pl dr) 1 (fun i => if i = 2 then some r else z_FR pl dr 1 i) = z_FR r dr := by
  funext k j
  unfold z_ur
  by_cases hk : k = 1
  · subst hk
    rw [if_pos rfl]
    show (if j = 2 then some r else z_FR pl dr 1 j) = z_FR r dr 1 j
    unfold z_FR
    by_cases hj : j = 2
    · subst hj; simp
    · simp [hj]
  · rw [if_neg hk]
    unfold z_FR
    simp [hk]
theorem z_FR_dr (pl dr r : Nat) : z_ur (z_FR pl dr) 1 (fun i => if i = 3 then some r else z_FR pl dr 1 i) = z_FR pl r := by
  funext k j
  unfold z_ur
  by_cases hk : k = 1
  · subst hk
    rw [if_pos rfl]
    show (if j = 3 then some r else z_FR pl dr 1 j) = z_FR pl r 1 j
    unfold z_FR
    by_cases hj : j = 3
    · subst hj; simp
    · simp [hj]
  · rw [if_neg hk]
    unfold z_FR
    simp [hk]
theorem zs_putPl {r : Nat} (hd : decode M.2.1 pc = .ok (.putfield idx, 3)) (hf : z_F M.1.cls idx 8 2 false)
    (k : z_G V M d bc bs (pc + 3) ls st (z_mk V (S.1, r, S.2.2)) Φ) : z_G V M d bc bs pc ls (.ref r :: .ref 1 :: st) (z_mk V S) Φ := by
  refine zg_putR hd hf (Or.inl rfl) rfl (zq_1 _) (by decide) (by decide) ?_
  show z_G V M d bc bs (pc + 3) ls st (z_SH V.2.2.2.2.1, S.1, z_ur (z_FR S.2.1 S.2.2) 1 (fun i => if i = 2 then some r else z_FR S.2.1 S.2.2 1 i)) Φ
  rw [z_FR_pl]
  exact k
theorem zs_putDr {r : Nat} (hd : decode M.2.1 pc = .ok (.putfield idx, 3)) (hf : z_F M.1.cls idx 8 3 false)
    (k : z_G V M d bc bs (pc + 3) ls st (z_mk V (S.1, S.2.1, r)) Φ) : z_G V M d bc bs pc ls (.ref r :: .ref 1 :: st) (z_mk V S) Φ := by
  refine zg_putR hd hf (Or.inl rfl) rfl (zq_1 _) (by decide) (by decide) ?_
  show z_G V M d bc bs (pc + 3) ls st (z_SH V.2.2.2.2.1, S.1, z_ur (z_FR S.2.1 S.2.2) 1 (fun i => if i = 3 then some r else z_FR S.2.1 S.2.2 1 i)) Φ
  rw [z_FR_dr]
  exact k
theorem zs_iald {q n j : Nat} {i : Int32} (hd : decode M.2.1 pc = .ok (.iaload, 1)) (hq : 0 < q) (hsh : (z_SH V.2.2.2.2.1)[q]? = some (100, n)) (hin : z_in i n) (hj : i.toNatClampNeg = j) (k : z_G V M d bc bs (pc + 1) ls (.int (S.1 q j) :: st) (z_mk V S) Φ) : z_G V M d bc bs pc ls (.int i :: .ref q :: st) (z_mk V S) Φ := by
  subst hj
  exact zg_iald hd hq hsh (z_in_vp hin) k
theorem zs_zald {q n j : Nat} {i : Int32} (hd : decode M.2.1 pc = .ok (.baload, 1)) (hq : 0 < q) (hsh : (z_SH V.2.2.2.2.1)[q]? = some (101, n)) (hin : z_in i n) (hj : i.toNatClampNeg = j) (k : z_G V M d bc bs (pc + 1) ls (.int (S.1 q j) :: st) (z_mk V S) Φ) : z_G V M d bc bs pc ls (.int i :: .ref q :: st) (z_mk V S) Φ := by
  subst hj
  exact zg_zald hd hq hsh (z_in_vp hin) k
theorem zs_sld {j : Nat} {i : Int32} (hd : decode M.2.1 pc = .ok (.iaload, 1)) (hin : z_in i V.2.2.2.2.1) (hj : i.toNatClampNeg = j) (k : z_G V M d bc bs (pc + 1) ls (.int (V.2.2.2.2.2 j) :: st) (z_mk V S) Φ) : z_G V M d bc bs pc ls (.int i :: .ref 0 :: st) (z_mk V S) Φ := by
  subst hj
  exact zg_sld hd (z_in_vp hin) k
theorem zs_iast {q n j : Nat} {i x : Int32} (hd : decode M.2.1 pc = .ok (.iastore, 1)) (hq : 0 < q) (hsh : (z_SH V.2.2.2.2.1)[q]? = some (100, n)) (hin : z_in i n) (hj : i.toNatClampNeg = j) (k : z_G V M d bc bs (pc + 1) ls st (z_mk V (z_w S q j x)) Φ) : z_G V M d bc bs pc ls (.int x :: .int i :: .ref q :: st) (z_mk V S) Φ := by
  subst hj
  exact zg_iast hd hq hsh (z_in_vp hin) k
theorem zs_zast {q n j : Nat} {i x : Int32} (hd : decode M.2.1 pc = .ok (.bastore, 1)) (hx : x = 0 ∨ x = 1) (hq : 0 < q) (hsh : (z_SH V.2.2.2.2.1)[q]? = some (101, n)) (hin : z_in i n) (hj : i.toNatClampNeg = j) (k : z_G V M d bc bs (pc + 1) ls st (z_mk V (z_w S q j x)) Φ) : z_G V M d bc bs pc ls (.int x :: .int i :: .ref q :: st) (z_mk V S) Φ := by
  subst hj
  exact zg_zast hd hx hq hsh (z_in_vp hin) k
theorem zs_alen {q n : Nat} (v : Int32) (hd : decode M.2.1 pc = .ok (.arraylength, 1)) (hq : 0 < q) (hsh : (z_SH V.2.2.2.2.1)[q]? = some (100, n)) (hv : Int32.ofNat n = v) (k : z_G V M d bc bs (pc + 1) ls (.int v :: st) (z_mk V S) Φ) : z_G V M d bc bs pc ls (.ref q :: st) (z_mk V S) Φ := zg_alen v hd hq hsh hv k
theorem zs_ring {P : Nat} {i : Int32} (hd : decode M.2.1 pc = .ok (.aaload, 1)) (hP : z_isP P) (hin : z_in i 4) (k : z_G V M d bc bs (pc + 1) ls (.ref (P + 8 + i.toNatClampNeg) :: st) (z_mk V S) Φ) : z_G V M d bc bs pc ls (.int i :: .ref (P + 7) :: st) (z_mk V S) Φ :=
  zg_aald hd (Or.inl rfl) (zp_7 hP _) (z_in_vp hin) (zp_ring (pl := S.2.1) (dr := S.2.2) hP (z_in_lt hin)).1 k
theorem zs_rows {i : Int32} (hd : decode M.2.1 pc = .ok (.aaload, 1)) (hin : z_in i 10) (k : z_G V M d bc bs (pc + 1) ls (.ref (36 + 2 * i.toNatClampNeg) :: st) (z_mk V S) Φ) : z_G V M d bc bs pc ls (.int i :: .ref 35 :: st) (z_mk V S) Φ :=
  zg_aald hd (Or.inr rfl) (zq_35 _) (z_in_vp hin) (zl_rows (pl := S.2.1) (dr := S.2.2) (z_in_lt hin)).1 k
theorem zs_imgs {i : Int32} (hd : decode M.2.1 pc = .ok (.aaload, 1)) (hin : z_in i 2) (k : z_G V M d bc bs (pc + 1) ls (.ref (83 + 2 * i.toNatClampNeg) :: st) (z_mk V S) Φ) : z_G V M d bc bs pc ls (.int i :: .ref 56 :: st) (z_mk V S) Φ :=
  zg_aald hd (Or.inr rfl) (zq_56 _) (z_in_vp hin) (zl_imgs (pl := S.2.1) (dr := S.2.2) (z_in_lt hin)).1 k
end ZS
theorem z_nf {a d R : Nat} (hr : a ≤ 8) (hlo : 100 * (d + 1) ≤ R) : 2 * 0 + a + (nativeFrameWords "java/lang/System" "arraycopy" 5 + 11) ≤ R := by
  have : nativeFrameWords "java/lang/System" "arraycopy" 5 ≤ 7 := by decide
  omega
/-- arraycopy of ints -/
theorem zg_copy {V : zV} {M : zM} {d bc bs pc idx : Nat} {ls rest : List Value} {h : zHP} {Φ : Option Value → zHP → Prop} {a b n0 n1 : Nat} {sp dp n : Int32} (hd : decode M.2.1 pc = .ok (.invokestatic idx, 3)) (hk : Cond.methodLink M.1.cls idx arraycopyName ∈ wsL_law) (w1 : Cond.native arraycopyName ∈ wsL_law) (w2 : Cond.static arraycopyName ∈ wsL_law) (w3 : Cond.initialized "java/lang/System" ∈ wsL_law)
    (hq0 : 0 < a) (hq1 : 0 < b) (hs0 : h.1[a]? = some (100, n0)) (hs1 : h.1[b]? = some (100, n1)) (h1 : ¬ sp < 0) (h2 : ¬ dp < 0) (h3 : ¬ n < 0) (h4 : sp.toNatClampNeg + n.toNatClampNeg ≤ n0) (h5 : dp.toNatClampNeg + n.toNatClampNeg ≤ n1) (hr : (rest.map fun v => v.category).sum ≤ 8)
    (k : z_G V M (d + 1) bc bs (pc + 3) ls rest (h.1, z_ui h.2.1 b (va_cpy (h.2.1 a) (h.2.1 b) sp.toNatClampNeg dp.toNatClampNeg n.toNatClampNeg), h.2.2) Φ) : z_G V M (d + 1) bc bs pc ls (.int n :: .int dp :: .ref b :: .int sp :: .ref a :: rest) h Φ := by
  have nn : ∀ z : Int32, ¬ z < 0 → z.toInt = (z.toNatClampNeg : Int) := fun z hz => by
    have hz0 : (0 : Int) ≤ z.toInt := by simpa using Int32.le_iff_toInt_le.mp (Int32.not_lt.mp hz)
    show z.toInt = ((z.toInt.toNat : Nat) : Int)
    omega
  intro p l e R s m args below meth c H locs cells slots LS QQ C hw hS hL hn hc hs ret
  have C0 := C
  obtain ⟨q0, rfl⟩ : ∃ q', a = q' + 1 := ⟨a - 1, by omega⟩
  obtain ⟨q1, rfl⟩ : ∃ q', b = q' + 1 := ⟨b - 1, by omega⟩
  obtain ⟨hx, hb, hr9, hml, hown, hlk, hts, hN, hK, hfr, hlo, hX, hbB, hBs, hnm⟩ := C
  have ha0 := z_get_a (V := V) hs0
  have ha1 := z_get_a (V := V) hs1
  have hc0 : H[z_ad V (q0 + 1)]? = some (vp_cell V.2.2.2.1.1 (n0, .inl (h.2.1 (q0 + 1)))) := hw.1 q0 _ ha0
  have hc1 : H[z_ad V (q1 + 1)]? = some (vp_cell V.2.2.2.1.1 (n1, .inl (h.2.1 (q1 + 1)))) := hw.1 q1 _ ha1
  obtain ⟨-, k0, hk0, cm0, hkk0⟩ := (hK.2 0 _ rfl).1 n0 (fun j => .int (h.2.1 (q0 + 1) j))
  obtain ⟨-, k1, hk1, cm1, hkk1⟩ := (hK.2 0 _ rfl).1 n1 (fun j => .int (h.2.1 (q1 + 1) j))
  have hl : z_ad V (q1 + 1) < H.size := (Array.getElem?_eq_some_iff.mp hc1).1
  intro T hT X
  obtain ⟨vm', X', step⟩ := X.arraycopy hx hown (hts _ hk) (hts _ w1) (hts _ w2) (hts _ w3) (src := z_ad V (q0 + 1)) (dst := z_ad V (q1 + 1)) (cs := vp_cell V.2.2.2.1.1 (n0, .inl (h.2.1 (q0 + 1)))) (cd := vp_cell V.2.2.2.1.1 (n1, .inl (h.2.1 (q1 + 1)))) (srcPos := sp) (destPos := dp) (n := n) (by rw [hT]; exact hc0) (by rw [hT]; exact hc1)
    (fun _ z => by cases z) (fun _ z => by cases z) (fun z => by cases z) (fun z => by cases z) hk0 hk1 hkk0 hkk1 (by simp [refKind]) h1 h2 h3
    (by rw [nn sp h1, nn n h3]; show ¬ _ > ((arrV _ n0 _).slots.size : Int); rw [arrV_size]; omega)
    (by rw [nn dp h2, nn n h3]; show ¬ _ > ((arrV _ n1 _).slots.size : Int); rw [arrV_size]; omega)
    (fun vm₁ _ i hi => by
      have e : (vp_cell V.2.2.2.1.1 (n0, .inl (h.2.1 (q0 + 1)))).slots.getD (sp.toNatClampNeg + i) .null = .int (h.2.1 (q0 + 1) (sp.toNatClampNeg + i)) := by
        show (arrV _ n0 (fun j => .int (h.2.1 (q0 + 1) j))).slots.getD _ _ = _
        rw [Array.getD_eq_getD_getElem?, arrV_read _ _ (by omega)]
        rfl
      rw [e]
      exact ⟨rfl, trivial⟩)
    (g := F0 m pc LS (.int n :: .int dp :: .ref (z_ad V (q1 + 1)) :: .int sp :: .ref (z_ad V (q0 + 1)) :: rest.map (z_rl V))) rfl (by rw [hml, hn]; exact hL.1) (rest := rest.map (z_rl V)) rfl (by rw [hb]; exact hd) (by omega) (by show 2 * 0 + _ + _ ≤ _; rw [z_cat]; exact z_nf hr hlo)
  have e1 : copied (vp_cell V.2.2.2.1.1 (n0, .inl (h.2.1 (q0 + 1)))) (vp_cell V.2.2.2.1.1 (n1, .inl (h.2.1 (q1 + 1)))) sp dp n = vp_cell V.2.2.2.1.1 (n1, .inl (va_cpy (h.2.1 (q0 + 1)) (h.2.1 (q1 + 1)) sp.toNatClampNeg dp.toNatClampNeg n.toNatClampNeg)) := va_copied (fun z => .int z) _ _ _ _ h4
  rw [e1] at X' step
  generalize hg : va_cpy (h.2.1 (q0 + 1)) (h.2.1 (q1 + 1)) sp.toNatClampNeg dp.toNatClampNeg n.toNatClampNeg = g at X' step k
  have hheap : ((T.setVm vm').setCell (z_ad V (q1 + 1)) (vp_cell V.2.2.2.1.1 (n1, .inl g))).heap = H.setIfInBounds (z_ad V (q1 + 1)) (vp_cell V.2.2.2.1.1 (n1, .inl g)) := by rw [← hT]; rfl
  have oq : ∀ q : Nat, q ≠ z_ad V (q1 + 1) → (H.setIfInBounds (z_ad V (q1 + 1)) (vp_cell V.2.2.2.1.1 (n1, .inl g)))[q]? = H[q]? := fun q hq => by simp [Array.getElem?_setIfInBounds, Ne.symm hq]
  obtain ⟨hw1, hS1⟩ := z_arr_set (V := V) (h := h) (g := g) (cA := V.2.2.2.1.1) (i := 0) hw hS (Or.inl rfl) hs1 (by unfold z_cell; rw [if_pos rfl]; show Sum.inl (_, _, Sum.inl (z_ui _ _ _ _)) = _; unfold z_ui; rw [if_pos rfl]) (show (H.setIfInBounds _ _)[_]? = some _ by simp [Array.getElem?_setIfInBounds, hl]) (by simp) oq
  obtain ⟨t, a1, b1⟩ := k p l e R s m args below meth c _ _ cells slots LS QQ C0 hw1 ⟨hS1.1, hS1.2.1, fun q hq => by
      rcases List.mem_append.mp hq with z | z
      · exact hS.2.2 q z
      · obtain ⟨y, -, hz⟩ := List.mem_map.mp z
        rw [← hz]
        exact Nat.le_add_right _ _⟩ hL hn hc hs ret _ hheap X'
  exact ⟨t, step t a1, b1⟩
section ZD
variable {V : zV} {M M' : zM} {d pc idx : Nat} {ls st rest : List Value} {S : zS}
def z_J {α : Type} (en : α → Option Value) (V : zV) (M : zM) (d : Nat) (E : Option (α × zS)) (pc : Nat) (ls st : List Value) (S : zS) : Prop := ∀ r, E = some r → z_G V M d 0 0 pc ls st (z_mk V S) (fun v h' => v = en r.1 ∧ h' = z_mk V r.2)
def zeI (x : Int32) : Option Value := some (.int x)
def zeV (_ : Unit) : Option Value := none
def zeS (_ : Unit) : Option Value := some (.ref 57)
variable {α β : Type} {en : α → Option Value} {en2 : β → Option Value} {E E1 E2 : Option (α × zS)}
theorem d_st {pc' : Nat} {ls' st' : List Value} {S' : zS} (h : ∀ Φ, z_G V M d 0 0 pc' ls' st' (z_mk V S') Φ → z_G V M d 0 0 pc ls st (z_mk V S) Φ) (k : z_J en V M d E pc' ls' st' S') : z_J en V M d E pc ls st S := fun r hr => h _ (k r hr)
theorem d_br {c : Prop} [i : Decidable c] {pc1 pc2 : Nat} {st' : List Value} (h : ∀ Φ, (c → z_G V M d 0 0 pc1 ls st' (z_mk V S) Φ) → (¬ c → z_G V M d 0 0 pc2 ls st' (z_mk V S) Φ) → z_G V M d 0 0 pc ls st (z_mk V S) Φ) (k1 : c → z_J en V M d E1 pc1 ls st' S) (k2 : ¬ c → z_J en V M d E2 pc2 ls st' S) : z_J en V M d (if c then E1 else E2) pc ls st S :=
  fun r hr => h _ (fun hc => k1 hc r (by rw [if_pos hc] at hr; exact hr)) (fun hc => k2 hc r (by rw [if_neg hc] at hr; exact hr))
theorem d_if {c : Prop} [i : Decidable c] (k1 : c → z_J en V M d E1 pc ls st S) (k2 : ¬ c → z_J en V M d E2 pc ls st S) : z_J en V M d (if c then E1 else E2) pc ls st S := by
  by_cases hc : c
  · rw [if_pos hc]; exact k1 hc
  · rw [if_neg hc]; exact k2 hc
theorem d_gd {c : Prop} [i : Decidable c] (k1 : c → z_J en V M d E pc ls st S) : z_J en V M d (if c then E else none) pc ls st S := d_if k1 (fun _ r hr => by cases hr)
theorem d_no {c : Prop} [i : Decidable c] (k1 : ¬ c → z_J en V M d E pc ls st S) : z_J en V M d (if c then none else E) pc ls st S := d_if (fun _ r hr => by cases hr) k1
theorem d_none : z_J en V M d none pc ls st S := fun r hr => by cases hr
def z_le : List Value → List Value → Prop
  | [], [] => True
  | a :: l, b :: m => (a = .null ∨ a = b) ∧ z_le l m
  | _, _ => False
theorem z_le_len : ∀ {l m : List Value}, z_le l m → l.length = m.length
  | [], [], _ => rfl
  | _ :: _, _ :: _, h => by rw [List.length_cons, List.length_cons, z_le_len h.2]
  | [], _ :: _, h => h.elim
  | _ :: _, [], h => h.elim
theorem z_le_at : ∀ {l m : List Value}, z_le l m → ∀ (i : Nat) (v : Value), l[i]? = some v → v ≠ .null → m[i]? = some v
  | [], [], _, i, v, h, _ => by simp at h
  | a :: l, b :: m, h, 0, v, hv, hn => by
    simp only [List.getElem?_cons_zero, Option.some.injEq] at hv ⊢
    subst hv
    rcases h.1 with q | q
    · exact absurd q hn
    · exact q.symm
  | a :: l, b :: m, h, i + 1, v, hv, hn => by
    rw [List.getElem?_cons_succ] at hv ⊢
    exact z_le_at h.2 i v hv hn
  | [], _ :: _, h, _, _, _, _ => h.elim
  | _ :: _, [], h, _, _, _, _ => h.elim
theorem zg_fg {bc bs : Nat} {h : zHP} {Φ : Option Value → zHP → Prop} {ls' : List Value} (hle : z_le ls' ls) (k : z_G V M d bc bs pc ls' st h Φ) : z_G V M d bc bs pc ls st h Φ :=
  fun p l e R s m args below meth c H locs cells slots LS QQ C hw hS hL hn hc hs ret => k p l e R s m args below meth c H locs cells slots LS QQ C hw hS ⟨by rw [z_le_len hle]; exact hL.1, hL.2.1, fun i v hv hnn => hL.2.2 i v (z_le_at hle i v hv hnn) hnn⟩ (by rw [z_le_len hle]; exact hn) hc hs ret
theorem d_fg {ls' : List Value} (hle : z_le ls' ls) (k : z_J en V M d E pc ls' st S) : z_J en V M d E pc ls st S := fun r hr => zg_fg hle (k r hr)
theorem d_ret {i : Instr} {x : α} (hd : decode M.2.1 pc = .ok (i, 1)) (hR : z_R M (en x) i) (hst : st = (en x).toList) : z_J en V M d (some (x, S)) pc ls st S := fun r hr => by
  cases hr
  exact zg_ret hd hR hst ⟨rfl, rfl⟩
theorem d_retI {x : Int32} (hd : decode M.2.1 pc = .ok (.ireturn, 1)) (hr : M.2.2.2 = some .int) : z_J zeI V M d (some (x, S)) pc ls [.int x] S := d_ret (en := zeI) (x := x) hd ⟨rfl, .int, hr, rfl⟩ rfl
theorem d_retZ {x : Int32} (hd : decode M.2.1 pc = .ok (.ireturn, 1)) (hr : M.2.2.2 = some .boolean) (hx : x = 0 ∨ x = 1) : z_J zeI V M d (some (x, S)) pc ls [.int x] S := d_ret (en := zeI) (x := x) hd ⟨rfl, .boolean, hr, (z_nar_z hx).1⟩ rfl
theorem d_retV (hd : decode M.2.1 pc = .ok (.return_, 1)) (hr : M.2.2.2 = none) : z_J zeV V M d (some ((), S)) pc ls [] S := d_ret (en := zeV) (x := ()) hd ⟨rfl, hr⟩ rfl
theorem d_retS {n : String} (hd : decode M.2.1 pc = .ok (.areturn, 1)) (hr : M.2.2.2 = some (.object n)) : z_J zeS V M d (some ((), S)) pc ls [.ref 57] S := d_ret (en := zeS) (x := ()) hd ⟨rfl, .object n, hr, Or.inl ⟨n, rfl⟩⟩ rfl
variable {F : Option (α × zS)} {E' : α × zS → Option (β × zS)} {n : Nat} {As : List Value}
theorem d_cS (hd : decode M.2.1 pc = .ok (.invokestatic idx, 3)) (hk : z_KS M.1.cls idx M' n) (hn9 : As.length = n) (hst : st = As.reverse ++ rest) (hr : (rest.map fun v => v.category).sum ≤ 8) (hal : As.length ≤ M'.2.2.1) (ha : As.all z_ok = true)
    (kc : z_J en V M' d F 0 (z_ent M' As) [] S) (k : ∀ r, F = some r → z_J en2 V M (d + 1) (E' r) (pc + 3) ls ((en r.1).toList ++ rest) r.2) : z_J en2 V M (d + 1) (F.bind E') pc ls st S := by
  intro r hr9
  obtain ⟨x, hx, hr9⟩ := Option.bind_eq_some_iff.mp hr9
  exact zg_callS (mc := 0) (ms := 0) (bc := 0) (bs := 0) hd hk hn9 hst hr hal ha (kc x hx) (fun v h' q => by obtain ⟨rfl, rfl⟩ := q; exact k x hx r hr9)
theorem d_cT (hd : decode M.2.1 pc = .ok (.invokestatic idx, 3)) (hk : z_KT M.1.cls idx M' n) (hn9 : As.length = n) (hst : st = As.reverse ++ rest) (hr : (rest.map fun v => v.category).sum ≤ 8) (hal : As.length ≤ M'.2.2.1) (ha : As.all z_ok = true)
    (kc : z_J en V M' d F 0 (z_ent M' As) [] S) (k : ∀ r, F = some r → z_J en2 V M (d + 1) (E' r) (pc + 3) ls ((en r.1).toList ++ rest) r.2) : z_J en2 V M (d + 1) (F.bind E') pc ls st S := by
  intro r hr9
  obtain ⟨x, hx, hr9⟩ := Option.bind_eq_some_iff.mp hr9
  exact zg_callT (mc := 0) (ms := 0) (bc := 0) (bs := 0) hd hk hn9 hst hr hal ha (kc x hx) (fun v h' q => by obtain ⟨rfl, rfl⟩ := q; exact k x hx r hr9)
theorem d_cV {q ci nf : Nat} (hd : decode M.2.1 pc = .ok (.invokevirtual idx, 3)) (hk : z_KV M.1.cls idx M' n) (hsh : (z_SH V.2.2.2.2.1)[q]? = some (ci, nf)) (hci : ci < 100) (hcn : ∃ T N, vwCl[ci]? = some (M'.1.cls, T, N)) (hn9 : As.length = n) (hst : st = As.reverse ++ .ref q :: rest) (hr : (rest.map fun v => v.category).sum ≤ 8) (hal : As.length + 1 ≤ M'.2.2.1) (ha : As.all z_ok = true)
    (kc : z_J en V M' d F 0 (z_ent M' (.ref q :: As)) [] S) (k : ∀ r, F = some r → z_J en2 V M (d + 1) (E' r) (pc + 3) ls ((en r.1).toList ++ rest) r.2) : z_J en2 V M (d + 1) (F.bind E') pc ls st S := by
  intro r hr9
  obtain ⟨x, hx, hr9⟩ := Option.bind_eq_some_iff.mp hr9
  exact zg_callV (mc := 0) (ms := 0) (bc := 0) (bs := 0) hd hk hsh hci hcn hn9 hst hr hal ha (kc x hx) (fun v h' q => by obtain ⟨rfl, rfl⟩ := q; exact k x hx r hr9)
end ZD
theorem zs_copy {V : zV} {M : zM} {d bc bs pc idx : Nat} {ls rest : List Value} {S : zS} {Φ : Option Value → zHP → Prop} {a b n0 n1 : Nat} {sp dp n : Int32} (hd : decode M.2.1 pc = .ok (.invokestatic idx, 3)) (hk : Cond.methodLink M.1.cls idx arraycopyName ∈ wsL_law) (w1 : Cond.native arraycopyName ∈ wsL_law) (w2 : Cond.static arraycopyName ∈ wsL_law) (w3 : Cond.initialized "java/lang/System" ∈ wsL_law)
    (hq0 : 0 < a) (hq1 : 0 < b) (hs0 : (z_SH V.2.2.2.2.1)[a]? = some (100, n0)) (hs1 : (z_SH V.2.2.2.2.1)[b]? = some (100, n1)) (h1 : ¬ sp < 0) (h2 : ¬ dp < 0) (h3 : ¬ n < 0) (h4 : sp.toNatClampNeg + n.toNatClampNeg ≤ n0) (h5 : dp.toNatClampNeg + n.toNatClampNeg ≤ n1) (hr : (rest.map fun v => v.category).sum ≤ 8)
    (k : z_G V M (d + 1) bc bs (pc + 3) ls rest (z_mk V (z_ui S.1 b (va_cpy (S.1 a) (S.1 b) sp.toNatClampNeg dp.toNatClampNeg n.toNatClampNeg), S.2)) Φ) : z_G V M (d + 1) bc bs pc ls (.int n :: .int dp :: .ref b :: .int sp :: .ref a :: rest) (z_mk V S) Φ :=
  zg_copy hd hk w1 w2 w3 hq0 hq1 hs0 hs1 h1 h2 h3 h4 h5 hr k

