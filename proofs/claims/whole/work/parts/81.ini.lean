/-! the constructors -/
def al (h : Mem) (s j k c z : Nat) : Mem := uR (nw h k c z) s j (some (k, c, h.1.length))
def alm (h : Mem) (s j c d : Nat) : Mem := uR (nm h c d) s j (some (17, c, h.1.length))
theorem i_41 (h : Mem) (s : Nat) : ev 41 [vr (8, 0, s)] h = R 41 4 [some (vr (8, 0, s))] [] h := (ev_unfs [4] 4 41 rfl _ _ rfl).trans rfl
theorem i_41_4 (h : Mem) (s : Nat) : R 41 4 [some (vr (8, 0, s))] [] h = R 41 9 [some (vr (8, 0, s))] [] (uI h s 0 0) := (R_unfs [9] 4 (mi := 41) (pc := 4) rfl _ _ _).trans rfl
theorem i_41_9 (h : Mem) (s : Nat) : R 41 9 [some (vr (8, 0, s))] [] h = R 41 18 [some (vr (8, 0, s))] [] (al h s 1 16 12 12) := (R_unfs [18] 5 (mi := 41) (pc := 9) rfl _ _ _).trans rfl
theorem i_41_18 (h : Mem) (s : Nat) : R 41 18 [some (vr (8, 0, s))] [] h = R 41 26 [some (vr (8, 0, s))] [] (al h s 2 13 12 12) := (R_unfs [26] 5 (mi := 41) (pc := 18) rfl _ _ _).trans rfl
theorem i_41_26 (h : Mem) (s : Nat) : R 41 26 [some (vr (8, 0, s))] [] h = R 41 34 [some (vr (8, 0, s))] [] (al h s 3 13 12 12) := (R_unfs [34] 5 (mi := 41) (pc := 26) rfl _ _ _).trans rfl
theorem i_41_34 (h : Mem) (s : Nat) : R 41 34 [some (vr (8, 0, s))] [] h = R 41 42 [some (vr (8, 0, s))] [] (al h s 4 13 12 12) := (R_unfs [42] 5 (mi := 41) (pc := 34) rfl _ _ _).trans rfl
theorem i_41_42 (h : Mem) (s : Nat) : R 41 42 [some (vr (8, 0, s))] [] h = R 41 50 [some (vr (8, 0, s))] [] (al h s 5 13 8 8) := (R_unfs [50] 5 (mi := 41) (pc := 42) rfl _ _ _).trans rfl
theorem i_41_50 (h : Mem) (s : Nat) : R 41 50 [some (vr (8, 0, s))] [] h = R 41 55 [some (vr (8, 0, s))] [] (uI h s 6 0) := (R_unfs [55] 4 (mi := 41) (pc := 50) rfl _ _ _).trans rfl
theorem i_41_55 (h : Mem) (s : Nat) : R 41 55 [some (vr (8, 0, s))] [] h = R 41 63 [some (vr (8, 0, s))] [] (al h s 7 13 10 10) := (R_unfs [63] 5 (mi := 41) (pc := 55) rfl _ _ _).trans rfl
theorem i_41_63 (h : Mem) (s : Nat) : R 41 63 [some (vr (8, 0, s))] [] h = some (none, h) := (R_unf 2 (mi := 41) (pc := 63) rfl _ _ _).trans rfl
theorem i_62 (h : Mem) : ev 62 [vr (10, 0, 25)] h = R 62 4 [some (vr (10, 0, 25))] [] h := (ev_unfs [4] 4 62 rfl _ _ rfl).trans rfl
theorem i_62_4 (h : Mem) : R 62 4 [some (vr (10, 0, 25))] [] h = R 62 9 [some (vr (10, 0, 25))] [] (uR h 25 0 none) := (R_unfs [9] 4 (mi := 62) (pc := 4) rfl _ _ _).trans rfl
theorem i_62_9 (h : Mem) : R 62 9 [some (vr (10, 0, 25))] [] h = R 62 14 [some (vr (10, 0, 25))] [] (uI h 25 1 0) := (R_unfs [14] 4 (mi := 62) (pc := 9) rfl _ _ _).trans rfl
theorem i_62_14 (h : Mem) : R 62 14 [some (vr (10, 0, 25))] [] h = R 62 19 [some (vr (10, 0, 25))] [] (uI h 25 2 0) := (R_unfs [19] 4 (mi := 62) (pc := 14) rfl _ _ _).trans rfl
theorem i_62_19 (h : Mem) : R 62 19 [some (vr (10, 0, 25))] [] h = R 62 24 [some (vr (10, 0, 25))] [] (uI h 25 3 0) := (R_unfs [24] 4 (mi := 62) (pc := 19) rfl _ _ _).trans rfl
theorem i_62_24 (h : Mem) : R 62 24 [some (vr (10, 0, 25))] [] h = R 62 29 [some (vr (10, 0, 25))] [] (uI h 25 4 (-1)) := (R_unfs [29] 4 (mi := 62) (pc := 24) rfl _ _ _).trans rfl
theorem i_62_29 (h : Mem) : R 62 29 [some (vr (10, 0, 25))] [] h = R 62 34 [some (vr (10, 0, 25))] [] (uI h 25 5 0) := (R_unfs [34] 4 (mi := 62) (pc := 29) rfl _ _ _).trans rfl
theorem i_62_34 (h : Mem) : R 62 34 [some (vr (10, 0, 25))] [] h = R 62 43 [some (vr (10, 0, 25))] [] (al h 25 6 16 12 12) := (R_unfs [43] 5 (mi := 62) (pc := 34) rfl _ _ _).trans rfl
theorem i_62_43 (h : Mem) : R 62 43 [some (vr (10, 0, 25))] [] h = R 62 51 [some (vr (10, 0, 25))] [] (al h 25 7 13 12 12) := (R_unfs [51] 5 (mi := 62) (pc := 43) rfl _ _ _).trans rfl
theorem i_62_51 (h : Mem) : R 62 51 [some (vr (10, 0, 25))] [] h = R 62 59 [some (vr (10, 0, 25))] [] (al h 25 8 13 12 12) := (R_unfs [59] 5 (mi := 62) (pc := 51) rfl _ _ _).trans rfl
theorem i_62_59 (h : Mem) : R 62 59 [some (vr (10, 0, 25))] [] h = R 62 67 [some (vr (10, 0, 25))] [] (al h 25 9 13 12 12) := (R_unfs [67] 5 (mi := 62) (pc := 59) rfl _ _ _).trans rfl
theorem i_62_67 (h : Mem) : R 62 67 [some (vr (10, 0, 25))] [] h = R 62 75 [some (vr (10, 0, 25))] [] (al h 25 10 14 12 12) := (R_unfs [75] 5 (mi := 62) (pc := 67) rfl _ _ _).trans rfl
theorem i_62_75 (h : Mem) : R 62 75 [some (vr (10, 0, 25))] [] h = R 62 83 [some (vr (10, 0, 25))] [] (al h 25 11 13 24 24) := (R_unfs [83] 5 (mi := 62) (pc := 75) rfl _ _ _).trans rfl
theorem i_62_83 (h : Mem) : R 62 83 [some (vr (10, 0, 25))] [] h = R 62 91 [some (vr (10, 0, 25))] [] (al h 25 12 13 24 24) := (R_unfs [91] 5 (mi := 62) (pc := 83) rfl _ _ _).trans rfl
theorem i_62_91 (h : Mem) : R 62 91 [some (vr (10, 0, 25))] [] h = R 62 96 [some (vr (10, 0, 25))] [] (uI h 25 13 (-1)) := (R_unfs [96] 4 (mi := 62) (pc := 91) rfl _ _ _).trans rfl
theorem i_62_96 (h : Mem) : R 62 96 [some (vr (10, 0, 25))] [] h = some (none, h) := (R_unf 2 (mi := 62) (pc := 96) rfl _ _ _).trans rfl
theorem i_18 (h : Mem) : ev 18 [vr (5, 0, 33)] h = R 18 4 [some (vr (5, 0, 33))] [] h := (ev_unfs [4] 4 18 rfl _ _ rfl).trans rfl
theorem i_18_4 (h : Mem) : R 18 4 [some (vr (5, 0, 33))] [] h = R 18 16 [some (vr (5, 0, 33))] [] (alm h 33 0 12 8) := (R_unfs [16] 6 (mi := 18) (pc := 4) rfl _ _ _).trans rfl
theorem i_18_16 (h : Mem) : R 18 16 [some (vr (5, 0, 33))] [] h = R 18 24 [some (vr (5, 0, 33))] [] (al h 33 1 13 8 8) := (R_unfs [24] 5 (mi := 18) (pc := 16) rfl _ _ _).trans rfl
theorem i_18_24 (h : Mem) : R 18 24 [some (vr (5, 0, 33))] [] h = R 18 36 [some (vr (5, 0, 33))] [] (alm h 33 2 25 13) := (R_unfs [36] 6 (mi := 18) (pc := 24) rfl _ _ _).trans rfl
theorem i_18_36 (h : Mem) : R 18 36 [some (vr (5, 0, 33))] [] h = R 18 44 [some (vr (5, 0, 33))] [] (al h 33 3 13 13 13) := (R_unfs [44] 5 (mi := 18) (pc := 36) rfl _ _ _).trans rfl
theorem i_18_44 (h : Mem) : R 18 44 [some (vr (5, 0, 33))] [] h = R 18 52 [some (vr (5, 0, 33))] [] (al h 33 4 13 13 13) := (R_unfs [52] 5 (mi := 18) (pc := 44) rfl _ _ _).trans rfl
theorem i_18_52 (h : Mem) : R 18 52 [some (vr (5, 0, 33))] [] h = R 18 57 [some (vr (5, 0, 33))] [] (uR h 33 5 none) := (R_unfs [57] 4 (mi := 18) (pc := 52) rfl _ _ _).trans rfl
theorem i_18_57 (h : Mem) : R 18 57 [some (vr (5, 0, 33))] [] h = R 18 62 [some (vr (5, 0, 33))] [] (uR h 33 6 none) := (R_unfs [62] 4 (mi := 18) (pc := 57) rfl _ _ _).trans rfl
theorem i_18_62 (h : Mem) : R 18 62 [some (vr (5, 0, 33))] [] h = R 18 67 [some (vr (5, 0, 33))] [] (uI h 33 7 0) := (R_unfs [67] 4 (mi := 18) (pc := 62) rfl _ _ _).trans rfl
theorem i_18_67 (h : Mem) : R 18 67 [some (vr (5, 0, 33))] [] h = some (none, h) := (R_unf 2 (mi := 18) (pc := 67) rfl _ _ _).trans rfl
theorem i_74 (h : Mem) : ev 74 [vr (11, 0, 0)] h = R 74 4 [some (vr (11, 0, 0))] [] h := (ev_unfs [4] 4 74 rfl _ _ rfl).trans rfl
theorem i_74_4 (h : Mem) : R 74 4 [some (vr (11, 0, 0))] [] h = R 74 12 [some (vr (11, 0, 0))] [] (al h 0 0 13 90 90) := (R_unfs [12] 5 (mi := 74) (pc := 4) rfl _ _ _).trans rfl
theorem i_74_12 (h : Mem) : R 74 12 [some (vr (11, 0, 0))] [] h = R 74 20 [some (vr (11, 0, 0))] [] (al h 0 1 16 4 4) := (R_unfs [20] 5 (mi := 74) (pc := 12) rfl _ _ _).trans rfl
theorem i_74_20 (h : Mem) : R 74 20 [some (vr (11, 0, 0))] [] h = R 74 29 [some (vr (11, 0, 0))] [] (al h 0 2 15 8 8) := (R_unfs [29] 5 (mi := 74) (pc := 20) rfl _ _ _).trans rfl
theorem i_74_29 (h : Mem) : R 74 29 [some (vr (11, 0, 0))] [] h = cV (ev 41 [vr (8, 0, h.1.length)] (nw h 8 0 8)) fun g => R 74 40 [some (vr (11, 0, 0))] [] (uR g 0 3 (some (8, 0, h.1.length))) := (R_unfs [40] 6 (mi := 74) (pc := 29) rfl _ _ _).trans rfl
theorem i_74_40 (h : Mem) : R 74 40 [some (vr (11, 0, 0))] [] h = cV (ev 41 [vr (8, 0, h.1.length)] (nw h 8 0 8)) fun g => R 74 51 [some (vr (11, 0, 0))] [] (uR g 0 4 (some (8, 0, h.1.length))) := (R_unfs [51] 6 (mi := 74) (pc := 40) rfl _ _ _).trans rfl
theorem i_74_51 (h : Mem) : R 74 51 [some (vr (11, 0, 0))] [] h = cV (ev 41 [vr (8, 0, h.1.length)] (nw h 8 0 8)) fun g => R 74 62 [some (vr (11, 0, 0))] [] (uR g 0 5 (some (8, 0, h.1.length))) := (R_unfs [62] 6 (mi := 74) (pc := 51) rfl _ _ _).trans rfl
theorem i_74_62 (h : Mem) : R 74 62 [some (vr (11, 0, 0))] [] h = cV (ev 62 [vr (10, 0, h.1.length)] (nw h 10 0 14)) fun g => R 74 73 [some (vr (11, 0, 0))] [] (uR g 0 6 (some (10, 0, h.1.length))) := (R_unfs [73] 6 (mi := 74) (pc := 62) rfl _ _ _).trans rfl
theorem i_74_73 (h : Mem) : R 74 73 [some (vr (11, 0, 0))] [] h = cV (ev 18 [vr (5, 0, h.1.length)] (nw h 5 0 8)) fun g => R 74 84 [some (vr (11, 0, 0))] [] (uR g 0 7 (some (5, 0, h.1.length))) := (R_unfs [84] 6 (mi := 74) (pc := 73) rfl _ _ _).trans rfl
theorem i_74_84 (h : Mem) : R 74 84 [some (vr (11, 0, 0))] [] h = R 74 89 [some (vr (11, 0, 0))] [] (uR h 0 8 none) := (R_unfs [89] 4 (mi := 74) (pc := 84) rfl _ _ _).trans rfl
theorem i_74_89 (h : Mem) : R 74 89 [some (vr (11, 0, 0))] [] h = R 74 94 [some (vr (11, 0, 0))] [] (uI h 0 9 0) := (R_unfs [94] 4 (mi := 74) (pc := 89) rfl _ _ _).trans rfl
theorem i_74_94 (h : Mem) : R 74 94 [some (vr (11, 0, 0))] [] h = R 74 99 [some (vr (11, 0, 0))] [] (uI h 0 10 0) := (R_unfs [99] 4 (mi := 74) (pc := 94) rfl _ _ _).trans rfl
theorem i_74_99 (h : Mem) : R 74 99 [some (vr (11, 0, 0))] [] h = R 74 104 [some (vr (11, 0, 0))] [] (uI h 0 11 0) := (R_unfs [104] 4 (mi := 74) (pc := 99) rfl _ _ _).trans rfl
theorem i_74_104 (h : Mem) : R 74 104 [some (vr (11, 0, 0))] [] h = R 74 109 [some (vr (11, 0, 0))] [] (uI h 0 12 0) := (R_unfs [109] 4 (mi := 74) (pc := 104) rfl _ _ _).trans rfl
theorem i_74_109 (h : Mem) : R 74 109 [some (vr (11, 0, 0))] [] h = R 74 114 [some (vr (11, 0, 0))] [] (uI h 0 13 (-1)) := (R_unfs [114] 4 (mi := 74) (pc := 109) rfl _ _ _).trans rfl
theorem i_74_114 (h : Mem) : R 74 114 [some (vr (11, 0, 0))] [] h = R 74 119 [some (vr (11, 0, 0))] [] (uI h 0 14 0) := (R_unfs [119] 4 (mi := 74) (pc := 114) rfl _ _ _).trans rfl
theorem i_74_119 (h : Mem) : R 74 119 [some (vr (11, 0, 0))] [] h = R 74 124 [some (vr (11, 0, 0))] [] (uI h 0 15 0) := (R_unfs [124] 4 (mi := 74) (pc := 119) rfl _ _ _).trans rfl
theorem i_74_124 (h : Mem) : R 74 124 [some (vr (11, 0, 0))] [] h = some (none, h) := (R_unf 2 (mi := 74) (pc := 124) rfl _ _ _).trans rfl
theorem i_130 (h : Mem) : ev 130 [vr (12, 0, 0)] h = R 130 4 [some (vr (12, 0, 0))] [] h := (ev_unfs [4] 4 130 rfl _ _ rfl).trans rfl
theorem i_130_4 (h : Mem) : R 130 4 [some (vr (12, 0, 0))] [] h = R 130 12 [some (vr (12, 0, 0))] [] (al h 0 0 13 90 90) := (R_unfs [12] 5 (mi := 130) (pc := 4) rfl _ _ _).trans rfl
theorem i_130_12 (h : Mem) : R 130 12 [some (vr (12, 0, 0))] [] h = R 130 20 [some (vr (12, 0, 0))] [] (al h 0 8 13 24 24) := (R_unfs [20] 5 (mi := 130) (pc := 12) rfl _ _ _).trans rfl
theorem i_130_20 (h : Mem) : R 130 20 [some (vr (12, 0, 0))] [] h = R 130 28 [some (vr (12, 0, 0))] [] (al h 0 9 13 8 8) := (R_unfs [28] 5 (mi := 130) (pc := 20) rfl _ _ _).trans rfl
theorem i_130_28 (h : Mem) : R 130 28 [some (vr (12, 0, 0))] [] h = R 130 36 [some (vr (12, 0, 0))] [] (al h 0 10 13 7 7) := (R_unfs [36] 5 (mi := 130) (pc := 28) rfl _ _ _).trans rfl
theorem i_130_36 (h : Mem) : R 130 36 [some (vr (12, 0, 0))] [] h = R 130 44 [some (vr (12, 0, 0))] [] (al h 0 11 13 90 90) := (R_unfs [44] 5 (mi := 130) (pc := 36) rfl _ _ _).trans rfl
theorem i_130_44 (h : Mem) : R 130 44 [some (vr (12, 0, 0))] [] h = R 130 52 [some (vr (12, 0, 0))] [] (al h 0 12 13 90 90) := (R_unfs [52] 5 (mi := 130) (pc := 44) rfl _ _ _).trans rfl
theorem i_130_52 (h : Mem) : R 130 52 [some (vr (12, 0, 0))] [] h = R 130 60 [some (vr (12, 0, 0))] [] (al h 0 15 13 24 24) := (R_unfs [60] 5 (mi := 130) (pc := 52) rfl _ _ _).trans rfl
theorem i_130_60 (h : Mem) : R 130 60 [some (vr (12, 0, 0))] [] h = R 130 68 [some (vr (12, 0, 0))] [] (al h 0 16 13 8 8) := (R_unfs [68] 5 (mi := 130) (pc := 60) rfl _ _ _).trans rfl
theorem i_130_68 (h : Mem) : R 130 68 [some (vr (12, 0, 0))] [] h = R 130 76 [some (vr (12, 0, 0))] [] (al h 0 17 13 8 8) := (R_unfs [76] 5 (mi := 130) (pc := 68) rfl _ _ _).trans rfl
theorem i_130_76 (h : Mem) : R 130 76 [some (vr (12, 0, 0))] [] h = R 130 84 [some (vr (12, 0, 0))] [] (al h 0 20 13 28 28) := (R_unfs [84] 5 (mi := 130) (pc := 76) rfl _ _ _).trans rfl
theorem i_130_84 (h : Mem) : R 130 84 [some (vr (12, 0, 0))] [] h = R 130 92 [some (vr (12, 0, 0))] [] (al h 0 22 13 12 12) := (R_unfs [92] 5 (mi := 130) (pc := 84) rfl _ _ _).trans rfl
theorem i_130_92 (h : Mem) : R 130 92 [some (vr (12, 0, 0))] [] h = R 130 100 [some (vr (12, 0, 0))] [] (al h 0 23 13 12 12) := (R_unfs [100] 5 (mi := 130) (pc := 92) rfl _ _ _).trans rfl
theorem i_130_100 (h : Mem) : R 130 100 [some (vr (12, 0, 0))] [] h = R 130 108 [some (vr (12, 0, 0))] [] (al h 0 24 13 12 12) := (R_unfs [108] 5 (mi := 130) (pc := 100) rfl _ _ _).trans rfl
theorem i_130_108 (h : Mem) : R 130 108 [some (vr (12, 0, 0))] [] h = R 130 116 [some (vr (12, 0, 0))] [] (al h 0 25 13 12 12) := (R_unfs [116] 5 (mi := 130) (pc := 108) rfl _ _ _).trans rfl
theorem i_130_116 (h : Mem) : R 130 116 [some (vr (12, 0, 0))] [] h = R 130 124 [some (vr (12, 0, 0))] [] (al h 0 27 13 8 8) := (R_unfs [124] 5 (mi := 130) (pc := 116) rfl _ _ _).trans rfl
theorem i_130_124 (h : Mem) : R 130 124 [some (vr (12, 0, 0))] [] h = R 130 132 [some (vr (12, 0, 0))] [] (al h 0 28 13 8 8) := (R_unfs [132] 5 (mi := 130) (pc := 124) rfl _ _ _).trans rfl
theorem i_130_132 (h : Mem) : R 130 132 [some (vr (12, 0, 0))] [] h = R 130 140 [some (vr (12, 0, 0))] [] (al h 0 29 13 8 8) := (R_unfs [140] 5 (mi := 130) (pc := 132) rfl _ _ _).trans rfl
theorem i_130_140 (h : Mem) : R 130 140 [some (vr (12, 0, 0))] [] h = R 130 149 [some (vr (12, 0, 0))] [] (al h 0 30 13 720 720) := (R_unfs [149] 5 (mi := 130) (pc := 140) rfl _ _ _).trans rfl
theorem i_130_149 (h : Mem) : R 130 149 [some (vr (12, 0, 0))] [] h = R 130 158 [some (vr (12, 0, 0))] [] (al h 0 31 13 720 720) := (R_unfs [158] 5 (mi := 130) (pc := 149) rfl _ _ _).trans rfl
theorem i_130_158 (h : Mem) : R 130 158 [some (vr (12, 0, 0))] [] h = R 130 166 [some (vr (12, 0, 0))] [] (al h 0 33 13 12 12) := (R_unfs [166] 5 (mi := 130) (pc := 158) rfl _ _ _).trans rfl
theorem i_130_166 (h : Mem) : R 130 166 [some (vr (12, 0, 0))] [] h = R 130 174 [some (vr (12, 0, 0))] [] (al h 0 34 13 12 12) := (R_unfs [174] 5 (mi := 130) (pc := 166) rfl _ _ _).trans rfl
theorem i_130_174 (h : Mem) : R 130 174 [some (vr (12, 0, 0))] [] h = R 130 182 [some (vr (12, 0, 0))] [] (al h 0 35 13 12 12) := (R_unfs [182] 5 (mi := 130) (pc := 174) rfl _ _ _).trans rfl
theorem i_130_182 (h : Mem) : R 130 182 [some (vr (12, 0, 0))] [] h = R 130 190 [some (vr (12, 0, 0))] [] (al h 0 36 13 12 12) := (R_unfs [190] 5 (mi := 130) (pc := 182) rfl _ _ _).trans rfl
theorem i_130_190 (h : Mem) : R 130 190 [some (vr (12, 0, 0))] [] h = R 130 198 [some (vr (12, 0, 0))] [] (al h 0 37 14 12 12) := (R_unfs [198] 5 (mi := 130) (pc := 190) rfl _ _ _).trans rfl
theorem i_130_198 (h : Mem) : R 130 198 [some (vr (12, 0, 0))] [] h = R 130 206 [some (vr (12, 0, 0))] [] (al h 0 38 13 24 24) := (R_unfs [206] 5 (mi := 130) (pc := 198) rfl _ _ _).trans rfl
theorem i_130_206 (h : Mem) : R 130 206 [some (vr (12, 0, 0))] [] h = R 130 214 [some (vr (12, 0, 0))] [] (al h 0 39 13 24 24) := (R_unfs [214] 5 (mi := 130) (pc := 206) rfl _ _ _).trans rfl
theorem i_130_214 (h : Mem) : R 130 214 [some (vr (12, 0, 0))] [] h = R 130 223 [some (vr (12, 0, 0))] [] (al h 0 42 13 4225 4225) := (R_unfs [223] 5 (mi := 130) (pc := 214) rfl _ _ _).trans rfl
theorem i_130_223 (h : Mem) : R 130 223 [some (vr (12, 0, 0))] [] h = R 130 231 [some (vr (12, 0, 0))] [] (al h 0 45 13 10 10) := (R_unfs [231] 5 (mi := 130) (pc := 223) rfl _ _ _).trans rfl
theorem i_130_231 (h : Mem) : R 130 231 [some (vr (12, 0, 0))] [] h = R 130 239 [some (vr (12, 0, 0))] [] (al h 0 47 13 12 12) := (R_unfs [239] 5 (mi := 130) (pc := 231) rfl _ _ _).trans rfl
theorem i_130_239 (h : Mem) : R 130 239 [some (vr (12, 0, 0))] [] h = R 130 247 [some (vr (12, 0, 0))] [] (al h 0 48 13 12 12) := (R_unfs [247] 5 (mi := 130) (pc := 239) rfl _ _ _).trans rfl
theorem i_130_247 (h : Mem) : R 130 247 [some (vr (12, 0, 0))] [] h = R 130 255 [some (vr (12, 0, 0))] [] (al h 0 49 13 12 12) := (R_unfs [255] 5 (mi := 130) (pc := 247) rfl _ _ _).trans rfl
theorem i_130_255 (h : Mem) : R 130 255 [some (vr (12, 0, 0))] [] h = R 130 263 [some (vr (12, 0, 0))] [] (al h 0 50 13 12 12) := (R_unfs [263] 5 (mi := 130) (pc := 255) rfl _ _ _).trans rfl
theorem i_130_263 (h : Mem) : R 130 263 [some (vr (12, 0, 0))] [] h = R 130 271 [some (vr (12, 0, 0))] [] (al h 0 57 13 48 48) := (R_unfs [271] 5 (mi := 130) (pc := 263) rfl _ _ _).trans rfl
theorem i_130_271 (h : Mem) : R 130 271 [some (vr (12, 0, 0))] [] h = R 130 279 [some (vr (12, 0, 0))] [] (al h 0 58 13 8 8) := (R_unfs [279] 5 (mi := 130) (pc := 271) rfl _ _ _).trans rfl
theorem i_130_279 (h : Mem) : R 130 279 [some (vr (12, 0, 0))] [] h = R 130 287 [some (vr (12, 0, 0))] [] (al h 0 59 13 10 10) := (R_unfs [287] 5 (mi := 130) (pc := 279) rfl _ _ _).trans rfl
theorem i_130_287 (h : Mem) : R 130 287 [some (vr (12, 0, 0))] [] h = R 130 292 [some (vr (12, 0, 0))] [] (uI h 0 54 (-1)) := (R_unfs [292] 4 (mi := 130) (pc := 287) rfl _ _ _).trans rfl
theorem i_130_292 (h : Mem) : R 130 292 [some (vr (12, 0, 0))] [] h = some (none, h) := (R_unf 2 (mi := 130) (pc := 292) rfl _ _ _).trans rfl
def stk (h : Mem) (s : Nat) : Mem := al (uI (al (al (al (al (al (uI h s 0 0) s 1 16 12 12) s 2 13 12 12) s 3 13 12 12) s 4 13 12 12) s 5 13 8 8) s 6 0) s 7 13 10 10
theorem e_stk (h : Mem) (s : Nat) : ev 41 [vr (8, 0, s)] h = some (none, stk h s) := by
  rw [i_41, i_41_4, i_41_9, i_41_18, i_41_26, i_41_34, i_41_42, i_41_50, i_41_55, i_41_63]
  rfl
def trp (h : Mem) : Mem := uI (al (al (al (al (al (al (al (uI (uI (uI (uI (uI (uR h 25 0 none) 25 1 0) 25 2 0) 25 3 0) 25 4 (-1)) 25 5 0) 25 6 16 12 12) 25 7 13 12 12) 25 8 13 12 12) 25 9 13 12 12) 25 10 14 12 12) 25 11 13 24 24) 25 12 13 24 24) 25 13 (-1)
theorem e_trp (h : Mem) : ev 62 [vr (10, 0, 25)] h = some (none, trp h) := by
  rw [i_62, i_62_4, i_62_9, i_62_14, i_62_19, i_62_24, i_62_29, i_62_34, i_62_43, i_62_51, i_62_59, i_62_67, i_62_75, i_62_83, i_62_91, i_62_96]
  rfl
def sea (h : Mem) : Mem := uI (uR (uR (al (al (alm (al (alm h 33 0 12 8) 33 1 13 8 8) 33 2 25 13) 33 3 13 13 13) 33 4 13 13 13) 33 5 none) 33 6 none) 33 7 0
theorem e_sea (h : Mem) : ev 18 [vr (5, 0, 33)] h = some (none, sea h) := by
  rw [i_18, i_18_4, i_18_16, i_18_24, i_18_36, i_18_44, i_18_52, i_18_57, i_18_62, i_18_67]
  rfl
def hM0 : Mem := uI (al (al (al (al (al (al (al (al (al (al (al (al (al (al (al (al (al (al (al (al (al (al (al (al (al (al (al (al (al (al (al (al (al (al (al (nw mem0 12 0 61) 0 0 13 90 90) 0 8 13 24 24) 0 9 13 8 8) 0 10 13 7 7) 0 11 13 90 90) 0 12 13 90 90) 0 15 13 24 24) 0 16 13 8 8) 0 17 13 8 8) 0 20 13 28 28) 0 22 13 12 12) 0 23 13 12 12) 0 24 13 12 12) 0 25 13 12 12) 0 27 13 8 8) 0 28 13 8 8) 0 29 13 8 8) 0 30 13 720 720) 0 31 13 720 720) 0 33 13 12 12) 0 34 13 12 12) 0 35 13 12 12) 0 36 13 12 12) 0 37 14 12 12) 0 38 13 24 24) 0 39 13 24 24) 0 42 13 4225 4225) 0 45 13 10 10) 0 47 13 12 12) 0 48 13 12 12) 0 49 13 12 12) 0 50 13 12 12) 0 57 13 48 48) 0 58 13 8 8) 0 59 13 10 10) 0 54 (-1)
theorem m_init : ev 130 [vr (12, 0, 0)] (nw mem0 12 0 61) = some (none, hM0) := by
  rw [i_130, i_130_4, i_130_12, i_130_20, i_130_28, i_130_36, i_130_44, i_130_52, i_130_60, i_130_68, i_130_76, i_130_84, i_130_92, i_130_100, i_130_108, i_130_116, i_130_124, i_130_132, i_130_140, i_130_149, i_130_158, i_130_166, i_130_174, i_130_182, i_130_190, i_130_198, i_130_206, i_130_214, i_130_223, i_130_231, i_130_239, i_130_247, i_130_255, i_130_263, i_130_271, i_130_279, i_130_287, i_130_292]
  rfl
def hA : Mem := al (al (al (nw mem0 11 0 16) 0 0 13 90 90) 0 1 16 4 4) 0 2 15 8 8
theorem xi_A : ev 74 [vr (11, 0, 0)] (nw mem0 11 0 16) = R 74 29 [some (vr (11, 0, 0))] [] hA := by
  rw [i_74, i_74_4, i_74_12, i_74_20]
  rfl
def hB : Mem := uR (stk (nw hA 8 0 8) 4) 0 3 (some (8, 0, 4))
theorem ln_A : hA.1.length = 4 := by decide +kernel
theorem xi_B : R 74 29 [some (vr (11, 0, 0))] [] hA = R 74 40 [some (vr (11, 0, 0))] [] hB := by
  rw [i_74_29, ln_A, e_stk, cV_some]
  rfl
def hC : Mem := uR (stk (nw hB 8 0 8) 11) 0 4 (some (8, 0, 11))
theorem ln_B : hB.1.length = 11 := by decide +kernel
theorem xi_C : R 74 40 [some (vr (11, 0, 0))] [] hB = R 74 51 [some (vr (11, 0, 0))] [] hC := by
  rw [i_74_40, ln_B, e_stk, cV_some]
  rfl
def hD : Mem := uR (stk (nw hC 8 0 8) 18) 0 5 (some (8, 0, 18))
theorem ln_C : hC.1.length = 18 := by decide +kernel
theorem xi_D : R 74 51 [some (vr (11, 0, 0))] [] hC = R 74 62 [some (vr (11, 0, 0))] [] hD := by
  rw [i_74_51, ln_C, e_stk, cV_some]
  rfl
def hE : Mem := uR (trp (nw hD 10 0 14)) 0 6 (some (10, 0, 25))
theorem ln_D : hD.1.length = 25 := by decide +kernel
theorem xi_E : R 74 62 [some (vr (11, 0, 0))] [] hD = R 74 73 [some (vr (11, 0, 0))] [] hE := by
  rw [i_74_62, ln_D, e_trp, cV_some]
  rfl
def hF : Mem := uR (sea (nw hE 5 0 8)) 0 7 (some (5, 0, 33))
theorem ln_E : hE.1.length = 33 := by decide +kernel
theorem xi_F : R 74 73 [some (vr (11, 0, 0))] [] hE = R 74 84 [some (vr (11, 0, 0))] [] hF := by
  rw [i_74_73, ln_E, e_sea, cV_some]
  rfl
def hX0 : Mem := uI (uI (uI (uI (uI (uI (uI (uR (hF) 0 8 none) 0 9 0) 0 10 0) 0 11 0) 0 12 0) 0 13 (-1)) 0 14 0) 0 15 0
theorem x_init : ev 74 [vr (11, 0, 0)] (nw mem0 11 0 16) = some (none, hX0) := by
  rw [xi_A, xi_B, xi_C, xi_D, xi_E, xi_F, i_74_84, i_74_89, i_74_94, i_74_99, i_74_104, i_74_109, i_74_114, i_74_119, i_74_124]
  rfl
/-- of the places P every int is 0 -/
def Zp (P : Nat → Nat → Prop) (h : Mem) : Prop := ∀ i j, P i j → mI h i j = 0
section ZP
variable {P : Nat → Nat → Prop} {h : Mem}
theorem Zp_0 : Zp P mem0 := fun _ _ _ => rfl
theorem Zp_nw (q : Zp P h) (k c z : Nat) : Zp P (nw h k c z) := fun i j p => by
  rw [mI_nw]
  split
  · rfl
  · exact q i j p
theorem Zp_nm (q : Zp P h) (c d : Nat) : Zp P (nm h c d) := fun i j p => by
  show (if h.1.length ≤ i ∧ i < h.1.length + 1 + c then 0 else mI h i j) = 0
  split
  · rfl
  · exact q i j p
theorem Zp_uR (q : Zp P h) (a b : Nat) (v : Option ID) : Zp P (uR h a b v) := q
theorem Zp_al (q : Zp P h) (s j k c z : Nat) : Zp P (al h s j k c z) := Zp_nw q k c z
theorem Zp_alm (q : Zp P h) (s j c d : Nat) : Zp P (alm h s j c d) := Zp_nm q c d
theorem Zp_u0 (q : Zp P h) (a b : Nat) : Zp P (uI h a b 0) := fun i j p => by
  rw [mI_uI]
  split
  · rfl
  · exact q i j p
theorem Zp_ux (q : Zp P h) (a b : Nat) (v : Int) (e : ¬ P a b) : Zp P (uI h a b v) := fun i j p => by
  rw [mI_uI, if_neg]
  · exact q i j p
  · intro z
    rw [z.1, z.2] at p
    exact e p
end ZP
theorem zpM : Zp (fun i j => i ≠ 0 ∨ j ≠ 54) hM0 := by
  unfold hM0
  refine Zp_ux ?_ _ _ _ (by omega)
  repeat (first | exact Zp_nw Zp_0 _ _ _ | refine Zp_al ?_ _ _ _ _ _)
theorem zpX : Zp (fun i j => i ≠ 25 ∧ (i ≠ 0 ∨ j ≠ 13)) hX0 := by
  unfold hX0 hF sea hE trp hD hC hB stk hA
  repeat (first | exact Zp_nw Zp_0 _ _ _ | refine Zp_al ?_ _ _ _ _ _ | refine Zp_alm ?_ _ _ _ _ | refine Zp_uR ?_ _ _ _ | refine Zp_nw ?_ _ _ _ | refine Zp_u0 ?_ _ _ | refine Zp_ux ?_ _ _ _ (by omega))
/-- behind the last field no reference lies -/
def Nn (h : Mem) : Prop := 0 < h.1.length ∧ ∀ j, 61 ≤ j → mR h 0 j = none
theorem Nn_al {h : Mem} (q : Nn h) {j : Nat} (hj : j < 61) (k c z : Nat) : Nn (al h 0 j k c z) := ⟨by
  show 0 < (nw h k c z).1.length
  rw [len_nw]; omega, fun i hi => by
  show mR (uR (nw h k c z) 0 j _) 0 i = none
  have := q.1
  rw [mR_uR, if_neg (by omega), mR_nw, if_neg (by omega)]
  exact q.2 i hi⟩
theorem nM : Nn hM0 := by
  have b : Nn (nw mem0 12 0 61) := ⟨by decide, fun j _ => rfl⟩
  show Nn (uI _ 0 54 (-1))
  refine (show ∀ h, Nn h → Nn (uI h 0 54 (-1)) from fun _ q => q) _ ?_
  repeat (first | exact b | refine Nn_al ?_ (by omega) _ _ _)
theorem mx_d : ((List.range 61).all fun j => decide (mR hM0 0 j = MR.getD j none)) = true := by decide +kernel
theorem mx0 : MX hM0 := by
  intro j
  by_cases z : j < 61
  · exact of_decide_eq_true (List.all_eq_true.mp mx_d j (List.mem_range.mpr z))
  · have ml : MR.length ≤ 61 := by decide
    rw [nM.2 j (by omega), List.getD_eq_getElem?_getD, List.getElem?_eq_none (by omega)]
    rfl
theorem cx_d : (([0, 4, 11, 18, 25, 33, 34, 48] : List Nat).all fun i => (List.range 25).all fun j => decide (CRf i j = none) || decide (mR hX0 i j = CRf i j)) = true := by decide +kernel
theorem gd_lt {l : List (Option ID)} {j : Nat} {a : ID} (e : l.getD j none = some a) : j < l.length := by
  by_cases z : j < l.length
  · exact z
  · rw [List.getD_eq_getElem?_getD, List.getElem?_eq_none (by omega)] at e
    cases e
theorem CRf_in {i j : Nat} {a : ID} (e : CRf i j = some a) : i ∈ ([0, 4, 11, 18, 25, 33, 34, 48] : List Nat) ∧ j < 25 := by
  unfold CRf at e
  split at e
  · exact ⟨by decide, Nat.lt_of_lt_of_le (gd_lt e) (by decide)⟩
  · exact ⟨by decide, Nat.lt_of_lt_of_le (gd_lt e) (by decide)⟩
  · exact ⟨by decide, Nat.lt_of_lt_of_le (gd_lt e) (by decide)⟩
  · exact ⟨by decide, Nat.lt_of_lt_of_le (gd_lt e) (by decide)⟩
  · exact ⟨by decide, Nat.lt_of_lt_of_le (gd_lt e) (by decide)⟩
  · exact ⟨by decide, Nat.lt_of_lt_of_le (gd_lt e) (by decide)⟩
  · refine ⟨by decide, ?_⟩
    split at e
    · omega
    · cases e
  · refine ⟨by decide, ?_⟩
    split at e
    · omega
    · cases e
  · cases e
theorem cx0 : CX hX0 := by
  refine ⟨by decide +kernel, ?_⟩
  intro i j a e
  obtain ⟨e1, e2⟩ := CRf_in e
  have z := List.all_eq_true.mp (List.all_eq_true.mp cx_d i e1) j (List.mem_range.mpr e2)
  rw [Bool.or_eq_true, decide_eq_true_eq, decide_eq_true_eq] at z
  rcases z with z | z
  · rw [z] at e; cases e
  · rw [z]; exact e
theorem inv0 : Inv 0 hX0 hM0 := by
  have m : ∀ i j, (i ≠ 0 ∨ j ≠ 54) → mI hM0 i j = 0 := zpM
  have x : ∀ i j, (i ≠ 25 ∧ (i ≠ 0 ∨ j ≠ 13)) → mI hX0 i j = 0 := zpX
  have m54 : mI hM0 0 54 = -1 := mI_uI_eq _ _ _ _
  have x13 : mI hX0 0 13 = -1 := by decide +kernel
  have r8 : mR hX0 0 8 = none := by decide +kernel
  have nk : ¬ (mI hM0 0 54) = (mI hM0 0 18) := by rw [m54, m 0 18 (by omega)]; omega
  refine ⟨by decide +kernel, by decide +kernel, by decide +kernel, by decide +kernel, by decide +kernel, by decide +kernel, ⟨mx0, ?_, ?_, ?_, ?_, ?_, ?_, ?_, fun z => absurd z nk⟩, cx0, ?_, ?_, ?_, ?_, ?_, ?_, ?_, fun z => absurd z nk⟩
  · exact ⟨by rw [m 0 19 (by omega)]; omega, by rw [m 0 19 (by omega)]; omega, fun s s0 s1 => by rw [m 0 19 (by omega)] at s1; omega⟩
  · exact Or.inl ⟨m 0 14 (by omega), m 0 21 (by omega)⟩
  · exact ⟨by rw [m 0 21 (by omega)]; omega, by rw [m 0 21 (by omega)]; omega, fun s s0 s1 => by rw [m 0 21 (by omega)] at s1; omega⟩
  · exact ⟨by rw [m 0 26 (by omega)]; omega, by rw [m 0 26 (by omega)]; omega, fun s s0 s1 => by rw [m 0 26 (by omega)] at s1; omega⟩
  · exact ⟨by rw [m 0 44 (by omega)]; omega, by rw [m 0 44 (by omega)]; omega, fun s s0 s1 => by rw [m 0 44 (by omega)] at s1; omega, fun p _ _ => by rw [m 9 _ (by omega)]; omega⟩
  · exact ⟨by rw [m 0 1 (by omega)]; omega, by rw [m 0 1 (by omega)]; omega, fun s s0 s1 => by rw [m 0 1 (by omega)] at s1; omega⟩
  · unfold gCnt
    rw [m 0 18 (by omega), m54, m 0 43 (by omega), m 0 53 (by omega)]
    omega
  · exact ⟨by rw [m 0 19 (by omega)]; exact x 0 10 (by omega), fun s s0 s1 => by rw [m 0 19 (by omega)] at s1; omega⟩
  · exact Or.inl ⟨m 0 14 (by omega), r8⟩
  · exact ⟨by rw [m 0 26 (by omega)]; exact x 0 11 (by omega), fun s s0 s1 => by rw [m 0 26 (by omega)] at s1; omega⟩
  · exact ⟨by rw [m 0 21 (by omega)]; exact x 4 0 (by omega), fun s s0 s1 => by rw [m 0 21 (by omega)] at s1; omega⟩
  · exact ⟨fun p _ _ => by rw [m 9 _ (by omega)]; exact x _ _ (by omega), by rw [m 0 44 (by omega)]; exact x 4 6 (by omega), fun s s0 s1 => by rw [m 0 44 (by omega)] at s1; omega⟩
  · exact ⟨by rw [m 0 1 (by omega)]; exact x 0 9 (by omega), fun s s0 s1 => by rw [m 0 1 (by omega)] at s1; omega⟩
  · unfold rCnt
    rw [m 0 18 (by omega), m54, m 0 43 (by omega), m 0 53 (by omega), x13]
    exact ⟨x 0 12 (by omega), rfl, x 0 14 (by omega), x 0 15 (by omega)⟩
theorem owedS : OwedS InvT := ⟨hX0, hM0, x_init, m_init, by omega, inv0⟩
