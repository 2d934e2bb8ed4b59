/-! the standing shape of the world: which cell lies at which place, what refers to what; and the words of fields and calls -/
def SH0 : List aSh := [.inr 11, .inr 10, .inl (.int, 240), .inr 9, .inl (.object "WokenBorder$Law", 4), .inl (.object "WokenBorder$Lines", 4), .inr 4, .inl (.int, 240), .inl (.int, 32), .inr 5, .inl (.int, 48), .inr 1, .inl (.int, 4), .inl (.int, 54), .inl (.int, 16), .inr 1, .inl (.int, 4), .inl (.int, 54), .inl (.int, 16), .inr 8, .inl (.int, 56), .inr 8, .inl (.int, 56), .inr 3, .inl (.int, 6), .inr 6, .inl (.int, 2296), .inl (.int, 400), .inl (.int, 56), .inl (.int, 400), .inr 7, .inl (.int, 9), .inl (.int, 7), .inl (.int, 128), .inl (.int, 896), .inr 0, .inl (.int, 512), .inl (.int, 81), .inl (.int, 9), .inl (.int, 9), .inl (.int, 9), .inl (.int, 9), .inl (.int, 108), .inl (.int, 40), .inl (.int, 40), .inr 2, .inl (.boolean, 8), .inl (.int, 8), .inl (.int, 10), .inl (.boolean, 10), .inr 12, .inl (.byte, 240), .inl (.byte, 960), .inl (.int, 4), .inl (.int, 128), .inl (.int, 4), .inl (.int, 4), .inl (.int, 54), .inl (.int, 54), .inl (.int, 16), .inl (.int, 16), .inl (.int, 240), .inl (.int, 5), .inl (.int, 296), .inl (.int, 296), .inl (.int, 11840), .inl (.int, 9), .inl (.boolean, 8), .inl (.int, 8), .inl (.int, 10), .inl (.boolean, 10), .inl (.int, 9), .inl (.int, 296), .inl (.long, 1)]
def RFL : List (Nat × Nat × Nat) := [(0, 0, 101), (0, 1, 103), (0, 2, 111), (0, 3, 115), (0, 4, 119), (0, 5, 121), (0, 6, 123), (0, 7, 125), (0, 8, 130), (0, 9, 135), (0, 10, 145), (1, 0, 102), (3, 0, 104), (3, 1, 105), (6, 0, 107), (6, 1, 108), (9, 0, 110), (11, 0, 112), (11, 1, 113), (11, 2, 114), (15, 0, 116), (15, 1, 117), (15, 2, 118), (19, 0, 120), (21, 0, 122), (23, 0, 115), (23, 1, 124), (25, 0, 126), (25, 1, 127), (25, 2, 128), (25, 3, 129), (30, 0, 115), (30, 1, 123), (30, 2, 119), (30, 3, 131), (30, 4, 132), (30, 5, 133), (30, 6, 134), (35, 0, 115), (35, 1, 123), (35, 2, 119), (35, 3, 136), (35, 4, 137), (35, 5, 138), (35, 6, 139), (35, 7, 140), (35, 8, 141), (35, 9, 142), (35, 10, 143), (35, 11, 144), (45, 0, 115), (45, 1, 123), (45, 2, 119), (45, 3, 146), (45, 4, 147), (45, 5, 148), (45, 6, 149), (50, 1, 151), (50, 2, 152), (50, 3, 153), (50, 4, 154), (50, 15, 15), (50, 16, 12), (50, 18, 155), (50, 19, 156), (50, 20, 157), (50, 21, 158), (50, 22, 159), (50, 23, 160), (50, 24, 161), (50, 25, 162), (50, 33, 163), (50, 34, 164), (50, 41, 165), (50, 46, 166), (50, 47, 167), (50, 48, 168), (50, 50, 169), (50, 51, 170), (50, 55, 171), (50, 56, 172)]
def isLaw (sh : List aSh) (rv : Nat → Nat → Option Nat) (a : Nat) : Prop := sh[a]? = some (.inr 4) ∧ sh[a + 1]? = some (.inl (.int, 240)) ∧ sh[a + 2]? = some (.inl (.int, 32)) ∧ rv a 0 = some (100 + (a + 1)) ∧ rv a 1 = some (100 + (a + 2))
def isLin (sh : List aSh) (rv : Nat → Nat → Option Nat) (a : Nat) : Prop := sh[a]? = some (.inr 5) ∧ sh[a + 1]? = some (.inl (.int, 48)) ∧ rv a 0 = some (100 + (a + 1))
def isCar (sh : List aSh) (rv : Nat → Nat → Option Nat) (a : Nat) : Prop := sh[a]? = some (.inr 1) ∧ sh[a + 1]? = some (.inl (.int, 4)) ∧ sh[a + 2]? = some (.inl (.int, 54)) ∧ sh[a + 3]? = some (.inl (.int, 16)) ∧ rv a 0 = some (100 + (a + 1)) ∧ rv a 1 = some (100 + (a + 2)) ∧ rv a 2 = some (100 + (a + 3))
def isScn (sh : List aSh) (rv : Nat → Nat → Option Nat) (a : Nat) : Prop := sh[a]? = some (.inr 8) ∧ sh[a + 1]? = some (.inl (.int, 56)) ∧ rv a 0 = some (100 + (a + 1))
/-- the place that a reference names -/
def plc (r : Option Nat) : Nat := r.getD 0 - 100
/-- the tape's and the texts' length -/
def bLen (a : Nat) : Nat := if a = 51 then 240 else 960
def aGood (sh : List aSh) (rv : Nat → Nat → Option Nat) : Prop :=
  (∀ q, q < 74 → sh[q]? = SH0[q]?) ∧ (∀ x ∈ RFL, rv x.1 x.2.1 = some x.2.2) ∧ (∀ r, rv 23 2 = some r → r = 100 + (r - 100) ∧ isLaw sh rv (r - 100)) ∧ (rv 3 2 = some (100 + plc (rv 3 2)) ∧ isLaw sh rv (plc (rv 3 2))) ∧ (rv 3 3 = some (100 + plc (rv 3 3)) ∧ isLin sh rv (plc (rv 3 3))) ∧
  (∀ j r, rv 4 j = some r → r = 100 + (r - 100) ∧ isLaw sh rv (r - 100)) ∧ (∀ j r, rv 5 j = some r → r = 100 + (r - 100) ∧ isLin sh rv (r - 100)) ∧ (rv 50 5 = some 151 ∨ rv 50 5 = some 152)
section GD
variable {sh : List aSh} {rv : Nat → Nat → Option Nat}
theorem tx_rf (h : aGood sh rv) : rv 50 5 = some (100 + plc (rv 50 5)) := by
  rcases h.2.2.2.2.2.2.2 with e | e <;> rw [e] <;> rfl
theorem tx_sh (h : aGood sh rv) : sh[plc (rv 50 5)]? = some (.inl (.byte, bLen (plc (rv 50 5)))) := by
  rcases h.2.2.2.2.2.2.2 with e | e <;> rw [e]
  · exact (h.1 51 (by decide)).trans rfl
  · exact (h.1 52 (by decide)).trans rfl
theorem sh_0 (h : aGood sh rv) : sh[0]? = some (.inr 11) := (h.1 0 (by decide)).trans rfl
theorem sh_1 (h : aGood sh rv) : sh[1]? = some (.inr 10) := (h.1 1 (by decide)).trans rfl
theorem sh_2 (h : aGood sh rv) : sh[2]? = some (.inl (.int, 240)) := (h.1 2 (by decide)).trans rfl
theorem sh_3 (h : aGood sh rv) : sh[3]? = some (.inr 9) := (h.1 3 (by decide)).trans rfl
theorem sh_4 (h : aGood sh rv) : sh[4]? = some (.inl (.object "WokenBorder$Law", 4)) := (h.1 4 (by decide)).trans rfl
theorem sh_5 (h : aGood sh rv) : sh[5]? = some (.inl (.object "WokenBorder$Lines", 4)) := (h.1 5 (by decide)).trans rfl
theorem sh_6 (h : aGood sh rv) : sh[6]? = some (.inr 4) := (h.1 6 (by decide)).trans rfl
theorem sh_7 (h : aGood sh rv) : sh[7]? = some (.inl (.int, 240)) := (h.1 7 (by decide)).trans rfl
theorem sh_8 (h : aGood sh rv) : sh[8]? = some (.inl (.int, 32)) := (h.1 8 (by decide)).trans rfl
theorem sh_9 (h : aGood sh rv) : sh[9]? = some (.inr 5) := (h.1 9 (by decide)).trans rfl
theorem sh_10 (h : aGood sh rv) : sh[10]? = some (.inl (.int, 48)) := (h.1 10 (by decide)).trans rfl
theorem sh_11 (h : aGood sh rv) : sh[11]? = some (.inr 1) := (h.1 11 (by decide)).trans rfl
theorem sh_12 (h : aGood sh rv) : sh[12]? = some (.inl (.int, 4)) := (h.1 12 (by decide)).trans rfl
theorem sh_13 (h : aGood sh rv) : sh[13]? = some (.inl (.int, 54)) := (h.1 13 (by decide)).trans rfl
theorem sh_14 (h : aGood sh rv) : sh[14]? = some (.inl (.int, 16)) := (h.1 14 (by decide)).trans rfl
theorem sh_15 (h : aGood sh rv) : sh[15]? = some (.inr 1) := (h.1 15 (by decide)).trans rfl
theorem sh_16 (h : aGood sh rv) : sh[16]? = some (.inl (.int, 4)) := (h.1 16 (by decide)).trans rfl
theorem sh_17 (h : aGood sh rv) : sh[17]? = some (.inl (.int, 54)) := (h.1 17 (by decide)).trans rfl
theorem sh_18 (h : aGood sh rv) : sh[18]? = some (.inl (.int, 16)) := (h.1 18 (by decide)).trans rfl
theorem sh_19 (h : aGood sh rv) : sh[19]? = some (.inr 8) := (h.1 19 (by decide)).trans rfl
theorem sh_20 (h : aGood sh rv) : sh[20]? = some (.inl (.int, 56)) := (h.1 20 (by decide)).trans rfl
theorem sh_21 (h : aGood sh rv) : sh[21]? = some (.inr 8) := (h.1 21 (by decide)).trans rfl
theorem sh_22 (h : aGood sh rv) : sh[22]? = some (.inl (.int, 56)) := (h.1 22 (by decide)).trans rfl
theorem sh_23 (h : aGood sh rv) : sh[23]? = some (.inr 3) := (h.1 23 (by decide)).trans rfl
theorem sh_24 (h : aGood sh rv) : sh[24]? = some (.inl (.int, 6)) := (h.1 24 (by decide)).trans rfl
theorem sh_25 (h : aGood sh rv) : sh[25]? = some (.inr 6) := (h.1 25 (by decide)).trans rfl
theorem sh_26 (h : aGood sh rv) : sh[26]? = some (.inl (.int, 2296)) := (h.1 26 (by decide)).trans rfl
theorem sh_27 (h : aGood sh rv) : sh[27]? = some (.inl (.int, 400)) := (h.1 27 (by decide)).trans rfl
theorem sh_28 (h : aGood sh rv) : sh[28]? = some (.inl (.int, 56)) := (h.1 28 (by decide)).trans rfl
theorem sh_29 (h : aGood sh rv) : sh[29]? = some (.inl (.int, 400)) := (h.1 29 (by decide)).trans rfl
theorem sh_30 (h : aGood sh rv) : sh[30]? = some (.inr 7) := (h.1 30 (by decide)).trans rfl
theorem sh_31 (h : aGood sh rv) : sh[31]? = some (.inl (.int, 9)) := (h.1 31 (by decide)).trans rfl
theorem sh_32 (h : aGood sh rv) : sh[32]? = some (.inl (.int, 7)) := (h.1 32 (by decide)).trans rfl
theorem sh_33 (h : aGood sh rv) : sh[33]? = some (.inl (.int, 128)) := (h.1 33 (by decide)).trans rfl
theorem sh_34 (h : aGood sh rv) : sh[34]? = some (.inl (.int, 896)) := (h.1 34 (by decide)).trans rfl
theorem sh_35 (h : aGood sh rv) : sh[35]? = some (.inr 0) := (h.1 35 (by decide)).trans rfl
theorem sh_36 (h : aGood sh rv) : sh[36]? = some (.inl (.int, 512)) := (h.1 36 (by decide)).trans rfl
theorem sh_37 (h : aGood sh rv) : sh[37]? = some (.inl (.int, 81)) := (h.1 37 (by decide)).trans rfl
theorem sh_38 (h : aGood sh rv) : sh[38]? = some (.inl (.int, 9)) := (h.1 38 (by decide)).trans rfl
theorem sh_39 (h : aGood sh rv) : sh[39]? = some (.inl (.int, 9)) := (h.1 39 (by decide)).trans rfl
theorem sh_40 (h : aGood sh rv) : sh[40]? = some (.inl (.int, 9)) := (h.1 40 (by decide)).trans rfl
theorem sh_41 (h : aGood sh rv) : sh[41]? = some (.inl (.int, 9)) := (h.1 41 (by decide)).trans rfl
theorem sh_42 (h : aGood sh rv) : sh[42]? = some (.inl (.int, 108)) := (h.1 42 (by decide)).trans rfl
theorem sh_43 (h : aGood sh rv) : sh[43]? = some (.inl (.int, 40)) := (h.1 43 (by decide)).trans rfl
theorem sh_44 (h : aGood sh rv) : sh[44]? = some (.inl (.int, 40)) := (h.1 44 (by decide)).trans rfl
theorem sh_45 (h : aGood sh rv) : sh[45]? = some (.inr 2) := (h.1 45 (by decide)).trans rfl
theorem sh_46 (h : aGood sh rv) : sh[46]? = some (.inl (.boolean, 8)) := (h.1 46 (by decide)).trans rfl
theorem sh_47 (h : aGood sh rv) : sh[47]? = some (.inl (.int, 8)) := (h.1 47 (by decide)).trans rfl
theorem sh_48 (h : aGood sh rv) : sh[48]? = some (.inl (.int, 10)) := (h.1 48 (by decide)).trans rfl
theorem sh_49 (h : aGood sh rv) : sh[49]? = some (.inl (.boolean, 10)) := (h.1 49 (by decide)).trans rfl
theorem sh_50 (h : aGood sh rv) : sh[50]? = some (.inr 12) := (h.1 50 (by decide)).trans rfl
theorem sh_51 (h : aGood sh rv) : sh[51]? = some (.inl (.byte, 240)) := (h.1 51 (by decide)).trans rfl
theorem sh_52 (h : aGood sh rv) : sh[52]? = some (.inl (.byte, 960)) := (h.1 52 (by decide)).trans rfl
theorem sh_53 (h : aGood sh rv) : sh[53]? = some (.inl (.int, 4)) := (h.1 53 (by decide)).trans rfl
theorem sh_54 (h : aGood sh rv) : sh[54]? = some (.inl (.int, 128)) := (h.1 54 (by decide)).trans rfl
theorem sh_55 (h : aGood sh rv) : sh[55]? = some (.inl (.int, 4)) := (h.1 55 (by decide)).trans rfl
theorem sh_56 (h : aGood sh rv) : sh[56]? = some (.inl (.int, 4)) := (h.1 56 (by decide)).trans rfl
theorem sh_57 (h : aGood sh rv) : sh[57]? = some (.inl (.int, 54)) := (h.1 57 (by decide)).trans rfl
theorem sh_58 (h : aGood sh rv) : sh[58]? = some (.inl (.int, 54)) := (h.1 58 (by decide)).trans rfl
theorem sh_59 (h : aGood sh rv) : sh[59]? = some (.inl (.int, 16)) := (h.1 59 (by decide)).trans rfl
theorem sh_60 (h : aGood sh rv) : sh[60]? = some (.inl (.int, 16)) := (h.1 60 (by decide)).trans rfl
theorem sh_61 (h : aGood sh rv) : sh[61]? = some (.inl (.int, 240)) := (h.1 61 (by decide)).trans rfl
theorem sh_62 (h : aGood sh rv) : sh[62]? = some (.inl (.int, 5)) := (h.1 62 (by decide)).trans rfl
theorem sh_63 (h : aGood sh rv) : sh[63]? = some (.inl (.int, 296)) := (h.1 63 (by decide)).trans rfl
theorem sh_64 (h : aGood sh rv) : sh[64]? = some (.inl (.int, 296)) := (h.1 64 (by decide)).trans rfl
theorem sh_65 (h : aGood sh rv) : sh[65]? = some (.inl (.int, 11840)) := (h.1 65 (by decide)).trans rfl
theorem sh_66 (h : aGood sh rv) : sh[66]? = some (.inl (.int, 9)) := (h.1 66 (by decide)).trans rfl
theorem sh_67 (h : aGood sh rv) : sh[67]? = some (.inl (.boolean, 8)) := (h.1 67 (by decide)).trans rfl
theorem sh_68 (h : aGood sh rv) : sh[68]? = some (.inl (.int, 8)) := (h.1 68 (by decide)).trans rfl
theorem sh_69 (h : aGood sh rv) : sh[69]? = some (.inl (.int, 10)) := (h.1 69 (by decide)).trans rfl
theorem sh_70 (h : aGood sh rv) : sh[70]? = some (.inl (.boolean, 10)) := (h.1 70 (by decide)).trans rfl
theorem sh_71 (h : aGood sh rv) : sh[71]? = some (.inl (.int, 9)) := (h.1 71 (by decide)).trans rfl
theorem sh_72 (h : aGood sh rv) : sh[72]? = some (.inl (.int, 296)) := (h.1 72 (by decide)).trans rfl
theorem sh_73 (h : aGood sh rv) : sh[73]? = some (.inl (.long, 1)) := (h.1 73 (by decide)).trans rfl
theorem rf_0_0 (h : aGood sh rv) : rv 0 0 = some (100 + 1) := h.2.1 (0, 0, 101) (by decide)
theorem rf_0_1 (h : aGood sh rv) : rv 0 1 = some (100 + 3) := h.2.1 (0, 1, 103) (by decide)
theorem rf_0_2 (h : aGood sh rv) : rv 0 2 = some (100 + 11) := h.2.1 (0, 2, 111) (by decide)
theorem rf_0_3 (h : aGood sh rv) : rv 0 3 = some (100 + 15) := h.2.1 (0, 3, 115) (by decide)
theorem rf_0_4 (h : aGood sh rv) : rv 0 4 = some (100 + 19) := h.2.1 (0, 4, 119) (by decide)
theorem rf_0_5 (h : aGood sh rv) : rv 0 5 = some (100 + 21) := h.2.1 (0, 5, 121) (by decide)
theorem rf_0_6 (h : aGood sh rv) : rv 0 6 = some (100 + 23) := h.2.1 (0, 6, 123) (by decide)
theorem rf_0_7 (h : aGood sh rv) : rv 0 7 = some (100 + 25) := h.2.1 (0, 7, 125) (by decide)
theorem rf_0_8 (h : aGood sh rv) : rv 0 8 = some (100 + 30) := h.2.1 (0, 8, 130) (by decide)
theorem rf_0_9 (h : aGood sh rv) : rv 0 9 = some (100 + 35) := h.2.1 (0, 9, 135) (by decide)
theorem rf_0_10 (h : aGood sh rv) : rv 0 10 = some (100 + 45) := h.2.1 (0, 10, 145) (by decide)
theorem rf_1_0 (h : aGood sh rv) : rv 1 0 = some (100 + 2) := h.2.1 (1, 0, 102) (by decide)
theorem rf_3_0 (h : aGood sh rv) : rv 3 0 = some (100 + 4) := h.2.1 (3, 0, 104) (by decide)
theorem rf_3_1 (h : aGood sh rv) : rv 3 1 = some (100 + 5) := h.2.1 (3, 1, 105) (by decide)
theorem rf_6_0 (h : aGood sh rv) : rv 6 0 = some (100 + 7) := h.2.1 (6, 0, 107) (by decide)
theorem rf_6_1 (h : aGood sh rv) : rv 6 1 = some (100 + 8) := h.2.1 (6, 1, 108) (by decide)
theorem rf_9_0 (h : aGood sh rv) : rv 9 0 = some (100 + 10) := h.2.1 (9, 0, 110) (by decide)
theorem rf_11_0 (h : aGood sh rv) : rv 11 0 = some (100 + 12) := h.2.1 (11, 0, 112) (by decide)
theorem rf_11_1 (h : aGood sh rv) : rv 11 1 = some (100 + 13) := h.2.1 (11, 1, 113) (by decide)
theorem rf_11_2 (h : aGood sh rv) : rv 11 2 = some (100 + 14) := h.2.1 (11, 2, 114) (by decide)
theorem rf_15_0 (h : aGood sh rv) : rv 15 0 = some (100 + 16) := h.2.1 (15, 0, 116) (by decide)
theorem rf_15_1 (h : aGood sh rv) : rv 15 1 = some (100 + 17) := h.2.1 (15, 1, 117) (by decide)
theorem rf_15_2 (h : aGood sh rv) : rv 15 2 = some (100 + 18) := h.2.1 (15, 2, 118) (by decide)
theorem rf_19_0 (h : aGood sh rv) : rv 19 0 = some (100 + 20) := h.2.1 (19, 0, 120) (by decide)
theorem rf_21_0 (h : aGood sh rv) : rv 21 0 = some (100 + 22) := h.2.1 (21, 0, 122) (by decide)
theorem rf_23_0 (h : aGood sh rv) : rv 23 0 = some (100 + 15) := h.2.1 (23, 0, 115) (by decide)
theorem rf_23_1 (h : aGood sh rv) : rv 23 1 = some (100 + 24) := h.2.1 (23, 1, 124) (by decide)
theorem rf_25_0 (h : aGood sh rv) : rv 25 0 = some (100 + 26) := h.2.1 (25, 0, 126) (by decide)
theorem rf_25_1 (h : aGood sh rv) : rv 25 1 = some (100 + 27) := h.2.1 (25, 1, 127) (by decide)
theorem rf_25_2 (h : aGood sh rv) : rv 25 2 = some (100 + 28) := h.2.1 (25, 2, 128) (by decide)
theorem rf_25_3 (h : aGood sh rv) : rv 25 3 = some (100 + 29) := h.2.1 (25, 3, 129) (by decide)
theorem rf_30_0 (h : aGood sh rv) : rv 30 0 = some (100 + 15) := h.2.1 (30, 0, 115) (by decide)
theorem rf_30_1 (h : aGood sh rv) : rv 30 1 = some (100 + 23) := h.2.1 (30, 1, 123) (by decide)
theorem rf_30_2 (h : aGood sh rv) : rv 30 2 = some (100 + 19) := h.2.1 (30, 2, 119) (by decide)
theorem rf_30_3 (h : aGood sh rv) : rv 30 3 = some (100 + 31) := h.2.1 (30, 3, 131) (by decide)
theorem rf_30_4 (h : aGood sh rv) : rv 30 4 = some (100 + 32) := h.2.1 (30, 4, 132) (by decide)
theorem rf_30_5 (h : aGood sh rv) : rv 30 5 = some (100 + 33) := h.2.1 (30, 5, 133) (by decide)
theorem rf_30_6 (h : aGood sh rv) : rv 30 6 = some (100 + 34) := h.2.1 (30, 6, 134) (by decide)
theorem rf_35_0 (h : aGood sh rv) : rv 35 0 = some (100 + 15) := h.2.1 (35, 0, 115) (by decide)
theorem rf_35_1 (h : aGood sh rv) : rv 35 1 = some (100 + 23) := h.2.1 (35, 1, 123) (by decide)
theorem rf_35_2 (h : aGood sh rv) : rv 35 2 = some (100 + 19) := h.2.1 (35, 2, 119) (by decide)
theorem rf_35_3 (h : aGood sh rv) : rv 35 3 = some (100 + 36) := h.2.1 (35, 3, 136) (by decide)
theorem rf_35_4 (h : aGood sh rv) : rv 35 4 = some (100 + 37) := h.2.1 (35, 4, 137) (by decide)
theorem rf_35_5 (h : aGood sh rv) : rv 35 5 = some (100 + 38) := h.2.1 (35, 5, 138) (by decide)
theorem rf_35_6 (h : aGood sh rv) : rv 35 6 = some (100 + 39) := h.2.1 (35, 6, 139) (by decide)
theorem rf_35_7 (h : aGood sh rv) : rv 35 7 = some (100 + 40) := h.2.1 (35, 7, 140) (by decide)
theorem rf_35_8 (h : aGood sh rv) : rv 35 8 = some (100 + 41) := h.2.1 (35, 8, 141) (by decide)
theorem rf_35_9 (h : aGood sh rv) : rv 35 9 = some (100 + 42) := h.2.1 (35, 9, 142) (by decide)
theorem rf_35_10 (h : aGood sh rv) : rv 35 10 = some (100 + 43) := h.2.1 (35, 10, 143) (by decide)
theorem rf_35_11 (h : aGood sh rv) : rv 35 11 = some (100 + 44) := h.2.1 (35, 11, 144) (by decide)
theorem rf_45_0 (h : aGood sh rv) : rv 45 0 = some (100 + 15) := h.2.1 (45, 0, 115) (by decide)
theorem rf_45_1 (h : aGood sh rv) : rv 45 1 = some (100 + 23) := h.2.1 (45, 1, 123) (by decide)
theorem rf_45_2 (h : aGood sh rv) : rv 45 2 = some (100 + 19) := h.2.1 (45, 2, 119) (by decide)
theorem rf_45_3 (h : aGood sh rv) : rv 45 3 = some (100 + 46) := h.2.1 (45, 3, 146) (by decide)
theorem rf_45_4 (h : aGood sh rv) : rv 45 4 = some (100 + 47) := h.2.1 (45, 4, 147) (by decide)
theorem rf_45_5 (h : aGood sh rv) : rv 45 5 = some (100 + 48) := h.2.1 (45, 5, 148) (by decide)
theorem rf_45_6 (h : aGood sh rv) : rv 45 6 = some (100 + 49) := h.2.1 (45, 6, 149) (by decide)
theorem rf_50_1 (h : aGood sh rv) : rv 50 1 = some (100 + 51) := h.2.1 (50, 1, 151) (by decide)
theorem rf_50_2 (h : aGood sh rv) : rv 50 2 = some (100 + 52) := h.2.1 (50, 2, 152) (by decide)
theorem rf_50_3 (h : aGood sh rv) : rv 50 3 = some (100 + 53) := h.2.1 (50, 3, 153) (by decide)
theorem rf_50_4 (h : aGood sh rv) : rv 50 4 = some (100 + 54) := h.2.1 (50, 4, 154) (by decide)
theorem rf_50_15 (h : aGood sh rv) : rv 50 15 = some (10 + 5) := h.2.1 (50, 15, 15) (by decide)
theorem rf_50_16 (h : aGood sh rv) : rv 50 16 = some (10 + 2) := h.2.1 (50, 16, 12) (by decide)
theorem rf_50_18 (h : aGood sh rv) : rv 50 18 = some (100 + 55) := h.2.1 (50, 18, 155) (by decide)
theorem rf_50_19 (h : aGood sh rv) : rv 50 19 = some (100 + 56) := h.2.1 (50, 19, 156) (by decide)
theorem rf_50_20 (h : aGood sh rv) : rv 50 20 = some (100 + 57) := h.2.1 (50, 20, 157) (by decide)
theorem rf_50_21 (h : aGood sh rv) : rv 50 21 = some (100 + 58) := h.2.1 (50, 21, 158) (by decide)
theorem rf_50_22 (h : aGood sh rv) : rv 50 22 = some (100 + 59) := h.2.1 (50, 22, 159) (by decide)
theorem rf_50_23 (h : aGood sh rv) : rv 50 23 = some (100 + 60) := h.2.1 (50, 23, 160) (by decide)
theorem rf_50_24 (h : aGood sh rv) : rv 50 24 = some (100 + 61) := h.2.1 (50, 24, 161) (by decide)
theorem rf_50_25 (h : aGood sh rv) : rv 50 25 = some (100 + 62) := h.2.1 (50, 25, 162) (by decide)
theorem rf_50_33 (h : aGood sh rv) : rv 50 33 = some (100 + 63) := h.2.1 (50, 33, 163) (by decide)
theorem rf_50_34 (h : aGood sh rv) : rv 50 34 = some (100 + 64) := h.2.1 (50, 34, 164) (by decide)
theorem rf_50_41 (h : aGood sh rv) : rv 50 41 = some (100 + 65) := h.2.1 (50, 41, 165) (by decide)
theorem rf_50_46 (h : aGood sh rv) : rv 50 46 = some (100 + 66) := h.2.1 (50, 46, 166) (by decide)
theorem rf_50_47 (h : aGood sh rv) : rv 50 47 = some (100 + 67) := h.2.1 (50, 47, 167) (by decide)
theorem rf_50_48 (h : aGood sh rv) : rv 50 48 = some (100 + 68) := h.2.1 (50, 48, 168) (by decide)
theorem rf_50_50 (h : aGood sh rv) : rv 50 50 = some (100 + 69) := h.2.1 (50, 50, 169) (by decide)
theorem rf_50_51 (h : aGood sh rv) : rv 50 51 = some (100 + 70) := h.2.1 (50, 51, 170) (by decide)
theorem rf_50_55 (h : aGood sh rv) : rv 50 55 = some (100 + 71) := h.2.1 (50, 55, 171) (by decide)
theorem rf_50_56 (h : aGood sh rv) : rv 50 56 = some (100 + 72) := h.2.1 (50, 56, 172) (by decide)
theorem cr_11 (h : aGood sh rv) : isCar sh rv 11 := ⟨sh_11 h, sh_12 h, sh_13 h, sh_14 h, rf_11_0 h, rf_11_1 h, rf_11_2 h⟩
theorem cr_15 (h : aGood sh rv) : isCar sh rv 15 := ⟨sh_15 h, sh_16 h, sh_17 h, sh_18 h, rf_15_0 h, rf_15_1 h, rf_15_2 h⟩
theorem sc_19 (h : aGood sh rv) : isScn sh rv 19 := ⟨sh_19 h, sh_20 h, rf_19_0 h⟩
theorem sc_21 (h : aGood sh rv) : isScn sh rv 21 := ⟨sh_21 h, sh_22 h, rf_21_0 h⟩
end GD
theorem u_in (C : String) (T : u_T) (N : Nat) (ps : List Nat) (hp : (List.range N).map (fun k => lw_tbl[ps.getD k 0]?) = (List.range N).map (fun k => some (u_lay C T k))) (hg : (u_ws C T N).all goodWord = true) : ∀ w ∈ u_ws C T N, w ∈ gtbl := by
  intro w hw
  have hg1 := List.all_eq_true.mp hg w hw
  obtain ⟨k, hk, rfl⟩ := List.mem_map.mp hw
  have e : ((List.range N).map (fun k => lw_tbl[ps.getD k 0]?))[k]? = ((List.range N).map (fun k => some (u_lay C T k)))[k]? := by rw [hp]
  have hk2 : k < N := List.mem_range.mp hk
  simp only [List.getElem?_map, List.getElem?_range hk2, Option.map_some, Option.some.injEq] at e
  exact gm _ e hg1
theorem kX0 : aCl 0 RX0 TX0 15 := ⟨rfl, u_in RX0 TX0 15 [369, 371, 373, 375, 377, 379, 381, 383, 385, 387, 389, 391, 393, 395, 397] (by decide +kernel) (by decide +kernel), tyX0_ok, nmX0⟩
theorem kX1 : aCl 1 RX1 TX1 6 := ⟨rfl, u_in RX1 TX1 6 [235, 237, 239, 241, 243, 245] (by decide +kernel) (by decide +kernel), tyX1_ok, nmX1⟩
theorem kX2 : aCl 2 RX2 TX2 9 := ⟨rfl, u_in RX2 TX2 9 [415, 417, 419, 421, 423, 425, 427, 429, 431] (by decide +kernel) (by decide +kernel), tyX2_ok, nmX2⟩
theorem kX3 : aCl 3 RX3 TX3 5 := ⟨rfl, u_in RX3 TX3 5 [269, 271, 273, 275, 277] (by decide +kernel) (by decide +kernel), tyX3_ok, nmX3⟩
theorem kX4 : aCl 4 RX4 TX4 4 := ⟨rfl, u_in RX4 TX4 4 [183, 185, 187, 189] (by decide +kernel) (by decide +kernel), tyX4_ok, nmX4⟩
theorem kX5 : aCl 5 RX5 TX5 2 := ⟨rfl, u_in RX5 TX5 2 [199, 201] (by decide +kernel) (by decide +kernel), tyX5_ok, nmX5⟩
theorem kX6 : aCl 6 RX6 TX6 7 := ⟨rfl, u_in RX6 TX6 7 [293, 295, 297, 299, 301, 303, 305] (by decide +kernel) (by decide +kernel), tyX6_ok, nmX6⟩
theorem kX7 : aCl 7 RX7 TX7 11 := ⟨rfl, u_in RX7 TX7 11 [325, 327, 329, 331, 333, 335, 337, 339, 341, 343, 345] (by decide +kernel) (by decide +kernel), tyX7_ok, nmX7⟩
theorem kX8 : aCl 8 RX8 TX8 1 := ⟨rfl, u_in RX8 TX8 1 [255] (by decide +kernel) (by decide +kernel), tyX8_ok, nmX8⟩
theorem kX9 : aCl 9 RX9 TX9 6 := ⟨rfl, u_in RX9 TX9 6 [210, 212, 214, 216, 218, 220] (by decide +kernel) (by decide +kernel), tyX9_ok, nmX9⟩
theorem kX10 : aCl 10 RX10 TX10 3 := ⟨rfl, u_in RX10 TX10 3 [156, 158, 160] (by decide +kernel) (by decide +kernel), tyX10_ok, nmX10⟩
theorem kX11 : aCl 11 RX11 TX11 14 := ⟨rfl, u_in RX11 TX11 14 [449, 451, 453, 455, 457, 459, 461, 463, 465, 467, 469, 471, 473, 475] (by decide +kernel) (by decide +kernel), tyX11_ok, nmX11⟩
theorem kX12 : aCl 12 RX12 TX12 58 := ⟨rfl, u_in RX12 TX12 58 [1611, 1613, 1615, 1617, 1619, 1621, 1623, 1625, 1627, 1629, 1631, 1633, 1635, 1637, 1639, 1641, 1643, 1645, 1647, 1649, 1651, 1653, 1655, 1657, 1659, 1661, 1663, 1665, 1667, 1669, 1671, 1673, 1675, 1677, 1679, 1681, 1683, 1685, 1687, 1689, 1691, 1693, 1695, 1697, 1699, 1701, 1703, 1705, 1707, 1709, 1711, 1713, 1715, 1717, 1719, 1721, 1723, 1725] (by decide +kernel) (by decide +kernel), tyX12_ok, nmX12⟩
