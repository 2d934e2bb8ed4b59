/-! numbers: Int32 cells as naturals; tests of the decompiled functions as tests of naturals -/
theorem mz_b1 {α β : Type} (x : α) (k : α → Option β) : bn1 (some x) k = k x := rfl
theorem mz_b2 {α α2 β : Type} (x : α) (y : α2) (k : α → α2 → Option β) : bn2 (some (x, y)) k = k x y := rfl
theorem mz_b3 {α α2 α3 β : Type} (x : α) (y : α2) (z : α3) (k : α → α2 → α3 → Option β) : bn3 (some (x, y, z)) k = k x y z := rfl
theorem mz_lt {α β : Type} (e : α) (k : α → Option β) : lt e k = k e := rfl
theorem mz_o0 {β : Type} (a : Option β) (b : Nat → Option β) : mO none a b = a := rfl
theorem mz_o1 {β : Type} (r : Nat) (a : Option β) (b : Nat → Option β) : mO (some r) a b = b r := rfl
theorem mz_mul (a b : Nat) : nI a * nI b = nI (a * b) := (Int32.ofNat_mul a b).symm
theorem mz_sub {a b : Nat} (h : b ≤ a) : nI a - nI b = nI (a - b) := (Int32.ofNat_sub a b h).symm
theorem mz_in {k n : Nat} (h : k < n) (hn : n < 2 ^ 31) : aIn (nI k) n = true := by
  unfold aIn
  rw [nI_clamp (by omega), decide_eq_true (nI_pos' (by omega)), decide_eq_true h]
  rfl
theorem mz_div {a b : Nat} (ha : a < 2 ^ 31) (hb : b < 2 ^ 31) : nI a / nI b = nI (a / b) := (Int32.ofNat_div ha hb).symm
theorem mz_rem {a b : Nat} (ha : a < 2 ^ 31) (hb : b < 2 ^ 31) : nI a - nI a / nI b * nI b = nI (a % b) := by
  rw [mz_div ha hb, mz_mul, mz_sub (Nat.div_mul_le_self a b)]
  congr 1
  have := Nat.mod_add_div a b
  rw [Nat.mul_comm] at this
  omega
theorem mz_le {a b : Nat} (ha : a < 2 ^ 31) (hb : b < 2 ^ 31) : (nI a ≤ nI b) = (a ≤ b) := propext (nI_leI ha hb)
theorem mz_ltp {a b : Nat} (ha : a < 2 ^ 31) (hb : b < 2 ^ 31) : (nI a < nI b) = (a < b) := propext (nI_ltI ha hb)
theorem mz_eq {a b : Nat} (ha : a < 2 ^ 31) (hb : b < 2 ^ 31) : (nI a = nI b) = (a = b) := propext (nI_eq ha hb)
/-- none -/
def NN : Int32 := -1
theorem qNN : -nI 1 = NN := rfl
theorem qN1 : (-1 : Int32) = NN := rfl
theorem mz_nm {a : Nat} (h : a < 2 ^ 31) : (nI a = NN) = False := by
  apply propext
  constructor
  · intro e
    have := congrArg Int32.toInt e
    rw [nI_toInt h] at this
    have h2 : NN.toInt = -1 := by decide +kernel
    omega
  · exact False.elim
theorem mz_mn {a : Nat} (h : a < 2 ^ 31) : (NN = nI a) = False := by
  rw [← mz_nm h]
  exact propext ⟨fun e => e.symm, fun e => e.symm⟩
theorem mz_ml {a : Nat} (h : a < 2 ^ 31) : (nI a ≤ NN) = False := by
  apply propext
  constructor
  · intro e
    have := Int32.le_iff_toInt_le.mp e
    rw [nI_toInt h] at this
    have h2 : NN.toInt = -1 := by decide +kernel
    omega
  · exact False.elim
theorem mz_mlt {a : Nat} (h : a < 2 ^ 31) : (NN < nI a) = True := by
  apply propext
  refine ⟨fun _ => trivial, fun _ => ?_⟩
  apply Int32.lt_iff_toInt_lt.mpr
  rw [nI_toInt h]
  have h2 : NN.toInt = -1 := by decide +kernel
  omega
theorem mz_nl {a : Nat} (h : a < 2 ^ 31) : (nI a < NN) = False := by
  apply propext
  constructor
  · intro e
    have := Int32.lt_iff_toInt_lt.mp e
    rw [nI_toInt h] at this
    have h2 : NN.toInt = -1 := by decide +kernel
    omega
  · exact False.elim
theorem mz_mle {a : Nat} (h : a < 2 ^ 31) : (NN ≤ nI a) = True := by
  apply propext
  refine ⟨fun _ => trivial, fun _ => ?_⟩
  apply Int32.le_iff_toInt_le.mpr
  rw [nI_toInt h]
  have h2 : NN.toInt = -1 := by decide +kernel
  omega
/-- numerals -/
theorem q0 : (0 : Int32) = nI 0 := rfl
theorem q1 : (1 : Int32) = nI 1 := rfl
theorem q2 : (2 : Int32) = nI 2 := rfl
theorem q3 : (3 : Int32) = nI 3 := rfl
theorem q4 : (4 : Int32) = nI 4 := rfl
theorem q5 : (5 : Int32) = nI 5 := rfl
theorem q6 : (6 : Int32) = nI 6 := rfl
theorem q7 : (7 : Int32) = nI 7 := rfl
theorem q8 : (8 : Int32) = nI 8 := rfl
theorem q9 : (9 : Int32) = nI 9 := rfl
theorem q10 : (10 : Int32) = nI 10 := rfl
theorem q11 : (11 : Int32) = nI 11 := rfl
theorem q12 : (12 : Int32) = nI 12 := rfl
theorem q13 : (13 : Int32) = nI 13 := rfl
theorem q14 : (14 : Int32) = nI 14 := rfl
theorem q15 : (15 : Int32) = nI 15 := rfl
theorem q16 : (16 : Int32) = nI 16 := rfl
theorem q17 : (17 : Int32) = nI 17 := rfl
theorem q18 : (18 : Int32) = nI 18 := rfl
theorem q19 : (19 : Int32) = nI 19 := rfl
theorem q20 : (20 : Int32) = nI 20 := rfl
theorem q21 : (21 : Int32) = nI 21 := rfl
theorem q22 : (22 : Int32) = nI 22 := rfl
theorem q23 : (23 : Int32) = nI 23 := rfl
theorem q24 : (24 : Int32) = nI 24 := rfl
theorem q25 : (25 : Int32) = nI 25 := rfl
theorem q26 : (26 : Int32) = nI 26 := rfl
theorem q27 : (27 : Int32) = nI 27 := rfl
theorem q28 : (28 : Int32) = nI 28 := rfl
theorem q29 : (29 : Int32) = nI 29 := rfl
theorem q30 : (30 : Int32) = nI 30 := rfl
theorem q31 : (31 : Int32) = nI 31 := rfl
theorem q32 : (32 : Int32) = nI 32 := rfl
theorem q33 : (33 : Int32) = nI 33 := rfl
theorem q34 : (34 : Int32) = nI 34 := rfl
theorem q35 : (35 : Int32) = nI 35 := rfl
theorem q36 : (36 : Int32) = nI 36 := rfl
theorem q37 : (37 : Int32) = nI 37 := rfl
theorem q38 : (38 : Int32) = nI 38 := rfl
theorem q39 : (39 : Int32) = nI 39 := rfl
theorem q40 : (40 : Int32) = nI 40 := rfl
theorem q41 : (41 : Int32) = nI 41 := rfl
theorem q42 : (42 : Int32) = nI 42 := rfl
theorem q43 : (43 : Int32) = nI 43 := rfl
theorem q44 : (44 : Int32) = nI 44 := rfl
theorem q45 : (45 : Int32) = nI 45 := rfl
theorem q46 : (46 : Int32) = nI 46 := rfl
theorem q47 : (47 : Int32) = nI 47 := rfl
theorem q48 : (48 : Int32) = nI 48 := rfl
theorem q49 : (49 : Int32) = nI 49 := rfl
theorem q50 : (50 : Int32) = nI 50 := rfl
theorem q51 : (51 : Int32) = nI 51 := rfl
theorem q52 : (52 : Int32) = nI 52 := rfl
theorem q53 : (53 : Int32) = nI 53 := rfl
theorem q54 : (54 : Int32) = nI 54 := rfl
theorem q55 : (55 : Int32) = nI 55 := rfl
theorem q56 : (56 : Int32) = nI 56 := rfl
theorem q57 : (57 : Int32) = nI 57 := rfl
theorem q58 : (58 : Int32) = nI 58 := rfl
theorem q59 : (59 : Int32) = nI 59 := rfl
theorem q60 : (60 : Int32) = nI 60 := rfl
theorem q61 : (61 : Int32) = nI 61 := rfl
theorem q62 : (62 : Int32) = nI 62 := rfl
theorem q63 : (63 : Int32) = nI 63 := rfl
theorem q64 : (64 : Int32) = nI 64 := rfl
theorem q65 : (65 : Int32) = nI 65 := rfl
theorem q66 : (66 : Int32) = nI 66 := rfl
theorem q67 : (67 : Int32) = nI 67 := rfl
theorem q68 : (68 : Int32) = nI 68 := rfl
theorem q69 : (69 : Int32) = nI 69 := rfl
theorem q70 : (70 : Int32) = nI 70 := rfl
theorem q71 : (71 : Int32) = nI 71 := rfl
theorem q72 : (72 : Int32) = nI 72 := rfl
theorem q73 : (73 : Int32) = nI 73 := rfl
theorem q74 : (74 : Int32) = nI 74 := rfl
theorem q75 : (75 : Int32) = nI 75 := rfl
theorem q76 : (76 : Int32) = nI 76 := rfl
theorem q77 : (77 : Int32) = nI 77 := rfl
theorem q78 : (78 : Int32) = nI 78 := rfl
theorem q79 : (79 : Int32) = nI 79 := rfl
theorem q80 : (80 : Int32) = nI 80 := rfl
theorem q81 : (81 : Int32) = nI 81 := rfl
theorem q82 : (82 : Int32) = nI 82 := rfl
theorem q83 : (83 : Int32) = nI 83 := rfl
theorem q84 : (84 : Int32) = nI 84 := rfl
theorem q85 : (85 : Int32) = nI 85 := rfl
theorem q86 : (86 : Int32) = nI 86 := rfl
theorem q87 : (87 : Int32) = nI 87 := rfl
theorem q88 : (88 : Int32) = nI 88 := rfl
theorem q89 : (89 : Int32) = nI 89 := rfl
theorem q90 : (90 : Int32) = nI 90 := rfl
theorem q91 : (91 : Int32) = nI 91 := rfl
theorem q92 : (92 : Int32) = nI 92 := rfl
theorem q93 : (93 : Int32) = nI 93 := rfl
theorem q94 : (94 : Int32) = nI 94 := rfl
theorem q95 : (95 : Int32) = nI 95 := rfl
theorem q96 : (96 : Int32) = nI 96 := rfl
theorem q97 : (97 : Int32) = nI 97 := rfl
theorem q98 : (98 : Int32) = nI 98 := rfl
theorem q99 : (99 : Int32) = nI 99 := rfl
theorem q100 : (100 : Int32) = nI 100 := rfl
theorem q101 : (101 : Int32) = nI 101 := rfl
theorem q102 : (102 : Int32) = nI 102 := rfl
theorem q103 : (103 : Int32) = nI 103 := rfl
theorem q104 : (104 : Int32) = nI 104 := rfl
theorem q105 : (105 : Int32) = nI 105 := rfl
theorem q106 : (106 : Int32) = nI 106 := rfl
theorem q107 : (107 : Int32) = nI 107 := rfl
theorem q108 : (108 : Int32) = nI 108 := rfl
theorem q109 : (109 : Int32) = nI 109 := rfl
theorem q110 : (110 : Int32) = nI 110 := rfl
theorem q111 : (111 : Int32) = nI 111 := rfl
theorem q112 : (112 : Int32) = nI 112 := rfl
theorem q113 : (113 : Int32) = nI 113 := rfl
theorem q114 : (114 : Int32) = nI 114 := rfl
theorem q115 : (115 : Int32) = nI 115 := rfl
theorem q116 : (116 : Int32) = nI 116 := rfl
theorem q117 : (117 : Int32) = nI 117 := rfl
theorem q118 : (118 : Int32) = nI 118 := rfl
theorem q119 : (119 : Int32) = nI 119 := rfl
theorem q120 : (120 : Int32) = nI 120 := rfl
theorem q121 : (121 : Int32) = nI 121 := rfl
theorem q122 : (122 : Int32) = nI 122 := rfl
theorem q123 : (123 : Int32) = nI 123 := rfl
theorem q124 : (124 : Int32) = nI 124 := rfl
theorem q125 : (125 : Int32) = nI 125 := rfl
theorem q126 : (126 : Int32) = nI 126 := rfl
theorem q127 : (127 : Int32) = nI 127 := rfl
theorem q128 : (128 : Int32) = nI 128 := rfl
theorem q129 : (129 : Int32) = nI 129 := rfl
theorem q130 : (130 : Int32) = nI 130 := rfl
theorem q240 : (240 : Int32) = nI 240 := rfl
theorem q255 : (255 : Int32) = nI 255 := rfl
theorem q256 : (256 : Int32) = nI 256 := rfl
theorem q296 : (296 : Int32) = nI 296 := rfl
theorem q400 : (400 : Int32) = nI 400 := rfl
theorem q600 : (600 : Int32) = nI 600 := rfl
theorem q896 : (896 : Int32) = nI 896 := rfl
theorem q960 : (960 : Int32) = nI 960 := rfl
theorem q999 : (999 : Int32) = nI 999 := rfl
theorem q1000 : (1000 : Int32) = nI 1000 := rfl
theorem q11544 : (11544 : Int32) = nI 11544 := rfl
theorem q11840 : (11840 : Int32) = nI 11840 := rfl
theorem q1000000 : (1000000 : Int32) = nI 1000000 := rfl
theorem q1000000000 : (1000000000 : Int32) = nI 1000000000 := rfl
/-! bits -/
theorem mz_and (a b : Nat) : nI a &&& nI b = nI (a &&& b) := by
  apply Int32.toBitVec_inj.1
  show BitVec.ofNat 32 a &&& BitVec.ofNat 32 b = BitVec.ofNat 32 (a &&& b)
  apply BitVec.eq_of_getLsbD_eq
  intro i hi
  simp [hi]
theorem mz_or (a b : Nat) : nI a ||| nI b = nI (a ||| b) := by
  apply Int32.toBitVec_inj.1
  show BitVec.ofNat 32 a ||| BitVec.ofNat 32 b = BitVec.ofNat 32 (a ||| b)
  apply BitVec.eq_of_getLsbD_eq
  intro i hi
  simp [hi]
theorem mz_sl : ∀ n, n < 32 → ((nI n &&& 31).toBitVec.smod 32).toNat = n := by decide +kernel
theorem mz_1l : ∀ n, n < 31 → (1 : Int32) <<< (nI n &&& 31) = nI (2 ^ n) := by decide +kernel
theorem mz_shr {a k : Nat} (ha : a < 2 ^ 31) (hk : k < 31) : nI a >>> (nI k &&& 31) = nI (a / 2 ^ k) := by
  apply Int32.toInt_inj.mp
  have h1 : a / 2 ^ k ≤ a := Nat.div_le_self _ _
  rw [pk_shr _ _ k (mz_sl k (by omega)), nI_toInt ha, nI_toInt (by omega), Int.shiftRight_eq_div_pow]
  exact (Int.natCast_ediv a (2 ^ k)).symm
/-- bit k of a set is there -/
theorem mz_bit {a k : Nat} (ha : a < 2 ^ 31) (hk : k < 31) : (nI a >>> (nI k &&& 31)) &&& (1 : Int32) = nI (a / 2 ^ k % 2) := by
  rw [mz_shr ha hk, q1, mz_and, Nat.and_one_is_mod]
