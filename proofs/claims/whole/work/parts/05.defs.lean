/-! the decompiled functions alone (cut out of the machine parts by wip/tools/defs_only.py): for work on the mathematics -/
def u2 {α : Type} (f : Nat → Nat → α) (p k : Nat) (v : α) : Nat → Nat → α := fun q j => if q = p then (if j = k then v else f q j) else f q j
def aTab (j : Nat) : List Int32 := match j with
  | 1 => [60, 99, 9, 9, 9, 9, 9, 9, 9, 1, 9, 1, 9, 9]
  | 2 => [1, 0, 0, 0, 1, 0, 0, 0, 0, 0, 0, 0, 0, 0]
  | _ => [11, 20, 2, 3, 2, 0, 3, 0, 0, 0, 1, 0, 1, 1]
def aStr : List (List Int32) := [[110, 111, 32, 115, 117, 99, 104, 32, 115, 108, 101, 101, 112, 101, 114, 44, 32, 111, 114, 32, 110, 111, 116, 104, 105, 110, 103, 32, 108, 105, 107, 101, 32, 116, 104, 97, 116, 32, 111, 102, 32, 111, 110, 101], [97, 103, 99, 101, 116, 108, 110, 115, 102, 99, 119, 102, 116, 107], [110, 119, 116, 99, 111, 115], [109, 121, 119, 108, 120, 98], [97, 103, 99, 101], [121], [116, 108, 110, 115, 102, 99], [119, 102, 116, 107]]
def aLen : List Nat := aStr.map List.length
def aIn (x : Int32) (n : Nat) : Bool := decide (0 ≤ x) && decide (x.toNatClampNeg < n)
def cp2 (iv : Nat → Nat → Int32) (f : Nat → Int32) (sp q dp n : Nat) : Nat → Nat → Int32 := fun z => if z = q then va_cpy f (iv q) sp dp n else iv z
def plc (r : Option Nat) : Nat := r.getD 0 - 100
def bLen (a : Nat) : Nat := if a = 51 then 240 else 960
def fuel : Nat := 30000
def lt {α β : Type} (e : α) (k : α → Option β) : Option β := k e
def bn1 {α β : Type} (x : Option α) (k : α → Option β) : Option β := match x with
  | none => none
  | some a => k a
def bn2 {α α2 β : Type} (x : Option (α × α2)) (k : α → α2 → Option β) : Option β := match x with
  | none => none
  | some (a, b) => k a b
def bn3 {α α2 α3 β : Type} (x : Option (α × α2 × α3)) (k : α → α2 → α3 → Option β) : Option β := match x with
  | none => none
  | some (a, b, c) => k a b c
def mO {β : Type} (v : Option Nat) (a : Option β) (b : Nat → Option β) : Option β := match v with
  | none => a
  | some r => b r
def aCh (j : Nat) (x : Int32) : Int32 := (((aStr.getD j []).getD x.toNatClampNeg 0 &&& 255).toUInt32 % 65536).toInt32
def fJ0_charAt_5068e (j : Nat) (x : Int32) : Option Int32 := if aIn x (aLen.getD j 0) = true then some (aCh j x) else none
def fX10_signsIn_22 (kh5 : Int32 → Int32 → Int32 → Option ((Int32))) (x0 : Int32) (x1 : Int32) (x2 : Int32) : Option ((Int32)) := kh5 x0 x1 (x2 + (-8))
def fX10_signsIn_5 : Nat → Int32 → Int32 → Int32 → Option ((Int32))
  | 0, _, _, _ => none
  | n + 1, x0, x1, x2 => if x2 < 0 then (some (x1)) else (if (((x0).toUInt32 >>> ((x2 : Int32).toUInt32 &&& Int32.toUInt32 31)).toInt32 &&& (255 : Int32)) = 0 then (fX10_signsIn_22 (fX10_signsIn_5 n) x0 x1 x2) else (fX10_signsIn_22 (fX10_signsIn_5 n) x0 (x1 + 1) x2))
def fX10_signsIn (a0 : Int32) : Option ((Int32)) := fX10_signsIn_5 fuel a0 0 24
def fX10_size (i : Nat → Nat → Int32) : Option ((Int32)) := some ((i 1 1))
def fX10_add_49 (kh3 : Int32 → Int32 → (Nat → Nat → Int32) → Option ((Nat → Nat → Int32))) (x1 : Int32) (x2 : Int32) (i : Nat → Nat → Int32) : Option ((Nat → Nat → Int32)) := kh3 x1 (x2 + (-8)) i
def fX10_add_3 : Nat → Int32 → Int32 → (Nat → Nat → Int32) → Option ((Nat → Nat → Int32))
  | 0, _, _, _ => none
  | n + 1, x1, x2, i => if x2 < 0 then (some (i)) else (lt (((x1).toUInt32 >>> ((x2 : Int32).toUInt32 &&& Int32.toUInt32 31)).toInt32 &&& (255 : Int32)) fun t1 =>
    if t1 = 0 then (fX10_add_49 (fX10_add_3 n) x1 x2 i) else (if 240 ≤ (i 1 1) then (fX10_add_49 (fX10_add_3 n) x1 x2 i) else (if aIn (i 1 1) 240 = true then
    (lt (u2 i 2 ((i 1 1) : Int32).toNatClampNeg t1) fun i2 => lt (u2 i2 1 1 ((i2 1 1) + (1 : Int32))) fun i3 =>
    fX10_add_49 (fX10_add_3 n) x1 x2 i3) else none)))
def fX10_add (a1 : Int32) (i : Nat → Nat → Int32) : Option ((Nat → Nat → Int32)) := fX10_add_3 fuel a1 24 i
def fX11_feed (a1 : Int32) (a2 : Int32) (a3 : Int32) (a4 : Int32) (a5 : Int32) (i : Nat → Nat → Int32) : Option ((Int32) × (Nat → Nat → Int32)) := bn1 (fX10_signsIn a1) fun v1 =>
    bn1 (fX10_signsIn a2) fun v3 =>
    bn1 (fX10_signsIn a3) fun v5 =>
    bn1 (fX10_signsIn a4) fun v7 =>
    bn1 (fX10_signsIn a5) fun v9 =>
    lt ((((v1 + v3) + v5) + v7) + v9) fun t11 =>
    bn1 (fX10_size i) fun v12 =>
    if (v12 + t11) ≤ 240 then (bn1 (fX10_add a1 i) fun i14 =>
    bn1 (fX10_add a2 i14) fun i16 =>
    bn1 (fX10_add a3 i16) fun i18 =>
    bn1 (fX10_add a4 i18) fun i20 =>
    bn1 (fX10_add a5 i20) fun i22 =>
    bn1 (fX10_size i22) fun v24 =>
    some (v24, i22)) else (some ((-1), i))
def fX10_cut (a1 : Int32) (i : Nat → Nat → Int32) : Option ((Nat → Nat → Int32)) := lt (u2 i 1 1 a1) fun i1 =>
    some (i1)
def fX11_end (a1 : Int32) (i : Nat → Nat → Int32) : Option ((Int32) × (Nat → Nat → Int32)) := if a1 < 0 then (some (0, i)) else (bn1 (fX10_size i) fun v1 =>
    if a1 ≤ v1 then (bn1 (fX10_cut a1 i) fun i3 =>
    some (1, i3)) else (some (0, i)))
def fX10_rewind (i : Nat → Nat → Int32) : Option ((Nat → Nat → Int32)) := lt (u2 i 1 2 0) fun i1 =>
    some (i1)
def fX10_ahead_38 (i : Nat → Nat → Int32) : Option ((Int32) × (Nat → Nat → Int32)) := if (i 1 1) ≤ (i 1 2) then (some ((-1), i)) else (if aIn (i 1 2) 240 = true then
    (some ((i 2 ((i 1 2) : Int32).toNatClampNeg), i)) else none)
def fX10_ahead_0 : Nat → (Nat → Nat → Int32) → Option ((Int32) × (Nat → Nat → Int32))
  | 0, _ => none
  | n + 1, i => if (i 1 1) ≤ (i 1 2) then (fX10_ahead_38 i) else (if aIn (i 1 2) 240 = true then
    (if (i 2 ((i 1 2) : Int32).toNatClampNeg) = 32 then (lt (u2 i 1 2 ((i 1 2) + (1 : Int32))) fun i1 =>
    fX10_ahead_0 n i1) else (fX10_ahead_38 i)) else none)
def fX10_ahead (i : Nat → Nat → Int32) : Option ((Int32) × (Nat → Nat → Int32)) := fX10_ahead_0 fuel i
def fX10_pass (i : Nat → Nat → Int32) : Option ((Nat → Nat → Int32)) := if (i 1 1) ≤ (i 1 2) then (some (i)) else (lt (u2 i 1 2 ((i 1 2) + (1 : Int32))) fun i1 =>
    some (i1))
def fJ0_isLatin1_aae02 (j0 : Nat) : Option ((Int32)) := if (1 : Int32) = 0 then (some (0)) else (if (0 : Int32) = 0 then (some (1)) else (some (0)))
def fX1_itemOf_2 : Nat → Int32 → Int32 → Int32 → Int32 → Option ((Int32))
  | 0, _, _, _, _ => none
  | n + 1, x0, x1, x2, x3 => if x2 ≤ x3 then (some ((-1))) else (bn1 (fJ0_charAt_5068e 1 (x1 + x3)) fun v1 =>
    if v1 = x0 then (some (x3)) else (fX1_itemOf_2 n x0 x1 x2 (x3 + 1)))
def fX1_itemOf (a0 : Int32) (a1 : Int32) (a2 : Int32) : Option ((Int32)) := fX1_itemOf_2 fuel a0 a1 a2 0
def fX10_atDigit (i : Nat → Nat → Int32) : Option ((Int32)) := if (i 1 1) ≤ (i 1 2) then (some (0)) else (if aIn (i 1 2) 240 = true then
    (if (i 2 ((i 1 2) : Int32).toNatClampNeg) < 48 then (some (0)) else (if aIn (i 1 2) 240 = true then
    (if 57 < (i 2 ((i 1 2) : Int32).toNatClampNeg) then (some (0)) else (some (1))) else none)) else none)
def fX10_number_66 (x2 : Int32) (i : Nat → Nat → Int32) : Option ((Int32) × (Nat → Nat → Int32)) := bn1 (fX10_atDigit i) fun v10 =>
    if v10 = 0 then (some (x2, i)) else (some ((-1), i))
def fX10_number_20 : Nat → Int32 → Int32 → Int32 → (Nat → Nat → Int32) → Option ((Int32) × (Nat → Nat → Int32))
  | 0, _, _, _, _ => none
  | n + 1, x1, x2, x3, i => if x1 ≤ x3 then (fX10_number_66 x2 i) else (bn1 (fX10_atDigit i) fun v6 =>
    if v6 = 0 then (fX10_number_66 x2 i) else (if aIn (i 1 2) 240 = true then
    (lt ((((10 : Int32) * x2) + (i 2 ((i 1 2) : Int32).toNatClampNeg)) - (48 : Int32)) fun t8 =>
    lt (u2 i 1 2 ((i 1 2) + (1 : Int32))) fun i9 =>
    fX10_number_20 n x1 t8 (x3 + 1) i9) else none))
def fX10_number_17 (x1 : Int32) (s0 : Int32) (i : Nat → Nat → Int32) : Option ((Int32) × (Nat → Nat → Int32)) := fX10_number_20 fuel x1 s0 0 i
def fX10_number (a1 : Int32) (i : Nat → Nat → Int32) : Option ((Int32) × (Nat → Nat → Int32)) := bn2 (fX10_ahead i) fun v1 i2 =>
    bn1 (fX10_atDigit i2) fun v4 =>
    if v4 = 0 then (fX10_number_17 a1 (-1) i2) else (fX10_number_17 a1 0 i2)
def fX10_stayAtLastDigit (i : Nat → Nat → Int32) : Option ((Nat → Nat → Int32)) := if (i 1 2) ≤ 0 then (some (i)) else (lt (u2 i 1 2 ((i 1 2) - (1 : Int32))) fun i1 =>
    some (i1))
def fX1_readItems_111 (w1 : Nat) (n1 : Nat) (i : Nat → Nat → Int32) : Option ((Int32) × (Nat → Nat → Int32)) := bn1 (fX10_stayAtLastDigit i) fun i14 =>
    some (0, i14)
def fX1_readItems_17 (w1 : Nat) (n1 : Nat) : Nat → Int32 → Int32 → Int32 → Int32 → Int32 → (Nat → Nat → Int32) → Option ((Int32) × (Nat → Nat → Int32))
  | 0, _, _, _, _, _, _ => none
  | n + 1, x2, x3, x4, x5, x6, i => if x4 < x6 then (some (0, i)) else (bn2 (fX10_ahead i) fun v2 i3 =>
    bn1 (fX1_itemOf v2 x3 x4) fun v5 =>
    if v5 = (-1) then (some (1, i3)) else (if ((x5 >>> (v5 &&& 31)) &&& (1 : Int32)) = 1 then (some (0, i3)) else (lt (x5 ||| ((1 : Int32) <<< (v5 &&& 31))) fun t7 =>
    bn1 (fX10_pass i3) fun i8 =>
    bn2 (fX10_number 2 i8) fun v10 i11 =>
    if v10 = (-1) then (some (0, i11)) else (if aIn (x3 + v5) 14 = true then
    (if v10 < ((aTab 2).getD ((x3 + v5) : Int32).toNatClampNeg 0) then (fX1_readItems_111 w1 n1 i11) else (if aIn (x3 + v5) 14 = true then
    (if v10 ≤ ((aTab 1).getD ((x3 + v5) : Int32).toNatClampNeg 0) then (if aIn (x2 + v5) n1 = true then
    (lt (u2 i11 w1 ((x2 + v5) : Int32).toNatClampNeg v10) fun i13 => fX1_readItems_17 w1 n1 n x2 x3 x4 t7 (x6 + 1) i13) else none) else (fX1_readItems_111 w1 n1 i11)) else none)) else none))))
def fX1_readItems (w1 : Nat) (n1 : Nat) (a2 : Int32) (a3 : Int32) (a4 : Int32) (i : Nat → Nat → Int32) : Option ((Int32) × (Nat → Nat → Int32)) := if ¬ (a3 : Int32) < 0 ∧ ¬ (a2 : Int32) < 0 ∧ ¬ (a4 : Int32) < 0 ∧ (a3 : Int32).toNatClampNeg + (a4 : Int32).toNatClampNeg ≤ 14 ∧ (a2 : Int32).toNatClampNeg + (a4 : Int32).toNatClampNeg ≤ n1 then
    (lt (cp2 i (fun k => (aTab 3).getD k 0) (a3 : Int32).toNatClampNeg w1 (a2 : Int32).toNatClampNeg (a4 : Int32).toNatClampNeg) fun i1 => fX1_readItems_17 w1 n1 fuel a2 a3 a4 0 0 i1) else none
def fX1_readClause_76 (p0 : Nat) (x2 : Int32) (i : Nat → Nat → Int32) : Option ((Int32) × (Nat → Nat → Int32)) := if x2 = 111 then (if 4 ≤ (i p0 4) then (some (0, i)) else (bn1 (fX10_pass i) fun i12 =>
    lt (u2 i12 p0 4 ((i12 p0 4) + (1 : Int32))) fun i14 =>
    bn2 (fX1_readItems (p0 + 3) 16 (((i14 p0 4) - (1 : Int32)) * (4 : Int32)) 10 4 i14) fun v15 i16 =>
    if narrow .boolean (.int v15) = .int v15 then
    some (v15, i16) else none)) else (some (0, i))
def fX1_readClause_26 (p0 : Nat) (x2 : Int32) (i : Nat → Nat → Int32) : Option ((Int32) × (Nat → Nat → Int32)) := if x2 = 112 then (if 9 ≤ (i p0 3) then (fX1_readClause_76 p0 x2 i) else (bn1 (fX10_pass i) fun i6 =>
    lt (u2 i6 p0 3 ((i6 p0 3) + (1 : Int32))) fun i8 =>
    bn2 (fX1_readItems (p0 + 2) 54 (((i8 p0 3) - (1 : Int32)) * (6 : Int32)) 4 6 i8) fun v9 i10 =>
    if narrow .boolean (.int v9) = .int v9 then
    some (v9, i10) else none)) else (fX1_readClause_76 p0 x2 i)
def fX1_readClause (p0 : Nat) (a2 : Int32) (a3 : Int32) (i : Nat → Nat → Int32) : Option ((Int32) × (Nat → Nat → Int32)) := if a2 = 115 then (if a3 = 0 then (bn1 (fX10_pass i) fun i1 =>
    bn2 (fX1_readItems (p0 + 1) 4 0 0 4 i1) fun v3 i4 =>
    if narrow .boolean (.int v3) = .int v3 then
    some (v3, i4) else none) else (fX1_readClause_26 p0 a2 i)) else (fX1_readClause_26 p0 a2 i)
def fX1_hasSleeper (p0 : Nat) (a1 : Int32) (i : Nat → Nat → Int32) : Option ((Int32)) := if a1 < 0 then (some (0)) else (if (i p0 3) ≤ a1 then (some (0)) else (some (1)))
def fX1_ofSleeper (p0 : Nat) (a1 : Int32) (a2 : Int32) (i : Nat → Nat → Int32) : Option ((Int32)) := if aIn ((a1 * (6 : Int32)) + a2) 54 = true then
    (some ((i (p0 + 2) (((a1 * (6 : Int32)) + a2) : Int32).toNatClampNeg))) else none
def fX1_hasPaper (p0 : Nat) (a1 : Int32) (i : Nat → Nat → Int32) : Option ((Int32)) := bn1 (fX1_hasSleeper p0 a1 i) fun v1 =>
    if v1 = 0 then (some (0)) else (bn1 (fX1_ofSleeper p0 a1 5 i) fun v3 =>
    if v3 = 0 then (some (1)) else (some (0)))
def fX1_countPapers_23 (p0 : Nat) (kh4 : Int32 → Int32 → (Nat → Nat → Int32) → Option ((Int32))) (x1 : Int32) (x2 : Int32) (i : Nat → Nat → Int32) : Option ((Int32)) := kh4 x1 (x2 + 1) i
def fX1_countPapers_4 (p0 : Nat) : Nat → Int32 → Int32 → (Nat → Nat → Int32) → Option ((Int32))
  | 0, _, _, _ => none
  | n + 1, x1, x2, i => if (i p0 3) ≤ x2 then (some (x1)) else (bn1 (fX1_hasPaper p0 x2 i) fun v1 =>
    if v1 = 0 then (fX1_countPapers_23 p0 (fX1_countPapers_4 p0 n) x1 x2 i) else (fX1_countPapers_23 p0 (fX1_countPapers_4 p0 n) (x1 + 1) x2 i))
def fX1_countPapers (p0 : Nat) (i : Nat → Nat → Int32) : Option ((Int32)) := fX1_countPapers_4 p0 fuel 0 0 i
def fX10_takes (a1 : Int32) (i : Nat → Nat → Int32) : Option ((Int32) × (Nat → Nat → Int32)) := bn2 (fX10_ahead i) fun v1 i2 =>
    if v1 = a1 then (bn1 (fX10_pass i2) fun i4 =>
    some (1, i4)) else (some (0, i2))
def fX1_read_73 (p0 : Nat) (kh31 : Int32 → Int32 → (Nat → Nat → Int32) → Option ((Int32) × (Nat → Nat → Int32))) (x3 : Int32) (s0 : Int32) (i : Nat → Nat → Int32) : Option ((Int32) × (Nat → Nat → Int32)) := bn2 (fX10_ahead i) fun v12 i13 =>
    if v12 = (-1) then (bn1 (fX1_countPapers p0 i13) fun v18 =>
    lt (u2 i13 p0 5 v18) fun i20 =>
    if (i20 p0 5) ≤ 0 then (some (0, i20)) else (if (i20 p0 4) ≤ 0 then (some (0, i20)) else (some (1, i20)))) else (bn2 (fX10_takes 59 i13) fun v15 i16 =>
    if v15 = 0 then (some (0, i16)) else (kh31 s0 (x3 + 1) i16))
def fX1_read_68 (p0 : Nat) (kh31 : Int32 → Int32 → (Nat → Nat → Int32) → Option ((Int32) × (Nat → Nat → Int32))) (x3 : Int32) (i : Nat → Nat → Int32) : Option ((Int32) × (Nat → Nat → Int32)) := fX1_read_73 p0 kh31 x3 1 i
def fX1_read_31 (p0 : Nat) : Nat → Int32 → Int32 → (Nat → Nat → Int32) → Option ((Int32) × (Nat → Nat → Int32))
  | 0, _, _, _ => none
  | n + 1, x2, x3, i => if 240 < x3 then (some (0, i)) else (bn2 (fX10_ahead i) fun v6 i7 =>
    bn2 (fX1_readClause p0 v6 x2 i7) fun v9 i10 =>
    if v9 = 0 then (some (0, i10)) else (if x2 = 0 then (if v6 = 115 then (fX1_read_68 p0 (fX1_read_31 p0 n) x3 i10) else (fX1_read_73 p0 (fX1_read_31 p0 n) x3 0 i10)) else (fX1_read_68 p0 (fX1_read_31 p0 n) x3 i10)))
def fX1_read (p0 : Nat) (i : Nat → Nat → Int32) : Option ((Int32) × (Nat → Nat → Int32)) := if ¬ (0 : Int32) < 0 ∧ ¬ (0 : Int32) < 0 ∧ ¬ (4 : Int32) < 0 ∧ (0 : Int32).toNatClampNeg + (4 : Int32).toNatClampNeg ≤ 14 ∧ (0 : Int32).toNatClampNeg + (4 : Int32).toNatClampNeg ≤ 4 then
    (lt (cp2 i (fun k => (aTab 3).getD k 0) (0 : Int32).toNatClampNeg (p0 + 1) (0 : Int32).toNatClampNeg (4 : Int32).toNatClampNeg) fun i1 => lt (u2 i1 p0 3 0) fun i2 =>
    lt (u2 i2 p0 4 0) fun i3 =>
    bn1 (fX10_rewind i3) fun i4 =>
    fX1_read_31 p0 fuel 0 0 i4) else none
def fX9_lawDraft (rv : Nat → Nat → Option Nat) : Option ((Option Nat)) := some ((some (100 + (plc (rv 3 2)))))
def fX4_letterOf_2 : Nat → Int32 → Int32 → Option ((Int32))
  | 0, _, _ => none
  | n + 1, x0, x1 => if 6 ≤ x1 then (some ((-1))) else (bn1 (fJ0_charAt_5068e 2 x1) fun v1 =>
    if v1 = x0 then (some (x1)) else (fX4_letterOf_2 n x0 (x1 + 1)))
def fX4_letterOf (a0 : Int32) : Option ((Int32)) := fX4_letterOf_2 fuel a0 0
def fX4_emit (p0 : Nat) (a1 : Int32) (i : Nat → Nat → Int32) : Option ((Nat → Nat → Int32)) := if (nI 240) ≤ (i p0 2) then (some (i)) else (if aIn (i p0 2) 240 = true then
    (lt (u2 i (p0 + 1) ((i p0 2) : Int32).toNatClampNeg a1) fun i1 => lt (u2 i1 p0 2 ((i1 p0 2) + (1 : Int32))) fun i2 =>
    some (i2)) else none)
def fX4_readAtom (gs : Nat → Int32 → (Nat → Nat → Int32) → Option ((Int32) × (Nat → Nat → Int32))) (p0 : Nat) (a2 : Int32) (i : Nat → Nat → Int32) : Option ((Int32) × (Nat → Nat → Int32)) := bn2 (fX10_ahead i) fun v1 i2 =>
    if v1 = 91 then (if a2 < 6 then (bn1 (fX10_pass i2) fun i15 =>
    bn2 (gs p0 (a2 + (1 : Int32)) i15) fun v17 i18 =>
    if v17 = 0 then (some (0, i18)) else (bn2 (fX10_takes 93 i18) fun v20 i21 =>
    if v20 = 0 then (some (0, i21)) else (some (1, i21)))) else (some (0, i2))) else (bn1 (fX4_letterOf v1) fun v4 =>
    if v4 = (-1) then (bn2 (fX10_number 4 i2) fun v6 i7 =>
    if v6 = (-1) then (some (0, i7)) else (bn1 (fX4_emit p0 v6 i7) fun i9 =>
    some (1, i9))) else (bn1 (fX10_pass i2) fun i11 =>
    bn1 (fX4_emit p0 (((-1) : Int32) - v4) i11) fun i13 =>
    some (1, i13)))
def fX4_readTerm_44 (gs : Nat → Int32 → (Nat → Nat → Int32) → Option ((Int32) × (Nat → Nat → Int32))) (p0 : Nat) (kh10 : Int32 → Int32 → Int32 → (Nat → Nat → Int32) → Option ((Int32) × (Nat → Nat → Int32))) (x2 : Int32) (x4 : Int32) (x5 : Int32) (i : Nat → Nat → Int32) : Option ((Int32) × (Nat → Nat → Int32)) := bn1 (fX10_pass i) fun i7 =>
    bn2 (fX4_readAtom gs p0 x2 i7) fun v9 i10 =>
    bn1 (fX4_emit p0 (-x5) i10) fun i12 =>
    kh10 x2 v9 (x4 + 1) i12
def fX4_readTerm_10 (gs : Nat → Int32 → (Nat → Nat → Int32) → Option ((Int32) × (Nat → Nat → Int32))) (p0 : Nat) : Nat → Int32 → Int32 → Int32 → (Nat → Nat → Int32) → Option ((Int32) × (Nat → Nat → Int32))
  | 0, _, _, _, _ => none
  | n + 1, x2, x3, x4, i => if 240 < x4 then (if narrow .boolean (.int x3) = .int x3 then
    some (x3, i) else none) else (if x3 = 0 then (if narrow .boolean (.int x3) = .int x3 then
    some (x3, i) else none) else (bn2 (fX10_ahead i) fun v4 i5 =>
    if v4 = 42 then (fX4_readTerm_44 gs p0 (fX4_readTerm_10 gs p0 n) x2 x4 v4 i5) else (if v4 = 47 then (fX4_readTerm_44 gs p0 (fX4_readTerm_10 gs p0 n) x2 x4 v4 i5) else (some (1, i5)))))
def fX4_readTerm (gs : Nat → Int32 → (Nat → Nat → Int32) → Option ((Int32) × (Nat → Nat → Int32))) (p0 : Nat) (a2 : Int32) (i : Nat → Nat → Int32) : Option ((Int32) × (Nat → Nat → Int32)) := bn2 (fX4_readAtom gs p0 a2 i) fun v1 i2 =>
    fX4_readTerm_10 gs p0 fuel a2 v1 0 i2
def fX4_readSum_44 (gs : Nat → Int32 → (Nat → Nat → Int32) → Option ((Int32) × (Nat → Nat → Int32))) (p0 : Nat) (kh10 : Int32 → Int32 → Int32 → (Nat → Nat → Int32) → Option ((Int32) × (Nat → Nat → Int32))) (x2 : Int32) (x4 : Int32) (x5 : Int32) (i : Nat → Nat → Int32) : Option ((Int32) × (Nat → Nat → Int32)) := bn1 (fX10_pass i) fun i7 =>
    bn2 (fX4_readTerm gs p0 x2 i7) fun v9 i10 =>
    bn1 (fX4_emit p0 (-x5) i10) fun i12 =>
    kh10 x2 v9 (x4 + 1) i12
def fX4_readSum_10 (gs : Nat → Int32 → (Nat → Nat → Int32) → Option ((Int32) × (Nat → Nat → Int32))) (p0 : Nat) : Nat → Int32 → Int32 → Int32 → (Nat → Nat → Int32) → Option ((Int32) × (Nat → Nat → Int32))
  | 0, _, _, _, _ => none
  | n + 1, x2, x3, x4, i => if 240 < x4 then (if narrow .boolean (.int x3) = .int x3 then
    some (x3, i) else none) else (if x3 = 0 then (if narrow .boolean (.int x3) = .int x3 then
    some (x3, i) else none) else (bn2 (fX10_ahead i) fun v4 i5 =>
    if v4 = 43 then (fX4_readSum_44 gs p0 (fX4_readSum_10 gs p0 n) x2 x4 v4 i5) else (if v4 = 45 then (fX4_readSum_44 gs p0 (fX4_readSum_10 gs p0 n) x2 x4 v4 i5) else (some (1, i5)))))
def fX4_readSumb (gs : Nat → Int32 → (Nat → Nat → Int32) → Option ((Int32) × (Nat → Nat → Int32))) (p0 : Nat) (a2 : Int32) (i : Nat → Nat → Int32) : Option ((Int32) × (Nat → Nat → Int32)) := bn2 (fX4_readTerm gs p0 a2 i) fun v1 i2 =>
    fX4_readSum_10 gs p0 fuel a2 v1 0 i2
def fX4_readSum : Nat → Nat → Int32 → (Nat → Nat → Int32) → Option ((Int32) × (Nat → Nat → Int32))
  | 0, _, _, _ => none
  | n + 1, p0, a2, i => fX4_readSumb (fX4_readSum n) p0 a2 i
def fX4_isComparison_18 : Option ((Int32)) := some (1)
def fX4_isComparison (a0 : Int32) : Option ((Int32)) := if a0 = 61 then (fX4_isComparison_18 ) else (if a0 = 60 then (fX4_isComparison_18 ) else (if a0 = 62 then (fX4_isComparison_18 ) else (some (0))))
def fX4_readTruth_15 (gs : Nat → Int32 → Int32 → (Nat → Nat → Int32) → Option ((Int32) × (Nat → Nat → Int32))) (p0 : Nat) : Nat → Int32 → Int32 → (Nat → Nat → Int32) → Option ((Int32) × (Nat → Nat → Int32))
  | 0, _, _, _ => none
  | n + 1, x2, x4, i => if 240 < x4 then (some (1, i)) else (bn2 (fX10_takes 38 i) fun v4 i5 =>
    if v4 = 0 then (some (1, i5)) else (bn2 (gs p0 x2 0 i5) fun v7 i8 =>
    if v7 = 0 then (some (0, i8)) else (bn1 (fX4_emit p0 (-38) i8) fun i10 =>
    fX4_readTruth_15 gs p0 n x2 (x4 + 1) i10)))
def fX4_readTruth (gs : Nat → Int32 → Int32 → (Nat → Nat → Int32) → Option ((Int32) × (Nat → Nat → Int32))) (p0 : Nat) (a2 : Int32) (a3 : Int32) (i : Nat → Nat → Int32) : Option ((Int32) × (Nat → Nat → Int32)) := bn2 (gs p0 a2 a3 i) fun v1 i2 =>
    if v1 = 0 then (some (0, i2)) else (fX4_readTruth_15 gs p0 fuel a2 0 i2)
def fX4_readCondition_15 (gs : Nat → Int32 → Int32 → (Nat → Nat → Int32) → Option ((Int32) × (Nat → Nat → Int32))) (p0 : Nat) : Nat → Int32 → Int32 → (Nat → Nat → Int32) → Option ((Int32) × (Nat → Nat → Int32))
  | 0, _, _, _ => none
  | n + 1, x2, x4, i => if 240 < x4 then (some (1, i)) else (bn2 (fX10_takes 124 i) fun v4 i5 =>
    if v4 = 0 then (some (1, i5)) else (bn2 (fX4_readTruth gs p0 x2 0 i5) fun v7 i8 =>
    if v7 = 0 then (some (0, i8)) else (bn1 (fX4_emit p0 (-124) i8) fun i10 =>
    fX4_readCondition_15 gs p0 n x2 (x4 + 1) i10)))
def fX4_readCondition (gs : Nat → Int32 → Int32 → (Nat → Nat → Int32) → Option ((Int32) × (Nat → Nat → Int32))) (p0 : Nat) (a2 : Int32) (a3 : Int32) (i : Nat → Nat → Int32) : Option ((Int32) × (Nat → Nat → Int32)) := bn2 (fX4_readTruth gs p0 a2 a3 i) fun v1 i2 =>
    if v1 = 0 then (some (0, i2)) else (fX4_readCondition_15 gs p0 fuel a2 0 i2)
def fX4_readUnit_24 (gs : Nat → Int32 → Int32 → (Nat → Nat → Int32) → Option ((Int32) × (Nat → Nat → Int32))) (p0 : Nat) (x2 : Int32) (x4 : Int32) (i : Nat → Nat → Int32) : Option ((Int32) × (Nat → Nat → Int32)) := if x2 < 6 then (bn1 (fX10_pass i) fun i7 =>
    if x4 = 40 then (bn2 (fX4_readCondition gs p0 (x2 + (1 : Int32)) 0 i7) fun v14 i15 =>
    if v14 = 0 then (some (0, i15)) else (bn2 (fX10_takes 41 i15) fun v17 i18 =>
    if v17 = 0 then (some (0, i18)) else (some (1, i18)))) else (bn2 (gs p0 (x2 + (1 : Int32)) 0 i7) fun v9 i10 =>
    bn1 (fX4_emit p0 (-33) i10) fun i12 =>
    if narrow .boolean (.int v9) = .int v9 then
    some (v9, i12) else none)) else (some (0, i))
def fX4_readUnit_105 (gs : Nat → Int32 → Int32 → (Nat → Nat → Int32) → Option ((Int32) × (Nat → Nat → Int32))) (p0 : Nat) (x2 : Int32) (i : Nat → Nat → Int32) : Option ((Int32) × (Nat → Nat → Int32)) := bn2 (fX10_ahead i) fun v20 i21 =>
    bn1 (fX4_isComparison v20) fun v23 =>
    if v23 = 0 then (some (0, i21)) else (bn1 (fX10_pass i21) fun i25 =>
    bn2 (fX4_readSum 12 p0 x2 i25) fun v27 i28 =>
    bn1 (fX4_emit p0 (-v20) i28) fun i30 =>
    if narrow .boolean (.int v27) = .int v27 then
    some (v27, i30) else none)
def fX4_readUnit_90 (gs : Nat → Int32 → Int32 → (Nat → Nat → Int32) → Option ((Int32) × (Nat → Nat → Int32))) (p0 : Nat) (x2 : Int32) (x3 : Int32) (i : Nat → Nat → Int32) : Option ((Int32) × (Nat → Nat → Int32)) := if x3 = 0 then (bn2 (fX4_readSum 12 p0 x2 i) fun v4 i5 =>
    if v4 = 0 then (some (0, i5)) else (fX4_readUnit_105 gs p0 x2 i5)) else (fX4_readUnit_105 gs p0 x2 i)
def fX4_readUnitb (gs : Nat → Int32 → Int32 → (Nat → Nat → Int32) → Option ((Int32) × (Nat → Nat → Int32))) (p0 : Nat) (a2 : Int32) (a3 : Int32) (i : Nat → Nat → Int32) : Option ((Int32) × (Nat → Nat → Int32)) := bn2 (fX10_ahead i) fun v1 i2 =>
    if a3 = 0 then (if v1 = 33 then (fX4_readUnit_24 gs p0 a2 v1 i2) else (if v1 = 40 then (fX4_readUnit_24 gs p0 a2 v1 i2) else (fX4_readUnit_90 gs p0 a2 a3 i2))) else (fX4_readUnit_90 gs p0 a2 a3 i2)
def fX4_readUnit : Nat → Nat → Int32 → Int32 → (Nat → Nat → Int32) → Option ((Int32) × (Nat → Nat → Int32))
  | 0, _, _, _, _ => none
  | n + 1, p0, a2, a3, i => fX4_readUnitb (fX4_readUnit n) p0 a2 a3 i
def fX4_readGuarded (p0 : Nat) (i : Nat → Nat → Int32) : Option ((Int32) × (Nat → Nat → Int32)) := bn1 (fX4_emit p0 (-1000) i) fun i1 =>
    bn2 (fX4_readSum 12 p0 0 i1) fun v3 i4 =>
    if v3 = 0 then (some (0, i4)) else (bn1 (fX4_emit p0 (-7) i4) fun i6 =>
    if (nI 240) ≤ (i p0 2) then (some (1, i6)) else (if aIn (i p0 2) 240 = true then
    (lt (u2 i6 (p0 + 1) ((i p0 2) : Int32).toNatClampNeg (((-1000) : Int32) - (i6 p0 2))) fun i8 => some (1, i8)) else none))
def fX4_readClause_77 (p0 : Nat) (x2 : Int32) (i : Nat → Nat → Int32) : Option ((Int32) × (Nat → Nat → Int32)) := bn2 (fX4_readCondition (fX4_readUnit 12) p0 0 x2 i) fun v23 i24 =>
    if v23 = 0 then (some (0, i24)) else (bn2 (fX10_takes 63 i24) fun v26 i27 =>
    if v26 = 0 then (some (0, i27)) else (bn2 (fX4_readGuarded p0 i27) fun v29 i30 =>
    if v29 = 0 then (some (0, i30)) else (some (1, i30))))
def fX4_readClause_43 (p0 : Nat) (s0 : Int32) (i : Nat → Nat → Int32) : Option ((Int32) × (Nat → Nat → Int32)) := if s0 = 0 then (fX4_readClause_77 p0 s0 i) else (bn2 (fX4_readSum 12 p0 0 i) fun v13 i14 =>
    if v13 = 0 then (some (0, i14)) else (bn2 (fX10_ahead i14) fun v16 i17 =>
    bn1 (fX4_isComparison v16) fun v19 =>
    if v19 = 0 then (bn1 (fX4_emit p0 (-7) i17) fun i21 =>
    some (1, i21)) else (fX4_readClause_77 p0 s0 i17)))
def fX4_readClause_42 (p0 : Nat) (i : Nat → Nat → Int32) : Option ((Int32) × (Nat → Nat → Int32)) := fX4_readClause_43 p0 0 i
def fX4_readClause (p0 : Nat) (i : Nat → Nat → Int32) : Option ((Int32) × (Nat → Nat → Int32)) := bn2 (fX10_takes 121 i) fun v1 i2 =>
    if v1 = 0 then (some (0, i2)) else (bn2 (fX10_takes 58 i2) fun v4 i5 =>
    if v4 = 0 then (some (0, i5)) else (bn2 (fX10_ahead i5) fun v7 i8 =>
    if v7 = 33 then (fX4_readClause_42 p0 i8) else (bn2 (fX10_ahead i8) fun v10 i11 =>
    if v10 = 40 then (fX4_readClause_42 p0 i11) else (fX4_readClause_43 p0 1 i11))))
def fX4_read_11 (p0 : Nat) : Nat → Int32 → (Nat → Nat → Int32) → Option ((Int32) × (Nat → Nat → Int32))
  | 0, _, _ => none
  | n + 1, x2, i => if 240 < x2 then (some (0, i)) else (bn2 (fX4_readClause p0 i) fun v4 i5 =>
    if v4 = 0 then (some (0, i5)) else (bn2 (fX10_ahead i5) fun v7 i8 =>
    if v7 = (-1) then (some (1, i8)) else (bn2 (fX10_takes 59 i8) fun v10 i11 =>
    if v10 = 0 then (some (0, i11)) else (fX4_read_11 p0 n (x2 + 1) i11))))
def fX4_read (p0 : Nat) (i : Nat → Nat → Int32) : Option ((Int32) × (Nat → Nat → Int32)) := lt (u2 i p0 2 0) fun i1 =>
    bn1 (fX10_rewind i1) fun i2 =>
    fX4_read_11 p0 fuel 0 i2
def fX9_linesDraft (rv : Nat → Nat → Option Nat) : Option ((Option Nat)) := some ((some (100 + (plc (rv 3 3)))))
def fX5_kindOf_2 : Nat → Int32 → Int32 → Option ((Int32))
  | 0, _, _ => none
  | n + 1, x0, x1 => if 6 ≤ x1 then (some ((-1))) else (bn1 (fJ0_charAt_5068e 3 x1) fun v1 =>
    if v1 = x0 then (some (x1)) else (fX5_kindOf_2 n x0 (x1 + 1)))
def fX5_kindOf (a0 : Int32) : Option ((Int32)) := fX5_kindOf_2 fuel a0 0
def fX10_digit (i : Nat → Nat → Int32) : Option ((Int32) × (Nat → Nat → Int32)) := bn2 (fX10_ahead i) fun v1 i2 =>
    bn1 (fX10_atDigit i2) fun v4 =>
    if v4 = 0 then (some ((-1), i2)) else (if aIn (i2 1 2) 240 = true then
    (lt ((i2 2 ((i2 1 2) : Int32).toNatClampNeg) - (48 : Int32)) fun t6 =>
    lt (u2 i2 1 2 ((i2 1 2) + (1 : Int32))) fun i7 =>
    some (t6, i7)) else none)
def fX5_readStep_100 (p0 : Nat) (x2 : Int32) (x4 : Int32) (i : Nat → Nat → Int32) : Option ((Int32) × (Nat → Nat → Int32)) := if aIn (x2 + (2 : Int32)) 48 = true then
    (lt (u2 i (p0 + 1) ((x2 + (2 : Int32)) : Int32).toNatClampNeg x4) fun i19 => if x4 = (-1) then (some (0, i19)) else (some (1, i19))) else none
def fX5_readStep_77 (p0 : Nat) (x2 : Int32) (x3 : Int32) (i : Nat → Nat → Int32) : Option ((Int32) × (Nat → Nat → Int32)) := bn2 (fX10_digit i) fun v14 i15 =>
    if x3 = 1 then (if v14 ≤ 2 then (fX5_readStep_100 p0 x2 v14 i15) else (bn1 (fX10_stayAtLastDigit i15) fun i17 =>
    some (0, i17))) else (fX5_readStep_100 p0 x2 v14 i15)
def fX5_readStep (p0 : Nat) (a2 : Int32) (i : Nat → Nat → Int32) : Option ((Int32) × (Nat → Nat → Int32)) := bn2 (fX10_ahead i) fun v1 i2 =>
    bn1 (fX5_kindOf v1) fun v4 =>
    if v4 = (-1) then (some (0, i2)) else (bn1 (fX10_pass i2) fun i6 =>
    if aIn a2 48 = true then
    (lt (u2 i6 (p0 + 1) (a2 : Int32).toNatClampNeg v4) fun i8 => bn2 (fX10_digit i8) fun v9 i10 =>
    if aIn (a2 + (1 : Int32)) 48 = true then
    (lt (u2 i10 (p0 + 1) ((a2 + (1 : Int32)) : Int32).toNatClampNeg v9) fun i12 => if aIn (a2 + (2 : Int32)) 48 = true then
    (lt (u2 i12 (p0 + 1) ((a2 + (2 : Int32)) : Int32).toNatClampNeg (-1)) fun i13 => if aIn (a2 + (1 : Int32)) 48 = true then
    (if (i13 (p0 + 1) ((a2 + (1 : Int32)) : Int32).toNatClampNeg) = (-1) then (some (0, i13)) else (if v4 = 0 then (fX5_readStep_77 p0 a2 v4 i13) else (if v4 = 1 then (fX5_readStep_77 p0 a2 v4 i13) else (if v4 = 4 then (fX5_readStep_77 p0 a2 v4 i13) else (some (1, i13)))))) else none) else none) else none) else none)
def fX5_read_9 (p0 : Nat) : Nat → (Nat → Nat → Int32) → Option ((Int32) × (Nat → Nat → Int32))
  | 0, _ => none
  | n + 1, i => if 16 ≤ (i p0 1) then (some (0, i)) else (bn2 (fX5_readStep p0 ((i p0 1) * (3 : Int32)) i) fun v4 i5 =>
    if v4 = 0 then (some (0, i5)) else (lt (u2 i5 p0 1 ((i5 p0 1) + (1 : Int32))) fun i7 =>
    bn2 (fX10_ahead i7) fun v8 i9 =>
    if v8 = (-1) then (some (1, i9)) else (if (i9 p0 1) = 16 then (some (0, i9)) else (bn2 (fX10_takes 59 i9) fun v11 i12 =>
    if v11 = 0 then (some (0, i12)) else (fX5_read_9 p0 n i12)))))
def fX5_read (p0 : Nat) (i : Nat → Nat → Int32) : Option ((Int32) × (Nat → Nat → Int32)) := lt (u2 i p0 1 0) fun i1 =>
    bn1 (fX10_rewind i1) fun i2 =>
    fX5_read_9 p0 fuel i2
def fX11_canRead (a1 : Int32) (i : Nat → Nat → Int32) (rv : Nat → Nat → Option Nat) : Option ((Int32) × (Nat → Nat → Int32)) := if a1 = 0 then (bn2 (fX1_read 11 i) fun v15 i16 =>
    if narrow .boolean (.int v15) = .int v15 then
    some (v15, i16) else none) else (if a1 = 1 then (bn1 (fX9_lawDraft rv) fun v8 =>
    mO v8 (none) fun r10 => (bn2 (fX4_read (r10 - 100) i) fun v12 i13 =>
    if narrow .boolean (.int v12) = .int v12 then
    some (v12, i13) else none)) else (bn1 (fX9_linesDraft rv) fun v1 =>
    mO v1 (none) fun r3 => (bn2 (fX5_read (r3 - 100) i) fun v5 i6 =>
    if narrow .boolean (.int v5) = .int v5 then
    some (v5, i6) else none)))
def fX10_at (i : Nat → Nat → Int32) : Option ((Int32)) := some ((i 1 2))
def fX11_fault (a1 : Int32) (i : Nat → Nat → Int32) (rv : Nat → Nat → Option Nat) : Option ((Int32) × (Nat → Nat → Int32)) := if a1 < 0 then (some ((-2), i)) else (if a1 ≤ 2 then (bn2 (fX11_canRead a1 i rv) fun v1 i2 =>
    if v1 = 0 then (bn1 (fX10_at i2) fun v4 =>
    some (v4, i2)) else (some ((-1), i2))) else (some ((-2), i)))
def fX1_copyFrom (p0 : Nat) (p1 : Nat) (i : Nat → Nat → Int32) : Option ((Nat → Nat → Int32)) := if ¬ (0 : Int32) < 0 ∧ ¬ (0 : Int32) < 0 ∧ ¬ ((nI 4) : Int32) < 0 ∧ (0 : Int32).toNatClampNeg + ((nI 4) : Int32).toNatClampNeg ≤ 4 ∧ (0 : Int32).toNatClampNeg + ((nI 4) : Int32).toNatClampNeg ≤ 4 then
    (lt (cp2 i (i (p1 + 1)) (0 : Int32).toNatClampNeg (p0 + 1) (0 : Int32).toNatClampNeg ((nI 4) : Int32).toNatClampNeg) fun i1 => if ¬ (0 : Int32) < 0 ∧ ¬ (0 : Int32) < 0 ∧ ¬ ((nI 54) : Int32) < 0 ∧ (0 : Int32).toNatClampNeg + ((nI 54) : Int32).toNatClampNeg ≤ 54 ∧ (0 : Int32).toNatClampNeg + ((nI 54) : Int32).toNatClampNeg ≤ 54 then
    (lt (cp2 i1 (i1 (p1 + 2)) (0 : Int32).toNatClampNeg (p0 + 2) (0 : Int32).toNatClampNeg ((nI 54) : Int32).toNatClampNeg) fun i2 => if ¬ (0 : Int32) < 0 ∧ ¬ (0 : Int32) < 0 ∧ ¬ ((nI 16) : Int32) < 0 ∧ (0 : Int32).toNatClampNeg + ((nI 16) : Int32).toNatClampNeg ≤ 16 ∧ (0 : Int32).toNatClampNeg + ((nI 16) : Int32).toNatClampNeg ≤ 16 then
    (lt (cp2 i2 (i2 (p1 + 3)) (0 : Int32).toNatClampNeg (p0 + 3) (0 : Int32).toNatClampNeg ((nI 16) : Int32).toNatClampNeg) fun i3 => lt (u2 i3 p0 3 (i3 p1 3)) fun i4 =>
    lt (u2 i4 p0 4 (i4 p1 4)) fun i5 =>
    lt (u2 i5 p0 5 (i5 p1 5)) fun i6 =>
    some (i6)) else none) else none) else none
def fJ7_fill_53178_5 (w0 : Nat) (n0 : Nat) : Nat → Int32 → Int32 → Int32 → (Nat → Nat → Int32) → Option ((Nat → Nat → Int32))
  | 0, _, _, _, _ => none
  | n + 1, x1, x2, x3, i => if x3 ≤ x2 then (some (i)) else (if aIn x2 n0 = true then
    (lt (u2 i w0 (x2 : Int32).toNatClampNeg x1) fun i1 => fJ7_fill_53178_5 w0 n0 n x1 (x2 + 1) x3 i1) else none)
def fJ7_fill_53178 (w0 : Nat) (n0 : Nat) (a1 : Int32) (i : Nat → Nat → Int32) : Option ((Nat → Nat → Int32)) := fJ7_fill_53178_5 w0 n0 fuel a1 0 (nI n0) i
def fX1_sleepers (p0 : Nat) (i : Nat → Nat → Int32) : Option ((Int32)) := some ((i p0 3))
def fX1_ruleOf (p0 : Nat) (a1 : Int32) (i : Nat → Nat → Int32) : Option ((Int32)) := if aIn a1 4 = true then
    (some ((i (p0 + 1) (a1 : Int32).toNatClampNeg))) else none
def fX8_begin_60 (p0 : Nat) (p1 : Nat) (kh12 : Int32 → Int32 → (Nat → Nat → Int32) → Option ((Nat → Nat → Int32))) (x2 : Int32) (x3 : Int32) (i : Nat → Nat → Int32) : Option ((Nat → Nat → Int32)) := kh12 x2 (x3 + 1) i
def fX8_begin_12 (p0 : Nat) (p1 : Nat) : Nat → Int32 → Int32 → (Nat → Nat → Int32) → Option ((Nat → Nat → Int32))
  | 0, _, _, _ => none
  | n + 1, x2, x3, i => bn1 (fX1_sleepers p1 i) fun v3 =>
    if v3 ≤ x3 then (bn1 (fX1_ruleOf p1 2 i) fun v5 =>
    if aIn 54 56 = true then
    (lt (u2 i (p0 + 1) (54 : Int32).toNatClampNeg v5) fun i7 => some (i7)) else none) else (if aIn ((0 : Int32) + x3) 56 = true then
    (lt (u2 i (p0 + 1) (((0 : Int32) + x3) : Int32).toNatClampNeg x3) fun i8 => if aIn ((27 : Int32) + x3) 56 = true then
    (lt (u2 i8 (p0 + 1) (((27 : Int32) + x3) : Int32).toNatClampNeg 1) fun i9 => bn1 (fX1_hasPaper p1 x3 i9) fun v10 =>
    if v10 = 0 then (fX8_begin_60 p0 p1 (fX8_begin_12 p0 p1 n) x2 x3 i9) else (if aIn ((9 : Int32) + x2) 56 = true then
    (lt (u2 i9 (p0 + 1) (((9 : Int32) + x2) : Int32).toNatClampNeg x3) fun i12 => fX8_begin_60 p0 p1 (fX8_begin_12 p0 p1 n) (x2 + 1) x3 i12) else none)) else none) else none)
def fX8_begin (p0 : Nat) (p1 : Nat) (i : Nat → Nat → Int32) : Option ((Nat → Nat → Int32)) := bn1 (fJ7_fill_53178 (p0 + 1) 56 0 i) fun i1 =>
    fX8_begin_12 p0 p1 fuel 0 0 i1
def fX6_clear (i : Nat → Nat → Int32) : Option ((Nat → Nat → Int32)) := lt (u2 i 25 5 0) fun i1 =>
    lt (u2 i1 25 6 0) fun i2 =>
    some (i2)
def fX2_clear (i : Nat → Nat → Int32) : Option ((Nat → Nat → Int32)) := lt (u2 i 45 7 0) fun i1 =>
    lt (u2 i1 45 8 0) fun i2 =>
    some (i2)
def fX11_board (i : Nat → Nat → Int32) : Option ((Int32) × (Nat → Nat → Int32)) := bn1 (fX1_copyFrom 15 11 i) fun i1 =>
    bn1 (fX8_begin 19 15 i1) fun i3 =>
    bn1 (fX6_clear i3) fun i5 =>
    bn1 (fX2_clear i5) fun i7 =>
    bn1 (fX1_sleepers 15 i7) fun v9 =>
    some (v9, i7)
def fX11_noCar (i : Nat → Nat → Int32) : Option ((Int32)) := bn1 (fX1_sleepers 15 i) fun v1 =>
    if v1 = 0 then (some (1)) else (some (0))
def fX8_coffees (p0 : Nat) (i : Nat → Nat → Int32) : Option ((Int32)) := if aIn 54 56 = true then
    (some ((i (p0 + 1) (54 : Int32).toNatClampNeg))) else none
def fX11_rule (a1 : Int32) (i : Nat → Nat → Int32) : Option ((Int32)) := bn1 (fX11_noCar i) fun v1 =>
    if v1 = 0 then (if a1 < 0 then (some ((-1))) else (if a1 < 4 then (if a1 = 2 then (bn1 (fX8_coffees 19 i) fun v5 =>
    some (v5)) else (bn1 (fX1_ruleOf 15 a1 i) fun v3 =>
    some (v3))) else (some ((-1))))) else (some ((-1)))
def fX8_berthOf (p0 : Nat) (a1 : Int32) (i : Nat → Nat → Int32) : Option ((Int32)) := if aIn ((0 : Int32) + a1) 56 = true then
    (some ((i (p0 + 1) (((0 : Int32) + a1) : Int32).toNatClampNeg))) else none
def fX1_papers (p0 : Nat) (i : Nat → Nat → Int32) : Option ((Int32)) := some ((i p0 5))
def fX8_placeOf_2 (p0 : Nat) : Nat → Int32 → Int32 → Int32 → (Nat → Nat → Int32) → Option ((Int32))
  | 0, _, _, _, _ => none
  | n + 1, x1, x2, x3, i => if x2 ≤ x3 then (some ((-1))) else (if aIn ((9 : Int32) + x3) 56 = true then
    (if (i (p0 + 1) (((9 : Int32) + x3) : Int32).toNatClampNeg) = x1 then (some (x3)) else (fX8_placeOf_2 p0 n x1 x2 (x3 + 1) i)) else none)
def fX8_placeOf (p0 : Nat) (a1 : Int32) (a2 : Int32) (i : Nat → Nat → Int32) : Option ((Int32)) := fX8_placeOf_2 p0 fuel a1 a2 0 i
def fX8_saidFor (p0 : Nat) (a1 : Int32) (i : Nat → Nat → Int32) : Option ((Int32)) := if aIn ((18 : Int32) + a1) 56 = true then
    (some ((i (p0 + 1) (((18 : Int32) + a1) : Int32).toNatClampNeg))) else none
def fX8_isAsleep (p0 : Nat) (a1 : Int32) (i : Nat → Nat → Int32) : Option ((Int32)) := if aIn ((27 : Int32) + a1) 56 = true then
    (if (i (p0 + 1) (((27 : Int32) + a1) : Int32).toNatClampNeg) = 1 then (some (1)) else (some (0))) else none
def fX8_lostBy (p0 : Nat) (a1 : Int32) (i : Nat → Nat → Int32) : Option ((Int32)) := if aIn ((45 : Int32) + a1) 56 = true then
    (some ((i (p0 + 1) (((45 : Int32) + a1) : Int32).toNatClampNeg))) else none
def fX1_hasOfficer (p0 : Nat) (a1 : Int32) (i : Nat → Nat → Int32) : Option ((Int32)) := if a1 < 0 then (some (0)) else (if (i p0 4) ≤ a1 then (some (0)) else (some (1)))
def fX1_ofOfficer (p0 : Nat) (a1 : Int32) (a2 : Int32) (i : Nat → Nat → Int32) : Option ((Int32)) := if aIn ((a1 * (4 : Int32)) + a2) 16 = true then
    (some ((i (p0 + 3) (((a1 * (4 : Int32)) + a2) : Int32).toNatClampNeg))) else none
def fX11_officer (a1 : Int32) (a2 : Int32) (i : Nat → Nat → Int32) : Option ((Int32)) := bn1 (fX1_hasOfficer 15 a1 i) fun v1 =>
    if v1 = 0 then (some ((-1))) else (if a2 < 0 then (some ((-1))) else (if a2 < 4 then (bn1 (fX1_ofOfficer 15 a1 a2 i) fun v3 =>
    some (v3)) else (some ((-1)))))
def fX9_lawCount (i : Nat → Nat → Int32) : Option ((Int32)) := some ((i 3 4))
def fX9_lawAt (a1 : Int32) (i : Nat → Nat → Int32) (rv : Nat → Nat → Option Nat) : Option ((Option Nat)) := if a1 < 0 then (some (none)) else (if (i 3 4) ≤ a1 then (some (none)) else (if aIn a1 4 = true then
    (mO (rv 4 (a1 : Int32).toNatClampNeg) (some (none)) fun r1 => (some ((some (100 + (r1 - 100)))))) else none))
def fX11_drowsy (a1 : Int32) (i : Nat → Nat → Int32) : Option ((Int32) × (Nat → Nat → Int32)) := if a1 < 0 then (some (0, i)) else (if 99 < a1 then (some (0, i)) else (if a1 = (i 0 11) then (some (0, i)) else (lt (u2 i 0 11 a1) fun i1 =>
    some (1, i1))))
def fX8_copyTo (p0 : Nat) (w1 : Nat) (n1 : Nat) (a2 : Int32) (i : Nat → Nat → Int32) : Option ((Nat → Nat → Int32)) := if ¬ (0 : Int32) < 0 ∧ ¬ ((a2 * (56 : Int32)) : Int32) < 0 ∧ ¬ (56 : Int32) < 0 ∧ (0 : Int32).toNatClampNeg + (56 : Int32).toNatClampNeg ≤ 56 ∧ ((a2 * (56 : Int32)) : Int32).toNatClampNeg + (56 : Int32).toNatClampNeg ≤ n1 then
    (lt (cp2 i (i (p0 + 1)) (0 : Int32).toNatClampNeg w1 ((a2 * (56 : Int32)) : Int32).toNatClampNeg (56 : Int32).toNatClampNeg) fun i1 => some (i1)) else none
def fX6_note (p1 : Nat) (i : Nat → Nat → Int32) : Option ((Nat → Nat → Int32)) := bn1 (fX8_copyTo p1 26 2296 (i 25 4) i) fun i1 =>
    some (i1)
def fX8_shiftPaper_50 (p0 : Nat) : Nat → Int32 → Int32 → Int32 → (Nat → Nat → Int32) → Option ((Nat → Nat → Int32))
  | 0, _, _, _, _ => none
  | n + 1, x2, x3, x4, i => if x4 ≤ x2 then (if aIn ((9 : Int32) + x2) 56 = true then
    (lt (u2 i (p0 + 1) (((9 : Int32) + x2) : Int32).toNatClampNeg x3) fun i3 => some (i3)) else none) else (if aIn (((9 : Int32) + x4) - (1 : Int32)) 56 = true then
    (if aIn ((9 : Int32) + x4) 56 = true then
    (lt (u2 i (p0 + 1) (((9 : Int32) + x4) : Int32).toNatClampNeg (i (p0 + 1) ((((9 : Int32) + x4) - (1 : Int32)) : Int32).toNatClampNeg)) fun i4 => fX8_shiftPaper_50 p0 n x2 x3 (x4 + (-1)) i4) else none) else none)
def fX8_shiftPaper_13 (p0 : Nat) : Nat → Int32 → Int32 → Int32 → Int32 → (Nat → Nat → Int32) → Option ((Nat → Nat → Int32))
  | 0, _, _, _, _, _ => none
  | n + 1, x1, x2, x3, x4, i => if x2 ≤ x4 then (fX8_shiftPaper_50 p0 fuel x2 x3 x1 i) else (if aIn (((9 : Int32) + x4) + (1 : Int32)) 56 = true then
    (if aIn ((9 : Int32) + x4) 56 = true then
    (lt (u2 i (p0 + 1) (((9 : Int32) + x4) : Int32).toNatClampNeg (i (p0 + 1) ((((9 : Int32) + x4) + (1 : Int32)) : Int32).toNatClampNeg)) fun i2 => fX8_shiftPaper_13 p0 n x1 x2 x3 (x4 + 1) i2) else none) else none)
def fX8_shiftPaper (p0 : Nat) (a1 : Int32) (a2 : Int32) (i : Nat → Nat → Int32) : Option ((Nat → Nat → Int32)) := if aIn ((9 : Int32) + a1) 56 = true then
    (lt (i (p0 + 1) (((9 : Int32) + a1) : Int32).toNatClampNeg) fun t1 =>
    fX8_shiftPaper_13 p0 fuel a1 a2 t1 a1 i) else none
def fX3_movePaper (p1 : Nat) (a2 : Int32) (a3 : Int32) (i : Nat → Nat → Int32) : Option ((Int32) × (Nat → Nat → Int32)) := bn1 (fX1_hasPaper 15 a2 i) fun v1 =>
    if v1 = 0 then (some ((-1), i)) else (if a3 < 0 then (some ((-1), i)) else (bn1 (fX1_papers 15 i) fun v3 =>
    if a3 < v3 then (bn1 (fX1_papers 15 i) fun v5 =>
    bn1 (fX8_placeOf p1 a2 v5 i) fun v7 =>
    if v7 = (-1) then (some ((-1), i)) else (if v7 = a3 then (some ((-1), i)) else (bn1 (fX8_shiftPaper p1 v7 a3 i) fun i9 =>
    some (v7, i9)))) else (some ((-1), i))))
def fX1_isLacking (p0 : Nat) (a1 : Int32) (i : Nat → Nat → Int32) : Option ((Int32)) := bn1 (fX1_hasPaper p0 a1 i) fun v1 =>
    if v1 = 0 then (some (0)) else (bn1 (fX1_ofSleeper p0 a1 1 i) fun v3 =>
    if v3 ≤ 0 then (some (0)) else (some (1)))
def fX8_putSaid (p0 : Nat) (a1 : Int32) (a2 : Int32) (i : Nat → Nat → Int32) : Option ((Nat → Nat → Int32)) := if aIn ((18 : Int32) + a1) 56 = true then
    (lt (u2 i (p0 + 1) (((18 : Int32) + a1) : Int32).toNatClampNeg a2) fun i1 => some (i1)) else none
def fX3_sayAnother (p1 : Nat) (a2 : Int32) (a3 : Int32) (i : Nat → Nat → Int32) : Option ((Int32) × (Nat → Nat → Int32)) := bn1 (fX1_isLacking 15 a2 i) fun v1 =>
    if v1 = 0 then (some ((-1), i)) else (if a3 < 0 then (some ((-1), i)) else (if 2 < a3 then (some ((-1), i)) else (bn1 (fX8_saidFor p1 a2 i) fun v3 =>
    if v3 = a3 then (some ((-1), i)) else (bn1 (fX8_saidFor p1 a2 i) fun v5 =>
    bn1 (fX8_putSaid p1 a2 a3 i) fun i7 =>
    some (v5, i7)))))
def fX8_timesWoken (p0 : Nat) (a1 : Int32) (i : Nat → Nat → Int32) : Option ((Int32)) := if aIn ((36 : Int32) + a1) 56 = true then
    (some ((i (p0 + 1) (((36 : Int32) + a1) : Int32).toNatClampNeg))) else none
def fX8_areBeside (p0 : Nat) (a1 : Int32) (a2 : Int32) (i : Nat → Nat → Int32) : Option ((Int32)) := if aIn ((0 : Int32) + a1) 56 = true then
    (if aIn ((0 : Int32) + a2) 56 = true then
    (if (if 0 ≤ ((i (p0 + 1) (((0 : Int32) + a1) : Int32).toNatClampNeg) - (i (p0 + 1) (((0 : Int32) + a2) : Int32).toNatClampNeg)) then ((i (p0 + 1) (((0 : Int32) + a1) : Int32).toNatClampNeg) - (i (p0 + 1) (((0 : Int32) + a2) : Int32).toNatClampNeg)) else 0 - ((i (p0 + 1) (((0 : Int32) + a1) : Int32).toNatClampNeg) - (i (p0 + 1) (((0 : Int32) + a2) : Int32).toNatClampNeg))) = 1 then (some (1)) else (some (0))) else none) else none
def fX3_snoresBeside_40 (p1 : Nat) (kh5 : Int32 → Int32 → Int32 → (Nat → Nat → Int32) → Option ((Int32))) (x2 : Int32) (x3 : Int32) (x4 : Int32) (i : Nat → Nat → Int32) : Option ((Int32)) := kh5 x2 x3 (x4 + 1) i
def fX3_snoresBeside_5 (p1 : Nat) : Nat → Int32 → Int32 → Int32 → (Nat → Nat → Int32) → Option ((Int32))
  | 0, _, _, _, _ => none
  | n + 1, x2, x3, x4, i => bn1 (fX1_sleepers 15 i) fun v1 =>
    if v1 ≤ x4 then (some (x3)) else (bn1 (fX8_areBeside p1 x2 x4 i) fun v3 =>
    if v3 = 0 then (fX3_snoresBeside_40 p1 (fX3_snoresBeside_5 p1 n) x2 x3 x4 i) else (bn1 (fX1_ofSleeper 15 x4 3 i) fun v5 =>
    fX3_snoresBeside_40 p1 (fX3_snoresBeside_5 p1 n) x2 (x3 + v5) x4 i))
def fX3_snoresBeside (p1 : Nat) (a2 : Int32) (i : Nat → Nat → Int32) : Option ((Int32)) := fX3_snoresBeside_5 p1 fuel a2 0 0 i
def fX4_push (p0 : Nat) (a1 : Int32) (i : Nat → Nat → Int32) : Option ((Nat → Nat → Int32)) := if (nI 32) ≤ (i p0 3) then (some (i)) else (if aIn (i p0 3) 32 = true then
    (lt (u2 i (p0 + 2) ((i p0 3) : Int32).toNatClampNeg a1) fun i1 => lt (u2 i1 p0 3 ((i1 p0 3) + (1 : Int32))) fun i2 =>
    some (i2)) else none)
def fX4_pop (p0 : Nat) (i : Nat → Nat → Int32) : Option ((Int32) × (Nat → Nat → Int32)) := if (i p0 3) = 0 then (some (0, i)) else (lt (u2 i p0 3 ((i p0 3) - (1 : Int32))) fun i1 =>
    if aIn (i1 p0 3) 32 = true then
    (some ((i1 (p0 + 2) ((i1 p0 3) : Int32).toNatClampNeg), i1)) else none)
def fX4_joined_159 (s0 : Int32) (s1 : Int32) (s2 : Int32) : Option ((Int32)) := some ((if s0 < (if s2 < s1 then s2 else s1) then (if s2 < s1 then s2 else s1) else s0))
def fX4_joined (a0 : Int32) (a1 : Int32) (a2 : Int32) : Option ((Int32)) := if a0 = 38 then (some ((a1 &&& a2))) else
    if a0 = 42 then (some (((if (if ((a1 : Int32).toInt64 * (a2 : Int32).toInt64) < (1000000 : Int64) then ((a1 : Int32).toInt64 * (a2 : Int32).toInt64) else (1000000 : Int64)) < ((-1000000) : Int64) then ((-1000000) : Int64) else (if ((a1 : Int32).toInt64 * (a2 : Int32).toInt64) < (1000000 : Int64) then ((a1 : Int32).toInt64 * (a2 : Int32).toInt64) else (1000000 : Int64)))).toInt32)) else
    if a0 = 47 then (if a2 = 0 then (some (0)) else (if a2 = 0 then none else
    some ((a1 / a2)))) else
    if a0 = 60 then (if a2 ≤ a1 then (some (0)) else (some (1))) else
    if a0 = 61 then (if a1 = a2 then (some (1)) else (some (0))) else
    if a0 = 62 then (if a1 ≤ a2 then (some (0)) else (some (1))) else
    if a0 = 124 then (some ((a1 ||| a2))) else
    (if a0 = 43 then (fX4_joined_159 (-1000000) 1000000 (a1 + a2)) else (fX4_joined_159 (-1000000) 1000000 (a1 - a2)))
def fX4_worth_153 (p0 : Nat) (w1 : Nat) (n1 : Nat) (kh9 : Int32 → Int32 → (Nat → Nat → Int32) → Option ((Int32) × (Nat → Nat → Int32))) (x2 : Int32) (x3 : Int32) (i : Nat → Nat → Int32) : Option ((Int32) × (Nat → Nat → Int32)) := kh9 x2 (x3 + 1) i
def fX4_worth_107 (p0 : Nat) (w1 : Nat) (n1 : Nat) (kh9 : Int32 → Int32 → (Nat → Nat → Int32) → Option ((Int32) × (Nat → Nat → Int32))) (x3 : Int32) (s0 : Int32) (i : Nat → Nat → Int32) : Option ((Int32) × (Nat → Nat → Int32)) := fX4_worth_153 p0 w1 n1 kh9 s0 x3 i
def fX4_worth_9 (p0 : Nat) (w1 : Nat) (n1 : Nat) : Nat → Int32 → Int32 → (Nat → Nat → Int32) → Option ((Int32) × (Nat → Nat → Int32))
  | 0, _, _, _ => none
  | n + 1, x2, x3, i => if (i p0 2) ≤ x3 then (some (0, i)) else (if (i p0 2) ≤ x2 then (some (0, i)) else (if aIn x2 240 = true then
    (lt (i (p0 + 1) (x2 : Int32).toNatClampNeg) fun t2 =>
    if t2 < 0 then (if t2 < (-6) then (if t2 = (-7) then (bn2 (fX4_pop p0 i) fun v21 i22 =>
    some (v21, i22)) else (if (-1000) < t2 then (if t2 = (-33) then (bn2 (fX4_pop p0 i) fun v13 i14 =>
    bn1 (fX4_push p0 ((1 : Int32) - v13) i14) fun i16 =>
    fX4_worth_153 p0 w1 n1 (fX4_worth_9 p0 w1 n1 n) (x2 + 1) x3 i16) else (bn2 (fX4_pop p0 i) fun v3 i4 =>
    bn2 (fX4_pop p0 i4) fun v6 i7 =>
    bn1 (fX4_joined (-t2) v6 v3) fun v9 =>
    bn1 (fX4_push p0 v9 i7) fun i11 =>
    fX4_worth_153 p0 w1 n1 (fX4_worth_9 p0 w1 n1 n) (x2 + 1) x3 i11)) else (bn2 (fX4_pop p0 i) fun v18 i19 =>
    if v18 = 0 then (fX4_worth_107 p0 w1 n1 (fX4_worth_9 p0 w1 n1 n) x3 (((-1000) : Int32) - t2) i19) else (fX4_worth_107 p0 w1 n1 (fX4_worth_9 p0 w1 n1 n) x3 (x2 + 1) i19)))) else (if aIn (((-1) : Int32) - t2) n1 = true then
    (bn1 (fX4_push p0 (i w1 ((((-1) : Int32) - t2) : Int32).toNatClampNeg) i) fun i24 =>
    fX4_worth_153 p0 w1 n1 (fX4_worth_9 p0 w1 n1 n) (x2 + 1) x3 i24) else none)) else (bn1 (fX4_push p0 t2 i) fun i26 =>
    fX4_worth_153 p0 w1 n1 (fX4_worth_9 p0 w1 n1 n) (x2 + 1) x3 i26)) else none))
def fX4_worth (p0 : Nat) (w1 : Nat) (n1 : Nat) (i : Nat → Nat → Int32) : Option ((Int32) × (Nat → Nat → Int32)) := lt (u2 i p0 3 0) fun i1 =>
    fX4_worth_9 p0 w1 n1 fuel 0 0 i1
def fX3_lossOf_106 (p1 : Nat) (x6 : Int32) (i : Nat → Nat → Int32) (rv : Nat → Nat → Option Nat) : Option ((Int32) × (Nat → Nat → Int32)) := some ((if (0 : Int32) < (if x6 < (99 : Int32) then x6 else (99 : Int32)) then (if x6 < (99 : Int32) then x6 else (99 : Int32)) else (0 : Int32)), i)
def fX3_lossOf (p1 : Nat) (a2 : Int32) (a3 : Int32) (a4 : Int32) (i : Nat → Nat → Int32) (rv : Nat → Nat → Option Nat) : Option ((Int32) × (Nat → Nat → Int32)) := bn1 (fX1_ofSleeper 15 a2 2 i) fun v1 =>
    bn1 (fX8_timesWoken p1 a2 i) fun v3 =>
    lt ((v1 + (5 : Int32)) + ((5 : Int32) * v3)) fun t5 =>
    mO (rv 23 2) (fX3_lossOf_106 p1 t5 i rv) fun r6 => (if aIn 0 6 = true then
    (lt (u2 i 24 (0 : Int32).toNatClampNeg v1) fun i8 => bn1 (fX8_timesWoken p1 a2 i8) fun v9 =>
    if aIn 1 6 = true then
    (lt (u2 i8 24 (1 : Int32).toNatClampNeg v9) fun i11 => if aIn 2 6 = true then
    (lt (u2 i11 24 (2 : Int32).toNatClampNeg a3) fun i12 => bn1 (fX1_ofSleeper 15 a2 5 i12) fun v13 =>
    if aIn 3 6 = true then
    (lt (u2 i12 24 (3 : Int32).toNatClampNeg v13) fun i15 => if aIn 4 6 = true then
    (lt (u2 i15 24 (4 : Int32).toNatClampNeg a4) fun i16 => bn1 (fX3_snoresBeside p1 a2 i16) fun v17 =>
    if aIn 5 6 = true then
    (lt (u2 i16 24 (5 : Int32).toNatClampNeg v17) fun i19 => bn2 (fX4_worth (r6 - 100) 24 6 i19) fun v20 i21 =>
    fX3_lossOf_106 p1 v20 i21 rv) else none) else none) else none) else none) else none) else none)
def fX3_lossByHand (p1 : Nat) (a2 : Int32) (i : Nat → Nat → Int32) (rv : Nat → Nat → Option Nat) : Option ((Int32) × (Nat → Nat → Int32)) := bn2 (fX3_lossOf p1 a2 0 9 i rv) fun v1 i2 =>
    some (v1, i2)
def fX8_rouse (p0 : Nat) (a1 : Int32) (a2 : Int32) (i : Nat → Nat → Int32) : Option ((Nat → Nat → Int32)) := if aIn ((27 : Int32) + a1) 56 = true then
    (lt (u2 i (p0 + 1) (((27 : Int32) + a1) : Int32).toNatClampNeg 0) fun i1 => if aIn ((36 : Int32) + a1) 56 = true then
    (if aIn ((36 : Int32) + a1) 56 = true then
    (lt (u2 i1 (p0 + 1) (((36 : Int32) + a1) : Int32).toNatClampNeg ((i1 (p0 + 1) (((36 : Int32) + a1) : Int32).toNatClampNeg) + (1 : Int32))) fun i2 => if aIn ((45 : Int32) + a1) 56 = true then
    (if aIn ((45 : Int32) + a1) 56 = true then
    (lt (u2 i2 (p0 + 1) (((45 : Int32) + a1) : Int32).toNatClampNeg ((i2 (p0 + 1) (((45 : Int32) + a1) : Int32).toNatClampNeg) + a2)) fun i3 => some (i3)) else none) else none) else none) else none) else none
def fX3_wakeByHand (p1 : Nat) (a2 : Int32) (i : Nat → Nat → Int32) (rv : Nat → Nat → Option Nat) : Option ((Int32) × (Nat → Nat → Int32)) := bn1 (fX1_hasSleeper 15 a2 i) fun v1 =>
    if v1 = 0 then (some ((-1), i)) else (bn1 (fX8_isAsleep p1 a2 i) fun v3 =>
    if v3 = 0 then (some ((-1), i)) else (bn2 (fX3_lossByHand p1 a2 i rv) fun v5 i6 =>
    bn1 (fX8_rouse p1 a2 v5 i6) fun i8 =>
    some (v5, i8)))
def fX8_layDown (p0 : Nat) (a1 : Int32) (i : Nat → Nat → Int32) : Option ((Nat → Nat → Int32)) := if aIn ((27 : Int32) + a1) 56 = true then
    (lt (u2 i (p0 + 1) (((27 : Int32) + a1) : Int32).toNatClampNeg 1) fun i1 => some (i1)) else none
def fX8_sumFrom_4 (p0 : Nat) : Nat → Int32 → Int32 → Int32 → (Nat → Nat → Int32) → Option ((Int32))
  | 0, _, _, _, _ => none
  | n + 1, x1, x2, x3, i => if 9 ≤ x3 then (some (x2)) else (if aIn (x1 + x3) 56 = true then
    (lt (x2 + (i (p0 + 1) ((x1 + x3) : Int32).toNatClampNeg)) fun t1 =>
    fX8_sumFrom_4 p0 n x1 t1 (x3 + 1) i) else none)
def fX8_sumFrom (p0 : Nat) (a1 : Int32) (i : Nat → Nat → Int32) : Option ((Int32)) := fX8_sumFrom_4 p0 fuel a1 0 0 i
def fX8_asleepInAll (p0 : Nat) (i : Nat → Nat → Int32) : Option ((Int32)) := bn1 (fX8_sumFrom p0 27 i) fun v1 =>
    some (v1)
def fX3_lieDown (p1 : Nat) (a2 : Int32) (i : Nat → Nat → Int32) : Option ((Int32) × (Nat → Nat → Int32)) := bn1 (fX1_hasSleeper 15 a2 i) fun v1 =>
    if v1 = 0 then (some ((-1), i)) else (bn1 (fX8_isAsleep p1 a2 i) fun v3 =>
    if v3 = 0 then (bn1 (fX8_layDown p1 a2 i) fun i5 =>
    bn1 (fX8_asleepInAll p1 i5) fun v7 =>
    some (v7, i5)) else (some ((-1), i)))
def fX8_exchange (p0 : Nat) (a1 : Int32) (a2 : Int32) (i : Nat → Nat → Int32) : Option ((Nat → Nat → Int32)) := if aIn ((0 : Int32) + a1) 56 = true then
    (lt (i (p0 + 1) (((0 : Int32) + a1) : Int32).toNatClampNeg) fun t1 =>
    if aIn ((0 : Int32) + a2) 56 = true then
    (if aIn ((0 : Int32) + a1) 56 = true then
    (lt (u2 i (p0 + 1) (((0 : Int32) + a1) : Int32).toNatClampNeg (i (p0 + 1) (((0 : Int32) + a2) : Int32).toNatClampNeg)) fun i2 => if aIn ((0 : Int32) + a2) 56 = true then
    (lt (u2 i2 (p0 + 1) (((0 : Int32) + a2) : Int32).toNatClampNeg t1) fun i3 => some (i3)) else none) else none) else none) else none
def fX3_swapBerths (p1 : Nat) (a2 : Int32) (a3 : Int32) (i : Nat → Nat → Int32) : Option ((Int32) × (Nat → Nat → Int32)) := bn1 (fX1_hasSleeper 15 a2 i) fun v1 =>
    if v1 = 0 then (some ((-1), i)) else (bn1 (fX1_hasSleeper 15 a3 i) fun v3 =>
    if v3 = 0 then (some ((-1), i)) else (if a2 = a3 then (some ((-1), i)) else (bn1 (fX8_exchange p1 a2 a3 i) fun i5 =>
    some (0, i5))))
def fX8_inDrawer (p0 : Nat) (a1 : Int32) (i : Nat → Nat → Int32) : Option ((Int32)) := if aIn ((9 : Int32) + a1) 56 = true then
    (some ((i (p0 + 1) (((9 : Int32) + a1) : Int32).toNatClampNeg))) else none
def fX1_looksAtFaces (p0 : Nat) (a1 : Int32) (i : Nat → Nat → Int32) : Option ((Int32)) := bn1 (fX1_ofOfficer p0 a1 1 i) fun v1 =>
    if v1 = 1 then (some (1)) else (some (0))
def fX3_wakes (p1 : Nat) (a2 : Int32) (a3 : Int32) (i : Nat → Nat → Int32) : Option ((Int32)) := bn1 (fX1_looksAtFaces 15 a3 i) fun v1 =>
    if v1 = 0 then (some (0)) else (bn1 (fX8_isAsleep p1 a2 i) fun v3 =>
    if v3 = 0 then (some (0)) else (some (1)))
def fX3_turnAwake_24 (x1 : Int32) (s0 : Int32) (i : Nat → Nat → Int32) : Option ((Int32)) := bn1 (fX1_ofSleeper 15 x1 0 i) fun v5 =>
    some ((v5 + s0))
def fX3_turnAwake (a1 : Int32) (a2 : Int32) (i : Nat → Nat → Int32) : Option ((Int32)) := bn1 (fX1_looksAtFaces 15 a2 i) fun v1 =>
    if v1 = 0 then (fX3_turnAwake_24 a1 0 i) else (bn1 (fX1_ofOfficer 15 a2 2 i) fun v3 =>
    fX3_turnAwake_24 a1 v3 i)
def fX3_turnOf_22 (p1 : Nat) (x2 : Int32) (x3 : Int32) (s0 : Int32) (i : Nat → Nat → Int32) : Option ((Int32)) := bn1 (fX3_turnAwake x2 x3 i) fun v5 =>
    some ((v5 + s0))
def fX3_turnOf (p1 : Nat) (a2 : Int32) (a3 : Int32) (i : Nat → Nat → Int32) : Option ((Int32)) := bn1 (fX3_wakes p1 a2 a3 i) fun v1 =>
    if v1 = 0 then (fX3_turnOf_22 p1 a2 a3 0 i) else (bn1 (fX1_ruleOf 15 3 i) fun v3 =>
    fX3_turnOf_22 p1 a2 a3 v3 i)
def fX3_waitOf (a1 : Int32) (a2 : Int32) (a3 : Int32) (a4 : Int32) (i : Nat → Nat → Int32) : Option ((Int32)) := bn1 (fX1_ofSleeper 15 a1 1 i) fun v1 =>
    if a3 = 1 then (bn1 (fX1_looksAtFaces 15 a2 i) fun v5 =>
    if v5 = 0 then (some ((((6 : Int32) * v1) / (2 : Int32)))) else (some (((2 : Int32) * ((6 : Int32) * v1))))) else (if a3 = 2 then (if a4 = 0 then (some (((6 : Int32) * v1))) else (bn1 (fX1_ofOfficer 15 a2 3 i) fun v3 =>
    some ((if (0 : Int32) < (((6 : Int32) * v1) - ((6 : Int32) * v3)) then (((6 : Int32) * v1) - ((6 : Int32) * v3)) else (0 : Int32))))) else (some (((6 : Int32) * v1))))
def fX3_takesCoffee (p1 : Nat) (a2 : Int32) (i : Nat → Nat → Int32) : Option ((Int32)) := bn1 (fX8_saidFor p1 a2 i) fun v1 =>
    if v1 = 2 then (some (1)) else (some (0))
def fX8_leaveCoffees (p0 : Nat) (a1 : Int32) (i : Nat → Nat → Int32) : Option ((Nat → Nat → Int32)) := if aIn 54 56 = true then
    (lt (u2 i (p0 + 1) (54 : Int32).toNatClampNeg a1) fun i1 => some (i1)) else none
def fX3_pass_186 (p1 : Nat) (kh28 : Int32 → Int32 → Int32 → Int32 → Int32 → Int32 → Int32 → (Nat → Nat → Int32) → (Nat → Nat → Option Nat) → Option ((Int32) × (Nat → Nat → Int32))) (x2 : Int32) (x3 : Int32) (x4 : Int32) (x5 : Int32) (x6 : Int32) (x7 : Int32) (x8 : Int32) (x11 : Int32) (i : Nat → Nat → Int32) (rv : Nat → Nat → Option Nat) : Option ((Int32) × (Nat → Nat → Int32)) := lt (if x5 < x11 then x11 else x5) fun t30 =>
    kh28 x2 x3 x4 t30 x6 x7 (x8 + 1) i rv
def fX3_pass_157 (p1 : Nat) (kh28 : Int32 → Int32 → Int32 → Int32 → Int32 → Int32 → Int32 → (Nat → Nat → Int32) → (Nat → Nat → Option Nat) → Option ((Int32) × (Nat → Nat → Int32))) (x2 : Int32) (x3 : Int32) (x4 : Int32) (x5 : Int32) (x6 : Int32) (x7 : Int32) (x8 : Int32) (x9 : Int32) (x11 : Int32) (i : Nat → Nat → Int32) (rv : Nat → Nat → Option Nat) : Option ((Int32) × (Nat → Nat → Int32)) := bn1 (fX1_isLacking 15 x9 i) fun v27 =>
    if v27 = 0 then (fX3_pass_186 p1 kh28 x2 x3 x4 x5 x6 x7 x8 x11 i rv) else (if x11 ≤ x7 then (fX3_pass_186 p1 kh28 x2 x3 x4 x5 x6 x7 x8 x11 i rv) else (lt (u2 i 23 4 x9) fun i29 =>
    fX3_pass_186 p1 kh28 x2 x3 x4 x5 x6 x11 x8 x11 i29 rv))
def fX3_pass_133 (p1 : Nat) (kh28 : Int32 → Int32 → Int32 → Int32 → Int32 → Int32 → Int32 → (Nat → Nat → Int32) → (Nat → Nat → Option Nat) → Option ((Int32) × (Nat → Nat → Int32))) (x2 : Int32) (x3 : Int32) (x4 : Int32) (x5 : Int32) (x6 : Int32) (x7 : Int32) (x8 : Int32) (x9 : Int32) (s0 : Int32) (s2 : Int32) (s3 : Int32) (s4 : Int32) (s5 : Int32) (i : Nat → Nat → Int32) (rv : Nat → Nat → Option Nat) : Option ((Int32) × (Nat → Nat → Int32)) := bn1 (fX3_waitOf s2 s3 s4 s5 i) fun v23 =>
    bn1 (fX3_takesCoffee p1 x9 i) fun v25 =>
    if v25 = 0 then (fX3_pass_157 p1 kh28 x2 x3 x4 x5 x6 x7 x8 x9 (s0 + v23) i rv) else (if x6 ≤ 0 then (fX3_pass_157 p1 kh28 x2 x3 x4 x5 x6 x7 x8 x9 (s0 + v23) i rv) else (fX3_pass_157 p1 kh28 x2 x3 x4 x5 (x6 + (-1)) x7 x8 x9 (s0 + v23) i rv))
def fX3_pass_104 (p1 : Nat) (kh28 : Int32 → Int32 → Int32 → Int32 → Int32 → Int32 → Int32 → (Nat → Nat → Int32) → (Nat → Nat → Option Nat) → Option ((Int32) × (Nat → Nat → Int32))) (x2 : Int32) (x3 : Int32) (x4 : Int32) (x5 : Int32) (x6 : Int32) (x7 : Int32) (x8 : Int32) (x9 : Int32) (x10 : Int32) (i : Nat → Nat → Int32) (rv : Nat → Nat → Option Nat) : Option ((Int32) × (Nat → Nat → Int32)) := bn1 (fX8_saidFor p1 x9 i) fun v21 =>
    if x6 ≤ 0 then (fX3_pass_133 p1 kh28 x2 x3 (x4 + x10) x5 x6 x7 x8 x9 (x4 + x10) x9 x2 v21 0 i rv) else (fX3_pass_133 p1 kh28 x2 x3 (x4 + x10) x5 x6 x7 x8 x9 (x4 + x10) x9 x2 v21 1 i rv)
def fX3_pass_28 (p1 : Nat) : Nat → Int32 → Int32 → Int32 → Int32 → Int32 → Int32 → Int32 → (Nat → Nat → Int32) → (Nat → Nat → Option Nat) → Option ((Int32) × (Nat → Nat → Int32))
  | 0, _, _, _, _, _, _, _, _, _ => none
  | n + 1, x2, x3, x4, x5, x6, x7, x8, i, rv => bn1 (fX1_papers 15 i) fun v5 =>
    if v5 ≤ x8 then (if x3 = 0 then (some (x5, i)) else (bn1 (fX8_leaveCoffees p1 x6 i) fun i7 =>
    some (x5, i7))) else (bn1 (fX8_inDrawer p1 x8 i) fun v9 =>
    bn1 (fX3_turnOf p1 v9 x2 i) fun v11 =>
    bn1 (fX3_wakes p1 v9 x2 i) fun v13 =>
    if v13 = 0 then (fX3_pass_104 p1 (fX3_pass_28 p1 n) x2 x3 x4 x5 x6 x7 x8 v9 v11 i rv) else (bn2 (fX3_lossOf p1 v9 x4 x2 i rv) fun v15 i16 =>
    lt (u2 i16 23 3 ((i16 23 3) + v15)) fun i18 =>
    if x3 = 0 then (fX3_pass_104 p1 (fX3_pass_28 p1 n) x2 x3 x4 x5 x6 x7 x8 v9 v11 i18 rv) else (bn1 (fX8_rouse p1 v9 v15 i18) fun i19 =>
    fX3_pass_104 p1 (fX3_pass_28 p1 n) x2 x3 x4 x5 x6 x7 x8 v9 v11 i19 rv)))
def fX3_pass (p1 : Nat) (a2 : Int32) (a3 : Int32) (i : Nat → Nat → Int32) (rv : Nat → Nat → Option Nat) : Option ((Int32) × (Nat → Nat → Int32)) := bn1 (fX8_coffees p1 i) fun v1 =>
    lt (u2 i 23 3 0) fun i3 =>
    lt (u2 i3 23 4 (-1)) fun i4 =>
    fX3_pass_28 p1 fuel a2 a3 0 0 v1 (-1) 0 i4 rv
def fX3_done (p1 : Nat) (a2 : Int32) (a3 : Int32) (a4 : Int32) (i : Nat → Nat → Int32) (rv : Nat → Nat → Option Nat) : Option ((Int32) × (Nat → Nat → Int32)) := if a2 = 0 then (bn2 (fX3_movePaper p1 a3 a4 i) fun v1 i2 =>
    some (v1, i2)) else
    if a2 = 1 then (bn2 (fX3_sayAnother p1 a3 a4 i) fun v4 i5 =>
    some (v4, i5)) else
    if a2 = 2 then (bn2 (fX3_wakeByHand p1 a3 i rv) fun v7 i8 =>
    some (v7, i8)) else
    if a2 = 3 then (bn2 (fX3_lieDown p1 a3 i) fun v10 i11 =>
    some (v10, i11)) else
    if a2 = 4 then (bn2 (fX3_swapBerths p1 a3 a4 i) fun v13 i14 =>
    some (v13, i14)) else
    if a2 = 5 then (bn1 (fX1_hasOfficer 15 a3 i) fun v16 =>
    if v16 = 0 then (some ((-1), i)) else (bn2 (fX3_pass p1 a3 1 i rv) fun v18 i19 =>
    some (v18, i19))) else
    (some ((-1), i))
def fX6_keepAct (i : Nat → Nat → Int32) : Option ((Nat → Nat → Int32)) := lt (u2 i 25 4 (((i 25 4) + (1 : Int32)) - ((i 25 4) + (1 : Int32)) / (41 : Int32) * (41 : Int32))) fun i1 =>
    lt (u2 i1 25 5 (if ((i1 25 5) + (1 : Int32)) < (40 : Int32) then ((i1 25 5) + (1 : Int32)) else (40 : Int32))) fun i2 =>
    some (i2)
def fX1_allowedTens (p0 : Nat) (i : Nat → Nat → Int32) : Option ((Int32)) := if aIn 0 4 = true then
    (some (((6 : Int32) * (i (p0 + 1) (0 : Int32).toNatClampNeg)))) else none
def fX3_sleepLost (i : Nat → Nat → Int32) : Option ((Int32)) := some ((i 23 3))
def fX8_borders (p0 : Nat) (i : Nat → Nat → Int32) : Option ((Int32)) := if aIn 55 56 = true then
    (some ((i (p0 + 1) (55 : Int32).toNatClampNeg))) else none
def fX8_addBorder (p0 : Nat) (i : Nat → Nat → Int32) : Option ((Nat → Nat → Int32)) := if aIn 55 56 = true then
    (if aIn 55 56 = true then
    (lt (u2 i (p0 + 1) (55 : Int32).toNatClampNeg ((i (p0 + 1) (55 : Int32).toNatClampNeg) + (1 : Int32))) fun i1 => some (i1)) else none) else none
def fX6_write (p1 : Nat) (a2 : Int32) (a3 : Int32) (a4 : Int32) (a5 : Int32) (i : Nat → Nat → Int32) : Option ((Nat → Nat → Int32)) := bn1 (fX8_borders p1 i) fun v1 =>
    lt ((v1 - v1 / (100 : Int32) * (100 : Int32)) * (4 : Int32)) fun t3 =>
    if aIn t3 400 = true then
    (lt (u2 i 27 (t3 : Int32).toNatClampNeg a2) fun i4 => if aIn (t3 + (1 : Int32)) 400 = true then
    (lt (u2 i4 27 ((t3 + (1 : Int32)) : Int32).toNatClampNeg a3) fun i5 => if aIn (t3 + (2 : Int32)) 400 = true then
    (lt (u2 i5 27 ((t3 + (2 : Int32)) : Int32).toNatClampNeg a4) fun i6 => if aIn (t3 + (3 : Int32)) 400 = true then
    (lt (u2 i6 27 ((t3 + (3 : Int32)) : Int32).toNatClampNeg a5) fun i7 => bn1 (fX8_addBorder p1 i7) fun i8 =>
    some (i8)) else none) else none) else none) else none
def fX11_writeLog_26 (s2 : Int32) (s3 : Int32) (s4 : Int32) (i : Nat → Nat → Int32) : Option ((Nat → Nat → Int32)) := bn1 (fX3_sleepLost i) fun v3 =>
    bn1 (fX6_write 19 s2 s3 s4 v3 i) fun i5 =>
    some (i5)
def fX11_writeLog (a1 : Int32) (a2 : Int32) (i : Nat → Nat → Int32) : Option ((Nat → Nat → Int32)) := bn1 (fX1_allowedTens 15 i) fun v1 =>
    if a2 ≤ v1 then (fX11_writeLog_26 a1 a2 0 i) else (fX11_writeLog_26 a1 a2 1 i)
def fX11_act (a1 : Int32) (a2 : Int32) (a3 : Int32) (i : Nat → Nat → Int32) (rv : Nat → Nat → Option Nat) : Option ((Int32) × (Nat → Nat → Int32)) := bn1 (fX6_note 19 i) fun i1 =>
    bn2 (fX3_done 19 a1 a2 a3 i1 rv) fun v3 i4 =>
    if v3 = (-1) then (some (v3, i4)) else (bn1 (fX6_keepAct i4) fun i6 =>
    if a1 = 5 then (bn1 (fX11_writeLog a2 v3 i6) fun i8 =>
    some (v3, i8)) else (some (v3, i6)))
def fX11_move (a1 : Int32) (a2 : Int32) (i : Nat → Nat → Int32) (rv : Nat → Nat → Option Nat) : Option ((Int32) × (Nat → Nat → Int32)) := bn2 (fX11_act 0 a1 a2 i rv) fun v1 i2 =>
    some (v1, i2)
def fX11_say (a1 : Int32) (a2 : Int32) (i : Nat → Nat → Int32) (rv : Nat → Nat → Option Nat) : Option ((Int32) × (Nat → Nat → Int32)) := bn2 (fX11_act 1 a1 a2 i rv) fun v1 i2 =>
    some (v1, i2)
def fX11_wake (a1 : Int32) (i : Nat → Nat → Int32) (rv : Nat → Nat → Option Nat) : Option ((Int32) × (Nat → Nat → Int32)) := bn2 (fX11_act 2 a1 (-1) i rv) fun v1 i2 =>
    some (v1, i2)
def fX11_lie (a1 : Int32) (i : Nat → Nat → Int32) (rv : Nat → Nat → Option Nat) : Option ((Int32) × (Nat → Nat → Int32)) := bn2 (fX11_act 3 a1 (-1) i rv) fun v1 i2 =>
    some (v1, i2)
def fX6_acts (i : Nat → Nat → Int32) : Option ((Int32)) := some ((i 25 5))
def fX11_swap (a1 : Int32) (a2 : Int32) (i : Nat → Nat → Int32) (rv : Nat → Nat → Option Nat) : Option ((Int32) × (Nat → Nat → Int32)) := bn2 (fX11_act 4 a1 a2 i rv) fun v1 i2 =>
    if v1 = (-1) then (some ((-1), i2)) else (bn1 (fX6_acts i2) fun v4 =>
    some (v4, i2))
def fX11_border (a1 : Int32) (i : Nat → Nat → Int32) (rv : Nat → Nat → Option Nat) : Option ((Int32) × (Nat → Nat → Int32)) := bn2 (fX11_act 5 a1 (-1) i rv) fun v1 i2 =>
    some (v1, i2)
def fX1_allWeights_4 (p0 : Nat) : Nat → Int32 → Int32 → (Nat → Nat → Int32) → Option ((Int32))
  | 0, _, _, _ => none
  | n + 1, x1, x2, i => if (i p0 4) ≤ x2 then (some (x1)) else (bn1 (fX1_ofOfficer p0 x2 0 i) fun v1 =>
    fX1_allWeights_4 p0 n (x1 + v1) (x2 + 1) i)
def fX1_allWeights (p0 : Nat) (i : Nat → Nat → Int32) : Option ((Int32)) := fX1_allWeights_4 p0 fuel 0 0 i
def fX11_draw (a1 : Int32) (lo : Nat → Nat → Int64) : Option ((Int32) × (Nat → Nat → Int64)) := lt (u2 lo 0 13 (((lo 0 13) * (6364136223846793005 : Int64)) + (1442695040888963407 : Int64))) fun lo1 =>
    if 1 ≤ a1 then (if (a1 : Int32).toInt64 = 0 then none else
    some ((((((lo1 0 13)).toUInt64 >>> ((33 : Int32).toInt64.toUInt64 &&& Int64.toUInt64 63)).toInt64 - (((lo1 0 13)).toUInt64 >>> ((33 : Int32).toInt64.toUInt64 &&& Int64.toUInt64 63)).toInt64 / (a1 : Int32).toInt64 * (a1 : Int32).toInt64)).toInt32, lo1)) else (some (0, lo1))
def fX1_officers (p0 : Nat) (i : Nat → Nat → Int32) : Option ((Int32)) := some ((i p0 4))
def fX11_drawOfficer_22 : Nat → Int32 → Int32 → (Nat → Nat → Int32) → (Nat → Nat → Int64) → Option ((Int32) × (Nat → Nat → Int64))
  | 0, _, _, _, _ => none
  | n + 1, x2, x3, i, lo => bn1 (fX1_officers 15 i) fun v6 =>
    if v6 ≤ (x3 + (1 : Int32)) then (some (x3, lo)) else (bn1 (fX1_ofOfficer 15 x3 0 i) fun v8 =>
    if x2 < v8 then (some (x3, lo)) else (bn1 (fX1_ofOfficer 15 x3 0 i) fun v10 =>
    fX11_drawOfficer_22 n (x2 - v10) (x3 + 1) i lo))
def fX11_drawOfficer (i : Nat → Nat → Int32) (lo : Nat → Nat → Int64) : Option ((Int32) × (Nat → Nat → Int64)) := bn1 (fX1_allWeights 15 i) fun v1 =>
    if v1 = 0 then (some (0, lo)) else (bn2 (fX11_draw v1 lo) fun v3 lo4 =>
    fX11_drawOfficer_22 fuel v3 0 i lo4)
def fX11_spendNight_68 (kh25 : Int32 → (Nat → Nat → Int32) → (Nat → Nat → Int64) → (Nat → Nat → Option Nat) → Option ((Nat → Nat → Int32) × (Nat → Nat → Int64))) (x2 : Int32) (i : Nat → Nat → Int32) (lo : Nat → Nat → Int64) (rv : Nat → Nat → Option Nat) : Option ((Nat → Nat → Int32) × (Nat → Nat → Int64)) := kh25 (x2 + 1) i lo rv
def fX11_spendNight_25 : Nat → Int32 → (Nat → Nat → Int32) → (Nat → Nat → Int64) → (Nat → Nat → Option Nat) → Option ((Nat → Nat → Int32) × (Nat → Nat → Int64))
  | 0, _, _, _, _ => none
  | n + 1, x2, i, lo, rv => bn1 (fX1_sleepers 15 i) fun v9 =>
    if v9 ≤ x2 then (some (i, lo)) else (bn1 (fX8_isAsleep 19 x2 i) fun v11 =>
    if v11 = 0 then (bn2 (fX11_draw 100 lo) fun v13 lo14 =>
    if (i 0 11) ≤ v13 then (fX11_spendNight_68 (fX11_spendNight_25 n) x2 i lo14 rv) else (bn1 (fX8_layDown 19 x2 i) fun i16 =>
    fX11_spendNight_68 (fX11_spendNight_25 n) x2 i16 lo14 rv)) else (fX11_spendNight_68 (fX11_spendNight_25 n) x2 i lo rv))
def fX11_spendNight (i : Nat → Nat → Int32) (lo : Nat → Nat → Int64) (rv : Nat → Nat → Option Nat) : Option ((Nat → Nat → Int32) × (Nat → Nat → Int64)) := bn2 (fX11_drawOfficer i lo) fun v1 lo2 =>
    bn2 (fX3_pass 19 v1 1 i rv) fun v4 i5 =>
    bn1 (fX11_writeLog v1 v4 i5) fun i7 =>
    fX11_spendNight_25 fuel 0 i7 lo2 rv
def fX6_logged (p1 : Nat) (i : Nat → Nat → Int32) : Option ((Int32)) := bn1 (fX8_borders p1 i) fun v1 =>
    some ((if v1 < (60 : Int32) then v1 else (60 : Int32)))
def fX11_nights_28 : Nat → Int32 → Int32 → (Nat → Nat → Int32) → (Nat → Nat → Int64) → (Nat → Nat → Option Nat) → Option ((Int32) × (Nat → Nat → Int32) × (Nat → Nat → Int64))
  | 0, _, _, _, _, _ => none
  | n + 1, x1, x4, i, lo, rv => if x1 ≤ x4 then (bn1 (fX6_logged 19 i) fun v4 =>
    some (v4, i, lo)) else (bn1 (fX6_note 19 i) fun i6 =>
    bn2 (fX11_spendNight i6 lo rv) fun i8 lo9 =>
    bn1 (fX6_keepAct i8) fun i11 =>
    fX11_nights_28 n x1 (x4 + 1) i11 lo9 rv)
def fX11_nights (a1 : Int32) (a2 : Int64) (i : Nat → Nat → Int32) (lo : Nat → Nat → Int64) (rv : Nat → Nat → Option Nat) : Option ((Int32) × (Nat → Nat → Int32) × (Nat → Nat → Int64)) := bn1 (fX11_noCar i) fun v1 =>
    if v1 = 0 then (if a1 < 1 then (some ((-1), i, lo)) else (if a1 ≤ 20 then (lt (u2 lo 0 13 a2) fun lo3 =>
    fX11_nights_28 fuel a1 0 i lo3 rv) else (some ((-1), i, lo)))) else (some ((-1), i, lo))
def fX8_copyBack (p0 : Nat) (w1 : Nat) (n1 : Nat) (a2 : Int32) (i : Nat → Nat → Int32) : Option ((Nat → Nat → Int32)) := if ¬ ((a2 * (56 : Int32)) : Int32) < 0 ∧ ¬ (0 : Int32) < 0 ∧ ¬ (56 : Int32) < 0 ∧ ((a2 * (56 : Int32)) : Int32).toNatClampNeg + (56 : Int32).toNatClampNeg ≤ n1 ∧ (0 : Int32).toNatClampNeg + (56 : Int32).toNatClampNeg ≤ 56 then
    (lt (cp2 i (i w1) ((a2 * (56 : Int32)) : Int32).toNatClampNeg (p0 + 1) (0 : Int32).toNatClampNeg (56 : Int32).toNatClampNeg) fun i1 => some (i1)) else none
def fX6_takeBack (p1 : Nat) (i : Nat → Nat → Int32) : Option ((Int32) × (Nat → Nat → Int32)) := if (i 25 5) = 0 then (some (0, i)) else (lt (u2 i 25 4 ((((i 25 4) + (41 : Int32)) - (1 : Int32)) - (((i 25 4) + (41 : Int32)) - (1 : Int32)) / (41 : Int32) * (41 : Int32))) fun i1 =>
    lt (u2 i1 25 5 ((i1 25 5) - (1 : Int32))) fun i2 =>
    bn1 (fX8_copyBack p1 26 2296 (i2 25 4) i2) fun i3 =>
    some (1, i3))
def fX11_undo (i : Nat → Nat → Int32) : Option ((Int32) × (Nat → Nat → Int32)) := bn2 (fX6_takeBack 19 i) fun v1 i2 =>
    if v1 = 0 then (some ((-1), i2)) else (bn1 (fX6_acts i2) fun v4 =>
    some (v4, i2))
def fX6_logEntry (p1 : Nat) (a2 : Int32) (a3 : Int32) (i : Nat → Nat → Int32) : Option ((Int32)) := bn1 (fX8_borders p1 i) fun v1 =>
    if aIn (((((v1 - (1 : Int32)) - a2) - ((v1 - (1 : Int32)) - a2) / (100 : Int32) * (100 : Int32)) * (4 : Int32)) + a3) 400 = true then
    (some ((i 27 ((((((v1 - (1 : Int32)) - a2) - ((v1 - (1 : Int32)) - a2) / (100 : Int32) * (100 : Int32)) * (4 : Int32)) + a3) : Int32).toNatClampNeg))) else none
def fX11_log (a1 : Int32) (a2 : Int32) (i : Nat → Nat → Int32) : Option ((Int32)) := if a1 < 0 then (some ((-1))) else (bn1 (fX6_logged 19 i) fun v1 =>
    if v1 ≤ a1 then (some ((-1))) else (if a2 < 0 then (some ((-1))) else (if a2 < 4 then (bn1 (fX6_logEntry 19 a1 a2 i) fun v3 =>
    some (v3)) else (some ((-1))))))
def fX9_linesAt (a1 : Int32) (i : Nat → Nat → Int32) (rv : Nat → Nat → Option Nat) : Option ((Option Nat)) := if a1 < 0 then (some (none)) else (if (i 3 5) ≤ a1 then (some (none)) else (if aIn a1 4 = true then
    (mO (rv 5 (a1 : Int32).toNatClampNeg) (some (none)) fun r1 => (some ((some (100 + (r1 - 100)))))) else none))
def fX5_size (p0 : Nat) (i : Nat → Nat → Int32) : Option ((Int32)) := some ((i p0 1))
def fX5_part (p0 : Nat) (a1 : Int32) (a2 : Int32) (i : Nat → Nat → Int32) : Option ((Int32)) := if aIn ((a1 * (3 : Int32)) + a2) 48 = true then
    (some ((i (p0 + 1) (((a1 * (3 : Int32)) + a2) : Int32).toNatClampNeg))) else none
def fX11_step (a1 : Int32) (a2 : Int32) (a3 : Int32) (i : Nat → Nat → Int32) (rv : Nat → Nat → Option Nat) : Option ((Int32)) := bn1 (fX9_linesAt a1 i rv) fun v1 =>
    mO v1 (some ((-1000000))) fun r3 => (if a2 < 0 then (some ((-1000000))) else (bn1 (fX5_size (r3 - 100) i) fun v5 =>
    if v5 ≤ a2 then (some ((-1000000))) else (if a3 < 0 then (some ((-1000000))) else (if a3 < 3 then (bn1 (fX5_part (r3 - 100) a2 a3 i) fun v7 =>
    some (v7)) else (some ((-1000000)))))))
def fX8_copyFrom (p0 : Nat) (p1 : Nat) (i : Nat → Nat → Int32) : Option ((Nat → Nat → Int32)) := if ¬ (0 : Int32) < 0 ∧ ¬ (0 : Int32) < 0 ∧ ¬ (56 : Int32) < 0 ∧ (0 : Int32).toNatClampNeg + (56 : Int32).toNatClampNeg ≤ 56 ∧ (0 : Int32).toNatClampNeg + (56 : Int32).toNatClampNeg ≤ 56 then
    (lt (cp2 i (i (p1 + 1)) (0 : Int32).toNatClampNeg (p0 + 1) (0 : Int32).toNatClampNeg (56 : Int32).toNatClampNeg) fun i1 => some (i1)) else none
def fX8_lostInAll (p0 : Nat) (i : Nat → Nat → Int32) : Option ((Int32)) := bn1 (fX8_sumFrom p0 45 i) fun v1 =>
    some (v1)
def fX11_run_97 (x2 : Int32) (y3 : Nat) (x4 : Int32) (i : Nat → Nat → Int32) (rv : Nat → Nat → Option Nat) : Option ((Int32) × (Nat → Nat → Int32)) := if x2 = 1 then (bn1 (fX8_lostInAll 21 i) fun v22 =>
    bn1 (fX8_lostInAll 19 i) fun v24 =>
    some ((v22 - v24), i)) else (bn1 (fX5_size y3 i) fun v20 =>
    if x4 = v20 then (some ((-1), i)) else (some (x4, i)))
def fX11_run_46 : Nat → Int32 → Nat → Int32 → (Nat → Nat → Int32) → (Nat → Nat → Option Nat) → Option ((Int32) × (Nat → Nat → Int32))
  | 0, _, _, _, _, _ => none
  | n + 1, x2, y3, x4, i, rv => bn1 (fX5_size y3 i) fun v9 =>
    if v9 ≤ x4 then (fX11_run_97 x2 y3 x4 i rv) else (bn1 (fX5_part y3 x4 0 i) fun v11 =>
    bn1 (fX5_part y3 x4 1 i) fun v13 =>
    bn1 (fX5_part y3 x4 2 i) fun v15 =>
    bn2 (fX3_done 21 v11 v13 v15 i rv) fun v17 i18 =>
    if v17 = (-1) then (fX11_run_97 x2 y3 x4 i18 rv) else (fX11_run_46 n x2 y3 (x4 + 1) i18 rv))
def fX11_run (a1 : Int32) (a2 : Int32) (i : Nat → Nat → Int32) (rv : Nat → Nat → Option Nat) : Option ((Int32) × (Nat → Nat → Int32)) := bn1 (fX9_linesAt a1 i rv) fun v1 =>
    mO v1 (some ((-1000000), i)) fun r3 => (bn1 (fX11_noCar i) fun v5 =>
    if v5 = 0 then (if a2 < 0 then (some ((-1000000), i)) else (if a2 ≤ 1 then (bn1 (fX8_copyFrom 21 19 i) fun i7 =>
    fX11_run_46 fuel a2 (r3 - 100) 0 i7 rv) else (some ((-1000000), i)))) else (some ((-1000000), i)))
def fX11_perform_24 : Nat → Nat → Int32 → (Nat → Nat → Int32) → (Nat → Nat → Option Nat) → Option ((Int32) × (Nat → Nat → Int32))
  | 0, _, _, _, _ => none
  | n + 1, y2, x3, i, rv => bn1 (fX5_size y2 i) fun v7 =>
    if v7 ≤ x3 then (some (x3, i)) else (bn1 (fX5_part y2 x3 0 i) fun v9 =>
    bn1 (fX5_part y2 x3 1 i) fun v11 =>
    bn1 (fX5_part y2 x3 2 i) fun v13 =>
    bn2 (fX11_act v9 v11 v13 i rv) fun v15 i16 =>
    if v15 = (-1) then (some (x3, i16)) else (fX11_perform_24 n y2 (x3 + 1) i16 rv))
def fX11_perform (a1 : Int32) (i : Nat → Nat → Int32) (rv : Nat → Nat → Option Nat) : Option ((Int32) × (Nat → Nat → Int32)) := bn1 (fX9_linesAt a1 i rv) fun v1 =>
    mO v1 (some ((-1), i)) fun r3 => (bn1 (fX11_noCar i) fun v5 =>
    if v5 = 0 then (fX11_perform_24 fuel (r3 - 100) 0 i rv) else (some ((-1), i)))
def fX11_time (a1 : Int32) (a2 : Int32) (i : Nat → Nat → Int32) (rv : Nat → Nat → Option Nat) : Option ((Int32) × (Nat → Nat → Int32)) := bn1 (fX1_hasOfficer 15 a1 i) fun v1 =>
    if v1 = 0 then (some ((-1), i)) else (if a2 < 0 then (some ((-1), i)) else (if a2 ≤ 1 then (bn2 (fX3_pass 19 a1 0 i rv) fun v3 i4 =>
    if a2 = 0 then (some (v3, i4)) else (bn1 (fX3_sleepLost i4) fun v6 =>
    some (v6, i4))) else (some ((-1), i))))
def fX7_layOutPapers_173 (kh19 : Int32 → Int32 → (Nat → Nat → Int32) → Option ((Nat → Nat → Int32))) (x1 : Int32) (x2 : Int32) (i : Nat → Nat → Int32) : Option ((Nat → Nat → Int32)) := kh19 x1 (x2 + 1) i
def fX7_layOutPapers_118 (kh19 : Int32 → Int32 → (Nat → Nat → Int32) → Option ((Nat → Nat → Int32))) : Nat → Int32 → Int32 → Int32 → (Nat → Nat → Int32) → Option ((Nat → Nat → Int32))
  | 0, _, _, _, _ => none
  | n + 1, x1, x2, x3, i => if ((1 : Int32) <<< ((i 30 7) &&& 31)) ≤ x3 then (lt (u2 i 30 7 ((i 30 7) + (1 : Int32))) fun i15 =>
    fX7_layOutPapers_173 kh19 x1 x2 i15) else (if aIn x3 128 = true then
    (if aIn (i 30 7) 7 = true then
    (if aIn (x3 ||| ((1 : Int32) <<< ((i 30 7) &&& 31))) 128 = true then
    (lt (u2 i 33 ((x3 ||| ((1 : Int32) <<< ((i 30 7) &&& 31))) : Int32).toNatClampNeg ((i 33 (x3 : Int32).toNatClampNeg) + (i 32 ((i 30 7) : Int32).toNatClampNeg))) fun i16 => fX7_layOutPapers_118 kh19 n x1 x2 (x3 + 1) i16) else none) else none) else none)
def fX7_layOutPapers_112 (kh19 : Int32 → Int32 → (Nat → Nat → Int32) → Option ((Nat → Nat → Int32))) (x1 : Int32) (x2 : Int32) (s1 : Int32) (s2 : Int32) (i : Nat → Nat → Int32) : Option ((Nat → Nat → Int32)) := lt (u2 i 30 8 (s1 ||| s2)) fun i14 =>
    fX7_layOutPapers_118 kh19 fuel x1 x2 0 i14
def fX7_layOutPapers_19 : Nat → Int32 → Int32 → (Nat → Nat → Int32) → Option ((Nat → Nat → Int32))
  | 0, _, _, _ => none
  | n + 1, x1, x2, i => bn1 (fX1_sleepers 15 i) fun v4 =>
    if v4 ≤ x2 then (some (i)) else (if 7 ≤ (i 30 7) then (some (i)) else (bn1 (fX1_hasPaper 15 x2 i) fun v6 =>
    if v6 = 0 then (fX7_layOutPapers_173 (fX7_layOutPapers_19 n) x1 x2 i) else (if aIn (i 30 7) 9 = true then
    (lt (u2 i 31 ((i 30 7) : Int32).toNatClampNeg x2) fun i8 => bn1 (fX3_turnOf 19 x2 x1 i8) fun v9 =>
    if aIn (i8 30 7) 7 = true then
    (lt (u2 i8 32 ((i8 30 7) : Int32).toNatClampNeg v9) fun i11 => bn1 (fX3_takesCoffee 19 x2 i11) fun v12 =>
    if v12 = 0 then (fX7_layOutPapers_112 (fX7_layOutPapers_19 n) x1 x2 (i11 30 8) 0 i11) else (fX7_layOutPapers_112 (fX7_layOutPapers_19 n) x1 x2 (i11 30 8) ((1 : Int32) <<< ((i11 30 7) &&& 31)) i11)) else none) else none)))
def fX7_layOutPapers (a1 : Int32) (i : Nat → Nat → Int32) : Option ((Nat → Nat → Int32)) := lt (u2 i 30 7 0) fun i1 =>
    lt (u2 i1 30 8 0) fun i2 =>
    if aIn 0 128 = true then
    (lt (u2 i2 33 (0 : Int32).toNatClampNeg 0) fun i3 => fX7_layOutPapers_19 fuel a1 0 i3) else none
def fJ6_bitCount_0f7a4 (a0 : Int32) : Option ((Int32)) := lt (a0 - (((a0).toUInt32 >>> (((1 : Int32) : Int32).toUInt32 &&& Int32.toUInt32 31)).toInt32 &&& (1431655765 : Int32))) fun t1 =>
    lt ((t1 &&& (858993459 : Int32)) + (((t1).toUInt32 >>> (((2 : Int32) : Int32).toUInt32 &&& Int32.toUInt32 31)).toInt32 &&& (858993459 : Int32))) fun t2 =>
    lt ((t2 + ((t2).toUInt32 >>> (((4 : Int32) : Int32).toUInt32 &&& Int32.toUInt32 31)).toInt32) &&& (252645135 : Int32)) fun t3 =>
    lt (t3 + ((t3).toUInt32 >>> (((8 : Int32) : Int32).toUInt32 &&& Int32.toUInt32 31)).toInt32) fun t4 =>
    lt (t4 + ((t4).toUInt32 >>> (((16 : Int32) : Int32).toUInt32 &&& Int32.toUInt32 31)).toInt32) fun t5 =>
    some ((t5 &&& (63 : Int32)))
def fX7_overWith_32 (x1 : Int32) (x2 : Int32) (x3 : Int32) (x4 : Int32) (s0 : Int32) (i : Nat → Nat → Int32) : Option ((Int32)) := bn1 (fX8_saidFor 19 x4 i) fun v6 =>
    bn1 (fX3_waitOf x4 x3 v6 s0 i) fun v8 =>
    if aIn x1 128 = true then
    (if aIn x2 7 = true then
    (if aIn (x1 ||| ((1 : Int32) <<< (x2 &&& 31))) 896 = true then
    (some ((if (((i 33 (x1 : Int32).toNatClampNeg) + (i 32 (x2 : Int32).toNatClampNeg)) + v8) < (i 34 ((x1 ||| ((1 : Int32) <<< (x2 &&& 31))) : Int32).toNatClampNeg) then (i 34 ((x1 ||| ((1 : Int32) <<< (x2 &&& 31))) : Int32).toNatClampNeg) else (((i 33 (x1 : Int32).toNatClampNeg) + (i 32 (x2 : Int32).toNatClampNeg)) + v8)))) else none) else none) else none
def fX7_overWith (a1 : Int32) (a2 : Int32) (a3 : Int32) (i : Nat → Nat → Int32) : Option ((Int32)) := if aIn a2 9 = true then
    (lt (i 31 (a2 : Int32).toNatClampNeg) fun t1 =>
    bn1 (fX8_coffees 19 i) fun v2 =>
    bn1 (fJ6_bitCount_0f7a4 (a1 &&& (i 30 8))) fun v4 =>
    if v2 ≤ v4 then (fX7_overWith_32 a1 a2 a3 t1 0 i) else (fX7_overWith_32 a1 a2 a3 t1 1 i)) else none
def fX7_findSoonest_86 (kh30 : Int32 → Int32 → (Nat → Nat → Int32) → Option ((Nat → Nat → Int32))) (kh45 : Int32 → Int32 → Int32 → (Nat → Nat → Int32) → Option ((Nat → Nat → Int32))) (x1 : Int32) (x3 : Int32) (x4 : Int32) (i : Nat → Nat → Int32) : Option ((Nat → Nat → Int32)) := kh45 x1 x3 (x4 + 1) i
def fX7_findSoonest_45 (kh30 : Int32 → Int32 → (Nat → Nat → Int32) → Option ((Nat → Nat → Int32))) : Nat → Int32 → Int32 → Int32 → (Nat → Nat → Int32) → Option ((Nat → Nat → Int32))
  | 0, _, _, _, _ => none
  | n + 1, x1, x3, x4, i => if (i 30 7) ≤ x4 then (kh30 x1 (x3 + (-1)) i) else (if ((x3 >>> (x4 &&& 31)) &&& (1 : Int32)) = 0 then (if aIn x3 896 = true then
    (bn1 (fX7_overWith x3 x4 x1 i) fun v8 =>
    if aIn x3 896 = true then
    (lt (u2 i 34 (x3 : Int32).toNatClampNeg (if v8 < (i 34 (x3 : Int32).toNatClampNeg) then v8 else (i 34 (x3 : Int32).toNatClampNeg))) fun i10 => fX7_findSoonest_86 kh30 (fX7_findSoonest_45 kh30 n) x1 x3 x4 i10) else none) else none) else (fX7_findSoonest_86 kh30 (fX7_findSoonest_45 kh30 n) x1 x3 x4 i))
def fX7_findSoonest_166 (kh118 : Int32 → Int32 → Int32 → (Nat → Nat → Int32) → Option ((Nat → Nat → Int32))) (kh130 : Int32 → Int32 → Int32 → Int32 → (Nat → Nat → Int32) → Option ((Nat → Nat → Int32))) (x1 : Int32) (x3 : Int32) (x4 : Int32) (x5 : Int32) (i : Nat → Nat → Int32) : Option ((Nat → Nat → Int32)) := kh130 x1 x3 x4 (x5 + 1) i
def fX7_findSoonest_172 (kh118 : Int32 → Int32 → Int32 → (Nat → Nat → Int32) → Option ((Nat → Nat → Int32))) (x1 : Int32) (x3 : Int32) (x4 : Int32) (x5 : Int32) (i : Nat → Nat → Int32) : Option ((Nat → Nat → Int32)) := if aIn x5 9 = true then
    (lt (u2 i 30 9 (((10 : Int32) * (i 30 9)) + (i 31 (x5 : Int32).toNatClampNeg))) fun i13 =>
    lt (x3 ||| ((1 : Int32) <<< (x5 &&& 31))) fun t14 =>
    kh118 x1 t14 (x4 + 1) i13) else none
def fX7_findSoonest_130 (kh118 : Int32 → Int32 → Int32 → (Nat → Nat → Int32) → Option ((Nat → Nat → Int32))) : Nat → Int32 → Int32 → Int32 → Int32 → (Nat → Nat → Int32) → Option ((Nat → Nat → Int32))
  | 0, _, _, _, _, _ => none
  | n + 1, x1, x3, x4, x5, i => if ((i 30 7) - (1 : Int32)) ≤ x5 then (fX7_findSoonest_172 kh118 x1 x3 x4 x5 i) else (if ((x3 >>> (x5 &&& 31)) &&& (1 : Int32)) = 1 then (fX7_findSoonest_166 kh118 (fX7_findSoonest_130 kh118 n) x1 x3 x4 x5 i) else (bn1 (fX7_overWith x3 x5 x1 i) fun v11 =>
    if v11 ≤ (i 30 10) then (fX7_findSoonest_172 kh118 x1 x3 x4 x5 i) else (fX7_findSoonest_166 kh118 (fX7_findSoonest_130 kh118 n) x1 x3 x4 x5 i)))
def fX7_findSoonest_118 : Nat → Int32 → Int32 → Int32 → (Nat → Nat → Int32) → Option ((Nat → Nat → Int32))
  | 0, _, _, _, _ => none
  | n + 1, x1, x3, x4, i => if (i 30 7) ≤ x4 then (some (i)) else (fX7_findSoonest_130 (fX7_findSoonest_118 n) fuel x1 x3 x4 0 i)
def fX7_findSoonest_30 : Nat → Int32 → Int32 → (Nat → Nat → Int32) → Option ((Nat → Nat → Int32))
  | 0, _, _, _ => none
  | n + 1, x1, x3, i => if x3 < 0 then (if aIn 0 896 = true then
    (lt (u2 i 30 10 (i 34 (0 : Int32).toNatClampNeg)) fun i5 =>
    lt (u2 i5 30 9 0) fun i6 =>
    fX7_findSoonest_118 fuel x1 0 0 i6) else none) else (if aIn x3 896 = true then
    (lt (u2 i 34 (x3 : Int32).toNatClampNeg 1000000000) fun i7 => fX7_findSoonest_45 (fX7_findSoonest_30 n) fuel x1 x3 0 i7) else none)
def fX7_findSoonest (a1 : Int32) (i : Nat → Nat → Int32) : Option ((Nat → Nat → Int32)) := bn1 (fX7_layOutPapers a1 i) fun i1 =>
    lt (((1 : Int32) <<< ((i1 30 7) &&& 31)) - (1 : Int32)) fun t3 =>
    if aIn t3 128 = true then
    (if aIn t3 896 = true then
    (lt (u2 i1 34 (t3 : Int32).toNatClampNeg (i1 33 (t3 : Int32).toNatClampNeg)) fun i4 => fX7_findSoonest_30 fuel a1 (t3 - (1 : Int32)) i4) else none) else none
def fX7_digits (i : Nat → Nat → Int32) : Option ((Int32)) := some ((i 30 9))
def fX7_worth (i : Nat → Nat → Int32) : Option ((Int32)) := some ((i 30 10))
def fX11_order (a1 : Int32) (a2 : Int32) (i : Nat → Nat → Int32) : Option ((Int32) × (Nat → Nat → Int32)) := bn1 (fX1_hasOfficer 15 a1 i) fun v1 =>
    if v1 = 0 then (some ((-1), i)) else (if a2 < 0 then (some ((-1), i)) else (if a2 ≤ 1 then (bn1 (fX1_papers 15 i) fun v3 =>
    if v3 ≤ 7 then (bn1 (fX7_findSoonest a1 i) fun i5 =>
    if a2 = 0 then (bn1 (fX7_digits i5) fun v9 =>
    some (v9, i5)) else (bn1 (fX7_worth i5) fun v7 =>
    some (v7, i5))) else (some ((-1000000), i))) else (some ((-1), i))))
def fX7_leastPossible_7 : Nat → Int32 → Int32 → Int32 → Int32 → (Nat → Nat → Int32) → Option ((Int32))
  | 0, _, _, _, _, _ => none
  | n + 1, x1, x2, x3, x4, i => bn1 (fX1_papers 15 i) fun v1 =>
    if v1 ≤ x4 then (some ((if x2 < x3 then x3 else x2))) else (bn1 (fX8_inDrawer 19 x4 i) fun v3 =>
    bn1 (fX3_turnOf 19 v3 x1 i) fun v5 =>
    bn1 (fX8_saidFor 19 v3 i) fun v7 =>
    bn1 (fX3_waitOf v3 x1 v7 1 i) fun v9 =>
    lt (if x3 < (v5 + v9) then (v5 + v9) else x3) fun t11 =>
    fX7_leastPossible_7 n x1 (x2 + v5) t11 (x4 + 1) i)
def fX7_leastPossible (a1 : Int32) (i : Nat → Nat → Int32) : Option ((Int32)) := fX7_leastPossible_7 fuel a1 0 0 0 i
def fX11_bound (a1 : Int32) (i : Nat → Nat → Int32) : Option ((Int32)) := bn1 (fX1_hasOfficer 15 a1 i) fun v1 =>
    if v1 = 0 then (some ((-1))) else (bn1 (fX7_leastPossible a1 i) fun v3 =>
    some (v3))
def fX0_asleepWithPapers_43 (kh4 : Int32 → Int32 → (Nat → Nat → Int32) → Option ((Int32))) (x2 : Int32) (s0 : Int32) (s1 : Int32) (i : Nat → Nat → Int32) : Option ((Int32)) := kh4 (s0 ||| s1) (x2 + 1) i
def fX0_asleepWithPapers_4 : Nat → Int32 → Int32 → (Nat → Nat → Int32) → Option ((Int32))
  | 0, _, _, _ => none
  | n + 1, x1, x2, i => bn1 (fX1_papers 15 i) fun v1 =>
    if v1 ≤ x2 then (some (x1)) else (bn1 (fX8_inDrawer 19 x2 i) fun v3 =>
    bn1 (fX8_isAsleep 19 v3 i) fun v5 =>
    if v5 = 0 then (fX0_asleepWithPapers_43 (fX0_asleepWithPapers_4 n) x2 x1 0 i) else (fX0_asleepWithPapers_43 (fX0_asleepWithPapers_4 n) x2 x1 ((1 : Int32) <<< (v3 &&& 31)) i))
def fX0_asleepWithPapers (i : Nat → Nat → Int32) : Option ((Int32)) := fX0_asleepWithPapers_4 fuel 0 0 i
def fX0_sumByHand_59 (kh17 : Int32 → Int32 → Int32 → (Nat → Nat → Int32) → (Nat → Nat → Option Nat) → Option ((Nat → Nat → Int32))) : Nat → Int32 → Int32 → Int32 → Int32 → Int32 → (Nat → Nat → Int32) → (Nat → Nat → Option Nat) → Option ((Nat → Nat → Int32))
  | 0, _, _, _, _, _, _, _ => none
  | n + 1, x1, x2, x3, x4, x5, i, rv => if ((1 : Int32) <<< (x3 &&& 31)) ≤ x5 then (kh17 x1 x2 (x3 + 1) i rv) else (if aIn x5 512 = true then
    (if aIn (x5 ||| ((1 : Int32) <<< (x3 &&& 31))) 512 = true then
    (lt (u2 i 36 ((x5 ||| ((1 : Int32) <<< (x3 &&& 31))) : Int32).toNatClampNeg ((i 36 (x5 : Int32).toNatClampNeg) + x4)) fun i9 => fX0_sumByHand_59 kh17 n x1 x2 x3 x4 (x5 + 1) i9 rv) else none) else none)
def fX0_sumByHand_54 (kh17 : Int32 → Int32 → Int32 → (Nat → Nat → Int32) → (Nat → Nat → Option Nat) → Option ((Nat → Nat → Int32))) (x1 : Int32) (x2 : Int32) (x3 : Int32) (s0 : Int32) (i : Nat → Nat → Int32) (rv : Nat → Nat → Option Nat) : Option ((Nat → Nat → Int32)) := fX0_sumByHand_59 kh17 fuel x1 x2 x3 s0 0 i rv
def fX0_sumByHand_17 : Nat → Int32 → Int32 → Int32 → (Nat → Nat → Int32) → (Nat → Nat → Option Nat) → Option ((Nat → Nat → Int32))
  | 0, _, _, _, _, _ => none
  | n + 1, x1, x2, x3, i, rv => bn1 (fX1_sleepers 15 i) fun v4 =>
    if v4 ≤ x3 then (some (i)) else (if ((x1 >>> (x3 &&& 31)) &&& (1 : Int32)) = 0 then (fX0_sumByHand_54 (fX0_sumByHand_17 n) x1 x2 x3 0 i rv) else (bn2 (fX3_lossByHand 19 x3 i rv) fun v6 i7 =>
    fX0_sumByHand_54 (fX0_sumByHand_17 n) x1 x2 x3 (x2 * v6) i7 rv))
def fX0_sumByHand (a1 : Int32) (i : Nat → Nat → Int32) (rv : Nat → Nat → Option Nat) : Option ((Nat → Nat → Int32)) := bn1 (fX1_allWeights 15 i) fun v1 =>
    if aIn 0 512 = true then
    (lt (u2 i 36 (0 : Int32).toNatClampNeg 0) fun i3 => fX0_sumByHand_17 fuel a1 v1 0 i3 rv) else none
def fX0_layOutDrawer_219 (kh16 : Int32 → Int32 → Int32 → Int32 → Int32 → (Nat → Nat → Int32) → (Nat → Nat → Option Nat) → Option ((Nat → Nat → Int32))) (x1 : Int32) (x2 : Int32) (x3 : Int32) (x4 : Int32) (x5 : Int32) (i : Nat → Nat → Int32) (rv : Nat → Nat → Option Nat) : Option ((Nat → Nat → Int32)) := if aIn x5 9 = true then
    (lt (x3 + (i 38 (x5 : Int32).toNatClampNeg)) fun t20 =>
    kh16 x1 x2 t20 x4 (x5 + 1) i rv) else none
def fX0_layOutDrawer_159 (kh16 : Int32 → Int32 → Int32 → Int32 → Int32 → (Nat → Nat → Int32) → (Nat → Nat → Option Nat) → Option ((Nat → Nat → Int32))) : Nat → Int32 → Int32 → Int32 → Int32 → Int32 → Int32 → Int32 → (Nat → Nat → Int32) → (Nat → Nat → Option Nat) → Option ((Nat → Nat → Int32))
  | 0, _, _, _, _, _, _, _, _, _ => none
  | n + 1, x1, x2, x3, x4, x5, x6, x7, i, rv => if x4 < x7 then (fX0_layOutDrawer_219 kh16 x1 x2 x3 (x4 + 1) x5 i rv) else (bn1 (fX1_ruleOf 15 3 i) fun v21 =>
    bn2 (fX3_lossOf 19 x6 (x3 + (x7 * v21)) x1 i rv) fun v23 i24 =>
    if aIn ((x5 * (9 : Int32)) + x7) 81 = true then
    (lt (u2 i24 37 (((x5 * (9 : Int32)) + x7) : Int32).toNatClampNeg v23) fun i26 => fX0_layOutDrawer_159 kh16 n x1 x2 x3 x4 x5 x6 (x7 + 1) i26 rv) else none)
def fX0_layOutDrawer_145 (kh16 : Int32 → Int32 → Int32 → Int32 → Int32 → (Nat → Nat → Int32) → (Nat → Nat → Option Nat) → Option ((Nat → Nat → Int32))) (x1 : Int32) (x2 : Int32) (x3 : Int32) (x4 : Int32) (x5 : Int32) (x6 : Int32) (s1 : Int32) (s2 : Int32) (i : Nat → Nat → Int32) (rv : Nat → Nat → Option Nat) : Option ((Nat → Nat → Int32)) := if aIn s1 9 = true then
    (lt (u2 i 40 (s1 : Int32).toNatClampNeg s2) fun i19 => if aIn x5 9 = true then
    (if (i19 40 (x5 : Int32).toNatClampNeg) = 0 then (fX0_layOutDrawer_219 kh16 x1 x2 x3 x4 x5 i19 rv) else (fX0_layOutDrawer_159 kh16 fuel x1 x2 x3 x4 x5 x6 0 i19 rv)) else none) else none
def fX0_layOutDrawer_114 (kh16 : Int32 → Int32 → Int32 → Int32 → Int32 → (Nat → Nat → Int32) → (Nat → Nat → Option Nat) → Option ((Nat → Nat → Int32))) (x1 : Int32) (x2 : Int32) (x3 : Int32) (x4 : Int32) (x5 : Int32) (x6 : Int32) (i : Nat → Nat → Int32) (rv : Nat → Nat → Option Nat) : Option ((Nat → Nat → Int32)) := bn1 (fX3_wakes 19 x6 x1 i) fun v17 =>
    if v17 = 0 then (fX0_layOutDrawer_145 kh16 x1 x2 x3 x4 x5 x6 x5 0 i rv) else (fX0_layOutDrawer_145 kh16 x1 x2 x3 x4 x5 x6 x5 ((1 : Int32) <<< (x6 &&& 31)) i rv)
def fX0_layOutDrawer_87 (kh16 : Int32 → Int32 → Int32 → Int32 → Int32 → (Nat → Nat → Int32) → (Nat → Nat → Option Nat) → Option ((Nat → Nat → Int32))) (x1 : Int32) (x2 : Int32) (x3 : Int32) (x4 : Int32) (x5 : Int32) (x6 : Int32) (s1 : Int32) (s3 : Int32) (s4 : Int32) (s5 : Int32) (s6 : Int32) (i : Nat → Nat → Int32) (rv : Nat → Nat → Option Nat) : Option ((Nat → Nat → Int32)) := bn1 (fX3_waitOf s3 s4 s5 s6 i) fun v12 =>
    if aIn s1 9 = true then
    (lt (u2 i 39 (s1 : Int32).toNatClampNeg v12) fun i14 => bn1 (fX3_takesCoffee 19 x6 i14) fun v15 =>
    if v15 = 0 then (fX0_layOutDrawer_114 kh16 x1 x2 x3 x4 x5 x6 i14 rv) else (if x2 ≤ 0 then (fX0_layOutDrawer_114 kh16 x1 x2 x3 x4 x5 x6 i14 rv) else (fX0_layOutDrawer_114 kh16 x1 (x2 + (-1)) x3 x4 x5 x6 i14 rv))) else none
def fX0_layOutDrawer_16 : Nat → Int32 → Int32 → Int32 → Int32 → Int32 → (Nat → Nat → Int32) → (Nat → Nat → Option Nat) → Option ((Nat → Nat → Int32))
  | 0, _, _, _, _, _, _, _ => none
  | n + 1, x1, x2, x3, x4, x5, i, rv => bn1 (fX1_papers 15 i) fun v3 =>
    if v3 ≤ x5 then (some (i)) else (bn1 (fX8_inDrawer 19 x5 i) fun v5 =>
    bn1 (fX3_turnAwake v5 x1 i) fun v7 =>
    if aIn x5 9 = true then
    (lt (u2 i 38 (x5 : Int32).toNatClampNeg v7) fun i9 => bn1 (fX8_saidFor 19 v5 i9) fun v10 =>
    if x2 ≤ 0 then (fX0_layOutDrawer_87 (fX0_layOutDrawer_16 n) x1 x2 x3 x4 x5 v5 x5 v5 x1 v10 0 i9 rv) else (fX0_layOutDrawer_87 (fX0_layOutDrawer_16 n) x1 x2 x3 x4 x5 v5 x5 v5 x1 v10 1 i9 rv)) else none)
def fX0_layOutDrawer (a1 : Int32) (i : Nat → Nat → Int32) (rv : Nat → Nat → Option Nat) : Option ((Nat → Nat → Int32)) := bn1 (fX8_coffees 19 i) fun v1 =>
    fX0_layOutDrawer_16 fuel a1 v1 0 0 0 i rv
def fX0_lossWithout_118 (kh32 : Int32 → Int32 → Int32 → Int32 → Int32 → Int32 → Int32 → Int32 → (Nat → Nat → Int32) → Option ((Int32))) (x1 : Int32) (x2 : Int32) (x3 : Int32) (x4 : Int32) (x5 : Int32) (x6 : Int32) (x7 : Int32) (x8 : Int32) (i : Nat → Nat → Int32) : Option ((Int32)) := kh32 x1 x2 x3 x4 x5 x6 x7 (x8 + 1) i
def fX0_lossWithout_79 (kh32 : Int32 → Int32 → Int32 → Int32 → Int32 → Int32 → Int32 → Int32 → (Nat → Nat → Int32) → Option ((Int32))) (x1 : Int32) (x2 : Int32) (x3 : Int32) (x4 : Int32) (x5 : Int32) (x6 : Int32) (x7 : Int32) (x8 : Int32) (i : Nat → Nat → Int32) : Option ((Int32)) := if aIn x8 9 = true then
    (lt (x4 + (i 38 (x8 : Int32).toNatClampNeg)) fun t8 =>
    if aIn x8 9 = true then
    (if (t8 + (i 39 (x8 : Int32).toNatClampNeg)) ≤ x5 then (fX0_lossWithout_118 kh32 x1 x2 x3 t8 x5 x6 x7 x8 i) else (if aIn x8 9 = true then
    (lt (t8 + (i 39 (x8 : Int32).toNatClampNeg)) fun t9 =>
    fX0_lossWithout_118 kh32 x1 x2 x3 t8 t9 x6 x7 x8 i) else none)) else none) else none
def fX0_lossWithout_32 : Nat → Int32 → Int32 → Int32 → Int32 → Int32 → Int32 → Int32 → Int32 → (Nat → Nat → Int32) → Option ((Int32))
  | 0, _, _, _, _, _, _, _, _, _ => none
  | n + 1, x1, x2, x3, x4, x5, x6, x7, x8, i => if x3 ≤ x8 then (bn1 (fX1_allowedTens 15 i) fun v5 =>
    if x5 ≤ v5 then (some (x7)) else (some ((-1)))) else (if aIn x8 9 = true then
    (if ((i 40 (x8 : Int32).toNatClampNeg) &&& (x1 ^^^ ((-1) : Int32))) = 0 then (fX0_lossWithout_79 (fX0_lossWithout_32 n) x1 x2 x3 x4 x5 x6 x7 x8 i) else (if aIn ((x8 * (9 : Int32)) + x6) 81 = true then
    (lt (x7 + (i 37 (((x8 * (9 : Int32)) + x6) : Int32).toNatClampNeg)) fun t7 =>
    fX0_lossWithout_79 (fX0_lossWithout_32 n) x1 x2 x3 (x4 + x2) x5 (x6 + 1) t7 x8 i) else none)) else none)
def fX0_lossWithout (a1 : Int32) (i : Nat → Nat → Int32) : Option ((Int32)) := bn1 (fX1_ruleOf 15 3 i) fun v1 =>
    bn1 (fX1_papers 15 i) fun v3 =>
    fX0_lossWithout_32 fuel a1 v1 v3 0 0 0 0 0 i
def fX0_addBorders_76 (kh13 : Int32 → Int32 → Int32 → (Nat → Nat → Int32) → Option ((Nat → Nat → Int32))) (x1 : Int32) (x3 : Int32) (x4 : Int32) (i : Nat → Nat → Int32) : Option ((Nat → Nat → Int32)) := kh13 x1 x3 (x4 + 1) i
def fX0_addBorders_75 (kh13 : Int32 → Int32 → Int32 → (Nat → Nat → Int32) → Option ((Nat → Nat → Int32))) (x1 : Int32) (x3 : Int32) (x4 : Int32) (s1 : Int32) (s2 : Int32) (i : Nat → Nat → Int32) : Option ((Nat → Nat → Int32)) := if aIn s1 512 = true then
    (lt (u2 i 36 (s1 : Int32).toNatClampNeg s2) fun i5 => fX0_addBorders_76 kh13 x1 x3 x4 i5) else none
def fX0_addBorders_13 : Nat → Int32 → Int32 → Int32 → (Nat → Nat → Int32) → Option ((Nat → Nat → Int32))
  | 0, _, _, _, _ => none
  | n + 1, x1, x3, x4, i => if x1 < x4 then (some (i)) else (if (x4 &&& (x1 ^^^ ((-1) : Int32))) = 0 then (if aIn x4 512 = true then
    (if (i 36 (x4 : Int32).toNatClampNeg) = (-1) then (fX0_addBorders_76 (fX0_addBorders_13 n) x1 x3 x4 i) else (bn1 (fX0_lossWithout x4 i) fun v3 =>
    if v3 = (-1) then (fX0_addBorders_75 (fX0_addBorders_13 n) x1 x3 x4 x4 (-1) i) else (if aIn x4 512 = true then
    (fX0_addBorders_75 (fX0_addBorders_13 n) x1 x3 x4 x4 ((i 36 (x4 : Int32).toNatClampNeg) + (x3 * v3)) i) else none))) else none) else (fX0_addBorders_76 (fX0_addBorders_13 n) x1 x3 x4 i))
def fX0_addBorders (a1 : Int32) (a2 : Int32) (i : Nat → Nat → Int32) : Option ((Nat → Nat → Int32)) := bn1 (fX1_ofOfficer 15 a2 0 i) fun v1 =>
    fX0_addBorders_13 fuel a1 v1 0 i
def fX0_findWhomToWake_46 (kh12 : Int32 → Int32 → (Nat → Nat → Int32) → (Nat → Nat → Option Nat) → Option ((Int32) × (Nat → Nat → Int32))) (x1 : Int32) (x2 : Int32) (i : Nat → Nat → Int32) (rv : Nat → Nat → Option Nat) : Option ((Int32) × (Nat → Nat → Int32)) := kh12 x1 (x2 + 1) i rv
def fX0_findWhomToWake_128 (kh59 : Int32 → Int32 → (Nat → Nat → Int32) → (Nat → Nat → Option Nat) → Option ((Int32) × (Nat → Nat → Int32))) (x1 : Int32) (x2 : Int32) (i : Nat → Nat → Int32) (rv : Nat → Nat → Option Nat) : Option ((Int32) × (Nat → Nat → Int32)) := kh59 x1 (x2 + 1) i rv
def fX0_findWhomToWake_113 (kh59 : Int32 → Int32 → (Nat → Nat → Int32) → (Nat → Nat → Option Nat) → Option ((Int32) × (Nat → Nat → Int32))) (x1 : Int32) (x2 : Int32) (i : Nat → Nat → Int32) (rv : Nat → Nat → Option Nat) : Option ((Int32) × (Nat → Nat → Int32)) := lt (u2 i 35 13 x2) fun i14 =>
    if aIn x2 512 = true then
    (lt (u2 i14 35 14 (i14 36 (x2 : Int32).toNatClampNeg)) fun i15 =>
    fX0_findWhomToWake_128 kh59 x1 x2 i15 rv) else none
def fX0_findWhomToWake_87 (kh59 : Int32 → Int32 → (Nat → Nat → Int32) → (Nat → Nat → Option Nat) → Option ((Int32) × (Nat → Nat → Int32))) (x1 : Int32) (x2 : Int32) (s0 : Int32) (i : Nat → Nat → Int32) (rv : Nat → Nat → Option Nat) : Option ((Int32) × (Nat → Nat → Int32)) := if s0 = 0 then (fX0_findWhomToWake_128 kh59 x1 x2 i rv) else (if (i 35 13) = (-1) then (fX0_findWhomToWake_113 kh59 x1 x2 i rv) else (if aIn x2 512 = true then
    (if (i 35 14) ≤ (i 36 (x2 : Int32).toNatClampNeg) then (fX0_findWhomToWake_128 kh59 x1 x2 i rv) else (fX0_findWhomToWake_113 kh59 x1 x2 i rv)) else none))
def fX0_findWhomToWake_86 (kh59 : Int32 → Int32 → (Nat → Nat → Int32) → (Nat → Nat → Option Nat) → Option ((Int32) × (Nat → Nat → Int32))) (x1 : Int32) (x2 : Int32) (i : Nat → Nat → Int32) (rv : Nat → Nat → Option Nat) : Option ((Int32) × (Nat → Nat → Int32)) := fX0_findWhomToWake_87 kh59 x1 x2 0 i rv
def fX0_findWhomToWake_59 : Nat → Int32 → Int32 → (Nat → Nat → Int32) → (Nat → Nat → Option Nat) → Option ((Int32) × (Nat → Nat → Int32))
  | 0, _, _, _, _ => none
  | n + 1, x1, x2, i, rv => if x1 < x2 then (if (i 35 13) = (-1) then (some (0, i)) else (some (1, i))) else (if (x2 &&& (x1 ^^^ ((-1) : Int32))) = 0 then (if aIn x2 512 = true then
    (if (i 36 (x2 : Int32).toNatClampNeg) = (-1) then (fX0_findWhomToWake_86 (fX0_findWhomToWake_59 n) x1 x2 i rv) else (fX0_findWhomToWake_87 (fX0_findWhomToWake_59 n) x1 x2 1 i rv)) else none) else (fX0_findWhomToWake_86 (fX0_findWhomToWake_59 n) x1 x2 i rv))
def fX0_findWhomToWake_12 : Nat → Int32 → Int32 → (Nat → Nat → Int32) → (Nat → Nat → Option Nat) → Option ((Int32) × (Nat → Nat → Int32))
  | 0, _, _, _, _ => none
  | n + 1, x1, x2, i, rv => bn1 (fX1_officers 15 i) fun v5 =>
    if v5 ≤ x2 then (lt (u2 i 35 13 (-1)) fun i7 =>
    fX0_findWhomToWake_59 fuel x1 0 i7 rv) else (bn1 (fX1_ofOfficer 15 x2 0 i) fun v8 =>
    if v8 ≤ 0 then (fX0_findWhomToWake_46 (fX0_findWhomToWake_12 n) x1 x2 i rv) else (bn1 (fX0_layOutDrawer x2 i rv) fun i10 =>
    bn1 (fX0_addBorders x1 x2 i10) fun i12 =>
    fX0_findWhomToWake_46 (fX0_findWhomToWake_12 n) x1 x2 i12 rv))
def fX0_findWhomToWake (i : Nat → Nat → Int32) (rv : Nat → Nat → Option Nat) : Option ((Int32) × (Nat → Nat → Int32)) := bn1 (fX0_asleepWithPapers i) fun v1 =>
    bn1 (fX0_sumByHand v1 i rv) fun i3 =>
    fX0_findWhomToWake_12 fuel v1 0 i3 rv
def fX0_answer (i : Nat → Nat → Int32) : Option ((Int32)) := some ((i 35 13))
def fX0_worth (i : Nat → Nat → Int32) : Option ((Int32)) := some ((i 35 14))
def fX11_before (a1 : Int32) (i : Nat → Nat → Int32) (rv : Nat → Nat → Option Nat) : Option ((Int32) × (Nat → Nat → Int32)) := bn1 (fX11_noCar i) fun v1 =>
    if v1 = 0 then (if a1 < 0 then (some ((-1), i)) else (if 1 < a1 then (some ((-1), i)) else (bn2 (fX0_findWhomToWake i rv) fun v3 i4 =>
    if v3 = 0 then (some ((-1), i4)) else (if a1 = 0 then (bn1 (fX0_answer i4) fun v8 =>
    some (v8, i4)) else (bn1 (fX0_worth i4) fun v6 =>
    some (v6, i4)))))) else (some ((-1), i))
def fX0_cellOf (a0 : Int32) (a1 : Int32) (a2 : Int32) : Option ((Int32)) := some (((((a0 * (3 : Int32)) + a1) * (4 : Int32)) + a2))
def fX0_layOutRest_41 (kh21 : Int32 → Int32 → (Nat → Nat → Int32) → Option ((Nat → Nat → Int32))) : Nat → Int32 → Int32 → Int32 → Int32 → (Nat → Nat → Int32) → Option ((Nat → Nat → Int32))
  | 0, _, _, _, _, _ => none
  | n + 1, x1, x3, x4, x5, i => if 3 ≤ x5 then (if aIn (((x3 + (1 : Int32)) * (4 : Int32)) + x1) 40 = true then
    (lt (i 44 ((((x3 + (1 : Int32)) * (4 : Int32)) + x1) : Int32).toNatClampNeg) fun t6 =>
    if aIn ((x3 * (4 : Int32)) + x1) 40 = true then
    (lt (u2 i 44 (((x3 * (4 : Int32)) + x1) : Int32).toNatClampNeg (if x4 < t6 then t6 else x4)) fun i7 => kh21 x1 (x3 + (-1)) i7) else none) else none) else (bn1 (fX0_cellOf x3 x5 x1) fun v8 =>
    if aIn v8 108 = true then
    (lt (if (i 42 (v8 : Int32).toNatClampNeg) < x4 then (i 42 (v8 : Int32).toNatClampNeg) else x4) fun t10 =>
    fX0_layOutRest_41 kh21 n x1 x3 t10 (x5 + 1) i) else none)
def fX0_layOutRest_21 : Nat → Int32 → Int32 → (Nat → Nat → Int32) → Option ((Nat → Nat → Int32))
  | 0, _, _, _ => none
  | n + 1, x1, x3, i => if x3 < 0 then (some (i)) else (bn1 (fX0_cellOf x3 0 x1) fun v3 =>
    if aIn v3 108 = true then
    (lt (i 42 (v3 : Int32).toNatClampNeg) fun t5 =>
    fX0_layOutRest_41 (fX0_layOutRest_21 n) fuel x1 x3 t5 1 i) else none)
def fX0_layOutRest (a1 : Int32) (a2 : Int32) (i : Nat → Nat → Int32) : Option ((Nat → Nat → Int32)) := if aIn (((i 35 12) * (4 : Int32)) + a1) 40 = true then
    (lt (u2 i 44 ((((i 35 12) * (4 : Int32)) + a1) : Int32).toNatClampNeg a2) fun i1 => lt ((i1 35 12) - (1 : Int32)) fun t2 =>
    fX0_layOutRest_21 fuel a1 t2 i1) else none
def fX0_layOutWaits_113 (kh4 : Int32 → Int32 → Int32 → (Nat → Nat → Int32) → Option ((Nat → Nat → Int32))) (kh45 : Int32 → Int32 → Int32 → Int32 → Int32 → (Nat → Nat → Int32) → Option ((Nat → Nat → Int32))) (x1 : Int32) (x2 : Int32) (x3 : Int32) (x4 : Int32) (x5 : Int32) (i : Nat → Nat → Int32) : Option ((Nat → Nat → Int32)) := kh45 x1 x2 x3 x4 (x5 + 1) i
def fX0_layOutWaits_69 (kh4 : Int32 → Int32 → Int32 → (Nat → Nat → Int32) → Option ((Nat → Nat → Int32))) (kh45 : Int32 → Int32 → Int32 → Int32 → Int32 → (Nat → Nat → Int32) → Option ((Nat → Nat → Int32))) : Nat → Int32 → Int32 → Int32 → Int32 → Int32 → Int32 → (Nat → Nat → Int32) → Option ((Nat → Nat → Int32))
  | 0, _, _, _, _, _, _, _ => none
  | n + 1, x1, x2, x3, x4, x5, x6, i => if 3 ≤ x6 then (fX0_layOutWaits_113 kh4 kh45 x1 x2 x3 x4 x5 i) else (bn1 (fX3_waitOf x4 x1 x6 1 i) fun v10 =>
    bn1 (fX0_cellOf x5 x6 x1) fun v12 =>
    if aIn v12 108 = true then
    (lt (u2 i 42 (v12 : Int32).toNatClampNeg (x2 + v10)) fun i14 => fX0_layOutWaits_69 kh4 kh45 n x1 x2 x3 x4 x5 (x6 + 1) i14) else none)
def fX0_layOutWaits_45 (kh4 : Int32 → Int32 → Int32 → (Nat → Nat → Int32) → Option ((Nat → Nat → Int32))) : Nat → Int32 → Int32 → Int32 → Int32 → Int32 → (Nat → Nat → Int32) → Option ((Nat → Nat → Int32))
  | 0, _, _, _, _, _, _ => none
  | n + 1, x1, x2, x3, x4, x5, i => if (i 35 12) ≤ x5 then (kh4 x1 x2 (x3 + 1) i) else (if aIn x5 9 = true then
    (if (i 41 (x5 : Int32).toNatClampNeg) = x4 then (fX0_layOutWaits_69 kh4 (fX0_layOutWaits_45 kh4 n) fuel x1 x2 x3 x4 x5 0 i) else (fX0_layOutWaits_113 kh4 (fX0_layOutWaits_45 kh4 n) x1 x2 x3 x4 x5 i)) else none)
def fX0_layOutWaits_4 : Nat → Int32 → Int32 → Int32 → (Nat → Nat → Int32) → Option ((Nat → Nat → Int32))
  | 0, _, _, _, _ => none
  | n + 1, x1, x2, x3, i => bn1 (fX1_papers 15 i) fun v1 =>
    if v1 ≤ x3 then (if aIn x1 40 = true then
    (lt (u2 i 43 (x1 : Int32).toNatClampNeg x2) fun i3 => bn1 (fX0_layOutRest x1 x2 i3) fun i4 =>
    some (i4)) else none) else (bn1 (fX8_inDrawer 19 x3 i) fun v6 =>
    bn1 (fX3_turnOf 19 v6 x1 i) fun v8 =>
    fX0_layOutWaits_45 (fX0_layOutWaits_4 n) fuel x1 (x2 + v8) x3 v6 0 i)
def fX0_layOutWaits (a1 : Int32) (i : Nat → Nat → Int32) : Option ((Nat → Nat → Int32)) := fX0_layOutWaits_4 fuel a1 0 0 i
def fX0_worthAtLeast_9 : Nat → Int32 → Int32 → Int32 → (Nat → Nat → Int32) → Option ((Int32))
  | 0, _, _, _, _ => none
  | n + 1, x2, x3, x4, i => bn1 (fX1_officers 15 i) fun v1 =>
    if v1 ≤ x4 then (some (x3)) else (if aIn (x2 + x4) 40 = true then
    (if aIn (x2 + x4) 40 = true then
    (lt (if (i 43 ((x2 + x4) : Int32).toNatClampNeg) < (i 44 ((x2 + x4) : Int32).toNatClampNeg) then (i 44 ((x2 + x4) : Int32).toNatClampNeg) else (i 43 ((x2 + x4) : Int32).toNatClampNeg)) fun t3 =>
    bn1 (fX1_ofOfficer 15 x4 0 i) fun v4 =>
    fX0_worthAtLeast_9 n x2 (x3 + (v4 * t3)) (x4 + 1) i) else none) else none)
def fX0_worthAtLeast (a1 : Int32) (i : Nat → Nat → Int32) : Option ((Int32)) := fX0_worthAtLeast_9 fuel (a1 * (4 : Int32)) 0 0 i
def fX0_coffeesBehind (a0 : Int32) (a1 : Int32) : Option ((Int32)) := if a0 = 2 then (some ((a1 - (1 : Int32)))) else (some (a1))
def fX0_sayOne_16 : Nat → Int32 → Int32 → Int32 → (Nat → Nat → Int32) → Option ((Nat → Nat → Int32))
  | 0, _, _, _, _ => none
  | n + 1, x3, x4, x5, i => bn1 (fX1_officers 15 i) fun v2 =>
    if v2 ≤ x5 then (some (i)) else (if aIn (x3 + x5) 40 = true then
    (if aIn (x4 + x5) 108 = true then
    (lt (if (i 43 ((x3 + x5) : Int32).toNatClampNeg) < (i 42 ((x4 + x5) : Int32).toNatClampNeg) then (i 42 ((x4 + x5) : Int32).toNatClampNeg) else (i 43 ((x3 + x5) : Int32).toNatClampNeg)) fun t4 =>
    if aIn ((x3 + (4 : Int32)) + x5) 40 = true then
    (lt (u2 i 43 (((x3 + (4 : Int32)) + x5) : Int32).toNatClampNeg t4) fun i5 => fX0_sayOne_16 n x3 x4 (x5 + 1) i5) else none) else none) else none)
def fX0_sayOne (a1 : Int32) (a2 : Int32) (i : Nat → Nat → Int32) : Option ((Nat → Nat → Int32)) := lt (((a1 * (3 : Int32)) + a2) * (4 : Int32)) fun t1 =>
    fX0_sayOne_16 fuel (a1 * (4 : Int32)) t1 0 i
def fX0_chooseLeast_103 (gs : Int32 → Int32 → (Nat → Nat → Int32) → Option ((Nat → Nat → Int32))) (kh30 : Int32 → Int32 → Int32 → Int32 → (Nat → Nat → Int32) → Option ((Nat → Nat → Int32))) (kh48 : Int32 → Int32 → Int32 → Int32 → Int32 → Int32 → Int32 → (Nat → Nat → Int32) → Option ((Nat → Nat → Int32))) (x1 : Int32) (x2 : Int32) (x3 : Int32) (x4 : Int32) (x5 : Int32) (x6 : Int32) (x7 : Int32) (i : Nat → Nat → Int32) : Option ((Nat → Nat → Int32)) := kh48 x1 x2 x3 x4 x5 x6 (x7 + 1) i
def fX0_chooseLeast_48 (gs : Int32 → Int32 → (Nat → Nat → Int32) → Option ((Nat → Nat → Int32))) (kh30 : Int32 → Int32 → Int32 → Int32 → (Nat → Nat → Int32) → Option ((Nat → Nat → Int32))) : Nat → Int32 → Int32 → Int32 → Int32 → Int32 → Int32 → Int32 → (Nat → Nat → Int32) → Option ((Nat → Nat → Int32))
  | 0, _, _, _, _, _, _, _, _ => none
  | n + 1, x1, x2, x3, x4, x5, x6, x7, i => if 3 ≤ x7 then (if x5 = (-1) then (some (i)) else (lt (x3 ||| ((1 : Int32) <<< (x5 &&& 31))) fun t4 =>
    bn1 (fX0_sayOne x1 x5 i) fun i5 =>
    bn1 (fX0_coffeesBehind x5 x2) fun v7 =>
    bn1 (gs (x1 + (1 : Int32)) v7 i5) fun i9 =>
    kh30 x1 x2 t4 (x4 + 1) i9)) else (if ((x3 >>> (x7 &&& 31)) &&& (1 : Int32)) = 0 then (bn1 (fX0_coffeesBehind x7 x2) fun v11 =>
    if v11 < 0 then (fX0_chooseLeast_103 gs kh30 (fX0_chooseLeast_48 gs kh30 n) x1 x2 x3 x4 x5 x6 x7 i) else (bn1 (fX0_sayOne x1 x7 i) fun i13 =>
    bn1 (fX0_worthAtLeast (x1 + (1 : Int32)) i13) fun v15 =>
    if x6 ≤ v15 then (fX0_chooseLeast_103 gs kh30 (fX0_chooseLeast_48 gs kh30 n) x1 x2 x3 x4 x5 x6 x7 i13) else (fX0_chooseLeast_103 gs kh30 (fX0_chooseLeast_48 gs kh30 n) x1 x2 x3 x4 x7 v15 x7 i13))) else (fX0_chooseLeast_103 gs kh30 (fX0_chooseLeast_48 gs kh30 n) x1 x2 x3 x4 x5 x6 x7 i))
def fX0_chooseLeast_30 (gs : Int32 → Int32 → (Nat → Nat → Int32) → Option ((Nat → Nat → Int32))) : Nat → Int32 → Int32 → Int32 → Int32 → (Nat → Nat → Int32) → Option ((Nat → Nat → Int32))
  | 0, _, _, _, _, _ => none
  | n + 1, x1, x2, x3, x4, i => if 3 ≤ x4 then (some (i)) else (fX0_chooseLeast_48 gs (fX0_chooseLeast_30 gs n) fuel x1 x2 x3 x4 (-1) (i 35 14) 0 i)
def fX0_chooseLeastb (gs : Int32 → Int32 → (Nat → Nat → Int32) → Option ((Nat → Nat → Int32))) (a1 : Int32) (a2 : Int32) (i : Nat → Nat → Int32) : Option ((Nat → Nat → Int32)) := if a1 < (i 35 12) then (fX0_chooseLeast_30 gs fuel a1 a2 0 0 i) else (bn1 (fX0_worthAtLeast a1 i) fun v1 =>
    lt (u2 i 35 14 (if v1 < (i 35 14) then v1 else (i 35 14))) fun i3 =>
    some (i3))
def fX0_chooseLeast : Nat → Int32 → Int32 → (Nat → Nat → Int32) → Option ((Nat → Nat → Int32))
  | 0, _, _, _ => none
  | n + 1, a1, a2, i => fX0_chooseLeastb (fX0_chooseLeast n) a1 a2 i
def fX0_chooseDigits_79 (gs : Int32 → Int32 → Int32 → (Nat → Nat → Int32) → Option ((Int32) × (Nat → Nat → Int32))) (kh32 : Int32 → Int32 → Int32 → Int32 → (Nat → Nat → Int32) → Option ((Int32) × (Nat → Nat → Int32))) (x1 : Int32) (x2 : Int32) (x3 : Int32) (x4 : Int32) (i : Nat → Nat → Int32) : Option ((Int32) × (Nat → Nat → Int32)) := kh32 x1 x2 x3 (x4 + 1) i
def fX0_chooseDigits_32 (gs : Int32 → Int32 → Int32 → (Nat → Nat → Int32) → Option ((Int32) × (Nat → Nat → Int32))) : Nat → Int32 → Int32 → Int32 → Int32 → (Nat → Nat → Int32) → Option ((Int32) × (Nat → Nat → Int32))
  | 0, _, _, _, _, _ => none
  | n + 1, x1, x2, x3, x4, i => if 3 ≤ x4 then (some (0, i)) else (bn1 (fX0_coffeesBehind x4 x2) fun v4 =>
    if v4 < 0 then (fX0_chooseDigits_79 gs (fX0_chooseDigits_32 gs n) x1 x2 x3 x4 i) else (bn1 (fX0_sayOne x1 x4 i) fun i6 =>
    bn2 (gs (x1 + (1 : Int32)) v4 (((10 : Int32) * x3) + x4) i6) fun v8 i9 =>
    if v8 = 0 then (fX0_chooseDigits_79 gs (fX0_chooseDigits_32 gs n) x1 x2 x3 x4 i9) else (some (1, i9))))
def fX0_chooseDigitsb (gs : Int32 → Int32 → Int32 → (Nat → Nat → Int32) → Option ((Int32) × (Nat → Nat → Int32))) (a1 : Int32) (a2 : Int32) (a3 : Int32) (i : Nat → Nat → Int32) : Option ((Int32) × (Nat → Nat → Int32)) := bn1 (fX0_worthAtLeast a1 i) fun v1 =>
    if v1 ≤ (i 35 14) then (if a1 < (i 35 12) then (fX0_chooseDigits_32 gs fuel a1 a2 a3 0 i) else (lt (u2 i 35 13 a3) fun i3 =>
    some (1, i3))) else (some (0, i))
def fX0_chooseDigits : Nat → Int32 → Int32 → Int32 → (Nat → Nat → Int32) → Option ((Int32) × (Nat → Nat → Int32))
  | 0, _, _, _, _ => none
  | n + 1, a1, a2, a3, i => fX0_chooseDigitsb (fX0_chooseDigits n) a1 a2 a3 i
def fX0_findWords_49 (kh7 : Int32 → (Nat → Nat → Int32) → Option ((Int32) × (Nat → Nat → Int32))) (x1 : Int32) (i : Nat → Nat → Int32) : Option ((Int32) × (Nat → Nat → Int32)) := kh7 (x1 + 1) i
def fX0_findWords_66 : Nat → Int32 → (Nat → Nat → Int32) → Option ((Int32) × (Nat → Nat → Int32))
  | 0, _, _ => none
  | n + 1, x1, i => bn1 (fX1_officers 15 i) fun v8 =>
    if v8 ≤ x1 then (lt (u2 i 35 14 1000000000) fun i10 =>
    bn1 (fX8_coffees 19 i10) fun v11 =>
    bn1 (fX0_chooseLeast 12 0 v11 i10) fun i13 =>
    lt (u2 i13 35 13 0) fun i15 =>
    bn1 (fX8_coffees 19 i15) fun v16 =>
    bn2 (fX0_chooseDigits 12 0 v16 0 i15) fun v18 i19 =>
    if narrow .boolean (.int v18) = .int v18 then
    some (v18, i19) else none) else (bn1 (fX0_layOutWaits x1 i) fun i21 =>
    fX0_findWords_66 n (x1 + 1) i21)
def fX0_findWords_7 : Nat → Int32 → (Nat → Nat → Int32) → Option ((Int32) × (Nat → Nat → Int32))
  | 0, _, _ => none
  | n + 1, x1, i => bn1 (fX1_sleepers 15 i) fun v2 =>
    if v2 ≤ x1 then (if (i 35 12) = 0 then (some (0, i)) else (fX0_findWords_66 fuel 0 i)) else (bn1 (fX1_isLacking 15 x1 i) fun v4 =>
    if v4 = 0 then (fX0_findWords_49 (fX0_findWords_7 n) x1 i) else (if aIn (i 35 12) 9 = true then
    (lt (u2 i 41 ((i 35 12) : Int32).toNatClampNeg x1) fun i6 => lt (u2 i6 35 12 ((i6 35 12) + (1 : Int32))) fun i7 =>
    fX0_findWords_49 (fX0_findWords_7 n) x1 i7) else none))
def fX0_findWords (i : Nat → Nat → Int32) : Option ((Int32) × (Nat → Nat → Int32)) := lt (u2 i 35 12 0) fun i1 =>
    fX0_findWords_7 fuel 0 i1
def fX11_words (a1 : Int32) (i : Nat → Nat → Int32) : Option ((Int32) × (Nat → Nat → Int32)) := bn1 (fX11_noCar i) fun v1 =>
    if v1 = 0 then (if a1 < 0 then (some ((-1), i)) else (if 1 < a1 then (some ((-1), i)) else (bn2 (fX0_findWords i) fun v3 i4 =>
    if v3 = 0 then (some ((-1), i4)) else (if a1 = 0 then (bn1 (fX0_answer i4) fun v8 =>
    some (v8, i4)) else (bn1 (fX0_worth i4) fun v6 =>
    some (v6, i4)))))) else (some ((-1), i))
def fX2_couldBe_16 : Nat → Int32 → Int32 → Int32 → (Nat → Nat → Int32) → (Nat → Nat → Option Nat) → Option ((Int32) × (Nat → Nat → Int32))
  | 0, _, _, _, _, _ => none
  | n + 1, x1, x2, x3, i, rv => if (i 45 7) ≤ x3 then (some (1, i)) else (if aIn x3 8 = true then
    (bn1 (fX1_looksAtFaces 15 x1 i) fun v4 =>
    if (i 46 (x3 : Int32).toNatClampNeg) = v4 then (if aIn x3 8 = true then
    (if (i 47 (x3 : Int32).toNatClampNeg) ≤ x2 then (fX2_couldBe_16 n x1 x2 (x3 + 1) i rv) else (some (0, i))) else none) else (some (0, i))) else none)
def fX2_couldBe (a1 : Int32) (i : Nat → Nat → Int32) (rv : Nat → Nat → Option Nat) : Option ((Int32) × (Nat → Nat → Int32)) := bn2 (fX3_pass 19 a1 0 i rv) fun v1 i2 =>
    fX2_couldBe_16 fuel a1 v1 0 i2 rv
def fX2_chanceOf_45 (kh14 : Int32 → Int32 → Int32 → (Nat → Nat → Int32) → (Nat → Nat → Option Nat) → Option ((Int32) × (Nat → Nat → Int32))) (x1 : Int32) (x2 : Int32) (x3 : Int32) (i : Nat → Nat → Int32) (rv : Nat → Nat → Option Nat) : Option ((Int32) × (Nat → Nat → Int32)) := kh14 x1 x2 (x3 + 1) i rv
def fX2_chanceOf_14 : Nat → Int32 → Int32 → Int32 → (Nat → Nat → Int32) → (Nat → Nat → Option Nat) → Option ((Int32) × (Nat → Nat → Int32))
  | 0, _, _, _, _, _ => none
  | n + 1, x1, x2, x3, i, rv => bn1 (fX1_officers 15 i) fun v4 =>
    if v4 ≤ x3 then (if x2 = 0 then (some (0, i)) else (bn1 (fX1_ofOfficer 15 x1 0 i) fun v6 =>
    if x2 = 0 then none else
    some ((((1000000 : Int32) * v6) / x2), i))) else (bn2 (fX2_couldBe x3 i rv) fun v8 i9 =>
    if v8 = 0 then (fX2_chanceOf_45 (fX2_chanceOf_14 n) x1 x2 x3 i9 rv) else (bn1 (fX1_ofOfficer 15 x3 0 i9) fun v11 =>
    fX2_chanceOf_45 (fX2_chanceOf_14 n) x1 (x2 + v11) x3 i9 rv))
def fX2_chanceOf (a1 : Int32) (i : Nat → Nat → Int32) (rv : Nat → Nat → Option Nat) : Option ((Int32) × (Nat → Nat → Int32)) := bn2 (fX2_couldBe a1 i rv) fun v1 i2 =>
    if v1 = 0 then (some (0, i2)) else (fX2_chanceOf_14 fuel a1 0 0 i2 rv)
def fX11_tonight (a1 : Int32) (i : Nat → Nat → Int32) (rv : Nat → Nat → Option Nat) : Option ((Int32) × (Nat → Nat → Int32)) := bn1 (fX1_hasOfficer 15 a1 i) fun v1 =>
    if v1 = 0 then (some ((-1), i)) else (bn2 (fX2_chanceOf a1 i rv) fun v3 i4 =>
    some (v3, i4))
def fX2_addHeard (a1 : Int32) (a2 : Int32) (i : Nat → Nat → Int32) : Option ((Int32) × (Nat → Nat → Int32)) := if (i 45 7) = 8 then (some ((-1), i)) else (if aIn (i 45 7) 8 = true then
    (lt (u2 i 46 ((i 45 7) : Int32).toNatClampNeg (vp_nar .boolean a1)) fun i1 => if aIn (i1 45 7) 8 = true then
    (lt (u2 i1 47 ((i1 45 7) : Int32).toNatClampNeg a2) fun i2 => lt (u2 i2 45 7 ((i2 45 7) + (1 : Int32))) fun i3 =>
    some ((i3 45 7), i3)) else none) else none)
def fX11_hear (a1 : Int32) (a2 : Int32) (i : Nat → Nat → Int32) : Option ((Int32) × (Nat → Nat → Int32)) := bn1 (fX11_noCar i) fun v1 =>
    if v1 = 0 then (if a2 < 0 then (some ((-1), i)) else (if a2 ≤ 999 then (bn2 (fX2_addHeard a1 a2 i) fun v3 i4 =>
    some (v3, i4)) else (some ((-1), i)))) else (some ((-1), i))
def fX2_addLook (a1 : Int32) (a2 : Int32) (i : Nat → Nat → Int32) : Option ((Int32) × (Nat → Nat → Int32)) := if (i 45 8) = 10 then (some ((-1), i)) else (if aIn (i 45 8) 10 = true then
    (lt (u2 i 48 ((i 45 8) : Int32).toNatClampNeg a1) fun i1 => if aIn (i1 45 8) 10 = true then
    (lt (u2 i1 49 ((i1 45 8) : Int32).toNatClampNeg (vp_nar .boolean a2)) fun i2 => lt (u2 i2 45 8 ((i2 45 8) + (1 : Int32))) fun i3 =>
    some ((i3 45 8), i3)) else none) else none)
def fX11_lookAt (a1 : Int32) (a2 : Int32) (i : Nat → Nat → Int32) : Option ((Int32) × (Nat → Nat → Int32)) := bn1 (fX1_hasSleeper 15 a1 i) fun v1 =>
    if v1 = 0 then (some ((-1), i)) else (bn2 (fX2_addLook a1 a2 i) fun v3 i4 =>
    some (v3, i4))
def fX2_fits_63 (kh30 : Int32 → Int32 → Int32 → (Nat → Nat → Int32) → Option ((Int32))) (x1 : Int32) (x2 : Int32) (x3 : Int32) (s0 : Int32) (i : Nat → Nat → Int32) : Option ((Int32)) := if aIn x3 10 = true then
    (if s0 = (i 49 (x3 : Int32).toNatClampNeg) then (kh30 x1 x2 (x3 + 1) i) else (some (0))) else none
def fX2_fits_62 (kh30 : Int32 → Int32 → Int32 → (Nat → Nat → Int32) → Option ((Int32))) (x1 : Int32) (x2 : Int32) (x3 : Int32) (i : Nat → Nat → Int32) : Option ((Int32)) := fX2_fits_63 kh30 x1 x2 x3 0 i
def fX2_fits_30 : Nat → Int32 → Int32 → Int32 → (Nat → Nat → Int32) → Option ((Int32))
  | 0, _, _, _, _ => none
  | n + 1, x1, x2, x3, i => if (i 45 8) ≤ x3 then (some (1)) else (if aIn x3 10 = true then
    (if (i 48 (x3 : Int32).toNatClampNeg) = x1 then (fX2_fits_62 (fX2_fits_30 n) x1 x2 x3 i) else (if aIn x3 10 = true then
    (if (i 48 (x3 : Int32).toNatClampNeg) = x2 then (fX2_fits_62 (fX2_fits_30 n) x1 x2 x3 i) else (fX2_fits_63 (fX2_fits_30 n) x1 x2 x3 1 i)) else none)) else none)
def fX2_fits_28 (x1 : Int32) (x2 : Int32) (i : Nat → Nat → Int32) : Option ((Int32)) := fX2_fits_30 fuel x1 x2 0 i
def fX2_fits (a1 : Int32) (a2 : Int32) (i : Nat → Nat → Int32) : Option ((Int32)) := if a1 = (-1) then (fX2_fits_28 a1 a2 i) else (bn1 (fX1_ofSleeper 15 a1 4 i) fun v1 =>
    bn1 (fX1_ofSleeper 15 a2 4 i) fun v3 =>
    if v1 = v3 then (some (0)) else (fX2_fits_28 a1 a2 i))
def fX2_fitting_79 (kh22 : Int32 → Int32 → Int32 → (Nat → Nat → Int32) → Option ((Int32))) (kh38 : Int32 → Int32 → Int32 → Int32 → (Nat → Nat → Int32) → Option ((Int32))) (x1 : Int32) (x2 : Int32) (x3 : Int32) (x4 : Int32) (i : Nat → Nat → Int32) : Option ((Int32)) := kh38 x1 x2 x3 (x4 + 1) i
def fX2_fitting_38 (kh22 : Int32 → Int32 → Int32 → (Nat → Nat → Int32) → Option ((Int32))) : Nat → Int32 → Int32 → Int32 → Int32 → (Nat → Nat → Int32) → Option ((Int32))
  | 0, _, _, _, _, _ => none
  | n + 1, x1, x2, x3, x4, i => bn1 (fX1_sleepers 15 i) fun v5 =>
    if v5 ≤ x4 then (kh22 x1 x2 (x3 + 1) i) else (bn1 (fX2_fits x3 x4 i) fun v7 =>
    if v7 = 0 then (fX2_fitting_79 kh22 (fX2_fitting_38 kh22 n) x1 x2 x3 x4 i) else (if x2 = x1 then (some ((((101 : Int32) + ((10 : Int32) * x3)) + x4))) else (fX2_fitting_79 kh22 (fX2_fitting_38 kh22 n) x1 (x2 + 1) x3 x4 i)))
def fX2_fitting_22 : Nat → Int32 → Int32 → Int32 → (Nat → Nat → Int32) → Option ((Int32))
  | 0, _, _, _, _ => none
  | n + 1, x1, x2, x3, i => bn1 (fX1_sleepers 15 i) fun v3 =>
    if v3 ≤ x3 then (if x1 = (-1) then (some (x2)) else (some ((-1)))) else (fX2_fitting_38 (fX2_fitting_22 n) fuel x1 x2 x3 (x3 + (1 : Int32)) i)
def fX2_fitting_20 (x1 : Int32) (x2 : Int32) (i : Nat → Nat → Int32) : Option ((Int32)) := fX2_fitting_22 fuel x1 x2 0 i
def fX2_fitting (a1 : Int32) (i : Nat → Nat → Int32) : Option ((Int32)) := bn1 (fX2_fits (-1) (-1) i) fun v1 =>
    if v1 = 0 then (fX2_fitting_20 a1 0 i) else (if a1 = 0 then (some (0)) else (fX2_fitting_20 a1 (0 + 1) i))
def fX11_fit (a1 : Int32) (i : Nat → Nat → Int32) : Option ((Int32)) := bn1 (fX11_noCar i) fun v1 =>
    if v1 = 0 then (bn1 (fX2_fitting a1 i) fun v3 =>
    some (v3)) else (some ((-1)))
def fX2_apartAt_74 (kh17 : Int32 → Int32 → Int32 → (Nat → Nat → Int32) → Option ((Int32))) (kh33 : Int32 → Int32 → Int32 → Int32 → (Nat → Nat → Int32) → Option ((Int32))) (x1 : Int32) (x2 : Int32) (x3 : Int32) (x4 : Int32) (i : Nat → Nat → Int32) : Option ((Int32)) := kh33 x1 x2 x3 (x4 + 1) i
def fX2_apartAt_72 (kh17 : Int32 → Int32 → Int32 → (Nat → Nat → Int32) → Option ((Int32))) (kh33 : Int32 → Int32 → Int32 → Int32 → (Nat → Nat → Int32) → Option ((Int32))) (x1 : Int32) (x3 : Int32) (x4 : Int32) (s0 : Int32) (s1 : Int32) (i : Nat → Nat → Int32) : Option ((Int32)) := fX2_apartAt_74 kh17 kh33 x1 (s0 + s1) x3 x4 i
def fX2_apartAt_67 (kh17 : Int32 → Int32 → Int32 → (Nat → Nat → Int32) → Option ((Int32))) (kh33 : Int32 → Int32 → Int32 → Int32 → (Nat → Nat → Int32) → Option ((Int32))) (x1 : Int32) (x3 : Int32) (x4 : Int32) (s0 : Int32) (i : Nat → Nat → Int32) : Option ((Int32)) := fX2_apartAt_72 kh17 kh33 x1 x3 x4 s0 (-1) i
def fX2_apartAt_33 (kh17 : Int32 → Int32 → Int32 → (Nat → Nat → Int32) → Option ((Int32))) : Nat → Int32 → Int32 → Int32 → Int32 → (Nat → Nat → Int32) → Option ((Int32))
  | 0, _, _, _, _, _ => none
  | n + 1, x1, x2, x3, x4, i => bn1 (fX1_sleepers 15 i) fun v5 =>
    if v5 ≤ x4 then (kh17 x1 x2 (x3 + 1) i) else (bn1 (fX2_fits x3 x4 i) fun v7 =>
    if v7 = 0 then (fX2_apartAt_74 kh17 (fX2_apartAt_33 kh17 n) x1 x2 x3 x4 i) else (if x1 = x3 then (fX2_apartAt_67 kh17 (fX2_apartAt_33 kh17 n) x1 x3 x4 x2 i) else (if x1 = x4 then (fX2_apartAt_67 kh17 (fX2_apartAt_33 kh17 n) x1 x3 x4 x2 i) else (fX2_apartAt_72 kh17 (fX2_apartAt_33 kh17 n) x1 x3 x4 x2 1 i))))
def fX2_apartAt_17 : Nat → Int32 → Int32 → Int32 → (Nat → Nat → Int32) → Option ((Int32))
  | 0, _, _, _, _ => none
  | n + 1, x1, x2, x3, i => bn1 (fX1_sleepers 15 i) fun v3 =>
    if v3 ≤ x3 then (some ((if 0 ≤ x2 then x2 else 0 - x2))) else (fX2_apartAt_33 (fX2_apartAt_17 n) fuel x1 x2 x3 (x3 + (1 : Int32)) i)
def fX2_apartAt_14 (x1 : Int32) (s0 : Int32) (i : Nat → Nat → Int32) : Option ((Int32)) := fX2_apartAt_17 fuel x1 s0 0 i
def fX2_apartAt (a1 : Int32) (i : Nat → Nat → Int32) : Option ((Int32)) := bn1 (fX2_fits (-1) (-1) i) fun v1 =>
    if v1 = 0 then (fX2_apartAt_14 a1 0 i) else (fX2_apartAt_14 a1 1 i)
def fX2_bestBerth_50 (kh16 : Int32 → Int32 → Int32 → (Nat → Nat → Int32) → Option ((Int32))) (x1 : Int32) (x2 : Int32) (x3 : Int32) (i : Nat → Nat → Int32) : Option ((Int32)) := kh16 x1 x2 (x3 + 1) i
def fX2_bestBerth_45 (kh16 : Int32 → Int32 → Int32 → (Nat → Nat → Int32) → Option ((Int32))) (x3 : Int32) (x4 : Int32) (i : Nat → Nat → Int32) : Option ((Int32)) := fX2_bestBerth_50 kh16 x3 x4 x3 i
def fX2_bestBerth_16 : Nat → Int32 → Int32 → Int32 → (Nat → Nat → Int32) → Option ((Int32))
  | 0, _, _, _, _ => none
  | n + 1, x1, x2, x3, i => bn1 (fX1_sleepers 15 i) fun v3 =>
    if v3 ≤ x3 then (some (x1)) else (bn1 (fX2_apartAt x3 i) fun v5 =>
    if x1 = (-1) then (fX2_bestBerth_45 (fX2_bestBerth_16 n) x3 v5 i) else (if x2 ≤ v5 then (fX2_bestBerth_50 (fX2_bestBerth_16 n) x1 x2 x3 i) else (fX2_bestBerth_45 (fX2_bestBerth_16 n) x3 v5 i)))
def fX2_bestBerth (i : Nat → Nat → Int32) : Option ((Int32)) := bn1 (fX2_fitting (-1) i) fun v1 =>
    if v1 = 0 then (some ((-1))) else (fX2_bestBerth_16 fuel (-1) 0 0 i)
def fX11_best (i : Nat → Nat → Int32) : Option ((Int32)) := bn1 (fX11_noCar i) fun v1 =>
    if v1 = 0 then (bn1 (fX2_bestBerth i) fun v3 =>
    some (v3)) else (some ((-1)))
def fX2_headSets_36 (kh5 : Int32 → Int32 → Int32 → Int32 → (Nat → Nat → Int32) → Option ((Int32))) (x1 : Int32) (x2 : Int32) (x3 : Int32) (x4 : Int32) (i : Nat → Nat → Int32) : Option ((Int32)) := kh5 x1 x2 x3 (x4 + 1) i
def fX2_headSets_100 (kh48 : Int32 → Int32 → Int32 → Int32 → Int32 → (Nat → Nat → Int32) → Option ((Int32))) (x1 : Int32) (x2 : Int32) (x3 : Int32) (x4 : Int32) (x5 : Int32) (i : Nat → Nat → Int32) : Option ((Int32)) := kh48 x1 x2 x3 x4 (x5 + 1) i
def fX2_headSets_48 : Nat → Int32 → Int32 → Int32 → Int32 → Int32 → (Nat → Nat → Int32) → Option ((Int32))
  | 0, _, _, _, _, _, _ => none
  | n + 1, x1, x2, x3, x4, x5, i => bn1 (fX1_sleepers 15 i) fun v6 =>
    if ((1 : Int32) <<< (v6 &&& 31)) ≤ x5 then (if x2 = (-1) then (some (x4)) else (some ((-1)))) else (if (x5 &&& (x3 ^^^ ((-1) : Int32))) = 0 then (bn1 (fX1_papers 15 i) fun v8 =>
    bn1 (fJ6_bitCount_0f7a4 x5) fun v10 =>
    if (v8 + v10) = x1 then (if x4 = x2 then (some (x5)) else (fX2_headSets_100 (fX2_headSets_48 n) x1 x2 x3 (x4 + 1) x5 i)) else (fX2_headSets_100 (fX2_headSets_48 n) x1 x2 x3 x4 x5 i)) else (fX2_headSets_100 (fX2_headSets_48 n) x1 x2 x3 x4 x5 i))
def fX2_headSets_5 : Nat → Int32 → Int32 → Int32 → Int32 → (Nat → Nat → Int32) → Option ((Int32))
  | 0, _, _, _, _, _ => none
  | n + 1, x1, x2, x3, x4, i => bn1 (fX1_sleepers 15 i) fun v1 =>
    if v1 ≤ x4 then (fX2_headSets_48 fuel x1 x2 x3 0 0 i) else (bn1 (fX1_hasPaper 15 x4 i) fun v3 =>
    if v3 = 0 then (lt (x3 ||| ((1 : Int32) <<< (x4 &&& 31))) fun t5 =>
    fX2_headSets_36 (fX2_headSets_5 n) x1 x2 t5 x4 i) else (fX2_headSets_36 (fX2_headSets_5 n) x1 x2 x3 x4 i))
def fX2_headSets (a1 : Int32) (a2 : Int32) (i : Nat → Nat → Int32) : Option ((Int32)) := fX2_headSets_5 fuel a1 a2 0 0 i
def fX11_heads (a1 : Int32) (a2 : Int32) (i : Nat → Nat → Int32) : Option ((Int32)) := bn1 (fX11_noCar i) fun v1 =>
    if v1 = 0 then (if a1 < 0 then (some ((-1))) else (if a1 ≤ 9 then (bn1 (fX2_headSets a1 a2 i) fun v3 =>
    some (v3)) else (some ((-1))))) else (some ((-1)))
def fX7_troubleWith (a1 : Int32) (a2 : Int32) (a3 : Int32) (i : Nat → Nat → Int32) : Option ((Int32)) := bn1 (fJ6_bitCount_0f7a4 a1) fun v1 =>
    lt (((i 30 7) - (1 : Int32)) - v1) fun t3 =>
    bn1 (fX1_ofSleeper 15 a3 2 i) fun v4 =>
    if aIn (((a1 ||| ((1 : Int32) <<< (a3 &&& 31))) * (7 : Int32)) + a3) 896 = true then
    (lt ((v4 * t3) + (i 34 ((((a1 ||| ((1 : Int32) <<< (a3 &&& 31))) * (7 : Int32)) + a3) : Int32).toNatClampNeg)) fun t6 =>
    if a2 = (-1) then (some (t6)) else (bn1 (fX1_ofSleeper 15 a2 3 i) fun v7 =>
    bn1 (fX1_ofSleeper 15 a2 2 i) fun v9 =>
    bn1 (fX1_ofSleeper 15 a3 3 i) fun v11 =>
    lt ((t6 + (v4 * v7)) + (v9 * v11)) fun t13 =>
    some (t13))) else none
def fX7_leastBehind_37 (kh6 : Int32 → Int32 → Int32 → Int32 → (Nat → Nat → Int32) → Option ((Int32))) (x1 : Int32) (x2 : Int32) (x3 : Int32) (x4 : Int32) (i : Nat → Nat → Int32) : Option ((Int32)) := kh6 x1 x2 x3 (x4 + 1) i
def fX7_leastBehind_6 : Nat → Int32 → Int32 → Int32 → Int32 → (Nat → Nat → Int32) → Option ((Int32))
  | 0, _, _, _, _, _ => none
  | n + 1, x1, x2, x3, x4, i => if (i 30 7) ≤ x4 then (some (x3)) else (if ((x1 >>> (x4 &&& 31)) &&& (1 : Int32)) = 0 then (bn1 (fX7_troubleWith x1 x2 x4 i) fun v1 =>
    lt (if v1 < x3 then v1 else x3) fun t3 =>
    fX7_leastBehind_37 (fX7_leastBehind_6 n) x1 x2 t3 x4 i) else (fX7_leastBehind_37 (fX7_leastBehind_6 n) x1 x2 x3 x4 i))
def fX7_leastBehind (a1 : Int32) (a2 : Int32) (i : Nat → Nat → Int32) : Option ((Int32)) := fX7_leastBehind_6 fuel a1 a2 1000000000 0 i
def fX7_findBerths_97 (kh57 : Int32 → (Nat → Nat → Int32) → Option ((Nat → Nat → Int32))) (kh63 : Int32 → Int32 → (Nat → Nat → Int32) → Option ((Nat → Nat → Int32))) (x2 : Int32) (x3 : Int32) (i : Nat → Nat → Int32) : Option ((Nat → Nat → Int32)) := kh63 x2 (x3 + 1) i
def fX7_findBerths_63 (kh57 : Int32 → (Nat → Nat → Int32) → Option ((Nat → Nat → Int32))) : Nat → Int32 → Int32 → (Nat → Nat → Int32) → Option ((Nat → Nat → Int32))
  | 0, _, _, _ => none
  | n + 1, x2, x3, i => if (i 30 7) ≤ x3 then (kh57 (x2 + (-1)) i) else (if ((x2 >>> (x3 &&& 31)) &&& (1 : Int32)) = 1 then (bn1 (fX7_leastBehind x2 x3 i) fun v12 =>
    if aIn ((x2 * (7 : Int32)) + x3) 896 = true then
    (lt (u2 i 34 (((x2 * (7 : Int32)) + x3) : Int32).toNatClampNeg v12) fun i14 => fX7_findBerths_97 kh57 (fX7_findBerths_63 kh57 n) x2 x3 i14) else none) else (fX7_findBerths_97 kh57 (fX7_findBerths_63 kh57 n) x2 x3 i))
def fX7_findBerths_185 (kh131 : Int32 → Int32 → Int32 → (Nat → Nat → Int32) → Option ((Nat → Nat → Int32))) (kh151 : Int32 → Int32 → Int32 → Int32 → Int32 → (Nat → Nat → Int32) → Option ((Nat → Nat → Int32))) (x2 : Int32) (x3 : Int32) (x4 : Int32) (x5 : Int32) (x6 : Int32) (i : Nat → Nat → Int32) : Option ((Nat → Nat → Int32)) := kh151 x2 x3 x4 x5 (x6 + 1) i
def fX7_findBerths_191 (kh131 : Int32 → Int32 → Int32 → (Nat → Nat → Int32) → Option ((Nat → Nat → Int32))) (x2 : Int32) (x4 : Int32) (x6 : Int32) (i : Nat → Nat → Int32) : Option ((Nat → Nat → Int32)) := lt (u2 i 30 9 (((10 : Int32) * (i 30 9)) + x6)) fun i17 =>
    lt (x2 ||| ((1 : Int32) <<< (x6 &&& 31))) fun t18 =>
    kh131 t18 x6 (x4 + 1) i17
def fX7_findBerths_151 (kh131 : Int32 → Int32 → Int32 → (Nat → Nat → Int32) → Option ((Nat → Nat → Int32))) : Nat → Int32 → Int32 → Int32 → Int32 → Int32 → (Nat → Nat → Int32) → Option ((Nat → Nat → Int32))
  | 0, _, _, _, _, _, _ => none
  | n + 1, x2, x3, x4, x5, x6, i => if ((i 30 7) - (1 : Int32)) ≤ x6 then (fX7_findBerths_191 kh131 x2 x4 x6 i) else (if ((x2 >>> (x6 &&& 31)) &&& (1 : Int32)) = 1 then (fX7_findBerths_185 kh131 (fX7_findBerths_151 kh131 n) x2 x3 x4 x5 x6 i) else (bn1 (fX7_troubleWith x2 x3 x6 i) fun v15 =>
    if v15 ≤ x5 then (fX7_findBerths_191 kh131 x2 x4 x6 i) else (fX7_findBerths_185 kh131 (fX7_findBerths_151 kh131 n) x2 x3 x4 x5 x6 i)))
def fX7_findBerths_131 : Nat → Int32 → Int32 → Int32 → (Nat → Nat → Int32) → Option ((Nat → Nat → Int32))
  | 0, _, _, _, _ => none
  | n + 1, x2, x3, x4, i => if (i 30 7) ≤ x4 then (some (i)) else (bn1 (fX7_leastBehind x2 x3 i) fun v10 =>
    fX7_findBerths_151 (fX7_findBerths_131 n) fuel x2 x3 x4 v10 0 i)
def fX7_findBerths_57 : Nat → Int32 → (Nat → Nat → Int32) → Option ((Nat → Nat → Int32))
  | 0, _, _ => none
  | n + 1, x2, i => if x2 ≤ 0 then (bn1 (fX7_leastBehind 0 (-1) i) fun v6 =>
    lt (u2 i 30 10 v6) fun i8 =>
    lt (u2 i8 30 9 0) fun i9 =>
    fX7_findBerths_131 fuel 0 (-1) 0 i9) else (fX7_findBerths_63 (fX7_findBerths_57 n) fuel x2 0 i)
def fX7_findBerths_27 : Nat → Int32 → Int32 → (Nat → Nat → Int32) → Option ((Nat → Nat → Int32))
  | 0, _, _, _ => none
  | n + 1, x1, x2, i => if (i 30 7) ≤ x2 then (fX7_findBerths_57 fuel (x1 - (1 : Int32)) i) else (if aIn ((x1 * (7 : Int32)) + x2) 896 = true then
    (lt (u2 i 34 (((x1 * (7 : Int32)) + x2) : Int32).toNatClampNeg 0) fun i5 => fX7_findBerths_27 n x1 (x2 + 1) i5) else none)
def fX7_findBerths (i : Nat → Nat → Int32) : Option ((Nat → Nat → Int32)) := bn1 (fX1_sleepers 15 i) fun v1 =>
    lt (u2 i 30 7 (if v1 < (7 : Int32) then v1 else (7 : Int32))) fun i3 =>
    lt (((1 : Int32) <<< ((i3 30 7) &&& 31)) - (1 : Int32)) fun t4 =>
    fX7_findBerths_27 fuel t4 0 i3
def fX11_give (a1 : Int32) (i : Nat → Nat → Int32) : Option ((Int32) × (Nat → Nat → Int32)) := bn1 (fX11_noCar i) fun v1 =>
    if v1 = 0 then (if a1 < 0 then (some ((-1), i)) else (if a1 ≤ 1 then (bn1 (fX1_sleepers 15 i) fun v3 =>
    if v3 ≤ 7 then (bn1 (fX7_findBerths i) fun i5 =>
    if a1 = 0 then (bn1 (fX7_digits i5) fun v9 =>
    some (v9, i5)) else (bn1 (fX7_worth i5) fun v7 =>
    some (v7, i5))) else (some ((-1000000), i))) else (some ((-1), i)))) else (some ((-1), i))
def fX11_between_64 (kh13 : Int32 → Int32 → (Nat → Nat → Int32) → (Nat → Nat → Option Nat) → Option ((Int32) × (Nat → Nat → Int32))) (x1 : Int32) (x2 : Int32) (i : Nat → Nat → Int32) (rv : Nat → Nat → Option Nat) : Option ((Int32) × (Nat → Nat → Int32)) := kh13 x1 (x2 + 1) i rv
def fX11_between_13 : Nat → Int32 → Int32 → (Nat → Nat → Int32) → (Nat → Nat → Option Nat) → Option ((Int32) × (Nat → Nat → Int32))
  | 0, _, _, _, _ => none
  | n + 1, x1, x2, i, rv => bn1 (fX1_sleepers 15 i) fun v3 =>
    if v3 ≤ x2 then (some (x1, i)) else (bn1 (fX8_isAsleep 19 x2 i) fun v5 =>
    if v5 = 0 then (bn2 (fX3_lossByHand 19 x2 i rv) fun v7 i8 =>
    bn1 (fX1_ruleOf 15 1 i8) fun v10 =>
    if v7 ≤ v10 then (fX11_between_64 (fX11_between_13 n) x1 x2 i8 rv) else (lt (x1 ||| ((1 : Int32) <<< (x2 &&& 31))) fun t12 =>
    fX11_between_64 (fX11_between_13 n) t12 x2 i8 rv)) else (fX11_between_64 (fX11_between_13 n) x1 x2 i rv))
def fX11_between (i : Nat → Nat → Int32) (rv : Nat → Nat → Option Nat) : Option ((Int32) × (Nat → Nat → Int32)) := bn1 (fX11_noCar i) fun v1 =>
    if v1 = 0 then (fX11_between_13 fuel 0 0 i rv) else (some ((-1), i))
def fX3_lossOfAllByHand_4 (p1 : Nat) : Nat → Int32 → Int32 → (Nat → Nat → Int32) → (Nat → Nat → Option Nat) → Option ((Int32) × (Nat → Nat → Int32))
  | 0, _, _, _, _ => none
  | n + 1, x2, x3, i, rv => bn1 (fX1_papers 15 i) fun v1 =>
    if v1 ≤ x3 then (some (x2, i)) else (bn1 (fX8_inDrawer p1 x3 i) fun v3 =>
    bn2 (fX3_lossByHand p1 v3 i rv) fun v5 i6 =>
    fX3_lossOfAllByHand_4 p1 n (x2 + v5) (x3 + 1) i6 rv)
def fX3_lossOfAllByHand (p1 : Nat) (i : Nat → Nat → Int32) (rv : Nat → Nat → Option Nat) : Option ((Int32) × (Nat → Nat → Int32)) := fX3_lossOfAllByHand_4 p1 fuel 0 0 i rv
def fX11_houseHas_39 (x2 : Int32) (x4 : Int32) (x5 : Int32) (i : Nat → Nat → Int32) (rv : Nat → Nat → Option Nat) : Option ((Int32) × (Nat → Nat → Int32)) := if x4 = 1 then (bn2 (fX3_lossOfAllByHand 19 i rv) fun v5 i6 =>
    lt (x5 - ((v5 / (10 : Int32)) * x2)) fun t8 =>
    some (t8, i6)) else (some (x5, i))
def fX11_houseHas (a1 : Int32) (a2 : Int32) (a3 : Int32) (a4 : Int32) (i : Nat → Nat → Int32) (rv : Nat → Nat → Option Nat) : Option ((Int32) × (Nat → Nat → Int32)) := if a3 = 1 then (lt ((0 : Int32) - ((2 : Int32) * a2)) fun t1 =>
    if a4 = 0 then (bn1 (fX1_ofOfficer 15 a1 3 i) fun v2 =>
    lt (t1 + (v2 * (a2 - (1 : Int32)))) fun t4 =>
    fX11_houseHas_39 a2 a4 t4 i rv) else (fX11_houseHas_39 a2 a4 t1 i rv)) else (fX11_houseHas_39 a2 a4 0 i rv)
def fX11_officerHas (a0 : Int32) (a1 : Int32) (a2 : Int32) : Option ((Int32)) := some ((((((3 : Int32) * a0) * a1) + (a0 * a2)) - ((((2 : Int32) * a0) * a1) * a2)))
def fX11_favour_25 (x1 : Int32) (x2 : Int32) (x3 : Int32) (x4 : Int32) (x5 : Int32) (s0 : Int32) (i : Nat → Nat → Int32) (rv : Nat → Nat → Option Nat) : Option ((Int32) × (Nat → Nat → Int32)) := bn1 (fX1_hasOfficer 15 x1 i) fun v1 =>
    if v1 = 0 then (some ((-1000000), i)) else (if x2 < 1 then (some ((-1000000), i)) else (if 9 < x2 then (some ((-1000000), i)) else (if s0 = 0 then (some ((-1000000), i)) else (if x5 < 0 then (some ((-1000000), i)) else (if x5 ≤ 1 then (if x5 = 0 then (bn2 (fX11_houseHas x1 x2 x3 x4 i rv) fun v5 i6 =>
    some (v5, i6)) else (bn1 (fX11_officerHas x2 x3 x4) fun v3 =>
    some (v3, i))) else (some ((-1000000), i)))))))
def fX11_favour_20 (x1 : Int32) (x2 : Int32) (x3 : Int32) (x4 : Int32) (x5 : Int32) (i : Nat → Nat → Int32) (rv : Nat → Nat → Option Nat) : Option ((Int32) × (Nat → Nat → Int32)) := fX11_favour_25 x1 x2 x3 x4 x5 1 i rv
def fX11_favour_24 (x1 : Int32) (x2 : Int32) (x3 : Int32) (x4 : Int32) (x5 : Int32) (i : Nat → Nat → Int32) (rv : Nat → Nat → Option Nat) : Option ((Int32) × (Nat → Nat → Int32)) := fX11_favour_25 x1 x2 x3 x4 x5 0 i rv
def fX11_favour_9 (x1 : Int32) (x2 : Int32) (x3 : Int32) (x4 : Int32) (x5 : Int32) (i : Nat → Nat → Int32) (rv : Nat → Nat → Option Nat) : Option ((Int32) × (Nat → Nat → Int32)) := if x4 = 0 then (fX11_favour_20 x1 x2 x3 x4 x5 i rv) else (if x4 = 1 then (fX11_favour_20 x1 x2 x3 x4 x5 i rv) else (fX11_favour_24 x1 x2 x3 x4 x5 i rv))
def fX11_favour (a1 : Int32) (a2 : Int32) (a3 : Int32) (a4 : Int32) (a5 : Int32) (i : Nat → Nat → Int32) (rv : Nat → Nat → Option Nat) : Option ((Int32) × (Nat → Nat → Int32)) := if a3 = 0 then (fX11_favour_9 a1 a2 a3 a4 a5 i rv) else (if a3 = 1 then (fX11_favour_9 a1 a2 a3 a4 a5 i rv) else (fX11_favour_24 a1 a2 a3 a4 a5 i rv))
def fX11_rests_121 (kh30 : Int32 → Int32 → Int32 → Int32 → Int32 → (Nat → Nat → Int32) → (Nat → Nat → Option Nat) → Option ((Int32) × (Nat → Nat → Int32))) (kh39 : Int32 → Int32 → Int32 → Int32 → Int32 → Int32 → (Nat → Nat → Int32) → (Nat → Nat → Option Nat) → Option ((Int32) × (Nat → Nat → Int32))) (x1 : Int32) (x2 : Int32) (x3 : Int32) (x4 : Int32) (x5 : Int32) (x6 : Int32) (i : Nat → Nat → Int32) (rv : Nat → Nat → Option Nat) : Option ((Int32) × (Nat → Nat → Int32)) := kh39 x1 x2 x3 x4 x5 (x6 + 1) i rv
def fX11_rests_75 (kh30 : Int32 → Int32 → Int32 → Int32 → Int32 → (Nat → Nat → Int32) → (Nat → Nat → Option Nat) → Option ((Int32) × (Nat → Nat → Int32))) (kh39 : Int32 → Int32 → Int32 → Int32 → Int32 → Int32 → (Nat → Nat → Int32) → (Nat → Nat → Option Nat) → Option ((Int32) × (Nat → Nat → Int32))) (x1 : Int32) (x2 : Int32) (x3 : Int32) (x4 : Int32) (x5 : Int32) (x6 : Int32) (s0 : Int32) (i : Nat → Nat → Int32) (rv : Nat → Nat → Option Nat) : Option ((Int32) × (Nat → Nat → Int32)) := if s0 = 0 then (fX11_rests_121 kh30 kh39 x1 x2 x3 x4 x5 x6 i rv) else (bn1 (fX11_officerHas x2 x5 x6) fun v9 =>
    bn1 (fX11_officerHas x2 x5 ((1 : Int32) - x6)) fun v11 =>
    if v9 < v11 then (fX11_rests_121 kh30 kh39 x1 x2 x3 x4 x5 x6 i rv) else (if x4 = x3 then (some ((((10 : Int32) * x5) + x6), i)) else (fX11_rests_121 kh30 kh39 x1 x2 x3 (x4 + 1) x5 x6 i rv)))
def fX11_rests_39 (kh30 : Int32 → Int32 → Int32 → Int32 → Int32 → (Nat → Nat → Int32) → (Nat → Nat → Option Nat) → Option ((Int32) × (Nat → Nat → Int32))) : Nat → Int32 → Int32 → Int32 → Int32 → Int32 → Int32 → (Nat → Nat → Int32) → (Nat → Nat → Option Nat) → Option ((Int32) × (Nat → Nat → Int32))
  | 0, _, _, _, _, _, _, _, _ => none
  | n + 1, x1, x2, x3, x4, x5, x6, i, rv => if 1 < x6 then (kh30 x1 x2 x3 x4 (x5 + 1) i rv) else (bn2 (fX11_houseHas x1 x2 x5 x6 i rv) fun v3 i4 =>
    bn2 (fX11_houseHas x1 x2 ((1 : Int32) - x5) x6 i4 rv) fun v6 i7 =>
    if v3 < v6 then (fX11_rests_75 kh30 (fX11_rests_39 kh30 n) x1 x2 x3 x4 x5 x6 0 i7 rv) else (fX11_rests_75 kh30 (fX11_rests_39 kh30 n) x1 x2 x3 x4 x5 x6 1 i7 rv))
def fX11_rests_30 : Nat → Int32 → Int32 → Int32 → Int32 → Int32 → (Nat → Nat → Int32) → (Nat → Nat → Option Nat) → Option ((Int32) × (Nat → Nat → Int32))
  | 0, _, _, _, _, _, _, _ => none
  | n + 1, x1, x2, x3, x4, x5, i, rv => if 1 < x5 then (if x3 = (-1) then (some (x4, i)) else (some ((-1), i))) else (fX11_rests_39 (fX11_rests_30 n) fuel x1 x2 x3 x4 x5 0 i rv)
def fX11_rests (a1 : Int32) (a2 : Int32) (a3 : Int32) (i : Nat → Nat → Int32) (rv : Nat → Nat → Option Nat) : Option ((Int32) × (Nat → Nat → Int32)) := bn1 (fX1_hasOfficer 15 a1 i) fun v1 =>
    if v1 = 0 then (some ((-1), i)) else (if a2 < 1 then (some ((-1), i)) else (if a2 ≤ 9 then (fX11_rests_30 fuel a1 a2 a3 0 0 i rv) else (some ((-1), i))))
def fX2_officersWaking_70 (kh4 : Int32 → Int32 → Int32 → (Nat → Nat → Int32) → Option ((Int32))) (kh21 : Int32 → Int32 → Int32 → Int32 → Int32 → (Nat → Nat → Int32) → Option ((Int32))) (x1 : Int32) (x2 : Int32) (x3 : Int32) (x4 : Int32) (x5 : Int32) (i : Nat → Nat → Int32) : Option ((Int32)) := kh21 x1 x2 x3 x4 (x5 + 1) i
def fX2_officersWaking_88 (kh4 : Int32 → Int32 → Int32 → (Nat → Nat → Int32) → Option ((Int32))) (x1 : Int32) (x2 : Int32) (x3 : Int32) (i : Nat → Nat → Int32) : Option ((Int32)) := kh4 x1 x2 (x3 + 1) i
def fX2_officersWaking_21 (kh4 : Int32 → Int32 → Int32 → (Nat → Nat → Int32) → Option ((Int32))) : Nat → Int32 → Int32 → Int32 → Int32 → Int32 → (Nat → Nat → Int32) → Option ((Int32))
  | 0, _, _, _, _, _, _ => none
  | n + 1, x1, x2, x3, x4, x5, i => bn1 (fX1_papers 15 i) fun v3 =>
    if v3 ≤ x5 then (if x4 = x1 then (lt (x2 ||| ((1 : Int32) <<< (x3 &&& 31))) fun t5 =>
    fX2_officersWaking_88 kh4 x1 t5 x3 i) else (fX2_officersWaking_88 kh4 x1 x2 x3 i)) else (bn1 (fX8_inDrawer 19 x5 i) fun v6 =>
    bn1 (fX3_wakes 19 v6 x3 i) fun v8 =>
    if v8 = 0 then (fX2_officersWaking_70 kh4 (fX2_officersWaking_21 kh4 n) x1 x2 x3 x4 x5 i) else (lt (x4 ||| ((1 : Int32) <<< (v6 &&& 31))) fun t10 =>
    fX2_officersWaking_70 kh4 (fX2_officersWaking_21 kh4 n) x1 x2 x3 t10 x5 i))
def fX2_officersWaking_4 : Nat → Int32 → Int32 → Int32 → (Nat → Nat → Int32) → Option ((Int32))
  | 0, _, _, _, _ => none
  | n + 1, x1, x2, x3, i => bn1 (fX1_officers 15 i) fun v1 =>
    if v1 ≤ x3 then (some (x2)) else (fX2_officersWaking_21 (fX2_officersWaking_4 n) fuel x1 x2 x3 0 0 i)
def fX2_officersWaking (a1 : Int32) (i : Nat → Nat → Int32) : Option ((Int32)) := fX2_officersWaking_4 fuel a1 0 0 i
def fX11_which (a1 : Int32) (i : Nat → Nat → Int32) : Option ((Int32)) := bn1 (fX11_noCar i) fun v1 =>
    if v1 = 0 then (if a1 < 0 then (some ((-1))) else (bn1 (fX1_sleepers 15 i) fun v3 =>
    if a1 < ((1 : Int32) <<< (v3 &&& 31)) then (bn1 (fX2_officersWaking a1 i) fun v5 =>
    some (v5)) else (some ((-1))))) else (some ((-1)))
def fX11_woken (a1 : Int32) (i : Nat → Nat → Int32) : Option ((Int32)) := bn1 (fX1_hasSleeper 15 a1 i) fun v1 =>
    if v1 = 0 then (some ((-1))) else (bn1 (fX8_timesWoken 19 a1 i) fun v3 =>
    some (v3))
def fX11_tired_40 (kh6 : Int32 → Int32 → Int32 → (Nat → Nat → Int32) → Option ((Int32))) (x1 : Int32) (x2 : Int32) (x3 : Int32) (i : Nat → Nat → Int32) : Option ((Int32)) := kh6 x1 x2 (x3 + 1) i
def fX11_tired_6 : Nat → Int32 → Int32 → Int32 → (Nat → Nat → Int32) → Option ((Int32))
  | 0, _, _, _, _ => none
  | n + 1, x1, x2, x3, i => bn1 (fX1_sleepers 15 i) fun v1 =>
    if v1 ≤ x3 then (some (x2)) else (bn1 (fX8_lostBy 19 x3 i) fun v3 =>
    if v3 ≤ x1 then (fX11_tired_40 (fX11_tired_6 n) x1 x2 x3 i) else (bn1 (fX8_lostBy 19 x3 i) fun v5 =>
    fX11_tired_40 (fX11_tired_6 n) v5 x3 x3 i))
def fX11_tired (i : Nat → Nat → Int32) : Option ((Int32)) := fX11_tired_6 fuel 0 (-1) 0 i
def fX11_beside_46 (kh17 : Int32 → Int32 → Int32 → (Nat → Nat → Int32) → Option ((Int32))) (x1 : Int32) (x2 : Int32) (x3 : Int32) (i : Nat → Nat → Int32) : Option ((Int32)) := kh17 x1 x2 (x3 + 1) i
def fX11_beside_17 : Nat → Int32 → Int32 → Int32 → (Nat → Nat → Int32) → Option ((Int32))
  | 0, _, _, _, _ => none
  | n + 1, x1, x2, x3, i => bn1 (fX1_sleepers 15 i) fun v3 =>
    if v3 ≤ x3 then (some (x2)) else (bn1 (fX8_areBeside 19 x3 x1 i) fun v5 =>
    if v5 = 0 then (fX11_beside_46 (fX11_beside_17 n) x1 x2 x3 i) else (lt (x2 ||| ((1 : Int32) <<< (x3 &&& 31))) fun t7 =>
    fX11_beside_46 (fX11_beside_17 n) x1 t7 x3 i))
def fX11_beside (a1 : Int32) (i : Nat → Nat → Int32) : Option ((Int32)) := bn1 (fX1_hasSleeper 15 a1 i) fun v1 =>
    if v1 = 0 then (some ((-1))) else (fX11_beside_17 fuel a1 0 0 i)
def fX11_slack (a1 : Int32) (i : Nat → Nat → Int32) (rv : Nat → Nat → Option Nat) : Option ((Int32) × (Nat → Nat → Int32)) := bn1 (fX1_hasOfficer 15 a1 i) fun v1 =>
    if v1 = 0 then (some ((-1000000), i)) else (bn1 (fX1_allowedTens 15 i) fun v3 =>
    bn2 (fX3_pass 19 a1 0 i rv) fun v5 i6 =>
    some ((v3 - v5), i6))
def fX3_lastFetched (i : Nat → Nat → Int32) : Option ((Int32)) := some ((i 23 4))
def fX11_longest (a1 : Int32) (i : Nat → Nat → Int32) (rv : Nat → Nat → Option Nat) : Option ((Int32) × (Nat → Nat → Int32)) := bn1 (fX1_hasOfficer 15 a1 i) fun v1 =>
    if v1 = 0 then (some ((-1), i)) else (bn2 (fX3_pass 19 a1 0 i rv) fun v3 i4 =>
    bn1 (fX3_lastFetched i4) fun v6 =>
    some (v6, i4))
def fX6_keepImage (p1 : Nat) (i : Nat → Nat → Int32) : Option ((Nat → Nat → Int32)) := bn1 (fX8_copyTo p1 28 56 0 i) fun i1 =>
    if ¬ (0 : Int32) < 0 ∧ ¬ (0 : Int32) < 0 ∧ ¬ ((nI 400) : Int32) < 0 ∧ (0 : Int32).toNatClampNeg + ((nI 400) : Int32).toNatClampNeg ≤ 400 ∧ (0 : Int32).toNatClampNeg + ((nI 400) : Int32).toNatClampNeg ≤ 400 then
    (lt (cp2 i1 (i1 27) (0 : Int32).toNatClampNeg 29 (0 : Int32).toNatClampNeg ((nI 400) : Int32).toNatClampNeg) fun i3 => lt (u2 i3 25 6 1) fun i4 =>
    some (i4)) else none
def fX11_image (i : Nat → Nat → Int32) : Option ((Int32) × (Nat → Nat → Int32)) := bn1 (fX11_noCar i) fun v1 =>
    if v1 = 0 then (bn1 (fX6_keepImage 19 i) fun i3 =>
    bn1 (fX8_asleepInAll 19 i3) fun v5 =>
    some (v5, i3)) else (some ((-1), i))
def fX6_restoreImage (p1 : Nat) (i : Nat → Nat → Int32) : Option ((Int32) × (Nat → Nat → Int32)) := if (i 25 6) = 0 then (some (0, i)) else (bn1 (fX8_copyBack p1 28 56 0 i) fun i1 =>
    if ¬ (0 : Int32) < 0 ∧ ¬ (0 : Int32) < 0 ∧ ¬ ((nI 400) : Int32) < 0 ∧ (0 : Int32).toNatClampNeg + ((nI 400) : Int32).toNatClampNeg ≤ 400 ∧ (0 : Int32).toNatClampNeg + ((nI 400) : Int32).toNatClampNeg ≤ 400 then
    (lt (cp2 i1 (i1 29) (0 : Int32).toNatClampNeg 27 (0 : Int32).toNatClampNeg ((nI 400) : Int32).toNatClampNeg) fun i3 => lt (u2 i3 25 5 0) fun i4 =>
    some (1, i4)) else none)
def fX11_back (i : Nat → Nat → Int32) : Option ((Int32) × (Nat → Nat → Int32)) := bn2 (fX6_restoreImage 19 i) fun v1 i2 =>
    if v1 = 0 then (some ((-1), i2)) else (bn1 (fX8_asleepInAll 19 i2) fun v4 =>
    some (v4, i2))
def fX9_linesCount (i : Nat → Nat → Int32) : Option ((Int32)) := some ((i 3 5))
def fX2_heard (i : Nat → Nat → Int32) : Option ((Int32)) := some ((i 45 7))
def fX2_looks (i : Nat → Nat → Int32) : Option ((Int32)) := some ((i 45 8))
def fX11_count (a1 : Int32) (i : Nat → Nat → Int32) : Option ((Int32)) := if a1 = 0 then (bn1 (fX1_sleepers 15 i) fun v1 =>
    some (v1)) else
    if a1 = 1 then (bn1 (fX1_officers 15 i) fun v3 =>
    some (v3)) else
    if a1 = 2 then (bn1 (fX9_lawCount i) fun v5 =>
    some (v5)) else
    if a1 = 3 then (bn1 (fX9_linesCount i) fun v7 =>
    some (v7)) else
    if a1 = 4 then (bn1 (fX10_size i) fun v9 =>
    some (v9)) else
    if a1 = 5 then (some ((i 0 12))) else
    if a1 = 6 then (bn1 (fX1_papers 15 i) fun v11 =>
    some (v11)) else
    if a1 = 7 then (bn1 (fX8_asleepInAll 19 i) fun v13 =>
    some (v13)) else
    if a1 = 8 then (some ((i 0 11))) else
    if a1 = 9 then (bn1 (fX2_heard i) fun v15 =>
    some (v15)) else
    if a1 = 10 then (bn1 (fX2_looks i) fun v17 =>
    some (v17)) else
    if a1 = 11 then (bn1 (fX6_logged 19 i) fun v19 =>
    some (v19)) else
    if a1 = 12 then (bn1 (fX6_acts i) fun v21 =>
    some (v21)) else
    if a1 = 13 then (bn1 (fX8_lostInAll 19 i) fun v23 =>
    some (v23)) else
    (some ((-1000000)))
def fX12_thrown (i : Nat → Nat → Int32) : Option ((Int32)) := some ((i 50 0))
def fX12_isIn (a0 : Int64) (a1 : Int64) (a2 : Int64) : Option ((Int32)) := if (lg_cmp a0 a1) < 0 then (some (0)) else (if 0 < (lg_cmp a0 a2) then (some (0)) else (some (1)))
def fX12_has (a0 : Int32) (a1 : Int32) : Option ((Int32)) := if ((a0 >>> (a1 &&& 31)) &&& (1 : Int32)) = 1 then (some (1)) else (some (0))
def fJ0_coder_7d493 (j0 : Nat) : Option ((Int32)) := if (1 : Int32) = 0 then (if narrow .byte (.int 1) = .int 1 then
    some (1) else none) else (if narrow .byte (.int 0) = .int 0 then
    some (0) else none)
def fJ0_length_8abf5 (j0 : Nat) : Option ((Int32)) := bn1 (fJ0_coder_7d493 j0) fun v1 =>
    some (((nI (aLen.getD j0 0)) >>> (v1 &&& 31)))
def fX12_isAmong_2 (j0 : Nat) : Nat → Int32 → Int32 → Option ((Int32))
  | 0, _, _ => none
  | n + 1, x1, x2 => bn1 (fJ0_length_8abf5 j0) fun v1 =>
    if v1 ≤ x2 then (some (0)) else (bn1 (fJ0_charAt_5068e j0 x2) fun v3 =>
    if v3 = x1 then (some (1)) else (fX12_isAmong_2 j0 n x1 (x2 + 1)))
def fX12_isAmong (j0 : Nat) (a1 : Int32) : Option ((Int32)) := fX12_isAmong_2 j0 fuel a1 0
def fX12_bytesIn_25 (kh5 : Int32 → Int32 → Int32 → Option ((Int32))) (x0 : Int32) (x2 : Int32) (s0 : Int32) (s1 : Int32) : Option ((Int32)) := kh5 x0 (s0 + s1) (x2 + (-8))
def fX12_bytesIn_5 : Nat → Int32 → Int32 → Int32 → Option ((Int32))
  | 0, _, _, _ => none
  | n + 1, x0, x1, x2 => if x2 < 0 then (some (x1)) else (if ((x0 >>> (x2 &&& 31)) &&& (255 : Int32)) = 0 then (fX12_bytesIn_25 (fX12_bytesIn_5 n) x0 x2 x1 0) else (fX12_bytesIn_25 (fX12_bytesIn_5 n) x0 x2 x1 1))
def fX12_bytesIn (a0 : Int32) : Option ((Int32)) := fX12_bytesIn_5 fuel a0 0 24
def fX12_put_43 (kh3 : Int32 → Int32 → (Nat → Nat → Int32) → Option ((Nat → Nat → Int32))) (x1 : Int32) (x2 : Int32) (i : Nat → Nat → Int32) : Option ((Nat → Nat → Int32)) := kh3 x1 (x2 + (-8)) i
def fX12_put_3 : Nat → Int32 → Int32 → (Nat → Nat → Int32) → Option ((Nat → Nat → Int32))
  | 0, _, _, _ => none
  | n + 1, x1, x2, i => if x2 < 0 then (some (i)) else (if ((x1 >>> (x2 &&& 31)) &&& (255 : Int32)) = 0 then (fX12_put_43 (fX12_put_3 n) x1 x2 i) else (if aIn (i 50 6) 240 = true then
    (lt (u2 i 51 ((i 50 6) : Int32).toNatClampNeg (vp_nar .byte ((x1 >>> (x2 &&& 31)) : Int32).toInt8.toInt32)) fun i1 => lt (u2 i1 50 6 ((i1 50 6) + (1 : Int32))) fun i2 =>
    fX12_put_43 (fX12_put_3 n) x1 x2 i2) else none))
def fX12_put (a1 : Int32) (i : Nat → Nat → Int32) : Option ((Nat → Nat → Int32)) := fX12_put_3 fuel a1 24 i
def fX12_feed (a1 : Int32) (a2 : Int32) (a3 : Int32) (a4 : Int32) (a5 : Int32) (i : Nat → Nat → Int32) : Option ((Int32) × (Nat → Nat → Int32)) := lt (u2 i 50 0 0) fun i1 =>
    bn1 (fX12_bytesIn a1) fun v2 =>
    bn1 (fX12_bytesIn a2) fun v4 =>
    bn1 (fX12_bytesIn a3) fun v6 =>
    bn1 (fX12_bytesIn a4) fun v8 =>
    bn1 (fX12_bytesIn a5) fun v10 =>
    if ((((((i1 50 6) + v2) + v4) + v6) + v8) + v10) ≤ 240 then (bn1 (fX12_put a1 i1) fun i12 =>
    bn1 (fX12_put a2 i12) fun i14 =>
    bn1 (fX12_put a3 i14) fun i16 =>
    bn1 (fX12_put a4 i16) fun i18 =>
    bn1 (fX12_put a5 i18) fun i20 =>
    some ((i20 50 6), i20)) else (some ((-1), i1))
def fX12_end (a1 : Int32) (i : Nat → Nat → Int32) : Option ((Int32) × (Nat → Nat → Int32)) := lt (u2 i 50 0 0) fun i1 =>
    if a1 < 0 then (some (0, i1)) else (if a1 ≤ (i1 50 6) then (lt (u2 i1 50 6 a1) fun i2 =>
    some (1, i2)) else (some (0, i1)))
def fX12_look_43 (i : Nat → Nat → Int32) (rv : Nat → Nat → Option Nat) : Option ((Int32) × (Nat → Nat → Int32)) := if (i 50 9) ≤ (i 50 10) then (some ((-1), i)) else (if aIn ((i 50 8) + (i 50 10)) (bLen (plc (rv 50 5))) = true then
    (some (((i (plc (rv 50 5)) (((i 50 8) + (i 50 10)) : Int32).toNatClampNeg) &&& (255 : Int32)), i)) else none)
def fX12_look_0 : Nat → (Nat → Nat → Int32) → (Nat → Nat → Option Nat) → Option ((Int32) × (Nat → Nat → Int32))
  | 0, _, _ => none
  | n + 1, i, rv => if (i 50 9) ≤ (i 50 10) then (fX12_look_43 i rv) else (if aIn ((i 50 8) + (i 50 10)) (bLen (plc (rv 50 5))) = true then
    (if (i (plc (rv 50 5)) (((i 50 8) + (i 50 10)) : Int32).toNatClampNeg) = 32 then (lt (u2 i 50 10 ((i 50 10) + (1 : Int32))) fun i1 =>
    fX12_look_0 n i1 rv) else (fX12_look_43 i rv)) else none)
def fX12_look (i : Nat → Nat → Int32) (rv : Nat → Nat → Option Nat) : Option ((Int32) × (Nat → Nat → Int32)) := fX12_look_0 fuel i rv
def fX12_fails (i : Nat → Nat → Int32) : Option ((Int32) × (Nat → Nat → Int32)) := if (i 50 11) = (-1) then (lt (u2 i 50 11 (i 50 10)) fun i1 =>
    some (0, i1)) else (some (0, i))
def fX12_goesIn (i : Nat → Nat → Int32) : Option ((Int32) × (Nat → Nat → Int32)) := if (i 50 12) = 6 then (bn2 (fX12_fails i) fun v3 i4 =>
    if narrow .boolean (.int v3) = .int v3 then
    some (v3, i4) else none) else (lt (u2 i 50 12 ((i 50 12) + (1 : Int32))) fun i1 =>
    lt (u2 i1 50 10 ((i1 50 10) + (1 : Int32))) fun i2 =>
    some (1, i2))
def fX12_takes_16 (i : Nat → Nat → Int32) (rv : Nat → Nat → Option Nat) : Option ((Int32) × (Nat → Nat → Int32)) := bn2 (fX12_fails i) fun v5 i6 =>
    if narrow .boolean (.int v5) = .int v5 then
    some (v5, i6) else none
def fX12_takes (a1 : Int32) (i : Nat → Nat → Int32) (rv : Nat → Nat → Option Nat) : Option ((Int32) × (Nat → Nat → Int32)) := if (i 50 11) = (-1) then (bn2 (fX12_look i rv) fun v1 i2 =>
    if v1 = a1 then (lt (u2 i2 50 10 ((i2 50 10) + (1 : Int32))) fun i4 =>
    some (1, i4)) else (fX12_takes_16 i2 rv)) else (fX12_takes_16 i rv)
def fX12_isDigit (i : Nat → Nat → Int32) (rv : Nat → Nat → Option Nat) : Option ((Int32)) := if (i 50 9) ≤ (i 50 10) then (some (0)) else (if aIn ((i 50 8) + (i 50 10)) (bLen (plc (rv 50 5))) = true then
    (if (i (plc (rv 50 5)) (((i 50 8) + (i 50 10)) : Int32).toNatClampNeg) < 48 then (some (0)) else (if aIn ((i 50 8) + (i 50 10)) (bLen (plc (rv 50 5))) = true then
    (if 57 < (i (plc (rv 50 5)) (((i 50 8) + (i 50 10)) : Int32).toNatClampNeg) then (some (0)) else (some (1))) else none)) else none)
def fX12_within (a0 : Int64) : Option ((Int32)) := some (((if (if a0 < (1000000 : Int64) then a0 else (1000000 : Int64)) < ((-1000000) : Int64) then ((-1000000) : Int64) else (if a0 < (1000000 : Int64) then a0 else (1000000 : Int64)))).toInt32)
def fX12_atom_90 (gs : (Nat → Nat → Int32) → (Nat → Nat → Option Nat) → Option ((Int32) × (Nat → Nat → Int32))) : Nat → Int32 → Int32 → (Nat → Nat → Int32) → (Nat → Nat → Option Nat) → Option ((Int32) × (Nat → Nat → Int32))
  | 0, _, _, _, _ => none
  | n + 1, x2, x3, i, rv => bn1 (fX12_isDigit i rv) fun v22 =>
    if v22 = 0 then (some (x2, i)) else (if (i 50 11) = (-1) then (if x3 = 4 then (bn2 (fX12_fails i) fun v26 i27 =>
    some (0, i27)) else (if aIn ((i 50 8) + (i 50 10)) (bLen (plc (rv 50 5))) = true then
    (lt ((((10 : Int32) * x2) + (i (plc (rv 50 5)) (((i 50 8) + (i 50 10)) : Int32).toNatClampNeg)) - (48 : Int32)) fun t24 =>
    lt (u2 i 50 10 ((i 50 10) + (1 : Int32))) fun i25 =>
    fX12_atom_90 gs n t24 (x3 + 1) i25 rv) else none)) else (some (x2, i)))
def fX12_atom_86 (gs : (Nat → Nat → Int32) → (Nat → Nat → Option Nat) → Option ((Int32) × (Nat → Nat → Int32))) (i : Nat → Nat → Int32) (rv : Nat → Nat → Option Nat) : Option ((Int32) × (Nat → Nat → Int32)) := fX12_atom_90 gs fuel 0 0 i rv
def fX12_atom (gs : (Nat → Nat → Int32) → (Nat → Nat → Option Nat) → Option ((Int32) × (Nat → Nat → Int32))) (i : Nat → Nat → Int32) (rv : Nat → Nat → Option Nat) : Option ((Int32) × (Nat → Nat → Int32)) := bn2 (fX12_look i rv) fun v1 i2 =>
    bn1 (fX12_isAmong 2 v1) fun v4 =>
    if v4 = 0 then (if v1 = 91 then (bn2 (fX12_goesIn i2) fun v11 i12 =>
    if v11 = 0 then (some (0, i12)) else (bn2 (gs i12 rv) fun v14 i15 =>
    bn2 (fX12_takes 93 i15 rv) fun v17 i18 =>
    if v17 = 0 then (some (0, i18)) else (lt (u2 i18 50 12 ((i18 50 12) - (1 : Int32))) fun i20 =>
    some (v14, i20)))) else (bn1 (fX12_isDigit i2 rv) fun v6 =>
    if v6 = 0 then (bn2 (fX12_fails i2) fun v8 i9 =>
    fX12_atom_86 gs i9 rv) else (fX12_atom_86 gs i2 rv))) else (lt (u2 i2 50 10 ((i2 50 10) + (1 : Int32))) fun i21 =>
    if aIn v1 128 = true then
    (some ((i21 54 (v1 : Int32).toNatClampNeg), i21)) else none)
def fX12_term_87 (gs : (Nat → Nat → Int32) → (Nat → Nat → Option Nat) → Option ((Int32) × (Nat → Nat → Int32))) (kh5 : Int32 → (Nat → Nat → Int32) → (Nat → Nat → Option Nat) → Option ((Int32) × (Nat → Nat → Int32))) (s0 : Int64) (i : Nat → Nat → Int32) (rv : Nat → Nat → Option Nat) : Option ((Int32) × (Nat → Nat → Int32)) := bn1 (fX12_within s0) fun v17 =>
    kh5 v17 i rv
def fX12_term_45 (gs : (Nat → Nat → Int32) → (Nat → Nat → Option Nat) → Option ((Int32) × (Nat → Nat → Int32))) (kh5 : Int32 → (Nat → Nat → Int32) → (Nat → Nat → Option Nat) → Option ((Int32) × (Nat → Nat → Int32))) (x1 : Int32) (s0 : Int32) (i : Nat → Nat → Int32) (rv : Nat → Nat → Option Nat) : Option ((Int32) × (Nat → Nat → Int32)) := lt (u2 i 50 10 ((i 50 10) + (1 : Int32))) fun i13 =>
    bn2 (fX12_atom gs i13 rv) fun v14 i15 =>
    if s0 = 0 then (if (lg_cmp (v14 : Int32).toInt64 0) = 0 then (fX12_term_87 gs kh5 0 i15 rv) else (if (v14 : Int32).toInt64 = 0 then none else
    fX12_term_87 gs kh5 ((x1 : Int32).toInt64 / (v14 : Int32).toInt64) i15 rv)) else (fX12_term_87 gs kh5 ((x1 : Int32).toInt64 * (v14 : Int32).toInt64) i15 rv)
def fX12_term_31 (gs : (Nat → Nat → Int32) → (Nat → Nat → Option Nat) → Option ((Int32) × (Nat → Nat → Int32))) (kh5 : Int32 → (Nat → Nat → Int32) → (Nat → Nat → Option Nat) → Option ((Int32) × (Nat → Nat → Int32))) (x1 : Int32) (i : Nat → Nat → Int32) (rv : Nat → Nat → Option Nat) : Option ((Int32) × (Nat → Nat → Int32)) := bn2 (fX12_look i rv) fun v10 i11 =>
    if v10 = 42 then (fX12_term_45 gs kh5 x1 1 i11 rv) else (fX12_term_45 gs kh5 x1 0 i11 rv)
def fX12_term_5 (gs : (Nat → Nat → Int32) → (Nat → Nat → Option Nat) → Option ((Int32) × (Nat → Nat → Int32))) : Nat → Int32 → (Nat → Nat → Int32) → (Nat → Nat → Option Nat) → Option ((Int32) × (Nat → Nat → Int32))
  | 0, _, _, _ => none
  | n + 1, x1, i, rv => if (i 50 11) = (-1) then (bn2 (fX12_look i rv) fun v4 i5 =>
    if v4 = 42 then (fX12_term_31 gs (fX12_term_5 gs n) x1 i5 rv) else (bn2 (fX12_look i5 rv) fun v7 i8 =>
    if v7 = 47 then (fX12_term_31 gs (fX12_term_5 gs n) x1 i8 rv) else (some (x1, i8)))) else (some (x1, i))
def fX12_term (gs : (Nat → Nat → Int32) → (Nat → Nat → Option Nat) → Option ((Int32) × (Nat → Nat → Int32))) (i : Nat → Nat → Int32) (rv : Nat → Nat → Option Nat) : Option ((Int32) × (Nat → Nat → Int32)) := bn2 (fX12_atom gs i rv) fun v1 i2 =>
    fX12_term_5 gs fuel v1 i2 rv
def fX12_sum_77 (gs : (Nat → Nat → Int32) → (Nat → Nat → Option Nat) → Option ((Int32) × (Nat → Nat → Int32))) (kh5 : Int32 → (Nat → Nat → Int32) → (Nat → Nat → Option Nat) → Option ((Int32) × (Nat → Nat → Int32))) (s0 : Int64) (i : Nat → Nat → Int32) (rv : Nat → Nat → Option Nat) : Option ((Int32) × (Nat → Nat → Int32)) := bn1 (fX12_within s0) fun v17 =>
    kh5 v17 i rv
def fX12_sum_45 (gs : (Nat → Nat → Int32) → (Nat → Nat → Option Nat) → Option ((Int32) × (Nat → Nat → Int32))) (kh5 : Int32 → (Nat → Nat → Int32) → (Nat → Nat → Option Nat) → Option ((Int32) × (Nat → Nat → Int32))) (x1 : Int32) (s0 : Int32) (i : Nat → Nat → Int32) (rv : Nat → Nat → Option Nat) : Option ((Int32) × (Nat → Nat → Int32)) := lt (u2 i 50 10 ((i 50 10) + (1 : Int32))) fun i13 =>
    bn2 (fX12_term gs i13 rv) fun v14 i15 =>
    if s0 = 0 then (fX12_sum_77 gs kh5 ((x1 : Int32).toInt64 - (v14 : Int32).toInt64) i15 rv) else (fX12_sum_77 gs kh5 ((x1 : Int32).toInt64 + (v14 : Int32).toInt64) i15 rv)
def fX12_sum_31 (gs : (Nat → Nat → Int32) → (Nat → Nat → Option Nat) → Option ((Int32) × (Nat → Nat → Int32))) (kh5 : Int32 → (Nat → Nat → Int32) → (Nat → Nat → Option Nat) → Option ((Int32) × (Nat → Nat → Int32))) (x1 : Int32) (i : Nat → Nat → Int32) (rv : Nat → Nat → Option Nat) : Option ((Int32) × (Nat → Nat → Int32)) := bn2 (fX12_look i rv) fun v10 i11 =>
    if v10 = 43 then (fX12_sum_45 gs kh5 x1 1 i11 rv) else (fX12_sum_45 gs kh5 x1 0 i11 rv)
def fX12_sum_5 (gs : (Nat → Nat → Int32) → (Nat → Nat → Option Nat) → Option ((Int32) × (Nat → Nat → Int32))) : Nat → Int32 → (Nat → Nat → Int32) → (Nat → Nat → Option Nat) → Option ((Int32) × (Nat → Nat → Int32))
  | 0, _, _, _ => none
  | n + 1, x1, i, rv => if (i 50 11) = (-1) then (bn2 (fX12_look i rv) fun v4 i5 =>
    if v4 = 43 then (fX12_sum_31 gs (fX12_sum_5 gs n) x1 i5 rv) else (bn2 (fX12_look i5 rv) fun v7 i8 =>
    if v7 = 45 then (fX12_sum_31 gs (fX12_sum_5 gs n) x1 i8 rv) else (some (x1, i8)))) else (some (x1, i))
def fX12_sumb (gs : (Nat → Nat → Int32) → (Nat → Nat → Option Nat) → Option ((Int32) × (Nat → Nat → Int32))) (i : Nat → Nat → Int32) (rv : Nat → Nat → Option Nat) : Option ((Int32) × (Nat → Nat → Int32)) := bn2 (fX12_term gs i rv) fun v1 i2 =>
    fX12_sum_5 gs fuel v1 i2 rv
def fX12_sum : Nat → (Nat → Nat → Int32) → (Nat → Nat → Option Nat) → Option ((Int32) × (Nat → Nat → Int32))
  | 0, _, _ => none
  | n + 1, i, rv => fX12_sumb (fX12_sum n) i rv
def fX12_isSign_18 : Option ((Int32)) := some (1)
def fX12_isSign (a0 : Int32) : Option ((Int32)) := if a0 = 61 then (fX12_isSign_18 ) else (if a0 = 60 then (fX12_isSign_18 ) else (if a0 = 62 then (fX12_isSign_18 ) else (some (0))))
def fX12_compares_12 (s0 : Int32) (i : Nat → Nat → Int32) (rv : Nat → Nat → Option Nat) : Option ((Int32) × (Nat → Nat → Int32)) := if (i 50 11) = (-1) then (bn2 (fX12_look i rv) fun v4 i5 =>
    bn1 (fX12_isSign v4) fun v7 =>
    if v7 = 0 then (bn2 (fX12_fails i5) fun v13 i14 =>
    if narrow .boolean (.int v13) = .int v13 then
    some (v13, i14) else none) else (lt (u2 i5 50 10 ((i5 50 10) + (1 : Int32))) fun i9 =>
    bn2 (fX12_sum 12 i9 rv) fun v10 i11 =>
    if v4 = 61 then (if s0 = v10 then (some (1, i11)) else (some (0, i11))) else (if v4 = 60 then (if v10 ≤ s0 then (some (0, i11)) else (some (1, i11))) else (if s0 ≤ v10 then (some (0, i11)) else (some (1, i11)))))) else (some (0, i))
def fX12_compares (a1 : Int32) (a2 : Int32) (i : Nat → Nat → Int32) (rv : Nat → Nat → Option Nat) : Option ((Int32) × (Nat → Nat → Int32)) := if a1 = 0 then (bn2 (fX12_sum 12 i rv) fun v1 i2 =>
    fX12_compares_12 v1 i2 rv) else (fX12_compares_12 a2 i rv)
def fX12_part_65 (gs : (Nat → Nat → Int32) → (Nat → Nat → Option Nat) → Option ((Int32) × (Nat → Nat → Int32))) (kh18 : Int32 → (Nat → Nat → Int32) → (Nat → Nat → Option Nat) → Option ((Int32) × (Nat → Nat → Int32))) (s0 : Int32) (i : Nat → Nat → Int32) (rv : Nat → Nat → Option Nat) : Option ((Int32) × (Nat → Nat → Int32)) := kh18 s0 i rv
def fX12_part_64 (gs : (Nat → Nat → Int32) → (Nat → Nat → Option Nat) → Option ((Int32) × (Nat → Nat → Int32))) (kh18 : Int32 → (Nat → Nat → Int32) → (Nat → Nat → Option Nat) → Option ((Int32) × (Nat → Nat → Int32))) (i : Nat → Nat → Int32) (rv : Nat → Nat → Option Nat) : Option ((Int32) × (Nat → Nat → Int32)) := fX12_part_65 gs kh18 0 i rv
def fX12_part_18 (gs : (Nat → Nat → Int32) → (Nat → Nat → Option Nat) → Option ((Int32) × (Nat → Nat → Int32))) : Nat → Int32 → (Nat → Nat → Int32) → (Nat → Nat → Option Nat) → Option ((Int32) × (Nat → Nat → Int32))
  | 0, _, _, _ => none
  | n + 1, x3, i, rv => if (i 50 11) = (-1) then (bn2 (fX12_look i rv) fun v7 i8 =>
    if v7 = 38 then (lt (u2 i8 50 10 ((i8 50 10) + (1 : Int32))) fun i10 =>
    bn2 (gs i10 rv) fun v11 i12 =>
    if x3 = 0 then (fX12_part_64 gs (fX12_part_18 gs n) i12 rv) else (if v11 = 0 then (fX12_part_64 gs (fX12_part_18 gs n) i12 rv) else (fX12_part_65 gs (fX12_part_18 gs n) 1 i12 rv))) else (if narrow .boolean (.int x3) = .int x3 then
    some (x3, i8) else none)) else (if narrow .boolean (.int x3) = .int x3 then
    some (x3, i) else none)
def fX12_part_17 (gs : (Nat → Nat → Int32) → (Nat → Nat → Option Nat) → Option ((Int32) × (Nat → Nat → Int32))) (s0 : Int32) (i : Nat → Nat → Int32) (rv : Nat → Nat → Option Nat) : Option ((Int32) × (Nat → Nat → Int32)) := fX12_part_18 gs fuel s0 i rv
def fX12_part (gs : (Nat → Nat → Int32) → (Nat → Nat → Option Nat) → Option ((Int32) × (Nat → Nat → Int32))) (a1 : Int32) (a2 : Int32) (i : Nat → Nat → Int32) (rv : Nat → Nat → Option Nat) : Option ((Int32) × (Nat → Nat → Int32)) := if a1 = 0 then (bn2 (gs i rv) fun v1 i2 =>
    fX12_part_17 gs v1 i2 rv) else (bn2 (fX12_compares 1 a2 i rv) fun v4 i5 =>
    fX12_part_17 gs v4 i5 rv)
def fX12_condition_56 (gs : (Nat → Nat → Int32) → (Nat → Nat → Option Nat) → Option ((Int32) × (Nat → Nat → Int32))) (kh7 : Int32 → (Nat → Nat → Int32) → (Nat → Nat → Option Nat) → Option ((Int32) × (Nat → Nat → Int32))) (s0 : Int32) (i : Nat → Nat → Int32) (rv : Nat → Nat → Option Nat) : Option ((Int32) × (Nat → Nat → Int32)) := kh7 s0 i rv
def fX12_condition_51 (gs : (Nat → Nat → Int32) → (Nat → Nat → Option Nat) → Option ((Int32) × (Nat → Nat → Int32))) (kh7 : Int32 → (Nat → Nat → Int32) → (Nat → Nat → Option Nat) → Option ((Int32) × (Nat → Nat → Int32))) (i : Nat → Nat → Int32) (rv : Nat → Nat → Option Nat) : Option ((Int32) × (Nat → Nat → Int32)) := fX12_condition_56 gs kh7 1 i rv
def fX12_condition_7 (gs : (Nat → Nat → Int32) → (Nat → Nat → Option Nat) → Option ((Int32) × (Nat → Nat → Int32))) : Nat → Int32 → (Nat → Nat → Int32) → (Nat → Nat → Option Nat) → Option ((Int32) × (Nat → Nat → Int32))
  | 0, _, _, _ => none
  | n + 1, x3, i, rv => if (i 50 11) = (-1) then (bn2 (fX12_look i rv) fun v4 i5 =>
    if v4 = 124 then (lt (u2 i5 50 10 ((i5 50 10) + (1 : Int32))) fun i7 =>
    bn2 (fX12_part gs 0 0 i7 rv) fun v8 i9 =>
    if x3 = 0 then (if v8 = 0 then (fX12_condition_56 gs (fX12_condition_7 gs n) 0 i9 rv) else (fX12_condition_51 gs (fX12_condition_7 gs n) i9 rv)) else (fX12_condition_51 gs (fX12_condition_7 gs n) i9 rv)) else (if narrow .boolean (.int x3) = .int x3 then
    some (x3, i5) else none)) else (if narrow .boolean (.int x3) = .int x3 then
    some (x3, i) else none)
def fX12_condition (gs : (Nat → Nat → Int32) → (Nat → Nat → Option Nat) → Option ((Int32) × (Nat → Nat → Int32))) (a1 : Int32) (a2 : Int32) (i : Nat → Nat → Int32) (rv : Nat → Nat → Option Nat) : Option ((Int32) × (Nat → Nat → Int32)) := bn2 (fX12_part gs a1 a2 i rv) fun v1 i2 =>
    fX12_condition_7 gs fuel v1 i2 rv
def fX12_unitb (gs : (Nat → Nat → Int32) → (Nat → Nat → Option Nat) → Option ((Int32) × (Nat → Nat → Int32))) (i : Nat → Nat → Int32) (rv : Nat → Nat → Option Nat) : Option ((Int32) × (Nat → Nat → Int32)) := bn2 (fX12_look i rv) fun v1 i2 =>
    if v1 = 33 then (bn2 (fX12_goesIn i2) fun v17 i18 =>
    if v17 = 0 then (some (0, i18)) else (bn2 (gs i18 rv) fun v20 i21 =>
    lt (u2 i21 50 12 ((i21 50 12) - (1 : Int32))) fun i23 =>
    if v20 = 0 then (some (1, i23)) else (some (0, i23)))) else (if v1 = 40 then (bn2 (fX12_goesIn i2) fun v7 i8 =>
    if v7 = 0 then (some (0, i8)) else (bn2 (fX12_condition gs 0 0 i8 rv) fun v10 i11 =>
    bn2 (fX12_takes 41 i11 rv) fun v13 i14 =>
    if v13 = 0 then (some (0, i14)) else (lt (u2 i14 50 12 ((i14 50 12) - (1 : Int32))) fun i16 =>
    if narrow .boolean (.int v10) = .int v10 then
    some (v10, i16) else none))) else (bn2 (fX12_compares 0 0 i2 rv) fun v4 i5 =>
    if narrow .boolean (.int v4) = .int v4 then
    some (v4, i5) else none))
def fX12_unit : Nat → (Nat → Nat → Int32) → (Nat → Nat → Option Nat) → Option ((Int32) × (Nat → Nat → Int32))
  | 0, _, _ => none
  | n + 1, i, rv => fX12_unitb (fX12_unit n) i rv
def fX12_clause_134 (x1 : Int32) (x2 : Int32) (x3 : Int32) (i : Nat → Nat → Int32) (rv : Nat → Nat → Option Nat) : Option ((Nat → Nat → Int32)) := if (i 50 11) = (-1) then (if (i 50 17) = 0 then (if x1 = (i 50 13) then (if x2 = 0 then (some (i)) else (lt (u2 i 50 17 1) fun i42 =>
    lt (u2 i42 50 14 x3) fun i43 =>
    some (i43))) else (some (i))) else (some (i))) else (some (i))
def fX12_clause_64 (x1 : Int32) (i : Nat → Nat → Int32) (rv : Nat → Nat → Option Nat) : Option ((Nat → Nat → Int32)) := bn2 (fX12_condition (fX12_unit 12) 0 0 i rv) fun v33 i34 =>
    bn2 (fX12_takes 63 i34 rv) fun v36 i37 =>
    if v36 = 0 then (some (i37)) else (bn2 (fX12_sum 12 i37 rv) fun v39 i40 =>
    fX12_clause_134 x1 v33 v39 i40 rv)
def fX12_clause (i : Nat → Nat → Int32) (rv : Nat → Nat → Option Nat) : Option ((Nat → Nat → Int32)) := bn2 (fX12_look i rv) fun v1 i2 =>
    bn1 (fX12_isAmong 5 v1) fun v4 =>
    if v4 = 0 then (bn2 (fX12_fails i2) fun v30 i31 =>
    some (i31)) else (lt (u2 i2 50 10 ((i2 50 10) + (1 : Int32))) fun i6 =>
    bn2 (fX12_takes 58 i6 rv) fun v7 i8 =>
    if v7 = 0 then (some (i8)) else (bn2 (fX12_look i8 rv) fun v10 i11 =>
    if v10 = 33 then (fX12_clause_64 v1 i11 rv) else (if v10 = 40 then (fX12_clause_64 v1 i11 rv) else (bn2 (fX12_sum 12 i11 rv) fun v13 i14 =>
    if (i14 50 11) = (-1) then (bn2 (fX12_look i14 rv) fun v16 i17 =>
    bn1 (fX12_isSign v16) fun v19 =>
    if v19 = 0 then (fX12_clause_134 v1 1 v13 i17 rv) else (bn2 (fX12_condition (fX12_unit 12) 1 v13 i17 rv) fun v21 i22 =>
    bn2 (fX12_takes 63 i22 rv) fun v24 i25 =>
    if v24 = 0 then (some (i25)) else (bn2 (fX12_sum 12 i25 rv) fun v27 i28 =>
    fX12_clause_134 v1 v21 v27 i28 rv))) else (fX12_clause_134 v1 1 v13 i14 rv)))))
def fX12_starts (w1 : Nat) (a2 : Int32) (a3 : Int32) (i : Nat → Nat → Int32) (rv : Nat → Nat → Option Nat) : Option ((Nat → Nat → Int32) × (Nat → Nat → Option Nat)) := lt (u2 rv 50 5 (some (100 + w1))) fun rv1 =>
    lt (u2 i 50 8 a2) fun i2 =>
    lt (u2 i2 50 9 a3) fun i3 =>
    lt (u2 i3 50 10 0) fun i4 =>
    lt (u2 i4 50 11 (-1)) fun i5 =>
    some (i5, rv1)
def fX12_goThrough_66 (w1 : Nat) (i : Nat → Nat → Int32) (rv : Nat → Nat → Option Nat) : Option ((Nat → Nat → Int32) × (Nat → Nat → Option Nat)) := if (i 50 11) = (-1) then (bn2 (fX12_look i rv) fun v16 i17 =>
    if v16 = (-1) then (some (i17, rv)) else (bn2 (fX12_fails i17) fun v19 i20 =>
    some (i20, rv))) else (some (i, rv))
def fX12_goThrough_32 (w1 : Nat) : Nat → (Nat → Nat → Int32) → (Nat → Nat → Option Nat) → Option ((Nat → Nat → Int32) × (Nat → Nat → Option Nat))
  | 0, _, _ => none
  | n + 1, i, rv => if (i 50 11) = (-1) then (bn2 (fX12_look i rv) fun v10 i11 =>
    if v10 = 59 then (lt (u2 i11 50 10 ((i11 50 10) + (1 : Int32))) fun i13 =>
    bn1 (fX12_clause i13 rv) fun i14 =>
    fX12_goThrough_32 w1 n i14 rv) else (fX12_goThrough_66 w1 i11 rv)) else (fX12_goThrough_66 w1 i rv)
def fX12_goThrough (w1 : Nat) (a2 : Int32) (a3 : Int32) (i : Nat → Nat → Int32) (rv : Nat → Nat → Option Nat) : Option ((Nat → Nat → Int32) × (Nat → Nat → Option Nat)) := bn2 (fX12_starts w1 a2 a3 i rv) fun i1 rv2 =>
    lt (u2 i1 50 13 121) fun i4 =>
    lt (u2 i4 50 12 0) fun i5 =>
    lt (u2 i5 50 17 0) fun i6 =>
    lt (u2 i6 50 14 0) fun i7 =>
    bn1 (fX12_clause i7 rv2) fun i8 =>
    fX12_goThrough_32 w1 fuel i8 rv2
def fX12_here (i : Nat → Nat → Int32) (rv : Nat → Nat → Option Nat) : Option ((Int32)) := if (i 50 9) ≤ (i 50 10) then (some ((-1))) else (if aIn ((i 50 8) + (i 50 10)) (bLen (plc (rv 50 5))) = true then
    (some (((i (plc (rv 50 5)) (((i 50 8) + (i 50 10)) : Int32).toNatClampNeg) &&& (255 : Int32)))) else none)
def fX12_spotOf_2 (j0 : Nat) : Nat → Int32 → Int32 → Option ((Int32))
  | 0, _, _ => none
  | n + 1, x1, x2 => bn1 (fJ0_length_8abf5 j0) fun v1 =>
    if v1 ≤ x2 then (some ((-1))) else (bn1 (fJ0_charAt_5068e j0 x2) fun v3 =>
    if v3 = x1 then (some (x2)) else (fX12_spotOf_2 j0 n x1 (x2 + 1)))
def fX12_spotOf (j0 : Nat) (a1 : Int32) : Option ((Int32)) := fX12_spotOf_2 j0 fuel a1 0
def fX12_number_67 (x1 : Int32) (x2 : Int32) (x4 : Int32) (i : Nat → Nat → Int32) (rv : Nat → Nat → Option Nat) : Option ((Int32) × (Nat → Nat → Int32)) := bn1 (fX12_isDigit i rv) fun v16 =>
    if v16 = 0 then (bn1 (fX12_isIn (x4 : Int32).toInt64 (x1 : Int32).toInt64 (x2 : Int32).toInt64) fun v18 =>
    if v18 = 0 then (lt (u2 i 50 10 ((i 50 10) - (1 : Int32))) fun i20 =>
    bn2 (fX12_fails i20) fun v21 i22 =>
    some (x4, i22)) else (some (x4, i))) else (bn2 (fX12_fails i) fun v24 i25 =>
    some (0, i25))
def fX12_number (a1 : Int32) (a2 : Int32) (i : Nat → Nat → Int32) (rv : Nat → Nat → Option Nat) : Option ((Int32) × (Nat → Nat → Int32)) := bn2 (fX12_look i rv) fun v1 i2 =>
    bn1 (fX12_isDigit i2 rv) fun v4 =>
    if v4 = 0 then (bn2 (fX12_fails i2) fun v13 i14 =>
    some (0, i14)) else (lt (u2 i2 50 10 ((i2 50 10) + (1 : Int32))) fun i6 =>
    bn1 (fX12_isDigit i6 rv) fun v7 =>
    if v7 = 0 then (fX12_number_67 a1 a2 (v1 - (48 : Int32)) i6 rv) else (bn1 (fX12_here i6 rv) fun v9 =>
    lt ((((10 : Int32) * (v1 - (48 : Int32))) + v9) - (48 : Int32)) fun t11 =>
    lt (u2 i6 50 10 ((i6 50 10) + (1 : Int32))) fun i12 =>
    fX12_number_67 a1 a2 t11 i12 rv))
def fX12_mostOf (a0 : Int32) (a1 : Int32) : Option ((Int32)) := if a0 = 115 then (if a1 = 0 then (some (60)) else (if a1 = 1 then (some (99)) else (some (9)))) else (if a0 = 112 then (if a1 = 5 then (some (1)) else (some (9))) else (if a1 = 1 then (some (1)) else (some (9))))
def fX12_leastOf (a0 : Int32) (a1 : Int32) : Option ((Int32)) := if a0 = 111 then (some (0)) else (if a1 = 0 then (some (1)) else (some (0)))
def fX12_usual (a0 : Int32) (a1 : Int32) : Option ((Int32)) := if a0 = 115 then (if a1 = 0 then (some (11)) else (if a1 = 1 then (some (20)) else (if a1 = 2 then (some (2)) else (some (3))))) else (if a0 = 112 then (if a1 = 0 then (some (2)) else (if a1 = 2 then (some (3)) else (some (0)))) else (if a1 = 1 then (some (0)) else (some (1))))
def fX12_readItems_45 (w2 : Nat) (n2 : Nat) (j4 : Nat) : Nat → Int32 → Int32 → Int32 → Int32 → (Nat → Nat → Int32) → (Nat → Nat → Option Nat) → Option ((Nat → Nat → Int32))
  | 0, _, _, _, _, _, _ => none
  | n + 1, x1, x3, x5, x6, i, rv => if x6 = (-1) then (some (i)) else (if (i 50 11) = (-1) then (bn1 (fX12_has x5 x6) fun v11 =>
    if v11 = 0 then (lt (x5 ||| ((1 : Int32) <<< (x6 &&& 31))) fun t13 =>
    lt (u2 i 50 10 ((i 50 10) + (1 : Int32))) fun i14 =>
    bn1 (fX12_leastOf x1 x6) fun v15 =>
    bn1 (fX12_mostOf x1 x6) fun v17 =>
    bn2 (fX12_number v15 v17 i14 rv) fun v19 i20 =>
    if aIn (x3 + x6) n2 = true then
    (lt (u2 i20 w2 ((x3 + x6) : Int32).toNatClampNeg v19) fun i22 => if (i22 50 11) = (-1) then (bn2 (fX12_look i22 rv) fun v23 i24 =>
    bn1 (fX12_spotOf j4 v23) fun v26 =>
    fX12_readItems_45 w2 n2 j4 n x1 x3 t13 v26 i24 rv) else (fX12_readItems_45 w2 n2 j4 n x1 x3 t13 x6 i22 rv)) else none) else (bn2 (fX12_fails i) fun v28 i29 =>
    some (i29))) else (some (i)))
def fX12_readItems_3 (w2 : Nat) (n2 : Nat) (j4 : Nat) : Nat → Int32 → Int32 → Int32 → (Nat → Nat → Int32) → (Nat → Nat → Option Nat) → Option ((Nat → Nat → Int32))
  | 0, _, _, _, _, _ => none
  | n + 1, x1, x3, x5, i, rv => bn1 (fJ0_length_8abf5 j4) fun v1 =>
    if v1 ≤ x5 then (bn2 (fX12_look i rv) fun v3 i4 =>
    bn1 (fX12_spotOf j4 v3) fun v6 =>
    fX12_readItems_45 w2 n2 j4 fuel x1 x3 0 v6 i4 rv) else (bn1 (fX12_usual x1 x5) fun v8 =>
    if aIn (x3 + x5) n2 = true then
    (lt (u2 i w2 ((x3 + x5) : Int32).toNatClampNeg v8) fun i10 => fX12_readItems_3 w2 n2 j4 n x1 x3 (x5 + 1) i10 rv) else none)
def fX12_readItems (w2 : Nat) (n2 : Nat) (j4 : Nat) (a1 : Int32) (a3 : Int32) (i : Nat → Nat → Int32) (rv : Nat → Nat → Option Nat) : Option ((Nat → Nat → Int32)) := fX12_readItems_3 w2 n2 j4 fuel a1 a3 0 i rv
def fX12_readClause_52 (x1 : Int32) (s0 : Int32) (i : Nat → Nat → Int32) (rv : Nat → Nat → Option Nat) : Option ((Nat → Nat → Int32)) := if s0 = 0 then (bn2 (fX12_fails i) fun v14 i15 =>
    some (i15)) else (lt (u2 i 50 10 ((i 50 10) + (1 : Int32))) fun i4 =>
    if x1 = 115 then (lt (u2 i4 50 32 1) fun i11 =>
    bn1 (fX12_readItems 56 4 4 x1 0 i11 rv) fun i12 =>
    some (i12)) else (if x1 = 112 then (lt (u2 i4 50 29 ((i4 50 29) + (1 : Int32))) fun i8 =>
    bn1 (fX12_readItems 58 54 6 x1 ((6 : Int32) * ((i8 50 29) - (1 : Int32))) i8 rv) fun i9 =>
    some (i9)) else (lt (u2 i4 50 30 ((i4 50 30) + (1 : Int32))) fun i5 =>
    bn1 (fX12_readItems 60 16 7 x1 ((4 : Int32) * ((i5 50 30) - (1 : Int32))) i5 rv) fun i6 =>
    some (i6))))
def fX12_readClause_47 (x1 : Int32) (i : Nat → Nat → Int32) (rv : Nat → Nat → Option Nat) : Option ((Nat → Nat → Int32)) := fX12_readClause_52 x1 1 i rv
def fX12_readClause_51 (x1 : Int32) (i : Nat → Nat → Int32) (rv : Nat → Nat → Option Nat) : Option ((Nat → Nat → Int32)) := fX12_readClause_52 x1 0 i rv
def fX12_readClause_33 (x1 : Int32) (i : Nat → Nat → Int32) (rv : Nat → Nat → Option Nat) : Option ((Nat → Nat → Int32)) := if x1 = 111 then (if 4 ≤ (i 50 30) then (fX12_readClause_51 x1 i rv) else (fX12_readClause_47 x1 i rv)) else (fX12_readClause_51 x1 i rv)
def fX12_readClause_18 (x1 : Int32) (i : Nat → Nat → Int32) (rv : Nat → Nat → Option Nat) : Option ((Nat → Nat → Int32)) := if x1 = 112 then (if (i 50 29) < 9 then (fX12_readClause_47 x1 i rv) else (fX12_readClause_33 x1 i rv)) else (fX12_readClause_33 x1 i rv)
def fX12_readClause (i : Nat → Nat → Int32) (rv : Nat → Nat → Option Nat) : Option ((Nat → Nat → Int32)) := bn2 (fX12_look i rv) fun v1 i2 =>
    if v1 = 115 then (if (i2 50 32) = 0 then (fX12_readClause_47 v1 i2 rv) else (fX12_readClause_18 v1 i2 rv)) else (fX12_readClause_18 v1 i2 rv)
def fX12_isWhole_35 (kh4 : Int32 → Int32 → (Nat → Nat → Int32) → Option ((Int32))) (x2 : Int32) (s0 : Int32) (i : Nat → Nat → Int32) : Option ((Int32)) := kh4 s0 (x2 + 1) i
def fX12_isWhole_30 (kh4 : Int32 → Int32 → (Nat → Nat → Int32) → Option ((Int32))) (x2 : Int32) (i : Nat → Nat → Int32) : Option ((Int32)) := fX12_isWhole_35 kh4 x2 1 i
def fX12_isWhole_4 : Nat → Int32 → Int32 → (Nat → Nat → Int32) → Option ((Int32))
  | 0, _, _, _ => none
  | n + 1, x1, x2, i => if (i 50 29) ≤ x2 then (if x1 = 0 then (some (0)) else (if (i 50 30) ≤ 0 then (some (0)) else (some (1)))) else (if x1 = 0 then (if aIn (((6 : Int32) * x2) + (5 : Int32)) 54 = true then
    (if (i 58 ((((6 : Int32) * x2) + (5 : Int32)) : Int32).toNatClampNeg) = 0 then (fX12_isWhole_30 (fX12_isWhole_4 n) x2 i) else (fX12_isWhole_35 (fX12_isWhole_4 n) x2 0 i)) else none) else (fX12_isWhole_30 (fX12_isWhole_4 n) x2 i))
def fX12_isWhole (i : Nat → Nat → Int32) : Option ((Int32)) := fX12_isWhole_4 fuel 0 0 i
def fX12_readCar_93 (kh55 : Int32 → (Nat → Nat → Int32) → (Nat → Nat → Option Nat) → Option ((Nat → Nat → Int32) × (Nat → Nat → Option Nat))) (s0 : Int32) (i : Nat → Nat → Int32) (rv : Nat → Nat → Option Nat) : Option ((Nat → Nat → Int32) × (Nat → Nat → Option Nat)) := if s0 = 0 then (kh55 s0 i rv) else (lt (u2 i 50 10 ((i 50 10) + (1 : Int32))) fun i20 =>
    kh55 s0 i20 rv)
def fX12_readCar_92 (kh55 : Int32 → (Nat → Nat → Int32) → (Nat → Nat → Option Nat) → Option ((Nat → Nat → Int32) × (Nat → Nat → Option Nat))) (i : Nat → Nat → Int32) (rv : Nat → Nat → Option Nat) : Option ((Nat → Nat → Int32) × (Nat → Nat → Option Nat)) := fX12_readCar_93 kh55 0 i rv
def fX12_readCar_134 (i : Nat → Nat → Int32) (rv : Nat → Nat → Option Nat) : Option ((Nat → Nat → Int32) × (Nat → Nat → Option Nat)) := bn2 (fX12_fails i) fun v21 i22 =>
    some (i22, rv)
def fX12_readCar_111 (i : Nat → Nat → Int32) (rv : Nat → Nat → Option Nat) : Option ((Nat → Nat → Int32) × (Nat → Nat → Option Nat)) := if (i 50 11) = (-1) then (bn2 (fX12_look i rv) fun v15 i16 =>
    if v15 = (-1) then (bn1 (fX12_isWhole i16) fun v18 =>
    if v18 = 0 then (fX12_readCar_134 i16 rv) else (some (i16, rv))) else (fX12_readCar_134 i16 rv)) else (some (i, rv))
def fX12_readCar_55 : Nat → Int32 → (Nat → Nat → Int32) → (Nat → Nat → Option Nat) → Option ((Nat → Nat → Int32) × (Nat → Nat → Option Nat))
  | 0, _, _, _ => none
  | n + 1, x1, i, rv => if x1 = 0 then (fX12_readCar_111 i rv) else (if (i 50 11) = (-1) then (bn1 (fX12_readClause i rv) fun i10 =>
    if (i10 50 11) = (-1) then (bn2 (fX12_look i10 rv) fun v12 i13 =>
    if v12 = 59 then (fX12_readCar_93 (fX12_readCar_55 n) 1 i13 rv) else (fX12_readCar_92 (fX12_readCar_55 n) i13 rv)) else (fX12_readCar_92 (fX12_readCar_55 n) i10 rv)) else (fX12_readCar_111 i rv))
def fX12_readCar_30 : Nat → Int32 → (Nat → Nat → Int32) → (Nat → Nat → Option Nat) → Option ((Nat → Nat → Int32) × (Nat → Nat → Option Nat))
  | 0, _, _, _ => none
  | n + 1, x1, i, rv => if 4 ≤ x1 then (fX12_readCar_55 fuel 1 i rv) else (bn1 (fX12_usual 115 x1) fun v7 =>
    if aIn x1 4 = true then
    (lt (u2 i 56 (x1 : Int32).toNatClampNeg v7) fun i9 => fX12_readCar_30 n (x1 + 1) i9 rv) else none)
def fX12_readCar (i : Nat → Nat → Int32) (rv : Nat → Nat → Option Nat) : Option ((Nat → Nat → Int32) × (Nat → Nat → Option Nat)) := bn2 (fX12_starts 51 0 (i 50 6) i rv) fun i1 rv2 =>
    lt (u2 i1 50 29 0) fun i4 =>
    lt (u2 i4 50 30 0) fun i5 =>
    lt (u2 i5 50 32 0) fun i6 =>
    fX12_readCar_30 fuel 0 i6 rv2
def fX12_digit_20 (i : Nat → Nat → Int32) (rv : Nat → Nat → Option Nat) : Option ((Int32) × (Nat → Nat → Int32)) := bn2 (fX12_fails i) fun v7 i8 =>
    some (0, i8)
def fX12_digit (a1 : Int32) (i : Nat → Nat → Int32) (rv : Nat → Nat → Option Nat) : Option ((Int32) × (Nat → Nat → Int32)) := bn2 (fX12_look i rv) fun v1 i2 =>
    bn1 (fX12_isDigit i2 rv) fun v4 =>
    if v4 = 0 then (fX12_digit_20 i2 rv) else (if (v1 - (48 : Int32)) ≤ a1 then (lt (u2 i2 50 10 ((i2 50 10) + (1 : Int32))) fun i6 =>
    some ((v1 - (48 : Int32)), i6)) else (fX12_digit_20 i2 rv))
def fX12_readStep_99 (s1 : Int32) (s3 : Int32) (i : Nat → Nat → Int32) (rv : Nat → Nat → Option Nat) : Option ((Nat → Nat → Int32)) := bn2 (fX12_digit s3 i rv) fun v16 i17 =>
    if aIn s1 240 = true then
    (lt (u2 i17 61 (s1 : Int32).toNatClampNeg v16) fun i19 => some (i19)) else none
def fX12_readStep_80 (x1 : Int32) (x2 : Int32) (i : Nat → Nat → Int32) (rv : Nat → Nat → Option Nat) : Option ((Nat → Nat → Int32)) := if x2 = 1 then (fX12_readStep_99 (x1 + (2 : Int32)) 2 i rv) else (fX12_readStep_99 (x1 + (2 : Int32)) 9 i rv)
def fX12_readStep (a1 : Int32) (i : Nat → Nat → Int32) (rv : Nat → Nat → Option Nat) : Option ((Nat → Nat → Int32)) := bn2 (fX12_look i rv) fun v1 i2 =>
    bn1 (fX12_spotOf 3 v1) fun v4 =>
    if v4 = (-1) then (bn2 (fX12_fails i2) fun v13 i14 =>
    some (i14)) else (lt (u2 i2 50 10 ((i2 50 10) + (1 : Int32))) fun i6 =>
    if aIn a1 240 = true then
    (lt (u2 i6 61 (a1 : Int32).toNatClampNeg v4) fun i7 => bn2 (fX12_digit 9 i7 rv) fun v8 i9 =>
    if aIn (a1 + (1 : Int32)) 240 = true then
    (lt (u2 i9 61 ((a1 + (1 : Int32)) : Int32).toNatClampNeg v8) fun i11 => if aIn (a1 + (2 : Int32)) 240 = true then
    (lt (u2 i11 61 ((a1 + (2 : Int32)) : Int32).toNatClampNeg (-1)) fun i12 => if (i12 50 11) = (-1) then (if v4 < 2 then (fX12_readStep_80 a1 v4 i12 rv) else (if v4 = 4 then (fX12_readStep_80 a1 v4 i12 rv) else (some (i12)))) else (some (i12))) else none) else none) else none)
def fX12_readLines_74 (kh17 : Int32 → Int32 → (Nat → Nat → Int32) → (Nat → Nat → Option Nat) → Option ((Nat → Nat → Int32) × (Nat → Nat → Option Nat))) (x1 : Int32) (x2 : Int32) (i : Nat → Nat → Int32) (rv : Nat → Nat → Option Nat) : Option ((Nat → Nat → Int32) × (Nat → Nat → Option Nat)) := if x2 = 0 then (kh17 x1 x2 i rv) else (lt (u2 i 50 10 ((i 50 10) + (1 : Int32))) fun i19 =>
    kh17 x1 x2 i19 rv)
def fX12_readLines_57 (kh17 : Int32 → Int32 → (Nat → Nat → Int32) → (Nat → Nat → Option Nat) → Option ((Nat → Nat → Int32) × (Nat → Nat → Option Nat))) (x1 : Int32) (s0 : Int32) (i : Nat → Nat → Int32) (rv : Nat → Nat → Option Nat) : Option ((Nat → Nat → Int32) × (Nat → Nat → Option Nat)) := if s0 = 0 then (fX12_readLines_74 kh17 x1 s0 i rv) else (if x1 = 16 then (bn2 (fX12_fails i) fun v16 i17 =>
    some (i17, rv)) else (fX12_readLines_74 kh17 x1 s0 i rv))
def fX12_readLines_17 : Nat → Int32 → Int32 → (Nat → Nat → Int32) → (Nat → Nat → Option Nat) → Option ((Nat → Nat → Int32) × (Nat → Nat → Option Nat))
  | 0, _, _, _, _ => none
  | n + 1, x1, x2, i, rv => if x2 = 0 then (if aIn 4 5 = true then
    (lt (u2 i 62 (4 : Int32).toNatClampNeg x1) fun i4 => bn2 (fX12_look i4 rv) fun v5 i6 =>
    if v5 = (-1) then (some (i6, rv)) else (bn2 (fX12_fails i6) fun v8 i9 =>
    some (i9, rv))) else none) else (bn1 (fX12_readStep ((3 : Int32) * ((64 : Int32) + x1)) i rv) fun i11 =>
    if (i11 50 11) = (-1) then (bn2 (fX12_look i11 rv) fun v13 i14 =>
    if v13 = 59 then (fX12_readLines_57 (fX12_readLines_17 n) (x1 + 1) 1 i14 rv) else (fX12_readLines_57 (fX12_readLines_17 n) (x1 + 1) 0 i14 rv)) else (some (i11, rv)))
def fX12_readLines (i : Nat → Nat → Int32) (rv : Nat → Nat → Option Nat) : Option ((Nat → Nat → Int32) × (Nat → Nat → Option Nat)) := bn2 (fX12_starts 51 0 (i 50 6) i rv) fun i1 rv2 =>
    fX12_readLines_17 fuel 0 1 i1 rv2
def fX12_fault_46 (x1 : Int32) (i : Nat → Nat → Int32) (rv : Nat → Nat → Option Nat) : Option ((Int32) × (Nat → Nat → Int32) × (Nat → Nat → Option Nat)) := if x1 = 2 then (bn2 (fX12_readLines i rv) fun i10 rv11 =>
    some ((i10 50 11), i10, rv11)) else (some ((i 50 11), i, rv))
def fX12_fault_28 (x1 : Int32) (i : Nat → Nat → Int32) (rv : Nat → Nat → Option Nat) : Option ((Int32) × (Nat → Nat → Int32) × (Nat → Nat → Option Nat)) := if x1 = 1 then (bn2 (fX12_goThrough 51 0 (i 50 6) i rv) fun i7 rv8 =>
    fX12_fault_46 x1 i7 rv8) else (fX12_fault_46 x1 i rv)
def fX12_fault (a1 : Int32) (i : Nat → Nat → Int32) (rv : Nat → Nat → Option Nat) : Option ((Int32) × (Nat → Nat → Int32) × (Nat → Nat → Option Nat)) := lt (u2 i 50 0 0) fun i1 =>
    bn1 (fX12_isIn (a1 : Int32).toInt64 0 2) fun v2 =>
    if v2 = 0 then (some ((-2), i1, rv)) else (if a1 = 0 then (bn2 (fX12_readCar i1 rv) fun i4 rv5 =>
    fX12_fault_28 a1 i4 rv5) else (fX12_fault_28 a1 i1 rv))
def fX12_text_71 : Nat → Int32 → Int32 → (Nat → Nat → Int32) → (Nat → Nat → Option Nat) → Option ((Int32) × (Nat → Nat → Int32) × (Nat → Nat → Option Nat))
  | 0, _, _, _, _ => none
  | n + 1, x2, x3, i, rv => if x2 ≤ x3 then (if aIn (i 50 7) 4 = true then
    (lt (u2 i 53 ((i 50 7) : Int32).toNatClampNeg x2) fun i15 => lt (u2 i15 50 7 ((i15 50 7) + (1 : Int32))) fun i16 =>
    some (((i16 50 7) - (1 : Int32)), i16, rv)) else none) else (if aIn x3 240 = true then
    (if aIn (((240 : Int32) * (i 50 7)) + x3) 960 = true then
    (lt (u2 i 52 ((((240 : Int32) * (i 50 7)) + x3) : Int32).toNatClampNeg (vp_nar .byte (i 51 (x3 : Int32).toNatClampNeg))) fun i17 => fX12_text_71 n x2 (x3 + 1) i17 rv) else none) else none)
def fX12_text_137 : Nat → Int32 → (Nat → Nat → Int32) → (Nat → Nat → Option Nat) → Option ((Int32) × (Nat → Nat → Int32) × (Nat → Nat → Option Nat))
  | 0, _, _, _ => none
  | n + 1, x3, i, rv => if 48 ≤ x3 then (if aIn 4 5 = true then
    (if aIn (i 50 31) 5 = true then
    (lt (u2 i 62 ((i 50 31) : Int32).toNatClampNeg (i 62 (4 : Int32).toNatClampNeg)) fun i12 => lt (u2 i12 50 31 ((i12 50 31) + (1 : Int32))) fun i13 =>
    some (((i13 50 31) - (1 : Int32)), i13, rv)) else none) else none) else (if aIn ((192 : Int32) + x3) 240 = true then
    (if aIn (((48 : Int32) * (i 50 31)) + x3) 240 = true then
    (lt (u2 i 61 ((((48 : Int32) * (i 50 31)) + x3) : Int32).toNatClampNeg (i 61 (((192 : Int32) + x3) : Int32).toNatClampNeg)) fun i14 => fX12_text_137 n (x3 + 1) i14 rv) else none) else none)
def fX12_text_380 (kh327 : Int32 → (Nat → Nat → Int32) → (Nat → Nat → Option Nat) → Option ((Int32) × (Nat → Nat → Int32) × (Nat → Nat → Option Nat))) (x3 : Int32) (s1 : Int32) (s2 : Int32) (i : Nat → Nat → Int32) (rv : Nat → Nat → Option Nat) : Option ((Int32) × (Nat → Nat → Int32) × (Nat → Nat → Option Nat)) := if aIn s1 296 = true then
    (lt (u2 i 63 (s1 : Int32).toNatClampNeg s2) fun i28 => if aIn (((6 : Int32) * x3) + (5 : Int32)) 54 = true then
    (lt (u2 i28 50 28 ((i28 50 28) + ((1 : Int32) - (i28 57 ((((6 : Int32) * x3) + (5 : Int32)) : Int32).toNatClampNeg)))) fun i29 =>
    if aIn (((6 : Int32) * x3) + (3 : Int32)) 296 = true then
    (lt (u2 i29 63 ((((6 : Int32) * x3) + (3 : Int32)) : Int32).toNatClampNeg 1) fun i30 => kh327 (x3 + 1) i30 rv) else none) else none) else none
def fX12_text_327 : Nat → Int32 → (Nat → Nat → Int32) → (Nat → Nat → Option Nat) → Option ((Int32) × (Nat → Nat → Int32) × (Nat → Nat → Option Nat))
  | 0, _, _, _ => none
  | n + 1, x3, i, rv => if (i 50 26) ≤ x3 then (if aIn 2 4 = true then
    (if aIn 54 296 = true then
    (lt (u2 i 63 (54 : Int32).toNatClampNeg (i 55 (2 : Int32).toNatClampNeg)) fun i22 => lt (u2 i22 50 49 0) fun i23 =>
    lt (u2 i23 50 52 0) fun i24 =>
    lt (u2 i24 50 42 0) fun i25 =>
    lt (u2 i25 50 57 0) fun i26 =>
    some ((i26 50 26), i26, rv)) else none) else none) else (if aIn (((6 : Int32) * x3) + (0 : Int32)) 296 = true then
    (lt (u2 i 63 ((((6 : Int32) * x3) + (0 : Int32)) : Int32).toNatClampNeg x3) fun i27 => if aIn (((6 : Int32) * x3) + (5 : Int32)) 54 = true then
    (if (i27 57 ((((6 : Int32) * x3) + (5 : Int32)) : Int32).toNatClampNeg) = 1 then (fX12_text_380 (fX12_text_327 n) x3 (((6 : Int32) * x3) + (1 : Int32)) (-1) i27 rv) else (fX12_text_380 (fX12_text_327 n) x3 (((6 : Int32) * x3) + (1 : Int32)) (i27 50 28) i27 rv)) else none) else none)
def fX12_text_300 : Nat → Int32 → (Nat → Nat → Int32) → (Nat → Nat → Option Nat) → Option ((Int32) × (Nat → Nat → Int32) × (Nat → Nat → Option Nat))
  | 0, _, _, _ => none
  | n + 1, x3, i, rv => if 296 ≤ x3 then (lt (u2 i 50 28 0) fun i20 =>
    fX12_text_327 fuel 0 i20 rv) else (if aIn x3 296 = true then
    (lt (u2 i 63 (x3 : Int32).toNatClampNeg 0) fun i21 => fX12_text_300 n (x3 + 1) i21 rv) else none)
def fX12_text_274 : Nat → Int32 → (Nat → Nat → Int32) → (Nat → Nat → Option Nat) → Option ((Int32) × (Nat → Nat → Int32) × (Nat → Nat → Option Nat))
  | 0, _, _, _ => none
  | n + 1, x3, i, rv => if 16 ≤ x3 then (fX12_text_300 fuel 0 i rv) else (if aIn x3 16 = true then
    (if aIn x3 16 = true then
    (lt (u2 i 59 (x3 : Int32).toNatClampNeg (i 60 (x3 : Int32).toNatClampNeg)) fun i19 => fX12_text_274 n (x3 + 1) i19 rv) else none) else none)
def fX12_text_248 : Nat → Int32 → (Nat → Nat → Int32) → (Nat → Nat → Option Nat) → Option ((Int32) × (Nat → Nat → Int32) × (Nat → Nat → Option Nat))
  | 0, _, _, _ => none
  | n + 1, x3, i, rv => if 54 ≤ x3 then (fX12_text_274 fuel 0 i rv) else (if aIn x3 54 = true then
    (if aIn x3 54 = true then
    (lt (u2 i 57 (x3 : Int32).toNatClampNeg (i 58 (x3 : Int32).toNatClampNeg)) fun i18 => fX12_text_248 n (x3 + 1) i18 rv) else none) else none)
def fX12_text_223 : Nat → Int32 → (Nat → Nat → Int32) → (Nat → Nat → Option Nat) → Option ((Int32) × (Nat → Nat → Int32) × (Nat → Nat → Option Nat))
  | 0, _, _, _ => none
  | n + 1, x3, i, rv => if 4 ≤ x3 then (fX12_text_248 fuel 0 i rv) else (if aIn x3 4 = true then
    (if aIn x3 4 = true then
    (lt (u2 i 55 (x3 : Int32).toNatClampNeg (i 56 (x3 : Int32).toNatClampNeg)) fun i11 => fX12_text_223 n (x3 + 1) i11 rv) else none) else none)
def fX12_text_43 (x1 : Int32) (i : Nat → Nat → Int32) (rv : Nat → Nat → Option Nat) : Option ((Int32) × (Nat → Nat → Int32) × (Nat → Nat → Option Nat)) := bn3 (fX12_fault x1 i rv) fun v4 i5 rv6 =>
    if v4 = (-1) then (lt (u2 i5 50 6 0) fun i8 =>
    if x1 = 1 then (fX12_text_71 fuel (i5 50 6) 0 i8 rv6) else (if x1 = 2 then (fX12_text_137 fuel 0 i8 rv6) else (lt (u2 i8 50 26 (i8 50 29)) fun i9 =>
    lt (u2 i9 50 27 (i9 50 30)) fun i10 =>
    fX12_text_223 fuel 0 i10 rv6))) else (some ((-1), i5, rv6))
def fX12_text_30 (x1 : Int32) (i : Nat → Nat → Int32) (rv : Nat → Nat → Option Nat) : Option ((Int32) × (Nat → Nat → Int32) × (Nat → Nat → Option Nat)) := if x1 = 2 then (if (i 50 31) = 4 then (some ((-1), i, rv)) else (fX12_text_43 x1 i rv)) else (fX12_text_43 x1 i rv)
def fX12_text (a1 : Int32) (i : Nat → Nat → Int32) (rv : Nat → Nat → Option Nat) : Option ((Int32) × (Nat → Nat → Int32) × (Nat → Nat → Option Nat)) := lt (u2 i 50 0 0) fun i1 =>
    bn1 (fX12_isIn (a1 : Int32).toInt64 0 2) fun v2 =>
    if v2 = 0 then (some ((-1), i1, rv)) else (if a1 = 1 then (if (i1 50 7) = 4 then (some ((-1), i1, rv)) else (fX12_text_30 a1 i1 rv)) else (fX12_text_30 a1 i1 rv))
def fX12_copy_12 (w0 : Nat) (n0 : Nat) (w1 : Nat) (n1 : Nat) : Nat → Int32 → Int32 → (Nat → Nat → Int32) → Option ((Nat → Nat → Int32))
  | 0, _, _, _ => none
  | n + 1, x2, x3, i => if x2 ≤ x3 then (some (i)) else (if aIn x3 n0 = true then
    (if aIn x3 n1 = true then
    (lt (u2 i w1 (x3 : Int32).toNatClampNeg (i w0 (x3 : Int32).toNatClampNeg)) fun i2 => fX12_copy_12 w0 n0 w1 n1 n x2 (x3 + 1) i2) else none) else none)
def fX12_copy (w0 : Nat) (n0 : Nat) (w1 : Nat) (n1 : Nat) (i : Nat → Nat → Int32) : Option ((Nat → Nat → Int32)) := if aIn 55 n0 = true then
    (lt ((56 : Int32) + ((4 : Int32) * (i w0 (55 : Int32).toNatClampNeg))) fun t1 =>
    fX12_copy_12 w0 n0 w1 n1 fuel t1 0 i) else none
def fX12_isSleeper (a1 : Int32) (i : Nat → Nat → Int32) : Option ((Int32)) := if a1 < 0 then (some (0)) else (if (i 50 26) ≤ a1 then (some (0)) else (some (1)))
def fX12_isOfficer (a1 : Int32) (i : Nat → Nat → Int32) : Option ((Int32)) := if a1 < 0 then (some (0)) else (if (i 50 27) ≤ a1 then (some (0)) else (some (1)))
def fX12_isChild (a1 : Int32) (i : Nat → Nat → Int32) : Option ((Int32)) := if aIn (((6 : Int32) * a1) + (5 : Int32)) 54 = true then
    (if (i 57 ((((6 : Int32) * a1) + (5 : Int32)) : Int32).toNatClampNeg) = 1 then (some (1)) else (some (0))) else none
def fX12_inBerth_2 (w1 : Nat) (n1 : Nat) : Nat → Int32 → Int32 → (Nat → Nat → Int32) → Option ((Int32))
  | 0, _, _, _ => none
  | n + 1, x2, x3, i => if (i 50 26) ≤ x3 then (some ((-1))) else (if aIn (((6 : Int32) * x3) + (0 : Int32)) n1 = true then
    (if (i w1 ((((6 : Int32) * x3) + (0 : Int32)) : Int32).toNatClampNeg) = x2 then (some (x3)) else (fX12_inBerth_2 w1 n1 n x2 (x3 + 1) i)) else none)
def fX12_inBerth (w1 : Nat) (n1 : Nat) (a2 : Int32) (i : Nat → Nat → Int32) : Option ((Int32)) := fX12_inBerth_2 w1 n1 fuel a2 0 i
def fX12_snoresBeside_52 (w1 : Nat) (n1 : Nat) (kh5 : Int32 → Int32 → Int32 → (Nat → Nat → Int32) → Option ((Int32))) (x2 : Int32) (x4 : Int32) (s0 : Int32) (s1 : Int32) (i : Nat → Nat → Int32) : Option ((Int32)) := kh5 x2 (s0 + s1) (x4 + 2) i
def fX12_snoresBeside_5 (w1 : Nat) (n1 : Nat) : Nat → Int32 → Int32 → Int32 → (Nat → Nat → Int32) → Option ((Int32))
  | 0, _, _, _, _ => none
  | n + 1, x2, x3, x4, i => if 2 ≤ x4 then (some (x3)) else (if aIn (((6 : Int32) * x2) + (0 : Int32)) n1 = true then
    (bn1 (fX12_inBerth w1 n1 ((i w1 ((((6 : Int32) * x2) + (0 : Int32)) : Int32).toNatClampNeg) + x4) i) fun v1 =>
    if v1 = (-1) then (fX12_snoresBeside_52 w1 n1 (fX12_snoresBeside_5 w1 n1 n) x2 x4 x3 0 i) else (if aIn (((6 : Int32) * v1) + (3 : Int32)) 54 = true then
    (fX12_snoresBeside_52 w1 n1 (fX12_snoresBeside_5 w1 n1 n) x2 x4 x3 (i 57 ((((6 : Int32) * v1) + (3 : Int32)) : Int32).toNatClampNeg) i) else none)) else none)
def fX12_snoresBeside (w1 : Nat) (n1 : Nat) (a2 : Int32) (i : Nat → Nat → Int32) : Option ((Int32)) := fX12_snoresBeside_5 w1 n1 fuel a2 0 (-1) i
def fX12_sleepOf_146 (w1 : Nat) (n1 : Nat) (x5 : Int32) (i : Nat → Nat → Int32) (rv : Nat → Nat → Option Nat) : Option ((Int32) × (Nat → Nat → Int32) × (Nat → Nat → Option Nat)) := some ((if (0 : Int32) < (if x5 < (99 : Int32) then x5 else (99 : Int32)) then (if x5 < (99 : Int32) then x5 else (99 : Int32)) else (0 : Int32)), i, rv)
def fX12_sleepOf (w1 : Nat) (n1 : Nat) (a2 : Int32) (a3 : Int32) (a4 : Int32) (i : Nat → Nat → Int32) (rv : Nat → Nat → Option Nat) : Option ((Int32) × (Nat → Nat → Int32) × (Nat → Nat → Option Nat)) := if aIn (((6 : Int32) * a2) + (2 : Int32)) 54 = true then
    (if aIn (((6 : Int32) * a2) + (4 : Int32)) n1 = true then
    (lt (((5 : Int32) + (i 57 ((((6 : Int32) * a2) + (2 : Int32)) : Int32).toNatClampNeg)) + ((5 : Int32) * (i w1 ((((6 : Int32) * a2) + (4 : Int32)) : Int32).toNatClampNeg))) fun t1 =>
    if (i 50 35) = (-1) then (fX12_sleepOf_146 w1 n1 t1 i rv) else (if aIn (((6 : Int32) * a2) + (2 : Int32)) 54 = true then
    (if aIn 110 128 = true then
    (lt (u2 i 54 (110 : Int32).toNatClampNeg (i 57 ((((6 : Int32) * a2) + (2 : Int32)) : Int32).toNatClampNeg)) fun i2 => if aIn (((6 : Int32) * a2) + (4 : Int32)) n1 = true then
    (if aIn 119 128 = true then
    (lt (u2 i2 54 (119 : Int32).toNatClampNeg (i2 w1 ((((6 : Int32) * a2) + (4 : Int32)) : Int32).toNatClampNeg)) fun i3 => if aIn 116 128 = true then
    (lt (u2 i3 54 (116 : Int32).toNatClampNeg a3) fun i4 => if aIn (((6 : Int32) * a2) + (5 : Int32)) 54 = true then
    (if aIn 99 128 = true then
    (lt (u2 i4 54 (99 : Int32).toNatClampNeg (i4 57 ((((6 : Int32) * a2) + (5 : Int32)) : Int32).toNatClampNeg)) fun i5 => if aIn 111 128 = true then
    (lt (u2 i5 54 (111 : Int32).toNatClampNeg a4) fun i6 => bn1 (fX12_snoresBeside w1 n1 a2 i6) fun v7 =>
    if aIn 115 128 = true then
    (lt (u2 i6 54 (115 : Int32).toNatClampNeg v7) fun i9 => if aIn (i9 50 35) 4 = true then
    (bn2 (fX12_goThrough 52 ((240 : Int32) * (i9 50 35)) (i9 53 ((i9 50 35) : Int32).toNatClampNeg) i9 rv) fun i10 rv11 =>
    fX12_sleepOf_146 w1 n1 (i10 50 14) i10 rv11) else none) else none) else none) else none) else none) else none) else none) else none) else none) else none)) else none) else none
def fX12_wakes (w1 : Nat) (n1 : Nat) (a2 : Int32) (a3 : Int32) (a4 : Int32) (i : Nat → Nat → Int32) (rv : Nat → Nat → Option Nat) : Option ((Int32) × (Nat → Nat → Int32) × (Nat → Nat → Option Nat)) := bn3 (fX12_sleepOf w1 n1 a2 a3 a4 i rv) fun v1 i2 rv3 =>
    if aIn (((6 : Int32) * a2) + (3 : Int32)) n1 = true then
    (lt (u2 i2 w1 ((((6 : Int32) * a2) + (3 : Int32)) : Int32).toNatClampNeg 0) fun i5 => lt (((6 : Int32) * a2) + (4 : Int32)) fun t6 =>
    if aIn t6 n1 = true then
    (if aIn t6 n1 = true then
    (lt (u2 i5 w1 (t6 : Int32).toNatClampNeg ((i5 w1 (t6 : Int32).toNatClampNeg) + (1 : Int32))) fun i7 => lt (((6 : Int32) * a2) + (5 : Int32)) fun t8 =>
    if aIn t8 n1 = true then
    (if aIn t8 n1 = true then
    (lt (u2 i7 w1 (t8 : Int32).toNatClampNeg ((i7 w1 (t8 : Int32).toNatClampNeg) + v1)) fun i9 => some (v1, i9, rv3)) else none) else none) else none) else none) else none
def fX12_paperAt_2 (w1 : Nat) (n1 : Nat) : Nat → Int32 → Int32 → (Nat → Nat → Int32) → Option ((Int32))
  | 0, _, _, _ => none
  | n + 1, x2, x3, i => if (i 50 26) ≤ x3 then (some ((-1))) else (if aIn (((6 : Int32) * x3) + (1 : Int32)) n1 = true then
    (if (i w1 ((((6 : Int32) * x3) + (1 : Int32)) : Int32).toNatClampNeg) = x2 then (some (x3)) else (fX12_paperAt_2 w1 n1 n x2 (x3 + 1) i)) else none)
def fX12_paperAt (w1 : Nat) (n1 : Nat) (a2 : Int32) (i : Nat → Nat → Int32) : Option ((Int32)) := fX12_paperAt_2 w1 n1 fuel a2 0 i
def fX12_turnOf (w1 : Nat) (n1 : Nat) (a2 : Int32) (a3 : Int32) (i : Nat → Nat → Int32) : Option ((Int32)) := if aIn (((4 : Int32) * a3) + (1 : Int32)) 16 = true then
    (if (i 59 ((((4 : Int32) * a3) + (1 : Int32)) : Int32).toNatClampNeg) = 0 then (if aIn ((6 : Int32) * a2) 54 = true then
    (some ((i 57 (((6 : Int32) * a2) : Int32).toNatClampNeg))) else none) else (if aIn ((6 : Int32) * a2) 54 = true then
    (if aIn (((4 : Int32) * a3) + (2 : Int32)) 16 = true then
    (if aIn (((6 : Int32) * a2) + (3 : Int32)) n1 = true then
    (if (i w1 ((((6 : Int32) * a2) + (3 : Int32)) : Int32).toNatClampNeg) = 1 then (if aIn 3 4 = true then
    (some ((((i 57 (((6 : Int32) * a2) : Int32).toNatClampNeg) + (i 59 ((((4 : Int32) * a3) + (2 : Int32)) : Int32).toNatClampNeg)) + (i 55 (3 : Int32).toNatClampNeg)))) else none) else (some ((((i 57 (((6 : Int32) * a2) : Int32).toNatClampNeg) + (i 59 ((((4 : Int32) * a3) + (2 : Int32)) : Int32).toNatClampNeg)) + (0 : Int32))))) else none) else none) else none)) else none
def fX12_waitOf (w1 : Nat) (n1 : Nat) (a2 : Int32) (a3 : Int32) (a4 : Int32) (i : Nat → Nat → Int32) : Option ((Int32)) := if aIn (((6 : Int32) * a2) + (1 : Int32)) 54 = true then
    (lt ((6 : Int32) * (i 57 ((((6 : Int32) * a2) + (1 : Int32)) : Int32).toNatClampNeg)) fun t1 =>
    if aIn (((6 : Int32) * a2) + (2 : Int32)) n1 = true then
    (lt (i w1 ((((6 : Int32) * a2) + (2 : Int32)) : Int32).toNatClampNeg) fun t2 =>
    if t2 = 1 then (if aIn (((4 : Int32) * a3) + (1 : Int32)) 16 = true then
    (if (i 59 ((((4 : Int32) * a3) + (1 : Int32)) : Int32).toNatClampNeg) = 0 then (some ((t1 / (2 : Int32)))) else (some (((2 : Int32) * t1)))) else none) else (if t2 = 2 then (if a4 = 0 then (some (t1)) else (if aIn (((4 : Int32) * a3) + (3 : Int32)) 16 = true then
    (some ((if (0 : Int32) < (t1 - ((6 : Int32) * (i 59 ((((4 : Int32) * a3) + (3 : Int32)) : Int32).toNatClampNeg))) then (t1 - ((6 : Int32) * (i 59 ((((4 : Int32) * a3) + (3 : Int32)) : Int32).toNatClampNeg))) else (0 : Int32)))) else none)) else (some (t1)))) else none) else none
def fX12_goBorder_218 (w1 : Nat) (n1 : Nat) (kh25 : Int32 → Int32 → Int32 → (Nat → Nat → Int32) → (Nat → Nat → Option Nat) → Option ((Nat → Nat → Int32) × (Nat → Nat → Option Nat))) (x2 : Int32) (x3 : Int32) (x4 : Int32) (i : Nat → Nat → Int32) (rv : Nat → Nat → Option Nat) : Option ((Nat → Nat → Int32) × (Nat → Nat → Option Nat)) := kh25 x2 x3 (x4 + 1) i rv
def fX12_goBorder_206 (w1 : Nat) (n1 : Nat) (kh25 : Int32 → Int32 → Int32 → (Nat → Nat → Int32) → (Nat → Nat → Option Nat) → Option ((Nat → Nat → Int32) × (Nat → Nat → Option Nat))) (x2 : Int32) (x3 : Int32) (x4 : Int32) (x5 : Int32) (x7 : Int32) (i : Nat → Nat → Int32) (rv : Nat → Nat → Option Nat) : Option ((Nat → Nat → Int32) × (Nat → Nat → Option Nat)) := lt (u2 i 50 39 x5) fun i19 =>
    lt (u2 i19 50 40 x7) fun i20 =>
    fX12_goBorder_218 w1 n1 kh25 x2 x3 x4 i20 rv
def fX12_goBorder_173 (w1 : Nat) (n1 : Nat) (kh25 : Int32 → Int32 → Int32 → (Nat → Nat → Int32) → (Nat → Nat → Option Nat) → Option ((Nat → Nat → Int32) × (Nat → Nat → Option Nat))) (x2 : Int32) (x3 : Int32) (x4 : Int32) (x5 : Int32) (x7 : Int32) (i : Nat → Nat → Int32) (rv : Nat → Nat → Option Nat) : Option ((Nat → Nat → Int32) × (Nat → Nat → Option Nat)) := lt (u2 i 50 37 (if (i 50 37) < x7 then x7 else (i 50 37))) fun i18 =>
    if (i18 50 39) = (-1) then (fX12_goBorder_206 w1 n1 kh25 x2 x3 x4 x5 x7 i18 rv) else (if (i18 50 40) < x7 then (fX12_goBorder_206 w1 n1 kh25 x2 x3 x4 x5 x7 i18 rv) else (fX12_goBorder_218 w1 n1 kh25 x2 x3 x4 i18 rv))
def fX12_goBorder_139 (w1 : Nat) (n1 : Nat) (kh25 : Int32 → Int32 → Int32 → (Nat → Nat → Int32) → (Nat → Nat → Option Nat) → Option ((Nat → Nat → Int32) × (Nat → Nat → Option Nat))) (x2 : Int32) (x3 : Int32) (x4 : Int32) (x5 : Int32) (s0 : Int32) (s3 : Int32) (s4 : Int32) (s5 : Int32) (i : Nat → Nat → Int32) (rv : Nat → Nat → Option Nat) : Option ((Nat → Nat → Int32) × (Nat → Nat → Option Nat)) := bn1 (fX12_waitOf w1 n1 s3 s4 s5 i) fun v15 =>
    if aIn (((6 : Int32) * x5) + (2 : Int32)) n1 = true then
    (if (i w1 ((((6 : Int32) * x5) + (2 : Int32)) : Int32).toNatClampNeg) = 2 then (if aIn 54 n1 = true then
    (if (i w1 (54 : Int32).toNatClampNeg) ≤ 0 then (fX12_goBorder_173 w1 n1 kh25 x2 x3 x4 x5 (s0 + v15) i rv) else (if aIn 54 n1 = true then
    (if aIn 54 n1 = true then
    (lt (u2 i w1 (54 : Int32).toNatClampNeg ((i w1 (54 : Int32).toNatClampNeg) - (1 : Int32))) fun i17 => fX12_goBorder_173 w1 n1 kh25 x2 x3 x4 x5 (s0 + v15) i17 rv) else none) else none)) else none) else (fX12_goBorder_173 w1 n1 kh25 x2 x3 x4 x5 (s0 + v15) i rv)) else none
def fX12_goBorder_98 (w1 : Nat) (n1 : Nat) (kh25 : Int32 → Int32 → Int32 → (Nat → Nat → Int32) → (Nat → Nat → Option Nat) → Option ((Nat → Nat → Int32) × (Nat → Nat → Option Nat))) (x2 : Int32) (x3 : Int32) (x4 : Int32) (x5 : Int32) (x6 : Int32) (i : Nat → Nat → Int32) (rv : Nat → Nat → Option Nat) : Option ((Nat → Nat → Int32) × (Nat → Nat → Option Nat)) := if aIn (((6 : Int32) * x5) + (1 : Int32)) 54 = true then
    (if (i 57 ((((6 : Int32) * x5) + (1 : Int32)) : Int32).toNatClampNeg) = 0 then (fX12_goBorder_218 w1 n1 kh25 x2 (x3 + x6) x4 i rv) else (if aIn 54 n1 = true then
    (if (i w1 (54 : Int32).toNatClampNeg) ≤ 0 then (fX12_goBorder_139 w1 n1 kh25 x2 (x3 + x6) x4 x5 (x3 + x6) x5 x2 0 i rv) else (fX12_goBorder_139 w1 n1 kh25 x2 (x3 + x6) x4 x5 (x3 + x6) x5 x2 1 i rv)) else none)) else none
def fX12_goBorder_25 (w1 : Nat) (n1 : Nat) : Nat → Int32 → Int32 → Int32 → (Nat → Nat → Int32) → (Nat → Nat → Option Nat) → Option ((Nat → Nat → Int32) × (Nat → Nat → Option Nat))
  | 0, _, _, _, _, _ => none
  | n + 1, x2, x3, x4, i, rv => if (i 50 28) ≤ x4 then (lt (u2 i 50 37 (if (i 50 37) < x3 then x3 else (i 50 37))) fun i5 =>
    some (i5, rv)) else (bn1 (fX12_paperAt w1 n1 x4 i) fun v6 =>
    bn1 (fX12_turnOf w1 n1 v6 x2 i) fun v8 =>
    if aIn (((4 : Int32) * x2) + (1 : Int32)) 16 = true then
    (if (i 59 ((((4 : Int32) * x2) + (1 : Int32)) : Int32).toNatClampNeg) = 1 then (if aIn (((6 : Int32) * v6) + (3 : Int32)) n1 = true then
    (if (i w1 ((((6 : Int32) * v6) + (3 : Int32)) : Int32).toNatClampNeg) = 1 then (bn3 (fX12_wakes w1 n1 v6 x3 x2 i rv) fun v10 i11 rv12 =>
    lt (u2 i11 50 38 ((i 50 38) + v10)) fun i14 =>
    fX12_goBorder_98 w1 n1 (fX12_goBorder_25 w1 n1 n) x2 x3 x4 v6 v8 i14 rv12) else (fX12_goBorder_98 w1 n1 (fX12_goBorder_25 w1 n1 n) x2 x3 x4 v6 v8 i rv)) else none) else (fX12_goBorder_98 w1 n1 (fX12_goBorder_25 w1 n1 n) x2 x3 x4 v6 v8 i rv)) else none)
def fX12_goBorder (w1 : Nat) (n1 : Nat) (a2 : Int32) (i : Nat → Nat → Int32) (rv : Nat → Nat → Option Nat) : Option ((Nat → Nat → Int32) × (Nat → Nat → Option Nat)) := lt (u2 i 50 37 0) fun i1 =>
    lt (u2 i1 50 38 0) fun i2 =>
    lt (u2 i2 50 39 (-1)) fun i3 =>
    lt (u2 i3 50 40 0) fun i4 =>
    fX12_goBorder_25 w1 n1 fuel a2 0 0 i4 rv
def fX12_tryBorder (a1 : Int32) (i : Nat → Nat → Int32) (rv : Nat → Nat → Option Nat) : Option ((Nat → Nat → Int32) × (Nat → Nat → Option Nat)) := bn1 (fX12_copy 63 296 64 296 i) fun i1 =>
    bn2 (fX12_goBorder 64 296 a1 i1 rv) fun i3 rv4 =>
    some (i3, rv4)
def fX12_isLate (a1 : Int32) (i : Nat → Nat → Int32) : Option ((Int32)) := if aIn 0 4 = true then
    (if a1 ≤ ((6 : Int32) * (i 55 (0 : Int32).toNatClampNeg)) then (some (0)) else (some (1))) else none
def fX12_rule (a1 : Int32) (i : Nat → Nat → Int32) : Option ((Int32) × (Nat → Nat → Int32)) := lt (u2 i 50 0 0) fun i1 =>
    if (i1 50 26) ≤ 0 then (some ((-1), i1)) else (bn1 (fX12_isIn (a1 : Int32).toInt64 0 3) fun v2 =>
    if v2 = 0 then (some ((-1), i1)) else (if a1 = 2 then (if aIn 54 296 = true then
    (some ((i1 63 (54 : Int32).toNatClampNeg), i1)) else none) else (if aIn a1 4 = true then
    (some ((i1 55 (a1 : Int32).toNatClampNeg), i1)) else none)))
def fX12_sleeper_26 (x1 : Int32) (x2 : Int32) (s1 : Int32) (i : Nat → Nat → Int32) : Option ((Int32) × (Nat → Nat → Int32)) := lt (u2 i 50 0 s1) fun i5 =>
    if (i5 50 0) ≤ 0 then (if 6 ≤ x2 then (if x2 = 10 then (if aIn (((6 : Int32) * x1) + (5 : Int32)) 296 = true then
    (some ((i5 63 ((((6 : Int32) * x1) + (5 : Int32)) : Int32).toNatClampNeg), i5)) else none) else (if aIn ((((6 : Int32) * x1) + x2) - (6 : Int32)) 296 = true then
    (some ((i5 63 (((((6 : Int32) * x1) + x2) - (6 : Int32)) : Int32).toNatClampNeg), i5)) else none)) else (if aIn (((6 : Int32) * x1) + x2) 54 = true then
    (some ((i5 57 ((((6 : Int32) * x1) + x2) : Int32).toNatClampNeg), i5)) else none)) else (some (0, i5))
def fX12_sleeper_25 (x1 : Int32) (x2 : Int32) (i : Nat → Nat → Int32) : Option ((Int32) × (Nat → Nat → Int32)) := fX12_sleeper_26 x1 x2 1 i
def fX12_sleeper (a1 : Int32) (a2 : Int32) (i : Nat → Nat → Int32) : Option ((Int32) × (Nat → Nat → Int32)) := bn1 (fX12_isSleeper a1 i) fun v1 =>
    if v1 = 0 then (fX12_sleeper_25 a1 a2 i) else (bn1 (fX12_isIn (a2 : Int32).toInt64 0 10) fun v3 =>
    if v3 = 0 then (fX12_sleeper_25 a1 a2 i) else (fX12_sleeper_26 a1 a2 0 i))
def fX12_officer (a1 : Int32) (a2 : Int32) (i : Nat → Nat → Int32) : Option ((Int32) × (Nat → Nat → Int32)) := lt (u2 i 50 0 0) fun i1 =>
    bn1 (fX12_isOfficer a1 i1) fun v2 =>
    if v2 = 0 then (some ((-1), i1)) else (bn1 (fX12_isIn (a2 : Int32).toInt64 0 3) fun v4 =>
    if v4 = 0 then (some ((-1), i1)) else (if aIn (((4 : Int32) * a1) + a2) 16 = true then
    (some ((i1 59 ((((4 : Int32) * a1) + a2) : Int32).toNatClampNeg), i1)) else none))
def fX12_law_28 (x1 : Int32) (i : Nat → Nat → Int32) : Option ((Int32) × (Nat → Nat → Int32)) := lt (u2 i 50 35 x1) fun i4 =>
    some (1, i4)
def fX12_law (a1 : Int32) (i : Nat → Nat → Int32) : Option ((Int32) × (Nat → Nat → Int32)) := lt (u2 i 50 0 0) fun i1 =>
    if a1 = (-1) then (fX12_law_28 a1 i1) else (bn1 (fX12_isIn (a1 : Int32).toInt64 0 (((i1 50 7) - (1 : Int32)) : Int32).toInt64) fun v2 =>
    if v2 = 0 then (some (0, i1)) else (fX12_law_28 a1 i1))
def fX12_drowsy (a1 : Int32) (i : Nat → Nat → Int32) : Option ((Int32) × (Nat → Nat → Int32)) := lt (u2 i 50 0 0) fun i1 =>
    bn1 (fX12_isIn (a1 : Int32).toInt64 0 99) fun v2 =>
    if v2 = 0 then (some (0, i1)) else (if a1 = (i1 50 36) then (some (0, i1)) else (lt (u2 i1 50 36 a1) fun i4 =>
    some (1, i4)))
def fX12_remember_52 : Nat → Int32 → (Nat → Nat → Int32) → Option ((Nat → Nat → Int32))
  | 0, _, _ => none
  | n + 1, x1, i => if 296 ≤ x1 then (lt (u2 i 50 42 ((i 50 42) + (1 : Int32))) fun i3 =>
    some (i3)) else (if aIn x1 296 = true then
    (if aIn (((296 : Int32) * (i 50 42)) + x1) 11840 = true then
    (lt (u2 i 65 ((((296 : Int32) * (i 50 42)) + x1) : Int32).toNatClampNeg (i 63 (x1 : Int32).toNatClampNeg)) fun i4 => fX12_remember_52 n (x1 + 1) i4) else none) else none)
def fX12_remember_50 (i : Nat → Nat → Int32) : Option ((Nat → Nat → Int32)) := fX12_remember_52 fuel 0 i
def fX12_remember_11 : Nat → Int32 → (Nat → Nat → Int32) → Option ((Nat → Nat → Int32))
  | 0, _, _ => none
  | n + 1, x1, i => if 11544 ≤ x1 then (lt (u2 i 50 42 ((i 50 42) - (1 : Int32))) fun i1 =>
    fX12_remember_50 i1) else (if aIn (x1 + (296 : Int32)) 11840 = true then
    (if aIn x1 11840 = true then
    (lt (u2 i 65 (x1 : Int32).toNatClampNeg (i 65 ((x1 + (296 : Int32)) : Int32).toNatClampNeg)) fun i2 => fX12_remember_11 n (x1 + 1) i2) else none) else none)
def fX12_remember (i : Nat → Nat → Int32) : Option ((Nat → Nat → Int32)) := if (i 50 42) = 40 then (fX12_remember_11 fuel 0 i) else (fX12_remember_50 i)
def fX12_canMove (w1 : Nat) (n1 : Nat) (a2 : Int32) (a3 : Int32) (i : Nat → Nat → Int32) : Option ((Int32)) := bn1 (fX12_isSleeper a2 i) fun v1 =>
    if v1 = 0 then (some (0)) else (bn1 (fX12_isChild a2 i) fun v3 =>
    if v3 = 0 then (bn1 (fX12_isIn (a3 : Int32).toInt64 0 (((i 50 28) - (1 : Int32)) : Int32).toInt64) fun v5 =>
    if v5 = 0 then (some (0)) else (if aIn (((6 : Int32) * a2) + (1 : Int32)) n1 = true then
    (if (i w1 ((((6 : Int32) * a2) + (1 : Int32)) : Int32).toNatClampNeg) = a3 then (some (0)) else (some (1))) else none)) else (some (0)))
def fX12_moves_84 (w1 : Nat) (n1 : Nat) (kh13 : Int32 → Int32 → Int32 → Int32 → (Nat → Nat → Int32) → Option ((Nat → Nat → Int32))) (x2 : Int32) (x3 : Int32) (x4 : Int32) (x5 : Int32) (i : Nat → Nat → Int32) : Option ((Nat → Nat → Int32)) := kh13 x2 x3 x4 (x5 + 1) i
def fX12_moves_59 (w1 : Nat) (n1 : Nat) (kh13 : Int32 → Int32 → Int32 → Int32 → (Nat → Nat → Int32) → Option ((Nat → Nat → Int32))) (x2 : Int32) (x3 : Int32) (x4 : Int32) (x5 : Int32) (x6 : Int32) (i : Nat → Nat → Int32) : Option ((Nat → Nat → Int32)) := if aIn x6 n1 = true then
    (if x4 ≤ (i w1 (x6 : Int32).toNatClampNeg) then (fX12_moves_84 w1 n1 kh13 x2 x3 x4 x5 i) else (if aIn x6 n1 = true then
    (if (i w1 (x6 : Int32).toNatClampNeg) < x3 then (fX12_moves_84 w1 n1 kh13 x2 x3 x4 x5 i) else (if aIn x6 n1 = true then
    (if aIn x6 n1 = true then
    (lt (u2 i w1 (x6 : Int32).toNatClampNeg ((i w1 (x6 : Int32).toNatClampNeg) + (1 : Int32))) fun i5 => fX12_moves_84 w1 n1 kh13 x2 x3 x4 x5 i5) else none) else none)) else none)) else none
def fX12_moves_13 (w1 : Nat) (n1 : Nat) : Nat → Int32 → Int32 → Int32 → Int32 → (Nat → Nat → Int32) → Option ((Nat → Nat → Int32))
  | 0, _, _, _, _, _ => none
  | n + 1, x2, x3, x4, x5, i => if (i 50 26) ≤ x5 then (if aIn (((6 : Int32) * x2) + (1 : Int32)) n1 = true then
    (lt (u2 i w1 ((((6 : Int32) * x2) + (1 : Int32)) : Int32).toNatClampNeg x3) fun i2 => some (i2)) else none) else (lt (((6 : Int32) * x5) + (1 : Int32)) fun t3 =>
    if aIn t3 n1 = true then
    (if (i w1 (t3 : Int32).toNatClampNeg) ≤ x4 then (fX12_moves_59 w1 n1 (fX12_moves_13 w1 n1 n) x2 x3 x4 x5 t3 i) else (if aIn t3 n1 = true then
    (if x3 < (i w1 (t3 : Int32).toNatClampNeg) then (fX12_moves_59 w1 n1 (fX12_moves_13 w1 n1 n) x2 x3 x4 x5 t3 i) else (if aIn t3 n1 = true then
    (if aIn t3 n1 = true then
    (lt (u2 i w1 (t3 : Int32).toNatClampNeg ((i w1 (t3 : Int32).toNatClampNeg) - (1 : Int32))) fun i4 => fX12_moves_84 w1 n1 (fX12_moves_13 w1 n1 n) x2 x3 x4 x5 i4) else none) else none)) else none)) else none)
def fX12_moves (w1 : Nat) (n1 : Nat) (a2 : Int32) (a3 : Int32) (i : Nat → Nat → Int32) : Option ((Nat → Nat → Int32)) := if aIn (((6 : Int32) * a2) + (1 : Int32)) n1 = true then
    (lt (i w1 ((((6 : Int32) * a2) + (1 : Int32)) : Int32).toNatClampNeg) fun t1 =>
    fX12_moves_13 w1 n1 fuel a2 a3 t1 0 i) else none
def fX12_move (a1 : Int32) (a2 : Int32) (i : Nat → Nat → Int32) : Option ((Int32) × (Nat → Nat → Int32)) := lt (u2 i 50 0 0) fun i1 =>
    bn1 (fX12_canMove 63 296 a1 a2 i1) fun v2 =>
    if v2 = 0 then (some ((-1), i1)) else (bn1 (fX12_remember i1) fun i4 =>
    if aIn (((6 : Int32) * a1) + (1 : Int32)) 296 = true then
    (lt (i4 63 ((((6 : Int32) * a1) + (1 : Int32)) : Int32).toNatClampNeg) fun t6 =>
    bn1 (fX12_moves 63 296 a1 a2 i4) fun i7 =>
    some (t6, i7)) else none)
def fX12_canSay (w1 : Nat) (n1 : Nat) (a2 : Int32) (a3 : Int32) (i : Nat → Nat → Int32) : Option ((Int32)) := bn1 (fX12_isSleeper a2 i) fun v1 =>
    if v1 = 0 then (some (0)) else (bn1 (fX12_isChild a2 i) fun v3 =>
    if v3 = 0 then (if aIn (((6 : Int32) * a2) + (1 : Int32)) 54 = true then
    (if (i 57 ((((6 : Int32) * a2) + (1 : Int32)) : Int32).toNatClampNeg) ≤ 0 then (some (0)) else (bn1 (fX12_isIn (a3 : Int32).toInt64 0 2) fun v5 =>
    if v5 = 0 then (some (0)) else (if aIn (((6 : Int32) * a2) + (2 : Int32)) n1 = true then
    (if (i w1 ((((6 : Int32) * a2) + (2 : Int32)) : Int32).toNatClampNeg) = a3 then (some (0)) else (some (1))) else none))) else none) else (some (0)))
def fX12_say (a1 : Int32) (a2 : Int32) (i : Nat → Nat → Int32) : Option ((Int32) × (Nat → Nat → Int32)) := lt (u2 i 50 0 0) fun i1 =>
    bn1 (fX12_canSay 63 296 a1 a2 i1) fun v2 =>
    if v2 = 0 then (some ((-1), i1)) else (bn1 (fX12_remember i1) fun i4 =>
    if aIn (((6 : Int32) * a1) + (2 : Int32)) 296 = true then
    (lt (i4 63 ((((6 : Int32) * a1) + (2 : Int32)) : Int32).toNatClampNeg) fun t6 =>
    if aIn (((6 : Int32) * a1) + (2 : Int32)) 296 = true then
    (lt (u2 i4 63 ((((6 : Int32) * a1) + (2 : Int32)) : Int32).toNatClampNeg a2) fun i7 => some (t6, i7)) else none) else none)
def fX12_canWake (w1 : Nat) (n1 : Nat) (a2 : Int32) (i : Nat → Nat → Int32) : Option ((Int32)) := bn1 (fX12_isSleeper a2 i) fun v1 =>
    if v1 = 0 then (some (0)) else (if aIn (((6 : Int32) * a2) + (3 : Int32)) n1 = true then
    (if (i w1 ((((6 : Int32) * a2) + (3 : Int32)) : Int32).toNatClampNeg) = 1 then (some (1)) else (some (0))) else none)
def fX12_wake (a1 : Int32) (i : Nat → Nat → Int32) (rv : Nat → Nat → Option Nat) : Option ((Int32) × (Nat → Nat → Int32) × (Nat → Nat → Option Nat)) := lt (u2 i 50 0 0) fun i1 =>
    bn1 (fX12_canWake 63 296 a1 i1) fun v2 =>
    if v2 = 0 then (some ((-1), i1, rv)) else (bn1 (fX12_remember i1) fun i4 =>
    bn3 (fX12_wakes 63 296 a1 0 9 i4 rv) fun v6 i7 rv8 =>
    some (v6, i7, rv8))
def fX12_canLie (w1 : Nat) (n1 : Nat) (a2 : Int32) (i : Nat → Nat → Int32) : Option ((Int32)) := bn1 (fX12_isSleeper a2 i) fun v1 =>
    if v1 = 0 then (some (0)) else (if aIn (((6 : Int32) * a2) + (3 : Int32)) n1 = true then
    (if (i w1 ((((6 : Int32) * a2) + (3 : Int32)) : Int32).toNatClampNeg) = 0 then (some (1)) else (some (0))) else none)
def fX12_asleepIn_4 (w1 : Nat) (n1 : Nat) : Nat → Int32 → Int32 → (Nat → Nat → Int32) → Option ((Int32))
  | 0, _, _, _ => none
  | n + 1, x2, x3, i => if (i 50 26) ≤ x3 then (some (x2)) else (if aIn (((6 : Int32) * x3) + (3 : Int32)) n1 = true then
    (lt (x2 + (i w1 ((((6 : Int32) * x3) + (3 : Int32)) : Int32).toNatClampNeg)) fun t1 =>
    fX12_asleepIn_4 w1 n1 n t1 (x3 + 1) i) else none)
def fX12_asleepIn (w1 : Nat) (n1 : Nat) (i : Nat → Nat → Int32) : Option ((Int32)) := fX12_asleepIn_4 w1 n1 fuel 0 0 i
def fX12_lie (a1 : Int32) (i : Nat → Nat → Int32) : Option ((Int32) × (Nat → Nat → Int32)) := lt (u2 i 50 0 0) fun i1 =>
    bn1 (fX12_canLie 63 296 a1 i1) fun v2 =>
    if v2 = 0 then (some ((-1), i1)) else (bn1 (fX12_remember i1) fun i4 =>
    if aIn (((6 : Int32) * a1) + (3 : Int32)) 296 = true then
    (lt (u2 i4 63 ((((6 : Int32) * a1) + (3 : Int32)) : Int32).toNatClampNeg 1) fun i6 => bn1 (fX12_asleepIn 63 296 i6) fun v7 =>
    some (v7, i6)) else none)
def fX12_canSwap (a1 : Int32) (a2 : Int32) (i : Nat → Nat → Int32) : Option ((Int32)) := bn1 (fX12_isSleeper a1 i) fun v1 =>
    if v1 = 0 then (some (0)) else (bn1 (fX12_isSleeper a2 i) fun v3 =>
    if v3 = 0 then (some (0)) else (if a1 = a2 then (some (0)) else (some (1))))
def fX12_swaps (w0 : Nat) (n0 : Nat) (a1 : Int32) (a2 : Int32) (i : Nat → Nat → Int32) : Option ((Nat → Nat → Int32)) := if aIn (((6 : Int32) * a1) + (0 : Int32)) n0 = true then
    (lt (i w0 ((((6 : Int32) * a1) + (0 : Int32)) : Int32).toNatClampNeg) fun t1 =>
    if aIn (((6 : Int32) * a2) + (0 : Int32)) n0 = true then
    (if aIn (((6 : Int32) * a1) + (0 : Int32)) n0 = true then
    (lt (u2 i w0 ((((6 : Int32) * a1) + (0 : Int32)) : Int32).toNatClampNeg (i w0 ((((6 : Int32) * a2) + (0 : Int32)) : Int32).toNatClampNeg)) fun i2 => if aIn (((6 : Int32) * a2) + (0 : Int32)) n0 = true then
    (lt (u2 i2 w0 ((((6 : Int32) * a2) + (0 : Int32)) : Int32).toNatClampNeg t1) fun i3 => some (i3)) else none) else none) else none) else none
def fX12_swap (a1 : Int32) (a2 : Int32) (i : Nat → Nat → Int32) : Option ((Int32) × (Nat → Nat → Int32)) := lt (u2 i 50 0 0) fun i1 =>
    bn1 (fX12_canSwap a1 a2 i1) fun v2 =>
    if v2 = 0 then (some ((-1), i1)) else (bn1 (fX12_remember i1) fun i4 =>
    bn1 (fX12_swaps 63 296 a1 a2 i4) fun i6 =>
    some ((i6 50 42), i6))
def fX12_goesBorder_95 (w1 : Nat) (n1 : Nat) (x3 : Int32) (s1 : Int32) (s2 : Int32) (i : Nat → Nat → Int32) (rv : Nat → Nat → Option Nat) : Option ((Nat → Nat → Int32) × (Nat → Nat → Option Nat)) := if aIn s1 n1 = true then
    (lt (u2 i w1 (s1 : Int32).toNatClampNeg s2) fun i11 => if aIn (x3 + (3 : Int32)) n1 = true then
    (lt (u2 i11 w1 ((x3 + (3 : Int32)) : Int32).toNatClampNeg (i11 50 38)) fun i12 => if aIn 55 n1 = true then
    (if aIn 55 n1 = true then
    (lt (u2 i12 w1 (55 : Int32).toNatClampNeg ((i12 w1 (55 : Int32).toNatClampNeg) + (1 : Int32))) fun i13 => some (i13, rv)) else none) else none) else none) else none
def fX12_goesBorder_52 (w1 : Nat) (n1 : Nat) (x2 : Int32) (i : Nat → Nat → Int32) (rv : Nat → Nat → Option Nat) : Option ((Nat → Nat → Int32) × (Nat → Nat → Option Nat)) := if aIn 55 n1 = true then
    (lt ((56 : Int32) + ((4 : Int32) * (i w1 (55 : Int32).toNatClampNeg))) fun t4 =>
    if aIn t4 n1 = true then
    (lt (u2 i w1 (t4 : Int32).toNatClampNeg x2) fun i5 => if aIn (t4 + (1 : Int32)) n1 = true then
    (lt (u2 i5 w1 ((t4 + (1 : Int32)) : Int32).toNatClampNeg (i5 50 37)) fun i6 => bn1 (fX12_isLate (i6 50 37) i6) fun v7 =>
    if v7 = 0 then (fX12_goesBorder_95 w1 n1 t4 (t4 + (2 : Int32)) 0 i6 rv) else (fX12_goesBorder_95 w1 n1 t4 (t4 + (2 : Int32)) 1 i6 rv)) else none) else none) else none
def fX12_goesBorder_17 (w1 : Nat) (n1 : Nat) : Nat → Int32 → Int32 → (Nat → Nat → Int32) → (Nat → Nat → Option Nat) → Option ((Nat → Nat → Int32) × (Nat → Nat → Option Nat))
  | 0, _, _, _, _ => none
  | n + 1, x2, x3, i, rv => if 236 < x3 then (if aIn 55 n1 = true then
    (if aIn 55 n1 = true then
    (lt (u2 i w1 (55 : Int32).toNatClampNeg ((i w1 (55 : Int32).toNatClampNeg) - (1 : Int32))) fun i9 => fX12_goesBorder_52 w1 n1 x2 i9 rv) else none) else none) else (if aIn (((55 : Int32) + x3) + (4 : Int32)) n1 = true then
    (if aIn ((55 : Int32) + x3) n1 = true then
    (lt (u2 i w1 (((55 : Int32) + x3) : Int32).toNatClampNeg (i w1 ((((55 : Int32) + x3) + (4 : Int32)) : Int32).toNatClampNeg)) fun i10 => fX12_goesBorder_17 w1 n1 n x2 (x3 + 1) i10 rv) else none) else none)
def fX12_goesBorder (w1 : Nat) (n1 : Nat) (a2 : Int32) (i : Nat → Nat → Int32) (rv : Nat → Nat → Option Nat) : Option ((Nat → Nat → Int32) × (Nat → Nat → Option Nat)) := bn2 (fX12_goBorder w1 n1 a2 i rv) fun i1 rv2 =>
    if aIn 55 n1 = true then
    (if (i1 w1 (55 : Int32).toNatClampNeg) = 60 then (fX12_goesBorder_17 w1 n1 fuel a2 1 i1 rv2) else (fX12_goesBorder_52 w1 n1 a2 i1 rv2)) else none
def fX12_border (a1 : Int32) (i : Nat → Nat → Int32) (rv : Nat → Nat → Option Nat) : Option ((Int32) × (Nat → Nat → Int32) × (Nat → Nat → Option Nat)) := lt (u2 i 50 0 0) fun i1 =>
    bn1 (fX12_isOfficer a1 i1) fun v2 =>
    if v2 = 0 then (some ((-1), i1, rv)) else (bn1 (fX12_remember i1) fun i4 =>
    bn2 (fX12_goesBorder 63 296 a1 i4 rv) fun i6 rv7 =>
    some ((i6 50 37), i6, rv7))
def fX12_draw (a1 : Int32) (lo : Nat → Nat → Int64) : Option ((Int32) × (Nat → Nat → Int64)) := lt (u2 lo 50 43 (((lo 50 43) * (6364136223846793005 : Int64)) + (1442695040888963407 : Int64))) fun lo1 =>
    if (a1 : Int32).toInt64 = 0 then none else
    some ((((((lo1 50 43)).toUInt64 >>> ((33 : Int32).toInt64.toUInt64 &&& Int64.toUInt64 63)).toInt64 - (((lo1 50 43)).toUInt64 >>> ((33 : Int32).toInt64.toUInt64 &&& Int64.toUInt64 63)).toInt64 / (a1 : Int32).toInt64 * (a1 : Int32).toInt64)).toInt32, lo1)
def fX12_weights_4 : Nat → Int32 → Int32 → (Nat → Nat → Int32) → Option ((Int32))
  | 0, _, _, _ => none
  | n + 1, x1, x2, i => if (i 50 27) ≤ x2 then (some (x1)) else (if aIn ((4 : Int32) * x2) 16 = true then
    (lt (x1 + (i 59 (((4 : Int32) * x2) : Int32).toNatClampNeg)) fun t1 =>
    fX12_weights_4 n t1 (x2 + 1) i) else none)
def fX12_weights (i : Nat → Nat → Int32) : Option ((Int32)) := fX12_weights_4 fuel 0 0 i
def fX12_drawnOfficer_19 : Nat → Int32 → Int32 → (Nat → Nat → Int32) → (Nat → Nat → Int64) → Option ((Int32) × (Nat → Nat → Int64))
  | 0, _, _, _, _ => none
  | n + 1, x2, x3, i, lo => if aIn ((4 : Int32) * x3) 16 = true then
    (if x2 < (i 59 (((4 : Int32) * x3) : Int32).toNatClampNeg) then (some (x3, lo)) else (if aIn ((4 : Int32) * x3) 16 = true then
    (lt (x2 - (i 59 (((4 : Int32) * x3) : Int32).toNatClampNeg)) fun t6 =>
    fX12_drawnOfficer_19 n t6 (x3 + 1) i lo) else none)) else none
def fX12_drawnOfficer (i : Nat → Nat → Int32) (lo : Nat → Nat → Int64) : Option ((Int32) × (Nat → Nat → Int64)) := bn1 (fX12_weights i) fun v1 =>
    if v1 = 0 then (some (0, lo)) else (bn2 (fX12_draw v1 lo) fun v3 lo4 =>
    fX12_drawnOfficer_19 fuel v3 0 i lo4)
def fX12_nights_109 (kh34 : Int32 → Int32 → (Nat → Nat → Int32) → (Nat → Nat → Int64) → (Nat → Nat → Option Nat) → Option ((Int32) × (Nat → Nat → Int32) × (Nat → Nat → Int64) × (Nat → Nat → Option Nat))) (kh59 : Int32 → Int32 → Int32 → (Nat → Nat → Int32) → (Nat → Nat → Int64) → (Nat → Nat → Option Nat) → Option ((Int32) × (Nat → Nat → Int32) × (Nat → Nat → Int64) × (Nat → Nat → Option Nat))) (x1 : Int32) (x4 : Int32) (x5 : Int32) (i : Nat → Nat → Int32) (lo : Nat → Nat → Int64) (rv : Nat → Nat → Option Nat) : Option ((Int32) × (Nat → Nat → Int32) × (Nat → Nat → Int64) × (Nat → Nat → Option Nat)) := kh59 x1 x4 (x5 + 1) i lo rv
def fX12_nights_59 (kh34 : Int32 → Int32 → (Nat → Nat → Int32) → (Nat → Nat → Int64) → (Nat → Nat → Option Nat) → Option ((Int32) × (Nat → Nat → Int32) × (Nat → Nat → Int64) × (Nat → Nat → Option Nat))) : Nat → Int32 → Int32 → Int32 → (Nat → Nat → Int32) → (Nat → Nat → Int64) → (Nat → Nat → Option Nat) → Option ((Int32) × (Nat → Nat → Int32) × (Nat → Nat → Int64) × (Nat → Nat → Option Nat))
  | 0, _, _, _, _, _, _ => none
  | n + 1, x1, x4, x5, i, lo, rv => if (i 50 26) ≤ x5 then (kh34 x1 (x4 + 1) i lo rv) else (if aIn (((6 : Int32) * x5) + (3 : Int32)) 296 = true then
    (if (i 63 ((((6 : Int32) * x5) + (3 : Int32)) : Int32).toNatClampNeg) = 0 then (bn2 (fX12_draw 100 lo) fun v13 lo14 =>
    if (i 50 36) ≤ v13 then (fX12_nights_109 kh34 (fX12_nights_59 kh34 n) x1 x4 x5 i lo14 rv) else (if aIn (((6 : Int32) * x5) + (3 : Int32)) 296 = true then
    (lt (u2 i 63 ((((6 : Int32) * x5) + (3 : Int32)) : Int32).toNatClampNeg 1) fun i16 => fX12_nights_109 kh34 (fX12_nights_59 kh34 n) x1 x4 x5 i16 lo14 rv) else none)) else (fX12_nights_109 kh34 (fX12_nights_59 kh34 n) x1 x4 x5 i lo rv)) else none)
def fX12_nights_34 : Nat → Int32 → Int32 → (Nat → Nat → Int32) → (Nat → Nat → Int64) → (Nat → Nat → Option Nat) → Option ((Int32) × (Nat → Nat → Int32) × (Nat → Nat → Int64) × (Nat → Nat → Option Nat))
  | 0, _, _, _, _, _ => none
  | n + 1, x1, x4, i, lo, rv => if x1 ≤ x4 then (if aIn 55 296 = true then
    (some ((i 63 (55 : Int32).toNatClampNeg), i, lo, rv)) else none) else (bn1 (fX12_remember i) fun i5 =>
    bn2 (fX12_drawnOfficer i5 lo) fun v7 lo8 =>
    bn2 (fX12_goesBorder 63 296 v7 i5 rv) fun i10 rv11 =>
    fX12_nights_59 (fX12_nights_34 n) fuel x1 x4 0 i10 lo8 rv11)
def fX12_nights (a1 : Int32) (a2 : Int64) (i : Nat → Nat → Int32) (lo : Nat → Nat → Int64) (rv : Nat → Nat → Option Nat) : Option ((Int32) × (Nat → Nat → Int32) × (Nat → Nat → Int64) × (Nat → Nat → Option Nat)) := lt (u2 i 50 0 0) fun i1 =>
    if (i1 50 26) = 0 then (some ((-1), i1, lo, rv)) else (bn1 (fX12_isIn (a1 : Int32).toInt64 1 20) fun v2 =>
    if v2 = 0 then (some ((-1), i1, lo, rv)) else (lt (u2 lo 50 43 a2) fun lo4 =>
    fX12_nights_34 fuel a1 0 i1 lo4 rv))
def fX12_undo_26 : Nat → Int32 → (Nat → Nat → Int32) → Option ((Int32) × (Nat → Nat → Int32))
  | 0, _, _ => none
  | n + 1, x1, i => if 296 ≤ x1 then (some ((i 50 42), i)) else (if aIn (((296 : Int32) * (i 50 42)) + x1) 11840 = true then
    (if aIn x1 296 = true then
    (lt (u2 i 63 (x1 : Int32).toNatClampNeg (i 65 ((((296 : Int32) * (i 50 42)) + x1) : Int32).toNatClampNeg)) fun i3 => fX12_undo_26 n (x1 + 1) i3) else none) else none)
def fX12_undo (i : Nat → Nat → Int32) : Option ((Int32) × (Nat → Nat → Int32)) := lt (u2 i 50 0 0) fun i1 =>
    if (i1 50 42) = 0 then (some ((-1), i1)) else (lt (u2 i1 50 42 ((i1 50 42) - (1 : Int32))) fun i2 =>
    fX12_undo_26 fuel 0 i2)
def fX12_log (a1 : Int32) (a2 : Int32) (i : Nat → Nat → Int32) : Option ((Int32) × (Nat → Nat → Int32)) := lt (u2 i 50 0 0) fun i1 =>
    if aIn 55 296 = true then
    (bn1 (fX12_isIn (a1 : Int32).toInt64 0 (((i1 63 (55 : Int32).toNatClampNeg) - (1 : Int32)) : Int32).toInt64) fun v2 =>
    if v2 = 0 then (some ((-1), i1)) else (bn1 (fX12_isIn (a2 : Int32).toInt64 0 3) fun v4 =>
    if v4 = 0 then (some ((-1), i1)) else (if aIn 55 296 = true then
    (if aIn (((56 : Int32) + ((4 : Int32) * (((i1 63 (55 : Int32).toNatClampNeg) - (1 : Int32)) - a1))) + a2) 296 = true then
    (some ((i1 63 ((((56 : Int32) + ((4 : Int32) * (((i1 63 (55 : Int32).toNatClampNeg) - (1 : Int32)) - a1))) + a2) : Int32).toNatClampNeg), i1)) else none) else none))) else none
def fX12_isLine (a1 : Int32) (i : Nat → Nat → Int32) : Option ((Int32)) := if a1 < 0 then (some (0)) else (if (i 50 31) ≤ a1 then (some (0)) else (some (1)))
def fX12_step (a1 : Int32) (a2 : Int32) (a3 : Int32) (i : Nat → Nat → Int32) : Option ((Int32) × (Nat → Nat → Int32)) := lt (u2 i 50 0 0) fun i1 =>
    bn1 (fX12_isLine a1 i1) fun v2 =>
    if v2 = 0 then (some ((-1000000), i1)) else (if aIn a1 5 = true then
    (bn1 (fX12_isIn (a2 : Int32).toInt64 0 (((i1 62 (a1 : Int32).toNatClampNeg) - (1 : Int32)) : Int32).toInt64) fun v4 =>
    if v4 = 0 then (some ((-1000000), i1)) else (bn1 (fX12_isIn (a3 : Int32).toInt64 0 2) fun v6 =>
    if v6 = 0 then (some ((-1000000), i1)) else (if aIn (((3 : Int32) * (((16 : Int32) * a1) + a2)) + a3) 240 = true then
    (some ((i1 61 ((((3 : Int32) * (((16 : Int32) * a1) + a2)) + a3) : Int32).toNatClampNeg), i1)) else none))) else none)
def fX12_canStep (w1 : Nat) (n1 : Nat) (a2 : Int32) (i : Nat → Nat → Int32) : Option ((Int32)) := if aIn (a2 + (1 : Int32)) 240 = true then
    (lt (i 61 ((a2 + (1 : Int32)) : Int32).toNatClampNeg) fun t1 =>
    if aIn (a2 + (2 : Int32)) 240 = true then
    (lt (i 61 ((a2 + (2 : Int32)) : Int32).toNatClampNeg) fun t2 =>
    if aIn a2 240 = true then
    (if (i 61 (a2 : Int32).toNatClampNeg) = 0 then (bn1 (fX12_canMove w1 n1 t1 t2 i) fun v3 =>
    if narrow .boolean (.int v3) = .int v3 then
    some (v3) else none) else
    if (i 61 (a2 : Int32).toNatClampNeg) = 1 then (bn1 (fX12_canSay w1 n1 t1 t2 i) fun v5 =>
    if narrow .boolean (.int v5) = .int v5 then
    some (v5) else none) else
    if (i 61 (a2 : Int32).toNatClampNeg) = 2 then (bn1 (fX12_canWake w1 n1 t1 i) fun v7 =>
    if narrow .boolean (.int v7) = .int v7 then
    some (v7) else none) else
    if (i 61 (a2 : Int32).toNatClampNeg) = 3 then (bn1 (fX12_canLie w1 n1 t1 i) fun v9 =>
    if narrow .boolean (.int v9) = .int v9 then
    some (v9) else none) else
    if (i 61 (a2 : Int32).toNatClampNeg) = 4 then (bn1 (fX12_canSwap t1 t2 i) fun v11 =>
    if narrow .boolean (.int v11) = .int v11 then
    some (v11) else none) else
    (bn1 (fX12_isOfficer t1 i) fun v13 =>
    if narrow .boolean (.int v13) = .int v13 then
    some (v13) else none)) else none) else none) else none
def fX12_steps (w1 : Nat) (n1 : Nat) (a2 : Int32) (i : Nat → Nat → Int32) (rv : Nat → Nat → Option Nat) : Option ((Nat → Nat → Int32) × (Nat → Nat → Option Nat)) := if aIn (a2 + (1 : Int32)) 240 = true then
    (lt (i 61 ((a2 + (1 : Int32)) : Int32).toNatClampNeg) fun t1 =>
    if aIn (a2 + (2 : Int32)) 240 = true then
    (lt (i 61 ((a2 + (2 : Int32)) : Int32).toNatClampNeg) fun t2 =>
    if aIn a2 240 = true then
    (if (i 61 (a2 : Int32).toNatClampNeg) = 0 then (bn1 (fX12_moves w1 n1 t1 t2 i) fun i3 =>
    some (i3, rv)) else
    if (i 61 (a2 : Int32).toNatClampNeg) = 1 then (if aIn (((6 : Int32) * t1) + (2 : Int32)) n1 = true then
    (lt (u2 i w1 ((((6 : Int32) * t1) + (2 : Int32)) : Int32).toNatClampNeg t2) fun i5 => some (i5, rv)) else none) else
    if (i 61 (a2 : Int32).toNatClampNeg) = 2 then (bn3 (fX12_wakes w1 n1 t1 0 9 i rv) fun v6 i7 rv8 =>
    some (i7, rv8)) else
    if (i 61 (a2 : Int32).toNatClampNeg) = 3 then (if aIn (((6 : Int32) * t1) + (3 : Int32)) n1 = true then
    (lt (u2 i w1 ((((6 : Int32) * t1) + (3 : Int32)) : Int32).toNatClampNeg 1) fun i10 => some (i10, rv)) else none) else
    if (i 61 (a2 : Int32).toNatClampNeg) = 4 then (bn1 (fX12_swaps w1 n1 t1 t2 i) fun i11 =>
    some (i11, rv)) else
    (bn2 (fX12_goesBorder w1 n1 t1 i rv) fun i13 rv14 =>
    some (i13, rv14))) else none) else none) else none
def fX12_lostIn_4 (w1 : Nat) (n1 : Nat) : Nat → Int32 → Int32 → (Nat → Nat → Int32) → Option ((Int32))
  | 0, _, _, _ => none
  | n + 1, x2, x3, i => if (i 50 26) ≤ x3 then (some (x2)) else (if aIn (((6 : Int32) * x3) + (5 : Int32)) n1 = true then
    (lt (x2 + (i w1 ((((6 : Int32) * x3) + (5 : Int32)) : Int32).toNatClampNeg)) fun t1 =>
    fX12_lostIn_4 w1 n1 n t1 (x3 + 1) i) else none)
def fX12_lostIn (w1 : Nat) (n1 : Nat) (i : Nat → Nat → Int32) : Option ((Int32)) := fX12_lostIn_4 w1 n1 fuel 0 0 i
def fX12_run_98 (x1 : Int32) (x2 : Int32) (x3 : Int32) (i : Nat → Nat → Int32) (rv : Nat → Nat → Option Nat) : Option ((Int32) × (Nat → Nat → Int32) × (Nat → Nat → Option Nat)) := if x2 = 1 then (bn1 (fX12_lostIn 64 296 i) fun v13 =>
    bn1 (fX12_lostIn 63 296 i) fun v15 =>
    some ((v13 - v15), i, rv)) else (if aIn x1 5 = true then
    (if x3 = (i 62 (x1 : Int32).toNatClampNeg) then (some ((-1), i, rv)) else (some (x3, i, rv))) else none)
def fX12_run_47 : Nat → Int32 → Int32 → Int32 → (Nat → Nat → Int32) → (Nat → Nat → Option Nat) → Option ((Int32) × (Nat → Nat → Int32) × (Nat → Nat → Option Nat))
  | 0, _, _, _, _, _ => none
  | n + 1, x1, x2, x3, i, rv => if aIn x1 5 = true then
    (if (i 62 (x1 : Int32).toNatClampNeg) ≤ x3 then (fX12_run_98 x1 x2 x3 i rv) else (bn1 (fX12_canStep 64 296 ((3 : Int32) * (((16 : Int32) * x1) + x3)) i) fun v8 =>
    if v8 = 0 then (fX12_run_98 x1 x2 x3 i rv) else (bn2 (fX12_steps 64 296 ((3 : Int32) * (((16 : Int32) * x1) + x3)) i rv) fun i10 rv11 =>
    fX12_run_47 n x1 x2 (x3 + 1) i10 rv11))) else none
def fX12_run (a1 : Int32) (a2 : Int32) (i : Nat → Nat → Int32) (rv : Nat → Nat → Option Nat) : Option ((Int32) × (Nat → Nat → Int32) × (Nat → Nat → Option Nat)) := lt (u2 i 50 0 0) fun i1 =>
    bn1 (fX12_isLine a1 i1) fun v2 =>
    if v2 = 0 then (some ((-1000000), i1, rv)) else (if (i1 50 26) = 0 then (some ((-1000000), i1, rv)) else (bn1 (fX12_isIn (a2 : Int32).toInt64 0 1) fun v4 =>
    if v4 = 0 then (some ((-1000000), i1, rv)) else (bn1 (fX12_copy 63 296 64 296 i1) fun i6 =>
    fX12_run_47 fuel a1 a2 0 i6 rv)))
def fX12_perform_24 : Nat → Int32 → Int32 → (Nat → Nat → Int32) → (Nat → Nat → Option Nat) → Option ((Int32) × (Nat → Nat → Int32) × (Nat → Nat → Option Nat))
  | 0, _, _, _, _ => none
  | n + 1, x1, x2, i, rv => if aIn x1 5 = true then
    (if (i 62 (x1 : Int32).toNatClampNeg) ≤ x2 then (some (x2, i, rv)) else (bn1 (fX12_canStep 63 296 ((3 : Int32) * (((16 : Int32) * x1) + x2)) i) fun v4 =>
    if v4 = 0 then (some (x2, i, rv)) else (bn1 (fX12_remember i) fun i6 =>
    bn2 (fX12_steps 63 296 ((3 : Int32) * (((16 : Int32) * x1) + x2)) i6 rv) fun i8 rv9 =>
    fX12_perform_24 n x1 (x2 + 1) i8 rv9))) else none
def fX12_perform (a1 : Int32) (i : Nat → Nat → Int32) (rv : Nat → Nat → Option Nat) : Option ((Int32) × (Nat → Nat → Int32) × (Nat → Nat → Option Nat)) := lt (u2 i 50 0 0) fun i1 =>
    bn1 (fX12_isLine a1 i1) fun v2 =>
    if v2 = 0 then (some ((-1), i1, rv)) else (if (i1 50 26) = 0 then (some ((-1), i1, rv)) else (fX12_perform_24 fuel a1 0 i1 rv))
def fX12_time (a1 : Int32) (a2 : Int32) (i : Nat → Nat → Int32) (rv : Nat → Nat → Option Nat) : Option ((Int32) × (Nat → Nat → Int32) × (Nat → Nat → Option Nat)) := lt (u2 i 50 0 0) fun i1 =>
    bn1 (fX12_isOfficer a1 i1) fun v2 =>
    if v2 = 0 then (some ((-1), i1, rv)) else (bn1 (fX12_isIn (a2 : Int32).toInt64 0 1) fun v4 =>
    if v4 = 0 then (some ((-1), i1, rv)) else (bn2 (fX12_tryBorder a1 i1 rv) fun i6 rv7 =>
    if a2 = 0 then (some ((i6 50 37), i6, rv7)) else (some ((i6 50 38), i6, rv7))))
def fX12_tensOf_125 (kh17 : Int32 → Int32 → Int32 → Int32 → Int32 → Int32 → (Nat → Nat → Int32) → Option ((Int32))) (x1 : Int32) (x2 : Int32) (x3 : Int32) (x4 : Int32) (x5 : Int32) (x6 : Int32) (i : Nat → Nat → Int32) : Option ((Int32)) := kh17 x1 x2 x3 x4 x5 (x6 + 1) i
def fX12_tensOf_122 (kh17 : Int32 → Int32 → Int32 → Int32 → Int32 → Int32 → (Nat → Nat → Int32) → Option ((Int32))) (x1 : Int32) (x2 : Int32) (x3 : Int32) (x4 : Int32) (x6 : Int32) (s0 : Int32) (s1 : Int32) (i : Nat → Nat → Int32) : Option ((Int32)) := fX12_tensOf_125 kh17 x1 x2 x3 x4 (s0 - s1) x6 i
def fX12_tensOf_121 (kh17 : Int32 → Int32 → Int32 → Int32 → Int32 → Int32 → (Nat → Nat → Int32) → Option ((Int32))) (x1 : Int32) (x2 : Int32) (x3 : Int32) (x4 : Int32) (x6 : Int32) (s0 : Int32) (i : Nat → Nat → Int32) : Option ((Int32)) := fX12_tensOf_122 kh17 x1 x2 x3 x4 x6 s0 0 i
def fX12_tensOf_85 (kh17 : Int32 → Int32 → Int32 → Int32 → Int32 → Int32 → (Nat → Nat → Int32) → Option ((Int32))) (x1 : Int32) (x2 : Int32) (x3 : Int32) (x5 : Int32) (x6 : Int32) (x7 : Int32) (s0 : Int32) (s1 : Int32) (s4 : Int32) (s5 : Int32) (s6 : Int32) (i : Nat → Nat → Int32) : Option ((Int32)) := bn1 (fX12_waitOf 63 296 s4 s5 s6 i) fun v5 =>
    lt (if s0 < (s1 + v5) then (s1 + v5) else s0) fun t7 =>
    if aIn (((6 : Int32) * x7) + (2 : Int32)) 296 = true then
    (if (i 63 ((((6 : Int32) * x7) + (2 : Int32)) : Int32).toNatClampNeg) = 2 then (if x5 ≤ 0 then (fX12_tensOf_121 kh17 x1 x2 x3 t7 x6 x5 i) else (fX12_tensOf_122 kh17 x1 x2 x3 t7 x6 x5 1 i)) else (fX12_tensOf_121 kh17 x1 x2 x3 t7 x6 x5 i)) else none
def fX12_tensOf_17 : Nat → Int32 → Int32 → Int32 → Int32 → Int32 → Int32 → (Nat → Nat → Int32) → Option ((Int32))
  | 0, _, _, _, _, _, _, _ => none
  | n + 1, x1, x2, x3, x4, x5, x6, i => if x2 ≤ x6 then (some ((if x4 < x3 then x3 else x4))) else (if aIn x6 9 = true then
    (lt (i 66 (x6 : Int32).toNatClampNeg) fun t2 =>
    bn1 (fX12_turnOf 63 296 t2 x1 i) fun v3 =>
    if aIn (((6 : Int32) * t2) + (1 : Int32)) 54 = true then
    (if (i 57 ((((6 : Int32) * t2) + (1 : Int32)) : Int32).toNatClampNeg) = 0 then (fX12_tensOf_125 (fX12_tensOf_17 n) x1 x2 (x3 + v3) x4 x5 x6 i) else (if x5 ≤ 0 then (fX12_tensOf_85 (fX12_tensOf_17 n) x1 x2 (x3 + v3) x5 x6 t2 x4 (x3 + v3) t2 x1 0 i) else (fX12_tensOf_85 (fX12_tensOf_17 n) x1 x2 (x3 + v3) x5 x6 t2 x4 (x3 + v3) t2 x1 1 i))) else none) else none)
def fX12_tensOf (a1 : Int32) (a2 : Int32) (i : Nat → Nat → Int32) : Option ((Int32)) := if aIn 54 296 = true then
    (lt (i 63 (54 : Int32).toNatClampNeg) fun t1 =>
    fX12_tensOf_17 fuel a1 a2 0 0 t1 0 i) else none
def fX12_goOrder_34 (gs : Int32 → Int32 → Int32 → Int32 → (Nat → Nat → Int32) → Option ((Nat → Nat → Int32))) (x4 : Int32) (x5 : Int32) (i : Nat → Nat → Int32) : Option ((Nat → Nat → Int32)) := lt (u2 i 50 44 x5) fun i10 =>
    lt (u2 i10 50 45 x4) fun i11 =>
    some (i11)
def fX12_goOrder_110 (gs : Int32 → Int32 → Int32 → Int32 → (Nat → Nat → Int32) → Option ((Nat → Nat → Int32))) (kh50 : Int32 → Int32 → Int32 → Int32 → Int32 → (Nat → Nat → Int32) → Option ((Nat → Nat → Int32))) (x1 : Int32) (x2 : Int32) (x3 : Int32) (x4 : Int32) (x5 : Int32) (i : Nat → Nat → Int32) : Option ((Nat → Nat → Int32)) := kh50 x1 x2 x3 x4 (x5 + 1) i
def fX12_goOrder_50 (gs : Int32 → Int32 → Int32 → Int32 → (Nat → Nat → Int32) → Option ((Nat → Nat → Int32))) : Nat → Int32 → Int32 → Int32 → Int32 → Int32 → (Nat → Nat → Int32) → Option ((Nat → Nat → Int32))
  | 0, _, _, _, _, _, _ => none
  | n + 1, x1, x2, x3, x4, x5, i => if (i 50 26) ≤ x5 then (some (i)) else (bn1 (fX12_isChild x5 i) fun v3 =>
    if v3 = 0 then (bn1 (fX12_has x2 x5) fun v5 =>
    if v5 = 0 then (if aIn x3 9 = true then
    (lt (u2 i 66 (x3 : Int32).toNatClampNeg x5) fun i7 => bn1 (gs x1 (x2 ||| ((1 : Int32) <<< (x5 &&& 31))) (x3 + (1 : Int32)) (((10 : Int32) * x4) + x5) i7) fun i8 =>
    fX12_goOrder_110 gs (fX12_goOrder_50 gs n) x1 x2 x3 x4 x5 i8) else none) else (fX12_goOrder_110 gs (fX12_goOrder_50 gs n) x1 x2 x3 x4 x5 i)) else (fX12_goOrder_110 gs (fX12_goOrder_50 gs n) x1 x2 x3 x4 x5 i))
def fX12_goOrderb (gs : Int32 → Int32 → Int32 → Int32 → (Nat → Nat → Int32) → Option ((Nat → Nat → Int32))) (a1 : Int32) (a2 : Int32) (a3 : Int32) (a4 : Int32) (i : Nat → Nat → Int32) : Option ((Nat → Nat → Int32)) := if a3 = (i 50 28) then (bn1 (fX12_tensOf a1 a3 i) fun v1 =>
    if (i 50 44) = (-1) then (fX12_goOrder_34 gs a4 v1 i) else (if v1 < (i 50 44) then (fX12_goOrder_34 gs a4 v1 i) else (some (i)))) else (fX12_goOrder_50 gs fuel a1 a2 a3 a4 0 i)
def fX12_goOrder : Nat → Int32 → Int32 → Int32 → Int32 → (Nat → Nat → Int32) → Option ((Nat → Nat → Int32))
  | 0, _, _, _, _, _ => none
  | n + 1, a1, a2, a3, a4, i => fX12_goOrderb (fX12_goOrder n) a1 a2 a3 a4 i
def fX12_order (a1 : Int32) (a2 : Int32) (i : Nat → Nat → Int32) : Option ((Int32) × (Nat → Nat → Int32)) := lt (u2 i 50 0 0) fun i1 =>
    bn1 (fX12_isOfficer a1 i1) fun v2 =>
    if v2 = 0 then (some ((-1), i1)) else (bn1 (fX12_isIn (a2 : Int32).toInt64 0 1) fun v4 =>
    if v4 = 0 then (some ((-1), i1)) else (if (i1 50 28) ≤ 7 then (lt (u2 i1 50 44 (-1)) fun i6 =>
    bn1 (fX12_goOrder 12 a1 0 0 0 i6) fun i7 =>
    if a2 = 0 then (some ((i7 50 45), i7)) else (some ((i7 50 44), i7))) else (some ((-1000000), i1))))
def fX12_bound_105 (kh22 : Int32 → Int32 → Int32 → Int32 → (Nat → Nat → Int32) → Option ((Int32) × (Nat → Nat → Int32))) (x1 : Int32) (x2 : Int32) (x3 : Int32) (x4 : Int32) (i : Nat → Nat → Int32) : Option ((Int32) × (Nat → Nat → Int32)) := kh22 x1 x2 x3 (x4 + 1) i
def fX12_bound_100 (kh22 : Int32 → Int32 → Int32 → Int32 → (Nat → Nat → Int32) → Option ((Int32) × (Nat → Nat → Int32))) (x1 : Int32) (x2 : Int32) (x4 : Int32) (s0 : Int32) (s1 : Int32) (s2 : Int32) (i : Nat → Nat → Int32) : Option ((Int32) × (Nat → Nat → Int32)) := lt (if s0 < (s1 + s2) then (s1 + s2) else s0) fun t12 =>
    fX12_bound_105 kh22 x1 x2 t12 x4 i
def fX12_bound_22 : Nat → Int32 → Int32 → Int32 → Int32 → (Nat → Nat → Int32) → Option ((Int32) × (Nat → Nat → Int32))
  | 0, _, _, _, _, _ => none
  | n + 1, x1, x2, x3, x4, i => if (i 50 26) ≤ x4 then (some ((if x2 < x3 then x3 else x2), i)) else (bn1 (fX12_isChild x4 i) fun v4 =>
    if v4 = 0 then (bn1 (fX12_turnOf 63 296 x4 x1 i) fun v6 =>
    bn1 (fX12_turnOf 63 296 x4 x1 i) fun v8 =>
    if aIn (((6 : Int32) * x4) + (1 : Int32)) 54 = true then
    (if (i 57 ((((6 : Int32) * x4) + (1 : Int32)) : Int32).toNatClampNeg) = 0 then (fX12_bound_100 (fX12_bound_22 n) x1 (x2 + v6) x4 x3 v8 0 i) else (bn1 (fX12_waitOf 63 296 x4 x1 1 i) fun v10 =>
    fX12_bound_100 (fX12_bound_22 n) x1 (x2 + v6) x4 x3 v8 v10 i)) else none) else (fX12_bound_105 (fX12_bound_22 n) x1 x2 x3 x4 i))
def fX12_bound (a1 : Int32) (i : Nat → Nat → Int32) : Option ((Int32) × (Nat → Nat → Int32)) := lt (u2 i 50 0 0) fun i1 =>
    bn1 (fX12_isOfficer a1 i1) fun v2 =>
    if v2 = 0 then (some ((-1), i1)) else (fX12_bound_22 fuel a1 0 0 0 i1)
def fX12_costOf_42 (kh4 : Int32 → Int32 → Int32 → (Nat → Nat → Int32) → (Nat → Nat → Option Nat) → Option ((Int32) × (Nat → Nat → Int32) × (Nat → Nat → Option Nat))) (x1 : Int32) (x3 : Int32) (s0 : Int32) (s1 : Int32) (i : Nat → Nat → Int32) (rv : Nat → Nat → Option Nat) : Option ((Int32) × (Nat → Nat → Int32) × (Nat → Nat → Option Nat)) := kh4 x1 (s0 + s1) (x3 + 1) i rv
def fX12_costOf_119 (kh52 : Int32 → Int32 → Int32 → (Nat → Nat → Int32) → (Nat → Nat → Option Nat) → Option ((Int32) × (Nat → Nat → Int32) × (Nat → Nat → Option Nat))) (kh88 : Int32 → Int32 → Int32 → Int32 → (Nat → Nat → Int32) → (Nat → Nat → Option Nat) → Option ((Int32) × (Nat → Nat → Int32) × (Nat → Nat → Option Nat))) (x1 : Int32) (x2 : Int32) (x3 : Int32) (x4 : Int32) (i : Nat → Nat → Int32) (rv : Nat → Nat → Option Nat) : Option ((Int32) × (Nat → Nat → Int32) × (Nat → Nat → Option Nat)) := kh88 x1 x2 x3 (x4 + 1) i rv
def fX12_costOf_163 (kh52 : Int32 → Int32 → Int32 → (Nat → Nat → Int32) → (Nat → Nat → Option Nat) → Option ((Int32) × (Nat → Nat → Int32) × (Nat → Nat → Option Nat))) (x1 : Int32) (x2 : Int32) (x3 : Int32) (i : Nat → Nat → Int32) (rv : Nat → Nat → Option Nat) : Option ((Int32) × (Nat → Nat → Int32) × (Nat → Nat → Option Nat)) := kh52 x1 x2 (x3 + 1) i rv
def fX12_costOf_88 (kh52 : Int32 → Int32 → Int32 → (Nat → Nat → Int32) → (Nat → Nat → Option Nat) → Option ((Int32) × (Nat → Nat → Int32) × (Nat → Nat → Option Nat))) : Nat → Int32 → Int32 → Int32 → Int32 → (Nat → Nat → Int32) → (Nat → Nat → Option Nat) → Option ((Int32) × (Nat → Nat → Int32) × (Nat → Nat → Option Nat))
  | 0, _, _, _, _, _, _ => none
  | n + 1, x1, x2, x3, x4, i, rv => if (i 50 26) ≤ x4 then (bn2 (fX12_goBorder 64 296 x3 i rv) fun i11 rv12 =>
    bn1 (fX12_isLate (i11 50 37) i11) fun v14 =>
    if v14 = 0 then (if aIn ((4 : Int32) * x3) 16 = true then
    (lt (x2 + ((i11 59 (((4 : Int32) * x3) : Int32).toNatClampNeg) * (i11 50 38))) fun t16 =>
    fX12_costOf_163 kh52 x1 t16 x3 i11 rv12) else none) else (some ((-1), i11, rv12))) else (bn1 (fX12_has x1 x4) fun v17 =>
    if v17 = 0 then (fX12_costOf_119 kh52 (fX12_costOf_88 kh52 n) x1 x2 x3 x4 i rv) else (if aIn (((6 : Int32) * x4) + (3 : Int32)) 296 = true then
    (lt (u2 i 64 ((((6 : Int32) * x4) + (3 : Int32)) : Int32).toNatClampNeg 0) fun i19 => fX12_costOf_119 kh52 (fX12_costOf_88 kh52 n) x1 x2 x3 x4 i19 rv) else none))
def fX12_costOf_52 : Nat → Int32 → Int32 → Int32 → (Nat → Nat → Int32) → (Nat → Nat → Option Nat) → Option ((Int32) × (Nat → Nat → Int32) × (Nat → Nat → Option Nat))
  | 0, _, _, _, _, _ => none
  | n + 1, x1, x2, x3, i, rv => if (i 50 27) ≤ x3 then (some (x2, i, rv)) else (if aIn ((4 : Int32) * x3) 16 = true then
    (if (i 59 (((4 : Int32) * x3) : Int32).toNatClampNeg) = 0 then (fX12_costOf_163 (fX12_costOf_52 n) x1 x2 x3 i rv) else (bn1 (fX12_copy 63 296 64 296 i) fun i9 =>
    fX12_costOf_88 (fX12_costOf_52 n) fuel x1 x2 x3 0 i9 rv)) else none)
def fX12_costOf_4 : Nat → Int32 → Int32 → Int32 → (Nat → Nat → Int32) → (Nat → Nat → Option Nat) → Option ((Int32) × (Nat → Nat → Int32) × (Nat → Nat → Option Nat))
  | 0, _, _, _, _, _ => none
  | n + 1, x1, x2, x3, i, rv => if (i 50 26) ≤ x3 then (fX12_costOf_52 fuel x1 x2 0 i rv) else (bn1 (fX12_has x1 x3) fun v1 =>
    if v1 = 0 then (fX12_costOf_42 (fX12_costOf_4 n) x1 x3 x2 0 i rv) else (bn1 (fX12_weights i) fun v3 =>
    bn3 (fX12_sleepOf 63 296 x3 0 9 i rv) fun v5 i6 rv7 =>
    fX12_costOf_42 (fX12_costOf_4 n) x1 x3 x2 (v3 * v5) i6 rv7))
def fX12_costOf (a1 : Int32) (i : Nat → Nat → Int32) (rv : Nat → Nat → Option Nat) : Option ((Int32) × (Nat → Nat → Int32) × (Nat → Nat → Option Nat)) := fX12_costOf_4 fuel a1 0 0 i rv
def fX12_before_67 (kh28 : Int32 → Int32 → Int32 → (Nat → Nat → Int32) → (Nat → Nat → Option Nat) → Option ((Int32) × (Nat → Nat → Int32) × (Nat → Nat → Option Nat))) (x1 : Int32) (x3 : Int32) (s0 : Int32) (s1 : Int32) (i : Nat → Nat → Int32) (rv : Nat → Nat → Option Nat) : Option ((Int32) × (Nat → Nat → Int32) × (Nat → Nat → Option Nat)) := kh28 x1 (s0 ||| s1) (x3 + 1) i rv
def fX12_before_66 (kh28 : Int32 → Int32 → Int32 → (Nat → Nat → Int32) → (Nat → Nat → Option Nat) → Option ((Int32) × (Nat → Nat → Int32) × (Nat → Nat → Option Nat))) (x1 : Int32) (x3 : Int32) (s0 : Int32) (i : Nat → Nat → Int32) (rv : Nat → Nat → Option Nat) : Option ((Int32) × (Nat → Nat → Int32) × (Nat → Nat → Option Nat)) := fX12_before_67 kh28 x1 x3 s0 0 i rv
def fX12_before_137 (kh83 : Int32 → Int32 → Int32 → Int32 → Int32 → (Nat → Nat → Int32) → (Nat → Nat → Option Nat) → Option ((Int32) × (Nat → Nat → Int32) × (Nat → Nat → Option Nat))) (x1 : Int32) (x2 : Int32) (x3 : Int32) (x4 : Int32) (x5 : Int32) (i : Nat → Nat → Int32) (rv : Nat → Nat → Option Nat) : Option ((Int32) × (Nat → Nat → Int32) × (Nat → Nat → Option Nat)) := kh83 x1 x2 x3 x4 (x5 + 1) i rv
def fX12_before_130 (kh83 : Int32 → Int32 → Int32 → Int32 → Int32 → (Nat → Nat → Int32) → (Nat → Nat → Option Nat) → Option ((Int32) × (Nat → Nat → Int32) × (Nat → Nat → Option Nat))) (x1 : Int32) (x2 : Int32) (x5 : Int32) (x6 : Int32) (i : Nat → Nat → Int32) (rv : Nat → Nat → Option Nat) : Option ((Int32) × (Nat → Nat → Int32) × (Nat → Nat → Option Nat)) := fX12_before_137 kh83 x1 x2 x5 x6 x5 i rv
def fX12_before_152 (x3 : Int32) (i : Nat → Nat → Int32) (rv : Nat → Nat → Option Nat) : Option ((Int32) × (Nat → Nat → Int32) × (Nat → Nat → Option Nat)) := some (x3, i, rv)
def fX12_before_83 : Nat → Int32 → Int32 → Int32 → Int32 → Int32 → (Nat → Nat → Int32) → (Nat → Nat → Option Nat) → Option ((Int32) × (Nat → Nat → Int32) × (Nat → Nat → Option Nat))
  | 0, _, _, _, _, _, _, _ => none
  | n + 1, x1, x2, x3, x4, x5, i, rv => if x2 < x5 then (if x1 = 0 then (fX12_before_152 x3 i rv) else (if x3 = (-1) then (fX12_before_152 x3 i rv) else (some (x4, i, rv)))) else (if (x5 &&& (x2 ^^^ ((-1) : Int32))) = 0 then (bn3 (fX12_costOf x5 i rv) fun v6 i7 rv8 =>
    if v6 = (-1) then (fX12_before_137 (fX12_before_83 n) x1 x2 x3 x4 x5 i7 rv8) else (if x3 = (-1) then (fX12_before_130 (fX12_before_83 n) x1 x2 x5 v6 i7 rv8) else (if v6 < x4 then (fX12_before_130 (fX12_before_83 n) x1 x2 x5 v6 i7 rv8) else (fX12_before_137 (fX12_before_83 n) x1 x2 x3 x4 x5 i7 rv8)))) else (fX12_before_137 (fX12_before_83 n) x1 x2 x3 x4 x5 i rv))
def fX12_before_28 : Nat → Int32 → Int32 → Int32 → (Nat → Nat → Int32) → (Nat → Nat → Option Nat) → Option ((Int32) × (Nat → Nat → Int32) × (Nat → Nat → Option Nat))
  | 0, _, _, _, _, _ => none
  | n + 1, x1, x2, x3, i, rv => if (i 50 26) ≤ x3 then (fX12_before_83 fuel x1 x2 (-1) 0 0 i rv) else (bn1 (fX12_isChild x3 i) fun v4 =>
    if v4 = 0 then (if aIn (((6 : Int32) * x3) + (3 : Int32)) 296 = true then
    (if (i 63 ((((6 : Int32) * x3) + (3 : Int32)) : Int32).toNatClampNeg) = 1 then (fX12_before_67 (fX12_before_28 n) x1 x3 x2 ((1 : Int32) <<< (x3 &&& 31)) i rv) else (fX12_before_66 (fX12_before_28 n) x1 x3 x2 i rv)) else none) else (fX12_before_66 (fX12_before_28 n) x1 x3 x2 i rv))
def fX12_before (a1 : Int32) (i : Nat → Nat → Int32) (rv : Nat → Nat → Option Nat) : Option ((Int32) × (Nat → Nat → Int32) × (Nat → Nat → Option Nat)) := lt (u2 i 50 0 0) fun i1 =>
    if (i1 50 26) = 0 then (some ((-1), i1, rv)) else (bn1 (fX12_isIn (a1 : Int32).toInt64 0 1) fun v2 =>
    if v2 = 0 then (some ((-1), i1, rv)) else (fX12_before_28 fuel a1 0 0 i1 rv))
def fX12_words_74 (kh31 : Int32 → Int32 → Int32 → Int32 → (Nat → Nat → Int32) → Option ((Int32) × (Nat → Nat → Int32))) (x1 : Int32) (x2 : Int32) (x3 : Int32) (x4 : Int32) (i : Nat → Nat → Int32) : Option ((Int32) × (Nat → Nat → Int32)) := kh31 x1 x2 x3 (x4 + 1) i
def fX12_words_202 (kh95 : Int32 → Int32 → Int32 → Int32 → Int32 → (Nat → Nat → Int32) → Option ((Int32) × (Nat → Nat → Int32))) (kh121 : Int32 → Int32 → Int32 → Int32 → Int32 → Int32 → Int32 → Int32 → (Nat → Nat → Int32) → Option ((Int32) × (Nat → Nat → Int32))) (x1 : Int32) (x3 : Int32) (x4 : Int32) (x5 : Int32) (x6 : Int32) (x7 : Int32) (x8 : Int32) (x9 : Int32) (i : Nat → Nat → Int32) : Option ((Int32) × (Nat → Nat → Int32)) := kh121 x1 x3 x4 x5 x6 x7 x8 (x9 + 1) i
def fX12_words_296 (kh95 : Int32 → Int32 → Int32 → Int32 → Int32 → (Nat → Nat → Int32) → Option ((Int32) × (Nat → Nat → Int32))) (kh249 : Int32 → Int32 → Int32 → Int32 → Int32 → Int32 → Int32 → Int32 → (Nat → Nat → Int32) → Option ((Int32) × (Nat → Nat → Int32))) (x1 : Int32) (x3 : Int32) (x4 : Int32) (x5 : Int32) (x6 : Int32) (x7 : Int32) (x10 : Int32) (s0 : Int32) (s1 : Int32) (i : Nat → Nat → Int32) : Option ((Int32) × (Nat → Nat → Int32)) := kh249 x1 x3 x4 x5 x6 x7 (s0 + s1) (x10 + 1) i
def fX12_words_371 (kh95 : Int32 → Int32 → Int32 → Int32 → Int32 → (Nat → Nat → Int32) → Option ((Int32) × (Nat → Nat → Int32))) (x1 : Int32) (x3 : Int32) (x4 : Int32) (x5 : Int32) (x6 : Int32) (i : Nat → Nat → Int32) : Option ((Int32) × (Nat → Nat → Int32)) := kh95 x1 x3 x4 x5 (x6 + 1) i
def fX12_words_363 (kh95 : Int32 → Int32 → Int32 → Int32 → Int32 → (Nat → Nat → Int32) → Option ((Int32) × (Nat → Nat → Int32))) (x1 : Int32) (x3 : Int32) (x6 : Int32) (x7 : Int32) (x9 : Int32) (i : Nat → Nat → Int32) : Option ((Int32) × (Nat → Nat → Int32)) := fX12_words_371 kh95 x1 x3 x7 x9 x6 i
def fX12_words_308 (kh95 : Int32 → Int32 → Int32 → Int32 → Int32 → (Nat → Nat → Int32) → Option ((Int32) × (Nat → Nat → Int32))) : Nat → Int32 → Int32 → Int32 → Int32 → Int32 → Int32 → Int32 → Int32 → (Nat → Nat → Int32) → Option ((Int32) × (Nat → Nat → Int32))
  | 0, _, _, _, _, _, _, _, _, _ => none
  | n + 1, x1, x3, x4, x5, x6, x7, x9, x10, i => if (i 50 26) ≤ x10 then (if x4 = (-1) then (fX12_words_363 kh95 x1 x3 x6 x7 x9 i) else (if x9 < x5 then (fX12_words_363 kh95 x1 x3 x6 x7 x9 i) else (fX12_words_371 kh95 x1 x3 x4 x5 x6 i))) else (if aIn (((6 : Int32) * x10) + (2 : Int32)) 296 = true then
    (if aIn (((6 : Int32) * x10) + (2 : Int32)) 296 = true then
    (lt (u2 i 63 ((((6 : Int32) * x10) + (2 : Int32)) : Int32).toNatClampNeg (i 64 ((((6 : Int32) * x10) + (2 : Int32)) : Int32).toNatClampNeg)) fun i17 => fX12_words_308 kh95 n x1 x3 x4 x5 x6 x7 x9 (x10 + 1) i17) else none) else none)
def fX12_words_249 (kh95 : Int32 → Int32 → Int32 → Int32 → Int32 → (Nat → Nat → Int32) → Option ((Int32) × (Nat → Nat → Int32))) : Nat → Int32 → Int32 → Int32 → Int32 → Int32 → Int32 → Int32 → Int32 → (Nat → Nat → Int32) → Option ((Int32) × (Nat → Nat → Int32))
  | 0, _, _, _, _, _, _, _, _, _ => none
  | n + 1, x1, x3, x4, x5, x6, x7, x9, x10, i => if (i 50 27) ≤ x10 then (fX12_words_308 kh95 fuel x1 x3 x4 x5 x6 x7 x9 0 i) else (if aIn ((4 : Int32) * x10) 16 = true then
    (if (i 59 (((4 : Int32) * x10) : Int32).toNatClampNeg) = 0 then (fX12_words_296 kh95 (fX12_words_249 kh95 n) x1 x3 x4 x5 x6 x7 x10 x9 0 i) else (if aIn ((4 : Int32) * x10) 16 = true then
    (bn1 (fX12_tensOf x10 (i 50 28) i) fun v15 =>
    fX12_words_296 kh95 (fX12_words_249 kh95 n) x1 x3 x4 x5 x6 x7 x10 x9 ((i 59 (((4 : Int32) * x10) : Int32).toNatClampNeg) * v15) i) else none)) else none)
def fX12_words_214 (kh95 : Int32 → Int32 → Int32 → Int32 → Int32 → (Nat → Nat → Int32) → Option ((Int32) × (Nat → Nat → Int32))) : Nat → Int32 → Int32 → Int32 → Int32 → Int32 → Int32 → Int32 → Int32 → (Nat → Nat → Int32) → Option ((Int32) × (Nat → Nat → Int32))
  | 0, _, _, _, _, _, _, _, _, _ => none
  | n + 1, x1, x3, x4, x5, x6, x7, x9, x10, i => if (i 50 28) ≤ x10 then (fX12_words_249 kh95 fuel x1 x3 x4 x5 x6 x7 x9 0 i) else (bn1 (fX12_paperAt 63 296 x10 i) fun v12 =>
    if aIn x10 9 = true then
    (lt (u2 i 66 (x10 : Int32).toNatClampNeg v12) fun i14 => fX12_words_214 kh95 n x1 x3 x4 x5 x6 x7 x9 (x10 + 1) i14) else none)
def fX12_words_121 (kh95 : Int32 → Int32 → Int32 → Int32 → Int32 → (Nat → Nat → Int32) → Option ((Int32) × (Nat → Nat → Int32))) : Nat → Int32 → Int32 → Int32 → Int32 → Int32 → Int32 → Int32 → Int32 → (Nat → Nat → Int32) → Option ((Int32) × (Nat → Nat → Int32))
  | 0, _, _, _, _, _, _, _, _, _ => none
  | n + 1, x1, x3, x4, x5, x6, x7, x8, x9, i => if (i 50 26) ≤ x9 then (fX12_words_214 kh95 fuel x1 x3 x4 x5 x6 x7 0 0 i) else (bn1 (fX12_isChild x9 i) fun v8 =>
    if v8 = 0 then (if aIn (((6 : Int32) * x9) + (1 : Int32)) 54 = true then
    (if (i 57 ((((6 : Int32) * x9) + (1 : Int32)) : Int32).toNatClampNeg) = 0 then (fX12_words_202 kh95 (fX12_words_121 kh95 n) x1 x3 x4 x5 x6 x7 x8 x9 i) else (if (x8 / (3 : Int32)) = 0 then none else
    if aIn (((6 : Int32) * x9) + (2 : Int32)) 296 = true then
    (lt (u2 i 63 ((((6 : Int32) * x9) + (2 : Int32)) : Int32).toNatClampNeg ((x6 / (x8 / (3 : Int32))) - (x6 / (x8 / (3 : Int32))) / (3 : Int32) * (3 : Int32))) fun i10 => if aIn (((6 : Int32) * x9) + (2 : Int32)) 296 = true then
    (lt (((10 : Int32) * x7) + (i10 63 ((((6 : Int32) * x9) + (2 : Int32)) : Int32).toNatClampNeg)) fun t11 =>
    fX12_words_202 kh95 (fX12_words_121 kh95 n) x1 x3 x4 x5 x6 t11 (x8 / (3 : Int32)) x9 i10) else none) else none)) else none) else (fX12_words_202 kh95 (fX12_words_121 kh95 n) x1 x3 x4 x5 x6 x7 x8 x9 i))
def fX12_words_95 : Nat → Int32 → Int32 → Int32 → Int32 → Int32 → (Nat → Nat → Int32) → Option ((Int32) × (Nat → Nat → Int32))
  | 0, _, _, _, _, _, _ => none
  | n + 1, x1, x3, x4, x5, x6, i => if x3 ≤ x6 then (if x1 = 0 then (some (x4, i)) else (some (x5, i))) else (bn1 (fX12_copy 63 296 64 296 i) fun i6 =>
    fX12_words_121 (fX12_words_95 n) fuel x1 x3 x4 x5 x6 0 x3 0 i6)
def fX12_words_31 : Nat → Int32 → Int32 → Int32 → Int32 → (Nat → Nat → Int32) → Option ((Int32) × (Nat → Nat → Int32))
  | 0, _, _, _, _, _ => none
  | n + 1, x1, x2, x3, x4, i => if (i 50 26) ≤ x4 then (if x2 = 0 then (some ((-1), i)) else (fX12_words_95 fuel x1 x3 (-1) 0 0 i)) else (bn1 (fX12_isChild x4 i) fun v4 =>
    if v4 = 0 then (if aIn (((6 : Int32) * x4) + (1 : Int32)) 54 = true then
    (if (i 57 ((((6 : Int32) * x4) + (1 : Int32)) : Int32).toNatClampNeg) = 0 then (fX12_words_74 (fX12_words_31 n) x1 x2 x3 x4 i) else (fX12_words_74 (fX12_words_31 n) x1 (x2 + 1) (x3 * (3 : Int32)) x4 i)) else none) else (fX12_words_74 (fX12_words_31 n) x1 x2 x3 x4 i))
def fX12_words (a1 : Int32) (i : Nat → Nat → Int32) : Option ((Int32) × (Nat → Nat → Int32)) := lt (u2 i 50 0 0) fun i1 =>
    if (i1 50 26) = 0 then (some ((-1), i1)) else (bn1 (fX12_isIn (a1 : Int32).toInt64 0 1) fun v2 =>
    if v2 = 0 then (some ((-1), i1)) else (fX12_words_31 fuel a1 0 1 0 i1))
def fX12_hear (a1 : Int32) (a2 : Int32) (i : Nat → Nat → Int32) : Option ((Int32) × (Nat → Nat → Int32)) := lt (u2 i 50 0 0) fun i1 =>
    if (i1 50 26) = 0 then (some ((-1), i1)) else (bn1 (fX12_isIn (a2 : Int32).toInt64 0 999) fun v2 =>
    if v2 = 0 then (some ((-1), i1)) else (if (i1 50 49) = 8 then (some ((-1), i1)) else (if aIn (i1 50 49) 8 = true then
    (lt (u2 i1 67 ((i1 50 49) : Int32).toNatClampNeg (vp_nar .boolean a1)) fun i4 => if aIn (i4 50 49) 8 = true then
    (lt (u2 i4 68 ((i4 50 49) : Int32).toNatClampNeg a2) fun i5 => lt (u2 i5 50 49 ((i5 50 49) + (1 : Int32))) fun i6 =>
    some ((i6 50 49), i6)) else none) else none)))
def fX12_couldBe_40 (kh7 : Int32 → Int32 → (Nat → Nat → Int32) → (Nat → Nat → Option Nat) → Option ((Int32) × (Nat → Nat → Int32) × (Nat → Nat → Option Nat))) (x1 : Int32) (x2 : Int32) (s0 : Int32) (s1 : Int32) (i : Nat → Nat → Int32) (rv : Nat → Nat → Option Nat) : Option ((Int32) × (Nat → Nat → Int32) × (Nat → Nat → Option Nat)) := if s0 = s1 then (if aIn x2 8 = true then
    (if (i 68 (x2 : Int32).toNatClampNeg) ≤ (i 50 37) then (kh7 x1 (x2 + 1) i rv) else (some (0, i, rv))) else none) else (some (0, i, rv))
def fX12_couldBe_7 : Nat → Int32 → Int32 → (Nat → Nat → Int32) → (Nat → Nat → Option Nat) → Option ((Int32) × (Nat → Nat → Int32) × (Nat → Nat → Option Nat))
  | 0, _, _, _, _ => none
  | n + 1, x1, x2, i, rv => if (i 50 49) ≤ x2 then (some (1, i, rv)) else (if aIn x2 8 = true then
    (if aIn (((4 : Int32) * x1) + (1 : Int32)) 16 = true then
    (if (i 59 ((((4 : Int32) * x1) + (1 : Int32)) : Int32).toNatClampNeg) = 1 then (fX12_couldBe_40 (fX12_couldBe_7 n) x1 x2 (i 67 (x2 : Int32).toNatClampNeg) 1 i rv) else (fX12_couldBe_40 (fX12_couldBe_7 n) x1 x2 (i 67 (x2 : Int32).toNatClampNeg) 0 i rv)) else none) else none)
def fX12_couldBe (a1 : Int32) (i : Nat → Nat → Int32) (rv : Nat → Nat → Option Nat) : Option ((Int32) × (Nat → Nat → Int32) × (Nat → Nat → Option Nat)) := bn2 (fX12_tryBorder a1 i rv) fun i1 rv2 =>
    fX12_couldBe_7 fuel a1 0 i1 rv2
def fX12_tonight_48 (kh19 : Int32 → Int32 → Int32 → (Nat → Nat → Int32) → (Nat → Nat → Option Nat) → Option ((Int32) × (Nat → Nat → Int32) × (Nat → Nat → Option Nat))) (x1 : Int32) (x3 : Int32) (s0 : Int32) (s1 : Int32) (i : Nat → Nat → Int32) (rv : Nat → Nat → Option Nat) : Option ((Int32) × (Nat → Nat → Int32) × (Nat → Nat → Option Nat)) := kh19 x1 (s0 + s1) (x3 + 1) i rv
def fX12_tonight_68 (i : Nat → Nat → Int32) (rv : Nat → Nat → Option Nat) : Option ((Int32) × (Nat → Nat → Int32) × (Nat → Nat → Option Nat)) := some (0, i, rv)
def fX12_tonight_19 : Nat → Int32 → Int32 → Int32 → (Nat → Nat → Int32) → (Nat → Nat → Option Nat) → Option ((Int32) × (Nat → Nat → Int32) × (Nat → Nat → Option Nat))
  | 0, _, _, _, _, _ => none
  | n + 1, x1, x2, x3, i, rv => if (i 50 27) ≤ x3 then (if x2 = 0 then (fX12_tonight_68 i rv) else (bn3 (fX12_couldBe x1 i rv) fun v4 i5 rv6 =>
    if v4 = 0 then (fX12_tonight_68 i5 rv6) else (if aIn ((4 : Int32) * x1) 16 = true then
    (if x2 = 0 then none else
    some ((((1000000 : Int32) * (i5 59 (((4 : Int32) * x1) : Int32).toNatClampNeg)) / x2), i5, rv6)) else none))) else (bn3 (fX12_couldBe x3 i rv) fun v8 i9 rv10 =>
    if v8 = 0 then (fX12_tonight_48 (fX12_tonight_19 n) x1 x3 x2 0 i9 rv10) else (if aIn ((4 : Int32) * x3) 16 = true then
    (fX12_tonight_48 (fX12_tonight_19 n) x1 x3 x2 (i9 59 (((4 : Int32) * x3) : Int32).toNatClampNeg) i9 rv10) else none))
def fX12_tonight (a1 : Int32) (i : Nat → Nat → Int32) (rv : Nat → Nat → Option Nat) : Option ((Int32) × (Nat → Nat → Int32) × (Nat → Nat → Option Nat)) := lt (u2 i 50 0 0) fun i1 =>
    bn1 (fX12_isOfficer a1 i1) fun v2 =>
    if v2 = 0 then (some ((-1), i1, rv)) else (fX12_tonight_19 fuel a1 0 0 i1 rv)
def fX12_lookAt (a1 : Int32) (a2 : Int32) (i : Nat → Nat → Int32) : Option ((Int32) × (Nat → Nat → Int32)) := lt (u2 i 50 0 0) fun i1 =>
    bn1 (fX12_isSleeper a1 i1) fun v2 =>
    if v2 = 0 then (some ((-1), i1)) else (if (i1 50 52) = 10 then (some ((-1), i1)) else (if aIn (i1 50 52) 10 = true then
    (lt (u2 i1 69 ((i1 50 52) : Int32).toNatClampNeg a1) fun i4 => if aIn (i4 50 52) 10 = true then
    (lt (u2 i4 70 ((i4 50 52) : Int32).toNatClampNeg (vp_nar .boolean a2)) fun i5 => lt (u2 i5 50 52 ((i5 50 52) + (1 : Int32))) fun i6 =>
    some ((i6 50 52), i6)) else none) else none))
def fX12_areSo_41 (kh2 : Int32 → Int32 → Int32 → (Nat → Nat → Int32) → Option ((Int32))) (x1 : Int32) (x2 : Int32) (x3 : Int32) (s0 : Int32) (s1 : Int32) (i : Nat → Nat → Int32) : Option ((Int32)) := if s0 = s1 then (some (0)) else (kh2 x1 x2 (x3 + 1) i)
def fX12_areSo_36 (kh2 : Int32 → Int32 → Int32 → (Nat → Nat → Int32) → Option ((Int32))) (x1 : Int32) (x2 : Int32) (x3 : Int32) (s0 : Int32) (i : Nat → Nat → Int32) : Option ((Int32)) := fX12_areSo_41 kh2 x1 x2 x3 s0 1 i
def fX12_areSo_2 : Nat → Int32 → Int32 → Int32 → (Nat → Nat → Int32) → Option ((Int32))
  | 0, _, _, _, _ => none
  | n + 1, x1, x2, x3, i => if (i 50 52) ≤ x3 then (some (1)) else (if aIn x3 10 = true then
    (if aIn x3 10 = true then
    (if (i 69 (x3 : Int32).toNatClampNeg) = x1 then (fX12_areSo_36 (fX12_areSo_2 n) x1 x2 x3 (i 70 (x3 : Int32).toNatClampNeg) i) else (if aIn x3 10 = true then
    (if (i 69 (x3 : Int32).toNatClampNeg) = x2 then (fX12_areSo_36 (fX12_areSo_2 n) x1 x2 x3 (i 70 (x3 : Int32).toNatClampNeg) i) else (fX12_areSo_41 (fX12_areSo_2 n) x1 x2 x3 (i 70 (x3 : Int32).toNatClampNeg) 0 i)) else none)) else none) else none)
def fX12_areSo (a1 : Int32) (a2 : Int32) (i : Nat → Nat → Int32) : Option ((Int32)) := fX12_areSo_2 fuel a1 a2 0 i
def fX12_wayOf (a1 : Int32) (i : Nat → Nat → Int32) : Option ((Int32)) := if a1 = 0 then (bn1 (fX12_areSo (-1) (-1) i) fun v4 =>
    if v4 = 0 then (some (99)) else (some (0))) else (lt (a1 - a1 / (10 : Int32) * (10 : Int32)) fun t1 =>
    if t1 ≤ (a1 / (10 : Int32)) then (some (99)) else (if (i 50 26) ≤ t1 then (some (99)) else (if aIn (((6 : Int32) * (a1 / (10 : Int32))) + (4 : Int32)) 54 = true then
    (if aIn (((6 : Int32) * t1) + (4 : Int32)) 54 = true then
    (if (i 57 ((((6 : Int32) * (a1 / (10 : Int32))) + (4 : Int32)) : Int32).toNatClampNeg) = (i 57 ((((6 : Int32) * t1) + (4 : Int32)) : Int32).toNatClampNeg) then (some (99)) else (bn1 (fX12_areSo (a1 / (10 : Int32)) t1 i) fun v2 =>
    if v2 = 0 then (some (99)) else (some (((101 : Int32) + a1))))) else none) else none)))
def fX12_fit_62 (kh23 : Int32 → Int32 → Int32 → (Nat → Nat → Int32) → Option ((Int32) × (Nat → Nat → Int32))) (x1 : Int32) (x2 : Int32) (x3 : Int32) (i : Nat → Nat → Int32) : Option ((Int32) × (Nat → Nat → Int32)) := kh23 x1 x2 (x3 + 1) i
def fX12_fit_23 : Nat → Int32 → Int32 → Int32 → (Nat → Nat → Int32) → Option ((Int32) × (Nat → Nat → Int32))
  | 0, _, _, _, _ => none
  | n + 1, x1, x2, x3, i => if ((10 : Int32) * (i 50 26)) ≤ x3 then (if x1 = (-1) then (some (x2, i)) else (some ((-1), i))) else (bn1 (fX12_wayOf x3 i) fun v2 =>
    if v2 = 99 then (fX12_fit_62 (fX12_fit_23 n) x1 x2 x3 i) else (if x2 = x1 then (some (v2, i)) else (fX12_fit_62 (fX12_fit_23 n) x1 (x2 + 1) x3 i)))
def fX12_fit (a1 : Int32) (i : Nat → Nat → Int32) : Option ((Int32) × (Nat → Nat → Int32)) := lt (u2 i 50 0 0) fun i1 =>
    if (i1 50 26) = 0 then (some ((-1), i1)) else (if (-1) ≤ a1 then (fX12_fit_23 fuel a1 0 0 i1) else (some ((-1), i1)))
def fX12_best_113 (kh28 : Int32 → Int32 → Int32 → (Nat → Nat → Int32) → Option ((Int32) × (Nat → Nat → Int32))) (kh42 : Int32 → Int32 → Int32 → Int32 → Int32 → (Nat → Nat → Int32) → Option ((Int32) × (Nat → Nat → Int32))) (x1 : Int32) (x2 : Int32) (x3 : Int32) (x4 : Int32) (x5 : Int32) (i : Nat → Nat → Int32) : Option ((Int32) × (Nat → Nat → Int32)) := kh42 x1 x2 x3 x4 (x5 + 1) i
def fX12_best_110 (kh28 : Int32 → Int32 → Int32 → (Nat → Nat → Int32) → Option ((Int32) × (Nat → Nat → Int32))) (kh42 : Int32 → Int32 → Int32 → Int32 → Int32 → (Nat → Nat → Int32) → Option ((Int32) × (Nat → Nat → Int32))) (x1 : Int32) (x2 : Int32) (x3 : Int32) (x5 : Int32) (s0 : Int32) (s1 : Int32) (i : Nat → Nat → Int32) : Option ((Int32) × (Nat → Nat → Int32)) := fX12_best_113 kh28 kh42 x1 x2 x3 (s0 + s1) x5 i
def fX12_best_96 (kh28 : Int32 → Int32 → Int32 → (Nat → Nat → Int32) → Option ((Int32) × (Nat → Nat → Int32))) (kh42 : Int32 → Int32 → Int32 → Int32 → Int32 → (Nat → Nat → Int32) → Option ((Int32) × (Nat → Nat → Int32))) (x1 : Int32) (x2 : Int32) (x3 : Int32) (x4 : Int32) (x5 : Int32) (s0 : Int32) (i : Nat → Nat → Int32) : Option ((Int32) × (Nat → Nat → Int32)) := if s0 = 0 then (fX12_best_110 kh28 kh42 x1 x2 x3 x5 x4 1 i) else (fX12_best_110 kh28 kh42 x1 x2 x3 x5 x4 (-1) i)
def fX12_best_91 (kh28 : Int32 → Int32 → Int32 → (Nat → Nat → Int32) → Option ((Int32) × (Nat → Nat → Int32))) (kh42 : Int32 → Int32 → Int32 → Int32 → Int32 → (Nat → Nat → Int32) → Option ((Int32) × (Nat → Nat → Int32))) (x1 : Int32) (x2 : Int32) (x3 : Int32) (x4 : Int32) (x5 : Int32) (i : Nat → Nat → Int32) : Option ((Int32) × (Nat → Nat → Int32)) := fX12_best_96 kh28 kh42 x1 x2 x3 x4 x5 1 i
def fX12_best_95 (kh28 : Int32 → Int32 → Int32 → (Nat → Nat → Int32) → Option ((Int32) × (Nat → Nat → Int32))) (kh42 : Int32 → Int32 → Int32 → Int32 → Int32 → (Nat → Nat → Int32) → Option ((Int32) × (Nat → Nat → Int32))) (x1 : Int32) (x2 : Int32) (x3 : Int32) (x4 : Int32) (x5 : Int32) (i : Nat → Nat → Int32) : Option ((Int32) × (Nat → Nat → Int32)) := fX12_best_96 kh28 kh42 x1 x2 x3 x4 x5 0 i
def fX12_best_145 (kh28 : Int32 → Int32 → Int32 → (Nat → Nat → Int32) → Option ((Int32) × (Nat → Nat → Int32))) (x1 : Int32) (x2 : Int32) (x3 : Int32) (i : Nat → Nat → Int32) : Option ((Int32) × (Nat → Nat → Int32)) := kh28 x1 x2 (x3 + 1) i
def fX12_best_140 (kh28 : Int32 → Int32 → Int32 → (Nat → Nat → Int32) → Option ((Int32) × (Nat → Nat → Int32))) (x3 : Int32) (x4 : Int32) (i : Nat → Nat → Int32) : Option ((Int32) × (Nat → Nat → Int32)) := fX12_best_145 kh28 x3 x4 x3 i
def fX12_best_42 (kh28 : Int32 → Int32 → Int32 → (Nat → Nat → Int32) → Option ((Int32) × (Nat → Nat → Int32))) : Nat → Int32 → Int32 → Int32 → Int32 → Int32 → (Nat → Nat → Int32) → Option ((Int32) × (Nat → Nat → Int32))
  | 0, _, _, _, _, _, _ => none
  | n + 1, x1, x2, x3, x4, x5, i => if ((10 : Int32) * (i 50 26)) ≤ x5 then (lt (if 0 ≤ x4 then x4 else 0 - x4) fun t5 =>
    if x1 = (-1) then (fX12_best_140 kh28 x3 t5 i) else (if t5 < x2 then (fX12_best_140 kh28 x3 t5 i) else (fX12_best_145 kh28 x1 x2 x3 i))) else (bn1 (fX12_wayOf x5 i) fun v6 =>
    if v6 = 99 then (fX12_best_113 kh28 (fX12_best_42 kh28 n) x1 x2 x3 x4 x5 i) else (if x5 ≤ 0 then (fX12_best_95 kh28 (fX12_best_42 kh28 n) x1 x2 x3 x4 x5 i) else (if (x5 / (10 : Int32)) = x3 then (fX12_best_91 kh28 (fX12_best_42 kh28 n) x1 x2 x3 x4 x5 i) else (if (x5 - x5 / (10 : Int32) * (10 : Int32)) = x3 then (fX12_best_91 kh28 (fX12_best_42 kh28 n) x1 x2 x3 x4 x5 i) else (fX12_best_95 kh28 (fX12_best_42 kh28 n) x1 x2 x3 x4 x5 i)))))
def fX12_best_28 : Nat → Int32 → Int32 → Int32 → (Nat → Nat → Int32) → Option ((Int32) × (Nat → Nat → Int32))
  | 0, _, _, _, _ => none
  | n + 1, x1, x2, x3, i => if (i 50 26) ≤ x3 then (some (x1, i)) else (fX12_best_42 (fX12_best_28 n) fuel x1 x2 x3 0 0 i)
def fX12_best (i : Nat → Nat → Int32) : Option ((Int32) × (Nat → Nat → Int32)) := lt (u2 i 50 0 0) fun i1 =>
    if (i1 50 26) = 0 then (some ((-1), i1)) else (bn2 (fX12_fit (-1) i1) fun v2 i3 =>
    if v2 = 0 then (some ((-1), i3)) else (fX12_best_28 fuel (-1) 0 0 i3))
def fX12_heads_63 (kh36 : Int32 → Int32 → Int32 → Int32 → (Nat → Nat → Int32) → Option ((Int32) × (Nat → Nat → Int32))) (x1 : Int32) (x2 : Int32) (x4 : Int32) (s0 : Int32) (s1 : Int32) (i : Nat → Nat → Int32) : Option ((Int32) × (Nat → Nat → Int32)) := kh36 x1 x2 (s0 ||| s1) (x4 + 1) i
def fX12_heads_121 (kh77 : Int32 → Int32 → Int32 → Int32 → Int32 → (Nat → Nat → Int32) → Option ((Int32) × (Nat → Nat → Int32))) (x1 : Int32) (x2 : Int32) (x3 : Int32) (x4 : Int32) (x5 : Int32) (i : Nat → Nat → Int32) : Option ((Int32) × (Nat → Nat → Int32)) := kh77 x1 x2 x3 x4 (x5 + 1) i
def fX12_heads_77 : Nat → Int32 → Int32 → Int32 → Int32 → Int32 → (Nat → Nat → Int32) → Option ((Int32) × (Nat → Nat → Int32))
  | 0, _, _, _, _, _, _ => none
  | n + 1, x1, x2, x3, x4, x5, i => if x3 < x5 then (if x2 = (-1) then (some (x4, i)) else (some ((-1), i))) else (if (x5 &&& (x3 ^^^ ((-1) : Int32))) = 0 then (bn1 (fJ6_bitCount_0f7a4 x5) fun v6 =>
    if ((i 50 28) + v6) = x1 then (if x4 = x2 then (some (x5, i)) else (fX12_heads_121 (fX12_heads_77 n) x1 x2 x3 (x4 + 1) x5 i)) else (fX12_heads_121 (fX12_heads_77 n) x1 x2 x3 x4 x5 i)) else (fX12_heads_121 (fX12_heads_77 n) x1 x2 x3 x4 x5 i))
def fX12_heads_36 : Nat → Int32 → Int32 → Int32 → Int32 → (Nat → Nat → Int32) → Option ((Int32) × (Nat → Nat → Int32))
  | 0, _, _, _, _, _ => none
  | n + 1, x1, x2, x3, x4, i => if (i 50 26) ≤ x4 then (fX12_heads_77 fuel x1 x2 x3 0 0 i) else (bn1 (fX12_isChild x4 i) fun v4 =>
    if v4 = 0 then (fX12_heads_63 (fX12_heads_36 n) x1 x2 x4 x3 0 i) else (fX12_heads_63 (fX12_heads_36 n) x1 x2 x4 x3 ((1 : Int32) <<< (x4 &&& 31)) i))
def fX12_heads (a1 : Int32) (a2 : Int32) (i : Nat → Nat → Int32) : Option ((Int32) × (Nat → Nat → Int32)) := lt (u2 i 50 0 0) fun i1 =>
    if (i1 50 26) = 0 then (some ((-1), i1)) else (bn1 (fX12_isIn (a1 : Int32).toInt64 0 9) fun v2 =>
    if v2 = 0 then (some ((-1), i1)) else (if (-1) ≤ a2 then (fX12_heads_36 fuel a1 a2 0 0 i1) else (some ((-1), i1))))
def fX12_troubleOf_70 (kh4 : Int32 → Int32 → (Nat → Nat → Int32) → Option ((Int32))) (x1 : Int32) (x2 : Int32) (s0 : Int32) (s1 : Int32) (i : Nat → Nat → Int32) : Option ((Int32)) := if aIn x2 9 = true then
    (if aIn (((6 : Int32) * (i 71 (x2 : Int32).toNatClampNeg)) + (2 : Int32)) 54 = true then
    (lt (x1 + ((i 57 ((((6 : Int32) * (i 71 (x2 : Int32).toNatClampNeg)) + (2 : Int32)) : Int32).toNatClampNeg) * ((((s0 + s1) + (i 50 26)) - (1 : Int32)) - x2))) fun t1 =>
    kh4 t1 (x2 + 1) i) else none) else none
def fX12_troubleOf_38 (kh4 : Int32 → Int32 → (Nat → Nat → Int32) → Option ((Int32))) (x1 : Int32) (x2 : Int32) (s0 : Int32) (i : Nat → Nat → Int32) : Option ((Int32)) := if ((i 50 26) - (1 : Int32)) ≤ x2 then (fX12_troubleOf_70 kh4 x1 x2 s0 0 i) else (if aIn (x2 + (1 : Int32)) 9 = true then
    (if aIn (((6 : Int32) * (i 71 ((x2 + (1 : Int32)) : Int32).toNatClampNeg)) + (3 : Int32)) 54 = true then
    (fX12_troubleOf_70 kh4 x1 x2 s0 (i 57 ((((6 : Int32) * (i 71 ((x2 + (1 : Int32)) : Int32).toNatClampNeg)) + (3 : Int32)) : Int32).toNatClampNeg) i) else none) else none)
def fX12_troubleOf_4 : Nat → Int32 → Int32 → (Nat → Nat → Int32) → Option ((Int32))
  | 0, _, _, _ => none
  | n + 1, x1, x2, i => if (i 50 26) ≤ x2 then (some (x1)) else (if x2 ≤ 0 then (fX12_troubleOf_38 (fX12_troubleOf_4 n) x1 x2 0 i) else (if aIn (x2 - (1 : Int32)) 9 = true then
    (if aIn (((6 : Int32) * (i 71 ((x2 - (1 : Int32)) : Int32).toNatClampNeg)) + (3 : Int32)) 54 = true then
    (fX12_troubleOf_38 (fX12_troubleOf_4 n) x1 x2 (i 57 ((((6 : Int32) * (i 71 ((x2 - (1 : Int32)) : Int32).toNatClampNeg)) + (3 : Int32)) : Int32).toNatClampNeg) i) else none) else none))
def fX12_troubleOf (i : Nat → Nat → Int32) : Option ((Int32)) := fX12_troubleOf_4 fuel 0 0 i
def fX12_goGive_32 (gs : Int32 → Int32 → Int32 → (Nat → Nat → Int32) → Option ((Nat → Nat → Int32))) (x3 : Int32) (x4 : Int32) (i : Nat → Nat → Int32) : Option ((Nat → Nat → Int32)) := lt (u2 i 50 53 x4) fun i8 =>
    lt (u2 i8 50 54 x3) fun i9 =>
    some (i9)
def fX12_goGive_96 (gs : Int32 → Int32 → Int32 → (Nat → Nat → Int32) → Option ((Nat → Nat → Int32))) (kh47 : Int32 → Int32 → Int32 → Int32 → (Nat → Nat → Int32) → Option ((Nat → Nat → Int32))) (x1 : Int32) (x2 : Int32) (x3 : Int32) (x4 : Int32) (i : Nat → Nat → Int32) : Option ((Nat → Nat → Int32)) := kh47 x1 x2 x3 (x4 + 1) i
def fX12_goGive_47 (gs : Int32 → Int32 → Int32 → (Nat → Nat → Int32) → Option ((Nat → Nat → Int32))) : Nat → Int32 → Int32 → Int32 → Int32 → (Nat → Nat → Int32) → Option ((Nat → Nat → Int32))
  | 0, _, _, _, _, _ => none
  | n + 1, x1, x2, x3, x4, i => if (i 50 26) ≤ x4 then (some (i)) else (bn1 (fX12_has x2 x4) fun v3 =>
    if v3 = 0 then (if aIn x1 9 = true then
    (lt (u2 i 71 (x1 : Int32).toNatClampNeg x4) fun i5 => bn1 (gs (x1 + (1 : Int32)) (x2 ||| ((1 : Int32) <<< (x4 &&& 31))) (((10 : Int32) * x3) + x4) i5) fun i6 =>
    fX12_goGive_96 gs (fX12_goGive_47 gs n) x1 x2 x3 x4 i6) else none) else (fX12_goGive_96 gs (fX12_goGive_47 gs n) x1 x2 x3 x4 i))
def fX12_goGiveb (gs : Int32 → Int32 → Int32 → (Nat → Nat → Int32) → Option ((Nat → Nat → Int32))) (a1 : Int32) (a2 : Int32) (a3 : Int32) (i : Nat → Nat → Int32) : Option ((Nat → Nat → Int32)) := if a1 = (i 50 26) then (bn1 (fX12_troubleOf i) fun v1 =>
    if (i 50 53) = (-1) then (fX12_goGive_32 gs a3 v1 i) else (if v1 < (i 50 53) then (fX12_goGive_32 gs a3 v1 i) else (some (i)))) else (fX12_goGive_47 gs fuel a1 a2 a3 0 i)
def fX12_goGive : Nat → Int32 → Int32 → Int32 → (Nat → Nat → Int32) → Option ((Nat → Nat → Int32))
  | 0, _, _, _, _ => none
  | n + 1, a1, a2, a3, i => fX12_goGiveb (fX12_goGive n) a1 a2 a3 i
def fX12_give (a1 : Int32) (i : Nat → Nat → Int32) : Option ((Int32) × (Nat → Nat → Int32)) := lt (u2 i 50 0 0) fun i1 =>
    if (i1 50 26) = 0 then (some ((-1), i1)) else (bn1 (fX12_isIn (a1 : Int32).toInt64 0 1) fun v2 =>
    if v2 = 0 then (some ((-1), i1)) else (if (i1 50 26) ≤ 7 then (lt (u2 i1 50 53 (-1)) fun i4 =>
    bn1 (fX12_goGive 12 0 0 0 i4) fun i5 =>
    if a1 = 0 then (some ((i5 50 54), i5)) else (some ((i5 50 53), i5))) else (some ((-1000000), i1))))
def fX12_between_69 (kh18 : Int32 → Int32 → (Nat → Nat → Int32) → (Nat → Nat → Option Nat) → Option ((Int32) × (Nat → Nat → Int32) × (Nat → Nat → Option Nat))) (x2 : Int32) (s0 : Int32) (s1 : Int32) (i : Nat → Nat → Int32) (rv : Nat → Nat → Option Nat) : Option ((Int32) × (Nat → Nat → Int32) × (Nat → Nat → Option Nat)) := kh18 (s0 ||| s1) (x2 + 1) i rv
def fX12_between_68 (kh18 : Int32 → Int32 → (Nat → Nat → Int32) → (Nat → Nat → Option Nat) → Option ((Int32) × (Nat → Nat → Int32) × (Nat → Nat → Option Nat))) (x2 : Int32) (s0 : Int32) (i : Nat → Nat → Int32) (rv : Nat → Nat → Option Nat) : Option ((Int32) × (Nat → Nat → Int32) × (Nat → Nat → Option Nat)) := fX12_between_69 kh18 x2 s0 0 i rv
def fX12_between_18 : Nat → Int32 → Int32 → (Nat → Nat → Int32) → (Nat → Nat → Option Nat) → Option ((Int32) × (Nat → Nat → Int32) × (Nat → Nat → Option Nat))
  | 0, _, _, _, _ => none
  | n + 1, x1, x2, i, rv => if (i 50 26) ≤ x2 then (some (x1, i, rv)) else (if aIn (((6 : Int32) * x2) + (3 : Int32)) 296 = true then
    (if (i 63 ((((6 : Int32) * x2) + (3 : Int32)) : Int32).toNatClampNeg) = 0 then (bn3 (fX12_sleepOf 63 296 x2 0 9 i rv) fun v2 i3 rv4 =>
    if aIn 1 4 = true then
    (if v2 ≤ (i3 55 (1 : Int32).toNatClampNeg) then (fX12_between_68 (fX12_between_18 n) x2 x1 i3 rv4) else (fX12_between_69 (fX12_between_18 n) x2 x1 ((1 : Int32) <<< (x2 &&& 31)) i3 rv4)) else none) else (fX12_between_68 (fX12_between_18 n) x2 x1 i rv)) else none)
def fX12_between (i : Nat → Nat → Int32) (rv : Nat → Nat → Option Nat) : Option ((Int32) × (Nat → Nat → Int32) × (Nat → Nat → Option Nat)) := lt (u2 i 50 0 0) fun i1 =>
    if (i1 50 26) = 0 then (some ((-1), i1, rv)) else (fX12_between_18 fuel 0 0 i1 rv)
def fX12_favourOf_69 (kh32 : Int32 → Int32 → Int32 → Int32 → Int32 → Int32 → (Nat → Nat → Int32) → (Nat → Nat → Option Nat) → Option ((Int32) × (Nat → Nat → Int32) × (Nat → Nat → Option Nat))) (x1 : Int32) (x2 : Int32) (x3 : Int32) (x4 : Int32) (x7 : Int32) (s0 : Int32) (s1 : Int32) (i : Nat → Nat → Int32) (rv : Nat → Nat → Option Nat) : Option ((Int32) × (Nat → Nat → Int32) × (Nat → Nat → Option Nat)) := kh32 x1 x2 x3 x4 (s0 + s1) (x7 + 1) i rv
def fX12_favourOf_106 (x2 : Int32) (x3 : Int32) (x4 : Int32) (x6 : Int32) (s0 : Int32) (i : Nat → Nat → Int32) (rv : Nat → Nat → Option Nat) : Option ((Int32) × (Nat → Nat → Int32) × (Nat → Nat → Option Nat)) := some (((s0 - (((2 : Int32) * x2) * x3)) - ((x2 * x4) * (x6 / (10 : Int32)))), i, rv)
def fX12_favourOf_105 (x2 : Int32) (x3 : Int32) (x4 : Int32) (x6 : Int32) (i : Nat → Nat → Int32) (rv : Nat → Nat → Option Nat) : Option ((Int32) × (Nat → Nat → Int32) × (Nat → Nat → Option Nat)) := fX12_favourOf_106 x2 x3 x4 x6 0 i rv
def fX12_favourOf_32 : Nat → Int32 → Int32 → Int32 → Int32 → Int32 → Int32 → (Nat → Nat → Int32) → (Nat → Nat → Option Nat) → Option ((Int32) × (Nat → Nat → Int32) × (Nat → Nat → Option Nat))
  | 0, _, _, _, _, _, _, _, _ => none
  | n + 1, x1, x2, x3, x4, x6, x7, i, rv => if (i 50 26) ≤ x7 then (if x3 = 1 then (if x4 = 0 then (if aIn (((4 : Int32) * x1) + (3 : Int32)) 16 = true then
    (fX12_favourOf_106 x2 x3 x4 x6 ((i 59 ((((4 : Int32) * x1) + (3 : Int32)) : Int32).toNatClampNeg) * (x2 - (1 : Int32))) i rv) else none) else (fX12_favourOf_105 x2 x3 x4 x6 i rv)) else (fX12_favourOf_105 x2 x3 x4 x6 i rv)) else (bn1 (fX12_isChild x7 i) fun v1 =>
    if v1 = 0 then (bn3 (fX12_sleepOf 63 296 x7 0 9 i rv) fun v3 i4 rv5 =>
    fX12_favourOf_69 (fX12_favourOf_32 n) x1 x2 x3 x4 x7 x6 v3 i4 rv5) else (fX12_favourOf_69 (fX12_favourOf_32 n) x1 x2 x3 x4 x7 x6 0 i rv))
def fX12_favourOf (a1 : Int32) (a2 : Int32) (a3 : Int32) (a4 : Int32) (a5 : Int32) (i : Nat → Nat → Int32) (rv : Nat → Nat → Option Nat) : Option ((Int32) × (Nat → Nat → Int32) × (Nat → Nat → Option Nat)) := if a5 = 1 then (some ((((((3 : Int32) * a2) * a3) + (a2 * a4)) - ((((2 : Int32) * a2) * a3) * a4)), i, rv)) else (fX12_favourOf_32 fuel a1 a2 a3 a4 0 0 i rv)
def fX12_favour (a1 : Int32) (a2 : Int32) (a3 : Int32) (a4 : Int32) (a5 : Int32) (i : Nat → Nat → Int32) (rv : Nat → Nat → Option Nat) : Option ((Int32) × (Nat → Nat → Int32) × (Nat → Nat → Option Nat)) := lt (u2 i 50 0 0) fun i1 =>
    bn1 (fX12_isOfficer a1 i1) fun v2 =>
    if v2 = 0 then (some ((-1000000), i1, rv)) else (bn1 (fX12_isIn (a2 : Int32).toInt64 1 9) fun v4 =>
    if v4 = 0 then (some ((-1000000), i1, rv)) else (bn1 (fX12_isIn (a3 : Int32).toInt64 0 1) fun v6 =>
    if v6 = 0 then (some ((-1000000), i1, rv)) else (bn1 (fX12_isIn (a4 : Int32).toInt64 0 1) fun v8 =>
    if v8 = 0 then (some ((-1000000), i1, rv)) else (bn1 (fX12_isIn (a5 : Int32).toInt64 0 1) fun v10 =>
    if v10 = 0 then (some ((-1000000), i1, rv)) else (bn3 (fX12_favourOf a1 a2 a3 a4 a5 i1 rv) fun v12 i13 rv14 =>
    some (v12, i13, rv14))))))
def fX12_rests_131 (kh38 : Int32 → Int32 → Int32 → Int32 → Int32 → (Nat → Nat → Int32) → (Nat → Nat → Option Nat) → Option ((Int32) × (Nat → Nat → Int32) × (Nat → Nat → Option Nat))) (x1 : Int32) (x2 : Int32) (x3 : Int32) (x4 : Int32) (x5 : Int32) (i : Nat → Nat → Int32) (rv : Nat → Nat → Option Nat) : Option ((Int32) × (Nat → Nat → Int32) × (Nat → Nat → Option Nat)) := kh38 x1 x2 x3 x4 (x5 + 1) i rv
def fX12_rests_38 : Nat → Int32 → Int32 → Int32 → Int32 → Int32 → (Nat → Nat → Int32) → (Nat → Nat → Option Nat) → Option ((Int32) × (Nat → Nat → Int32) × (Nat → Nat → Option Nat))
  | 0, _, _, _, _, _, _, _ => none
  | n + 1, x1, x2, x3, x4, x5, i, rv => if 4 ≤ x5 then (if x3 = (-1) then (some (x4, i, rv)) else (some ((-1), i, rv))) else (lt (x5 - x5 / (2 : Int32) * (2 : Int32)) fun t6 =>
    bn3 (fX12_favourOf x1 x2 ((1 : Int32) - (x5 / (2 : Int32))) t6 0 i rv) fun v7 i8 rv9 =>
    bn3 (fX12_favourOf x1 x2 (x5 / (2 : Int32)) t6 0 i8 rv9) fun v11 i12 rv13 =>
    if v11 < v7 then (fX12_rests_131 (fX12_rests_38 n) x1 x2 x3 x4 x5 i12 rv13) else (bn3 (fX12_favourOf x1 x2 (x5 / (2 : Int32)) ((1 : Int32) - t6) 1 i12 rv13) fun v15 i16 rv17 =>
    bn3 (fX12_favourOf x1 x2 (x5 / (2 : Int32)) t6 1 i16 rv17) fun v19 i20 rv21 =>
    if v15 ≤ v19 then (if x4 = x3 then (some ((((10 : Int32) * (x5 / (2 : Int32))) + t6), i20, rv21)) else (fX12_rests_131 (fX12_rests_38 n) x1 x2 x3 (x4 + 1) x5 i20 rv21)) else (fX12_rests_131 (fX12_rests_38 n) x1 x2 x3 x4 x5 i20 rv21)))
def fX12_rests (a1 : Int32) (a2 : Int32) (a3 : Int32) (i : Nat → Nat → Int32) (rv : Nat → Nat → Option Nat) : Option ((Int32) × (Nat → Nat → Int32) × (Nat → Nat → Option Nat)) := lt (u2 i 50 0 0) fun i1 =>
    bn1 (fX12_isOfficer a1 i1) fun v2 =>
    if v2 = 0 then (some ((-1), i1, rv)) else (bn1 (fX12_isIn (a2 : Int32).toInt64 1 9) fun v4 =>
    if v4 = 0 then (some ((-1), i1, rv)) else (if (-1) ≤ a3 then (fX12_rests_38 fuel a1 a2 a3 0 0 i1 rv) else (some ((-1), i1, rv))))
def fX12_which_71 (kh32 : Int32 → Int32 → Int32 → (Nat → Nat → Int32) → Option ((Int32) × (Nat → Nat → Int32))) (x1 : Int32) (x3 : Int32) (s0 : Int32) (s1 : Int32) (i : Nat → Nat → Int32) : Option ((Int32) × (Nat → Nat → Int32)) := kh32 x1 (s0 ||| s1) (x3 + 1) i
def fX12_which_70 (kh32 : Int32 → Int32 → Int32 → (Nat → Nat → Int32) → Option ((Int32) × (Nat → Nat → Int32))) (x1 : Int32) (x3 : Int32) (s0 : Int32) (i : Nat → Nat → Int32) : Option ((Int32) × (Nat → Nat → Int32)) := fX12_which_71 kh32 x1 x3 s0 0 i
def fX12_which_126 (kh84 : Int32 → Int32 → Int32 → Int32 → (Nat → Nat → Int32) → Option ((Int32) × (Nat → Nat → Int32))) (x1 : Int32) (x2 : Int32) (x4 : Int32) (s0 : Int32) (s1 : Int32) (i : Nat → Nat → Int32) : Option ((Int32) × (Nat → Nat → Int32)) := kh84 x1 x2 (s0 ||| s1) (x4 + 1) i
def fX12_which_115 (kh84 : Int32 → Int32 → Int32 → Int32 → (Nat → Nat → Int32) → Option ((Int32) × (Nat → Nat → Int32))) (x1 : Int32) (x2 : Int32) (x4 : Int32) (s0 : Int32) (s1 : Int32) (s2 : Int32) (i : Nat → Nat → Int32) : Option ((Int32) × (Nat → Nat → Int32)) := if s1 = s2 then (fX12_which_126 kh84 x1 x2 x4 s0 ((1 : Int32) <<< (x4 &&& 31)) i) else (fX12_which_126 kh84 x1 x2 x4 s0 0 i)
def fX12_which_84 : Nat → Int32 → Int32 → Int32 → Int32 → (Nat → Nat → Int32) → Option ((Int32) × (Nat → Nat → Int32))
  | 0, _, _, _, _, _ => none
  | n + 1, x1, x2, x3, x4, i => if (i 50 27) ≤ x4 then (some (x3, i)) else (if aIn (((4 : Int32) * x4) + (1 : Int32)) 16 = true then
    (if (i 59 ((((4 : Int32) * x4) + (1 : Int32)) : Int32).toNatClampNeg) = 1 then (fX12_which_115 (fX12_which_84 n) x1 x2 x4 x3 x1 x2 i) else (fX12_which_115 (fX12_which_84 n) x1 x2 x4 x3 x1 0 i)) else none)
def fX12_which_32 : Nat → Int32 → Int32 → Int32 → (Nat → Nat → Int32) → Option ((Int32) × (Nat → Nat → Int32))
  | 0, _, _, _, _ => none
  | n + 1, x1, x2, x3, i => if (i 50 26) ≤ x3 then (fX12_which_84 fuel x1 x2 0 0 i) else (bn1 (fX12_isChild x3 i) fun v2 =>
    if v2 = 0 then (if aIn (((6 : Int32) * x3) + (3 : Int32)) 296 = true then
    (if (i 63 ((((6 : Int32) * x3) + (3 : Int32)) : Int32).toNatClampNeg) = 1 then (fX12_which_71 (fX12_which_32 n) x1 x3 x2 ((1 : Int32) <<< (x3 &&& 31)) i) else (fX12_which_70 (fX12_which_32 n) x1 x3 x2 i)) else none) else (fX12_which_70 (fX12_which_32 n) x1 x3 x2 i))
def fX12_which (a1 : Int32) (i : Nat → Nat → Int32) : Option ((Int32) × (Nat → Nat → Int32)) := lt (u2 i 50 0 0) fun i1 =>
    if (i1 50 26) = 0 then (some ((-1), i1)) else (if a1 < 0 then (some ((-1), i1)) else (if a1 < ((1 : Int32) <<< ((i1 50 26) &&& 31)) then (fX12_which_32 fuel a1 0 0 i1) else (some ((-1), i1))))
def fX12_woken (a1 : Int32) (i : Nat → Nat → Int32) : Option ((Int32) × (Nat → Nat → Int32)) := lt (u2 i 50 0 0) fun i1 =>
    bn1 (fX12_isSleeper a1 i1) fun v2 =>
    if v2 = 0 then (some ((-1), i1)) else (if aIn (((6 : Int32) * a1) + (4 : Int32)) 296 = true then
    (some ((i1 63 ((((6 : Int32) * a1) + (4 : Int32)) : Int32).toNatClampNeg), i1)) else none)
def fX12_tired_53 (kh9 : Int32 → Int32 → (Nat → Nat → Int32) → Option ((Int32) × (Nat → Nat → Int32))) (x1 : Int32) (x2 : Int32) (i : Nat → Nat → Int32) : Option ((Int32) × (Nat → Nat → Int32)) := kh9 x1 (x2 + 1) i
def fX12_tired_48 (kh9 : Int32 → Int32 → (Nat → Nat → Int32) → Option ((Int32) × (Nat → Nat → Int32))) (x1 : Int32) (x2 : Int32) (s0 : Int32) (s1 : Int32) (i : Nat → Nat → Int32) : Option ((Int32) × (Nat → Nat → Int32)) := if s0 ≤ s1 then (fX12_tired_53 kh9 x1 x2 i) else (fX12_tired_53 kh9 x2 x2 i)
def fX12_tired_9 : Nat → Int32 → Int32 → (Nat → Nat → Int32) → Option ((Int32) × (Nat → Nat → Int32))
  | 0, _, _, _ => none
  | n + 1, x1, x2, i => if (i 50 26) ≤ x2 then (some (x1, i)) else (if aIn (((6 : Int32) * x2) + (5 : Int32)) 296 = true then
    (if x1 = (-1) then (fX12_tired_48 (fX12_tired_9 n) x1 x2 (i 63 ((((6 : Int32) * x2) + (5 : Int32)) : Int32).toNatClampNeg) 0 i) else (if aIn (((6 : Int32) * x1) + (5 : Int32)) 296 = true then
    (fX12_tired_48 (fX12_tired_9 n) x1 x2 (i 63 ((((6 : Int32) * x2) + (5 : Int32)) : Int32).toNatClampNeg) (i 63 ((((6 : Int32) * x1) + (5 : Int32)) : Int32).toNatClampNeg) i) else none)) else none)
def fX12_tired (i : Nat → Nat → Int32) : Option ((Int32) × (Nat → Nat → Int32)) := lt (u2 i 50 0 0) fun i1 =>
    fX12_tired_9 fuel (-1) 0 i1
def fX12_beside_65 (kh19 : Int32 → Int32 → Int32 → (Nat → Nat → Int32) → Option ((Int32) × (Nat → Nat → Int32))) (x1 : Int32) (x3 : Int32) (s0 : Int32) (s1 : Int32) (i : Nat → Nat → Int32) : Option ((Int32) × (Nat → Nat → Int32)) := kh19 x1 (s0 ||| s1) (x3 + 1) i
def fX12_beside_19 : Nat → Int32 → Int32 → Int32 → (Nat → Nat → Int32) → Option ((Int32) × (Nat → Nat → Int32))
  | 0, _, _, _, _ => none
  | n + 1, x1, x2, x3, i => if (i 50 26) ≤ x3 then (some (x2, i)) else (if aIn (((6 : Int32) * x1) + (0 : Int32)) 296 = true then
    (if aIn (((6 : Int32) * x3) + (0 : Int32)) 296 = true then
    (if (if 0 ≤ ((i 63 ((((6 : Int32) * x1) + (0 : Int32)) : Int32).toNatClampNeg) - (i 63 ((((6 : Int32) * x3) + (0 : Int32)) : Int32).toNatClampNeg)) then ((i 63 ((((6 : Int32) * x1) + (0 : Int32)) : Int32).toNatClampNeg) - (i 63 ((((6 : Int32) * x3) + (0 : Int32)) : Int32).toNatClampNeg)) else 0 - ((i 63 ((((6 : Int32) * x1) + (0 : Int32)) : Int32).toNatClampNeg) - (i 63 ((((6 : Int32) * x3) + (0 : Int32)) : Int32).toNatClampNeg))) = 1 then (fX12_beside_65 (fX12_beside_19 n) x1 x3 x2 ((1 : Int32) <<< (x3 &&& 31)) i) else (fX12_beside_65 (fX12_beside_19 n) x1 x3 x2 0 i)) else none) else none)
def fX12_beside (a1 : Int32) (i : Nat → Nat → Int32) : Option ((Int32) × (Nat → Nat → Int32)) := lt (u2 i 50 0 0) fun i1 =>
    bn1 (fX12_isSleeper a1 i1) fun v2 =>
    if v2 = 0 then (some ((-1), i1)) else (fX12_beside_19 fuel a1 0 0 i1)
def fX12_slack (a1 : Int32) (i : Nat → Nat → Int32) (rv : Nat → Nat → Option Nat) : Option ((Int32) × (Nat → Nat → Int32) × (Nat → Nat → Option Nat)) := lt (u2 i 50 0 0) fun i1 =>
    bn1 (fX12_isOfficer a1 i1) fun v2 =>
    if v2 = 0 then (some ((-1000000), i1, rv)) else (bn2 (fX12_tryBorder a1 i1 rv) fun i4 rv5 =>
    if aIn 0 4 = true then
    (some ((((6 : Int32) * (i4 55 (0 : Int32).toNatClampNeg)) - (i4 50 37)), i4, rv5)) else none)
def fX12_longest (a1 : Int32) (i : Nat → Nat → Int32) (rv : Nat → Nat → Option Nat) : Option ((Int32) × (Nat → Nat → Int32) × (Nat → Nat → Option Nat)) := lt (u2 i 50 0 0) fun i1 =>
    bn1 (fX12_isOfficer a1 i1) fun v2 =>
    if v2 = 0 then (some ((-1), i1, rv)) else (bn2 (fX12_tryBorder a1 i1 rv) fun i4 rv5 =>
    some ((i4 50 39), i4, rv5))
def fX12_image (i : Nat → Nat → Int32) : Option ((Int32) × (Nat → Nat → Int32)) := lt (u2 i 50 0 0) fun i1 =>
    if (i1 50 26) = 0 then (some ((-1), i1)) else (bn1 (fX12_copy 63 296 72 296 i1) fun i2 =>
    lt (u2 i2 50 57 1) fun i4 =>
    bn1 (fX12_asleepIn 63 296 i4) fun v5 =>
    some (v5, i4))
def fX12_back (i : Nat → Nat → Int32) : Option ((Int32) × (Nat → Nat → Int32)) := lt (u2 i 50 0 0) fun i1 =>
    if (i1 50 57) = 0 then (some ((-1), i1)) else (bn1 (fX12_copy 72 296 63 296 i1) fun i2 =>
    lt (u2 i2 50 42 0) fun i4 =>
    bn1 (fX12_asleepIn 63 296 i4) fun v5 =>
    some (v5, i4))
def fX12_count (a1 : Int32) (i : Nat → Nat → Int32) : Option ((Int32) × (Nat → Nat → Int32)) := lt (u2 i 50 0 0) fun i1 =>
    if a1 = 0 then (some ((i1 50 26), i1)) else
    if a1 = 1 then (some ((i1 50 27), i1)) else
    if a1 = 2 then (some ((i1 50 7), i1)) else
    if a1 = 3 then (some ((i1 50 31), i1)) else
    if a1 = 4 then (some ((i1 50 6), i1)) else
    if a1 = 5 then (some ((i1 50 35), i1)) else
    if a1 = 6 then (some ((i1 50 28), i1)) else
    if a1 = 7 then (bn1 (fX12_asleepIn 63 296 i1) fun v2 =>
    some (v2, i1)) else
    if a1 = 8 then (some ((i1 50 36), i1)) else
    if a1 = 9 then (some ((i1 50 49), i1)) else
    if a1 = 10 then (some ((i1 50 52), i1)) else
    if a1 = 11 then (if aIn 55 296 = true then
    (some ((i1 63 (55 : Int32).toNatClampNeg), i1)) else none) else
    if a1 = 12 then (some ((i1 50 42), i1)) else
    if a1 = 13 then (bn1 (fX12_lostIn 63 296 i1) fun v4 =>
    some (v4, i1)) else
    (some ((-1000000), i1))
def fX11_law (a1 : Int32) (i : Nat → Nat → Int32) (rv : Nat → Nat → Option Nat) : Option (Int32 × (Nat → Nat → Int32) × (Nat → Nat → Option Nat)) :=
  if a1 < -1 then some (0, i, rv) else if (i 3 4) ≤ a1 then some (0, i, rv) else bn1 (fX9_lawAt a1 (u2 i 0 12 a1) rv) fun r => some (1, u2 i 0 12 a1, u2 rv 23 2 r)
def fX11_sleeper_21 (i : Nat → Nat → Int32) : Option ((Int32)) := none
def fX11_sleeper (a1 : Int32) (a2 : Int32) (i : Nat → Nat → Int32) : Option ((Int32)) := bn1 (fX1_hasSleeper 15 a1 i) fun v1 =>
    if v1 = 0 then (fX11_sleeper_21 i) else (if a2 < 0 then (fX11_sleeper_21 i) else (if a2 ≤ 10 then (if a2 = 6 then (bn1 (fX8_berthOf 19 a1 i) fun v3 =>
    some (v3)) else
    if a2 = 7 then (bn1 (fX1_papers 15 i) fun v5 =>
    bn1 (fX8_placeOf 19 a1 v5 i) fun v7 =>
    some (v7)) else
    if a2 = 8 then (bn1 (fX8_saidFor 19 a1 i) fun v9 =>
    some (v9)) else
    if a2 = 9 then (bn1 (fX8_isAsleep 19 a1 i) fun v11 =>
    if v11 = 0 then (some (0)) else (some (1))) else
    if a2 = 10 then (bn1 (fX8_lostBy 19 a1 i) fun v13 =>
    some (v13)) else
    (bn1 (fX1_ofSleeper 15 a1 a2 i) fun v15 =>
    some (v15))) else (fX11_sleeper_21 i)))
