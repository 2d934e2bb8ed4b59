/-! the world behind the two constructors and the array of one long -/
theorem zn {h : aHp} {g : Nat → Nat → Int32} {x : aSh} (e : h.2.1 = g) (hg : ∀ k, g h.1.length k = 0) : (aNew h x).2.1 = g := by
  funext q k
  show z2 0 h.2.1 h.1.length q k = g q k
  rw [e]
  by_cases hq : q = h.1.length
  · rw [hq, z2_at]
    exact (hg k).symm
  · rw [z2_row _ _ hq]
theorem zq {h : aHp} {r : Nat} {x : aSh} (e : ∀ j, h.2.2.2 r j = none) : ∀ j, (aNew h x).2.2.2 r j = none := by
  intro j
  show z2 none h.2.2.2 h.1.length r j = none
  by_cases hq : r = h.1.length
  · rw [hq, z2_at]
  · rw [z2_row _ _ hq]
    exact e j
theorem zp {h : aHp} {r p k : Nat} {v : Option Nat} (hp : p ≠ r) (e : ∀ j, h.2.2.2 r j = none) : ∀ j, (pR h p k v).2.2.2 r j = none := fun j => (u2_ne _ _ (Or.inl (fun z => hp z.symm))).trans (e j)
theorem zi_X10 {p : Nat} {h : aHp} {g : Nat → Nat → Int32} (hg : ∀ n k, h.1.length ≤ n → g n k = 0) (e : h.2.1 = g) : (wX10_init p h).2.1 = g := by
  have e0 := e
  have e1 : (wX10_init_1 p h).2.1 = g := zn e0 (fun k => hg _ k (Nat.le_refl _))
  have e2 : (wX10_init_2 p h).2.1 = g := e1
  exact e2
theorem zv_X10 {p r : Nat} {h : aHp} (hp : p ≠ r) (e : ∀ j, h.2.2.2 r j = none) : ∀ j, (wX10_init p h).2.2.2 r j = none := by
  have e0 := e
  have e1 : ∀ j, (wX10_init_1 p h).2.2.2 r j = none := zq e0
  have e2 : ∀ j, (wX10_init_2 p h).2.2.2 r j = none := zp hp e1
  exact e2
theorem zi_X4 {p : Nat} {h : aHp} {g : Nat → Nat → Int32} (hg : ∀ n k, h.1.length ≤ n → g n k = 0) (e : h.2.1 = g) : (wX4_init p h).2.1 = g := by
  have e0 := e
  have e1 : (wX4_init_1 p h).2.1 = g := zn e0 (fun k => hg _ k (Nat.le_refl _))
  have e2 : (wX4_init_2 p h).2.1 = g := e1
  have e3 : (wX4_init_3 p h).2.1 = g := zn e2 (fun k => hg _ k (by rw [lwX4_init_2]; omega))
  have e4 : (wX4_init_4 p h).2.1 = g := e3
  exact e4
theorem zv_X4 {p r : Nat} {h : aHp} (hp : p ≠ r) (e : ∀ j, h.2.2.2 r j = none) : ∀ j, (wX4_init p h).2.2.2 r j = none := by
  have e0 := e
  have e1 : ∀ j, (wX4_init_1 p h).2.2.2 r j = none := zq e0
  have e2 : ∀ j, (wX4_init_2 p h).2.2.2 r j = none := zp hp e1
  have e3 : ∀ j, (wX4_init_3 p h).2.2.2 r j = none := zq e2
  have e4 : ∀ j, (wX4_init_4 p h).2.2.2 r j = none := zp hp e3
  exact e4
theorem zi_X5 {p : Nat} {h : aHp} {g : Nat → Nat → Int32} (hg : ∀ n k, h.1.length ≤ n → g n k = 0) (e : h.2.1 = g) : (wX5_init p h).2.1 = g := by
  have e0 := e
  have e1 : (wX5_init_1 p h).2.1 = g := zn e0 (fun k => hg _ k (Nat.le_refl _))
  have e2 : (wX5_init_2 p h).2.1 = g := e1
  exact e2
theorem zv_X5 {p r : Nat} {h : aHp} (hp : p ≠ r) (e : ∀ j, h.2.2.2 r j = none) : ∀ j, (wX5_init p h).2.2.2 r j = none := by
  have e0 := e
  have e1 : ∀ j, (wX5_init_1 p h).2.2.2 r j = none := zq e0
  have e2 : ∀ j, (wX5_init_2 p h).2.2.2 r j = none := zp hp e1
  exact e2
theorem zi_X9 {p : Nat} {h : aHp} {g : Nat → Nat → Int32} (hg : ∀ n k, h.1.length ≤ n → g n k = 0) (e : h.2.1 = g) : (wX9_init p h).2.1 = g := by
  have e0 := e
  have e1 : (wX9_init_1 p h).2.1 = g := zn e0 (fun k => hg _ k (Nat.le_refl _))
  have e2 : (wX9_init_2 p h).2.1 = g := e1
  have e3 : (wX9_init_3 p h).2.1 = g := zn e2 (fun k => hg _ k (by rw [lwX9_init_2]; omega))
  have e4 : (wX9_init_4 p h).2.1 = g := e3
  have e5 : (wX9_init_5 p h).2.1 = g := zn e4 (fun k => hg _ k (by rw [lwX9_init_4]; omega))
  have e6 : (wX9_init_6 p h).2.1 = g := zi_X4 (fun n k hn => hg n k (by rw [lwX9_init_5] at hn; omega)) e5
  have e7 : (wX9_init_7 p h).2.1 = g := e6
  have e8 : (wX9_init_8 p h).2.1 = g := zn e7 (fun k => hg _ k (by rw [lwX9_init_7]; omega))
  have e9 : (wX9_init_9 p h).2.1 = g := zi_X5 (fun n k hn => hg n k (by rw [lwX9_init_8] at hn; omega)) e8
  have e10 : (wX9_init_10 p h).2.1 = g := e9
  exact e10
theorem zv_X9 {p r : Nat} {h : aHp} (hp : p ≠ r) (h2 : h.1.length + 2 ≠ r) (h5 : h.1.length + 5 ≠ r) (e : ∀ j, h.2.2.2 r j = none) : ∀ j, (wX9_init p h).2.2.2 r j = none := by
  have e0 := e
  have e1 : ∀ j, (wX9_init_1 p h).2.2.2 r j = none := zq e0
  have e2 : ∀ j, (wX9_init_2 p h).2.2.2 r j = none := zp hp e1
  have e3 : ∀ j, (wX9_init_3 p h).2.2.2 r j = none := zq e2
  have e4 : ∀ j, (wX9_init_4 p h).2.2.2 r j = none := zp hp e3
  have e5 : ∀ j, (wX9_init_5 p h).2.2.2 r j = none := zq e4
  have e6 : ∀ j, (wX9_init_6 p h).2.2.2 r j = none := zv_X4 (by omega) e5
  have e7 : ∀ j, (wX9_init_7 p h).2.2.2 r j = none := zp hp e6
  have e8 : ∀ j, (wX9_init_8 p h).2.2.2 r j = none := zq e7
  have e9 : ∀ j, (wX9_init_9 p h).2.2.2 r j = none := zv_X5 (by omega) e8
  have e10 : ∀ j, (wX9_init_10 p h).2.2.2 r j = none := zp hp e9
  exact e10
theorem zi_X1 {p : Nat} {h : aHp} {g : Nat → Nat → Int32} (hg : ∀ n k, h.1.length ≤ n → g n k = 0) (e : h.2.1 = g) : (wX1_init p h).2.1 = g := by
  have e0 := e
  have e1 : (wX1_init_1 p h).2.1 = g := zn e0 (fun k => hg _ k (Nat.le_refl _))
  have e2 : (wX1_init_2 p h).2.1 = g := e1
  have e3 : (wX1_init_3 p h).2.1 = g := zn e2 (fun k => hg _ k (by rw [lwX1_init_2]; omega))
  have e4 : (wX1_init_4 p h).2.1 = g := e3
  have e5 : (wX1_init_5 p h).2.1 = g := zn e4 (fun k => hg _ k (by rw [lwX1_init_4]; omega))
  have e6 : (wX1_init_6 p h).2.1 = g := e5
  exact e6
theorem zv_X1 {p r : Nat} {h : aHp} (hp : p ≠ r) (e : ∀ j, h.2.2.2 r j = none) : ∀ j, (wX1_init p h).2.2.2 r j = none := by
  have e0 := e
  have e1 : ∀ j, (wX1_init_1 p h).2.2.2 r j = none := zq e0
  have e2 : ∀ j, (wX1_init_2 p h).2.2.2 r j = none := zp hp e1
  have e3 : ∀ j, (wX1_init_3 p h).2.2.2 r j = none := zq e2
  have e4 : ∀ j, (wX1_init_4 p h).2.2.2 r j = none := zp hp e3
  have e5 : ∀ j, (wX1_init_5 p h).2.2.2 r j = none := zq e4
  have e6 : ∀ j, (wX1_init_6 p h).2.2.2 r j = none := zp hp e5
  exact e6
theorem zi_X8 {p : Nat} {h : aHp} {g : Nat → Nat → Int32} (hg : ∀ n k, h.1.length ≤ n → g n k = 0) (e : h.2.1 = g) : (wX8_init p h).2.1 = g := by
  have e0 := e
  have e1 : (wX8_init_1 p h).2.1 = g := zn e0 (fun k => hg _ k (Nat.le_refl _))
  have e2 : (wX8_init_2 p h).2.1 = g := e1
  exact e2
theorem zv_X8 {p r : Nat} {h : aHp} (hp : p ≠ r) (e : ∀ j, h.2.2.2 r j = none) : ∀ j, (wX8_init p h).2.2.2 r j = none := by
  have e0 := e
  have e1 : ∀ j, (wX8_init_1 p h).2.2.2 r j = none := zq e0
  have e2 : ∀ j, (wX8_init_2 p h).2.2.2 r j = none := zp hp e1
  exact e2
theorem zi_X3 {p q0 : Nat} {h : aHp} {g : Nat → Nat → Int32} (hg : ∀ n k, h.1.length ≤ n → g n k = 0) (e : h.2.1 = g) : (wX3_init p q0 h).2.1 = g := by
  have e0 := e
  have e1 : (wX3_init_1 p q0 h).2.1 = g := zn e0 (fun k => hg _ k (Nat.le_refl _))
  have e2 : (wX3_init_2 p q0 h).2.1 = g := e1
  have e3 : (wX3_init_3 p q0 h).2.1 = g := e2
  exact e3
theorem zv_X3 {p q0 r : Nat} {h : aHp} (hp : p ≠ r) (e : ∀ j, h.2.2.2 r j = none) : ∀ j, (wX3_init p q0 h).2.2.2 r j = none := by
  have e0 := e
  have e1 : ∀ j, (wX3_init_1 p q0 h).2.2.2 r j = none := zq e0
  have e2 : ∀ j, (wX3_init_2 p q0 h).2.2.2 r j = none := zp hp e1
  have e3 : ∀ j, (wX3_init_3 p q0 h).2.2.2 r j = none := zp hp e2
  exact e3
theorem zi_X6 {p : Nat} {h : aHp} {g : Nat → Nat → Int32} (hg : ∀ n k, h.1.length ≤ n → g n k = 0) (e : h.2.1 = g) : (wX6_init p h).2.1 = g := by
  have e0 := e
  have e1 : (wX6_init_1 p h).2.1 = g := zn e0 (fun k => hg _ k (Nat.le_refl _))
  have e2 : (wX6_init_2 p h).2.1 = g := e1
  have e3 : (wX6_init_3 p h).2.1 = g := zn e2 (fun k => hg _ k (by rw [lwX6_init_2]; omega))
  have e4 : (wX6_init_4 p h).2.1 = g := e3
  have e5 : (wX6_init_5 p h).2.1 = g := zn e4 (fun k => hg _ k (by rw [lwX6_init_4]; omega))
  have e6 : (wX6_init_6 p h).2.1 = g := e5
  have e7 : (wX6_init_7 p h).2.1 = g := zn e6 (fun k => hg _ k (by rw [lwX6_init_6]; omega))
  have e8 : (wX6_init_8 p h).2.1 = g := e7
  exact e8
theorem zv_X6 {p r : Nat} {h : aHp} (hp : p ≠ r) (e : ∀ j, h.2.2.2 r j = none) : ∀ j, (wX6_init p h).2.2.2 r j = none := by
  have e0 := e
  have e1 : ∀ j, (wX6_init_1 p h).2.2.2 r j = none := zq e0
  have e2 : ∀ j, (wX6_init_2 p h).2.2.2 r j = none := zp hp e1
  have e3 : ∀ j, (wX6_init_3 p h).2.2.2 r j = none := zq e2
  have e4 : ∀ j, (wX6_init_4 p h).2.2.2 r j = none := zp hp e3
  have e5 : ∀ j, (wX6_init_5 p h).2.2.2 r j = none := zq e4
  have e6 : ∀ j, (wX6_init_6 p h).2.2.2 r j = none := zp hp e5
  have e7 : ∀ j, (wX6_init_7 p h).2.2.2 r j = none := zq e6
  have e8 : ∀ j, (wX6_init_8 p h).2.2.2 r j = none := zp hp e7
  exact e8
theorem zi_X7 {p q0 q1 q2 : Nat} {h : aHp} {g : Nat → Nat → Int32} (hg : ∀ n k, h.1.length ≤ n → g n k = 0) (e : h.2.1 = g) : (wX7_init p q0 q1 q2 h).2.1 = g := by
  have e0 := e
  have e1 : (wX7_init_1 p q0 q1 q2 h).2.1 = g := zn e0 (fun k => hg _ k (Nat.le_refl _))
  have e2 : (wX7_init_2 p q0 q1 q2 h).2.1 = g := e1
  have e3 : (wX7_init_3 p q0 q1 q2 h).2.1 = g := zn e2 (fun k => hg _ k (by rw [lwX7_init_2]; omega))
  have e4 : (wX7_init_4 p q0 q1 q2 h).2.1 = g := e3
  have e5 : (wX7_init_5 p q0 q1 q2 h).2.1 = g := zn e4 (fun k => hg _ k (by rw [lwX7_init_4]; omega))
  have e6 : (wX7_init_6 p q0 q1 q2 h).2.1 = g := e5
  have e7 : (wX7_init_7 p q0 q1 q2 h).2.1 = g := zn e6 (fun k => hg _ k (by rw [lwX7_init_6]; omega))
  have e8 : (wX7_init_8 p q0 q1 q2 h).2.1 = g := e7
  have e9 : (wX7_init_9 p q0 q1 q2 h).2.1 = g := e8
  have e10 : (wX7_init_10 p q0 q1 q2 h).2.1 = g := e9
  have e11 : (wX7_init_11 p q0 q1 q2 h).2.1 = g := e10
  exact e11
theorem zv_X7 {p q0 q1 q2 r : Nat} {h : aHp} (hp : p ≠ r) (e : ∀ j, h.2.2.2 r j = none) : ∀ j, (wX7_init p q0 q1 q2 h).2.2.2 r j = none := by
  have e0 := e
  have e1 : ∀ j, (wX7_init_1 p q0 q1 q2 h).2.2.2 r j = none := zq e0
  have e2 : ∀ j, (wX7_init_2 p q0 q1 q2 h).2.2.2 r j = none := zp hp e1
  have e3 : ∀ j, (wX7_init_3 p q0 q1 q2 h).2.2.2 r j = none := zq e2
  have e4 : ∀ j, (wX7_init_4 p q0 q1 q2 h).2.2.2 r j = none := zp hp e3
  have e5 : ∀ j, (wX7_init_5 p q0 q1 q2 h).2.2.2 r j = none := zq e4
  have e6 : ∀ j, (wX7_init_6 p q0 q1 q2 h).2.2.2 r j = none := zp hp e5
  have e7 : ∀ j, (wX7_init_7 p q0 q1 q2 h).2.2.2 r j = none := zq e6
  have e8 : ∀ j, (wX7_init_8 p q0 q1 q2 h).2.2.2 r j = none := zp hp e7
  have e9 : ∀ j, (wX7_init_9 p q0 q1 q2 h).2.2.2 r j = none := zp hp e8
  have e10 : ∀ j, (wX7_init_10 p q0 q1 q2 h).2.2.2 r j = none := zp hp e9
  have e11 : ∀ j, (wX7_init_11 p q0 q1 q2 h).2.2.2 r j = none := zp hp e10
  exact e11
theorem zi_X0 {p q0 q1 q2 : Nat} {h : aHp} {g : Nat → Nat → Int32} (hg : ∀ n k, h.1.length ≤ n → g n k = 0) (e : h.2.1 = g) : (wX0_init p q0 q1 q2 h).2.1 = g := by
  have e0 := e
  have e1 : (wX0_init_1 p q0 q1 q2 h).2.1 = g := zn e0 (fun k => hg _ k (Nat.le_refl _))
  have e2 : (wX0_init_2 p q0 q1 q2 h).2.1 = g := e1
  have e3 : (wX0_init_3 p q0 q1 q2 h).2.1 = g := zn e2 (fun k => hg _ k (by rw [lwX0_init_2]; omega))
  have e4 : (wX0_init_4 p q0 q1 q2 h).2.1 = g := e3
  have e5 : (wX0_init_5 p q0 q1 q2 h).2.1 = g := zn e4 (fun k => hg _ k (by rw [lwX0_init_4]; omega))
  have e6 : (wX0_init_6 p q0 q1 q2 h).2.1 = g := e5
  have e7 : (wX0_init_7 p q0 q1 q2 h).2.1 = g := zn e6 (fun k => hg _ k (by rw [lwX0_init_6]; omega))
  have e8 : (wX0_init_8 p q0 q1 q2 h).2.1 = g := e7
  have e9 : (wX0_init_9 p q0 q1 q2 h).2.1 = g := zn e8 (fun k => hg _ k (by rw [lwX0_init_8]; omega))
  have e10 : (wX0_init_10 p q0 q1 q2 h).2.1 = g := e9
  have e11 : (wX0_init_11 p q0 q1 q2 h).2.1 = g := zn e10 (fun k => hg _ k (by rw [lwX0_init_10]; omega))
  have e12 : (wX0_init_12 p q0 q1 q2 h).2.1 = g := e11
  have e13 : (wX0_init_13 p q0 q1 q2 h).2.1 = g := zn e12 (fun k => hg _ k (by rw [lwX0_init_12]; omega))
  have e14 : (wX0_init_14 p q0 q1 q2 h).2.1 = g := e13
  have e15 : (wX0_init_15 p q0 q1 q2 h).2.1 = g := zn e14 (fun k => hg _ k (by rw [lwX0_init_14]; omega))
  have e16 : (wX0_init_16 p q0 q1 q2 h).2.1 = g := e15
  have e17 : (wX0_init_17 p q0 q1 q2 h).2.1 = g := zn e16 (fun k => hg _ k (by rw [lwX0_init_16]; omega))
  have e18 : (wX0_init_18 p q0 q1 q2 h).2.1 = g := e17
  have e19 : (wX0_init_19 p q0 q1 q2 h).2.1 = g := e18
  have e20 : (wX0_init_20 p q0 q1 q2 h).2.1 = g := e19
  have e21 : (wX0_init_21 p q0 q1 q2 h).2.1 = g := e20
  exact e21
theorem zv_X0 {p q0 q1 q2 r : Nat} {h : aHp} (hp : p ≠ r) (e : ∀ j, h.2.2.2 r j = none) : ∀ j, (wX0_init p q0 q1 q2 h).2.2.2 r j = none := by
  have e0 := e
  have e1 : ∀ j, (wX0_init_1 p q0 q1 q2 h).2.2.2 r j = none := zq e0
  have e2 : ∀ j, (wX0_init_2 p q0 q1 q2 h).2.2.2 r j = none := zp hp e1
  have e3 : ∀ j, (wX0_init_3 p q0 q1 q2 h).2.2.2 r j = none := zq e2
  have e4 : ∀ j, (wX0_init_4 p q0 q1 q2 h).2.2.2 r j = none := zp hp e3
  have e5 : ∀ j, (wX0_init_5 p q0 q1 q2 h).2.2.2 r j = none := zq e4
  have e6 : ∀ j, (wX0_init_6 p q0 q1 q2 h).2.2.2 r j = none := zp hp e5
  have e7 : ∀ j, (wX0_init_7 p q0 q1 q2 h).2.2.2 r j = none := zq e6
  have e8 : ∀ j, (wX0_init_8 p q0 q1 q2 h).2.2.2 r j = none := zp hp e7
  have e9 : ∀ j, (wX0_init_9 p q0 q1 q2 h).2.2.2 r j = none := zq e8
  have e10 : ∀ j, (wX0_init_10 p q0 q1 q2 h).2.2.2 r j = none := zp hp e9
  have e11 : ∀ j, (wX0_init_11 p q0 q1 q2 h).2.2.2 r j = none := zq e10
  have e12 : ∀ j, (wX0_init_12 p q0 q1 q2 h).2.2.2 r j = none := zp hp e11
  have e13 : ∀ j, (wX0_init_13 p q0 q1 q2 h).2.2.2 r j = none := zq e12
  have e14 : ∀ j, (wX0_init_14 p q0 q1 q2 h).2.2.2 r j = none := zp hp e13
  have e15 : ∀ j, (wX0_init_15 p q0 q1 q2 h).2.2.2 r j = none := zq e14
  have e16 : ∀ j, (wX0_init_16 p q0 q1 q2 h).2.2.2 r j = none := zp hp e15
  have e17 : ∀ j, (wX0_init_17 p q0 q1 q2 h).2.2.2 r j = none := zq e16
  have e18 : ∀ j, (wX0_init_18 p q0 q1 q2 h).2.2.2 r j = none := zp hp e17
  have e19 : ∀ j, (wX0_init_19 p q0 q1 q2 h).2.2.2 r j = none := zp hp e18
  have e20 : ∀ j, (wX0_init_20 p q0 q1 q2 h).2.2.2 r j = none := zp hp e19
  have e21 : ∀ j, (wX0_init_21 p q0 q1 q2 h).2.2.2 r j = none := zp hp e20
  exact e21
theorem zi_X2 {p q0 q1 q2 : Nat} {h : aHp} {g : Nat → Nat → Int32} (hg : ∀ n k, h.1.length ≤ n → g n k = 0) (e : h.2.1 = g) : (wX2_init p q0 q1 q2 h).2.1 = g := by
  have e0 := e
  have e1 : (wX2_init_1 p q0 q1 q2 h).2.1 = g := zn e0 (fun k => hg _ k (Nat.le_refl _))
  have e2 : (wX2_init_2 p q0 q1 q2 h).2.1 = g := e1
  have e3 : (wX2_init_3 p q0 q1 q2 h).2.1 = g := zn e2 (fun k => hg _ k (by rw [lwX2_init_2]; omega))
  have e4 : (wX2_init_4 p q0 q1 q2 h).2.1 = g := e3
  have e5 : (wX2_init_5 p q0 q1 q2 h).2.1 = g := zn e4 (fun k => hg _ k (by rw [lwX2_init_4]; omega))
  have e6 : (wX2_init_6 p q0 q1 q2 h).2.1 = g := e5
  have e7 : (wX2_init_7 p q0 q1 q2 h).2.1 = g := zn e6 (fun k => hg _ k (by rw [lwX2_init_6]; omega))
  have e8 : (wX2_init_8 p q0 q1 q2 h).2.1 = g := e7
  have e9 : (wX2_init_9 p q0 q1 q2 h).2.1 = g := e8
  have e10 : (wX2_init_10 p q0 q1 q2 h).2.1 = g := e9
  have e11 : (wX2_init_11 p q0 q1 q2 h).2.1 = g := e10
  exact e11
theorem zv_X2 {p q0 q1 q2 r : Nat} {h : aHp} (hp : p ≠ r) (e : ∀ j, h.2.2.2 r j = none) : ∀ j, (wX2_init p q0 q1 q2 h).2.2.2 r j = none := by
  have e0 := e
  have e1 : ∀ j, (wX2_init_1 p q0 q1 q2 h).2.2.2 r j = none := zq e0
  have e2 : ∀ j, (wX2_init_2 p q0 q1 q2 h).2.2.2 r j = none := zp hp e1
  have e3 : ∀ j, (wX2_init_3 p q0 q1 q2 h).2.2.2 r j = none := zq e2
  have e4 : ∀ j, (wX2_init_4 p q0 q1 q2 h).2.2.2 r j = none := zp hp e3
  have e5 : ∀ j, (wX2_init_5 p q0 q1 q2 h).2.2.2 r j = none := zq e4
  have e6 : ∀ j, (wX2_init_6 p q0 q1 q2 h).2.2.2 r j = none := zp hp e5
  have e7 : ∀ j, (wX2_init_7 p q0 q1 q2 h).2.2.2 r j = none := zq e6
  have e8 : ∀ j, (wX2_init_8 p q0 q1 q2 h).2.2.2 r j = none := zp hp e7
  have e9 : ∀ j, (wX2_init_9 p q0 q1 q2 h).2.2.2 r j = none := zp hp e8
  have e10 : ∀ j, (wX2_init_10 p q0 q1 q2 h).2.2.2 r j = none := zp hp e9
  have e11 : ∀ j, (wX2_init_11 p q0 q1 q2 h).2.2.2 r j = none := zp hp e10
  exact e11
theorem zi_X11 {p : Nat} {h : aHp} {g : Nat → Nat → Int32} (hg : ∀ n k, h.1.length ≤ n → g n k = 0) (e : h.2.1 = g) : (wX11_init p h).2.1 = (u2 (u2 g p 11 50) p 12 (-1)) := by
  have e0 := e
  have e1 : (wX11_init_1 p h).2.1 = g := zn e0 (fun k => hg _ k (Nat.le_refl _))
  have e2 : (wX11_init_2 p h).2.1 = g := zi_X10 (fun n k hn => hg n k (by rw [lwX11_init_1] at hn; omega)) e1
  have e3 : (wX11_init_3 p h).2.1 = g := e2
  have e4 : (wX11_init_4 p h).2.1 = g := zn e3 (fun k => hg _ k (by rw [lwX11_init_3]; omega))
  have e5 : (wX11_init_5 p h).2.1 = g := zi_X9 (fun n k hn => hg n k (by rw [lwX11_init_4] at hn; omega)) e4
  have e6 : (wX11_init_6 p h).2.1 = g := e5
  have e7 : (wX11_init_7 p h).2.1 = g := zn e6 (fun k => hg _ k (by rw [lwX11_init_6]; omega))
  have e8 : (wX11_init_8 p h).2.1 = g := zi_X1 (fun n k hn => hg n k (by rw [lwX11_init_7] at hn; omega)) e7
  have e9 : (wX11_init_9 p h).2.1 = g := e8
  have e10 : (wX11_init_10 p h).2.1 = g := zn e9 (fun k => hg _ k (by rw [lwX11_init_9]; omega))
  have e11 : (wX11_init_11 p h).2.1 = g := zi_X1 (fun n k hn => hg n k (by rw [lwX11_init_10] at hn; omega)) e10
  have e12 : (wX11_init_12 p h).2.1 = g := e11
  have e13 : (wX11_init_13 p h).2.1 = g := zn e12 (fun k => hg _ k (by rw [lwX11_init_12]; omega))
  have e14 : (wX11_init_14 p h).2.1 = g := zi_X8 (fun n k hn => hg n k (by rw [lwX11_init_13] at hn; omega)) e13
  have e15 : (wX11_init_15 p h).2.1 = g := e14
  have e16 : (wX11_init_16 p h).2.1 = g := zn e15 (fun k => hg _ k (by rw [lwX11_init_15]; omega))
  have e17 : (wX11_init_17 p h).2.1 = g := zi_X8 (fun n k hn => hg n k (by rw [lwX11_init_16] at hn; omega)) e16
  have e18 : (wX11_init_18 p h).2.1 = g := e17
  have e19 : (wX11_init_19 p h).2.1 = g := zn e18 (fun k => hg _ k (by rw [lwX11_init_18]; omega))
  have e20 : (wX11_init_20 p h).2.1 = g := zi_X3 (fun n k hn => hg n k (by rw [lwX11_init_19] at hn; omega)) e19
  have e21 : (wX11_init_21 p h).2.1 = g := e20
  have e22 : (wX11_init_22 p h).2.1 = g := zn e21 (fun k => hg _ k (by rw [lwX11_init_21]; omega))
  have e23 : (wX11_init_23 p h).2.1 = g := zi_X6 (fun n k hn => hg n k (by rw [lwX11_init_22] at hn; omega)) e22
  have e24 : (wX11_init_24 p h).2.1 = g := e23
  have e25 : (wX11_init_25 p h).2.1 = g := zn e24 (fun k => hg _ k (by rw [lwX11_init_24]; omega))
  have e26 : (wX11_init_26 p h).2.1 = g := zi_X7 (fun n k hn => hg n k (by rw [lwX11_init_25] at hn; omega)) e25
  have e27 : (wX11_init_27 p h).2.1 = g := e26
  have e28 : (wX11_init_28 p h).2.1 = g := zn e27 (fun k => hg _ k (by rw [lwX11_init_27]; omega))
  have e29 : (wX11_init_29 p h).2.1 = g := zi_X0 (fun n k hn => hg n k (by rw [lwX11_init_28] at hn; omega)) e28
  have e30 : (wX11_init_30 p h).2.1 = g := e29
  have e31 : (wX11_init_31 p h).2.1 = g := zn e30 (fun k => hg _ k (by rw [lwX11_init_30]; omega))
  have e32 : (wX11_init_32 p h).2.1 = g := zi_X2 (fun n k hn => hg n k (by rw [lwX11_init_31] at hn; omega)) e31
  have e33 : (wX11_init_33 p h).2.1 = g := e32
  have e34 : (wX11_init_34 p h).2.1 = (u2 g p 11 50) := by
    show u2 (wX11_init_33 p h).2.1 p 11 50 = _
    rw [e33]
  have e35 : (wX11_init_35 p h).2.1 = (u2 (u2 g p 11 50) p 12 (-1)) := by
    show u2 (wX11_init_34 p h).2.1 p 12 (-1) = _
    rw [e34]
  exact e35
theorem zv_X11 {p r : Nat} {h : aHp} (hl : h.1.length = 1) (hr : r = 4 ∨ r = 5) (hp : p = 0) (e : ∀ j, h.2.2.2 r j = none) : ∀ j, (wX11_init p h).2.2.2 r j = none := by
  have e0 := e
  have e1 : ∀ j, (wX11_init_1 p h).2.2.2 r j = none := zq e0
  have e2 : ∀ j, (wX11_init_2 p h).2.2.2 r j = none := zv_X10 (by omega) e1
  have e3 : ∀ j, (wX11_init_3 p h).2.2.2 r j = none := zp (by omega) e2
  have e4 : ∀ j, (wX11_init_4 p h).2.2.2 r j = none := zq e3
  have e5 : ∀ j, (wX11_init_5 p h).2.2.2 r j = none := zv_X9 (by omega) (by rw [lwX11_init_4]; omega) (by rw [lwX11_init_4]; omega) e4
  have e6 : ∀ j, (wX11_init_6 p h).2.2.2 r j = none := zp (by omega) e5
  have e7 : ∀ j, (wX11_init_7 p h).2.2.2 r j = none := zq e6
  have e8 : ∀ j, (wX11_init_8 p h).2.2.2 r j = none := zv_X1 (by omega) e7
  have e9 : ∀ j, (wX11_init_9 p h).2.2.2 r j = none := zp (by omega) e8
  have e10 : ∀ j, (wX11_init_10 p h).2.2.2 r j = none := zq e9
  have e11 : ∀ j, (wX11_init_11 p h).2.2.2 r j = none := zv_X1 (by omega) e10
  have e12 : ∀ j, (wX11_init_12 p h).2.2.2 r j = none := zp (by omega) e11
  have e13 : ∀ j, (wX11_init_13 p h).2.2.2 r j = none := zq e12
  have e14 : ∀ j, (wX11_init_14 p h).2.2.2 r j = none := zv_X8 (by omega) e13
  have e15 : ∀ j, (wX11_init_15 p h).2.2.2 r j = none := zp (by omega) e14
  have e16 : ∀ j, (wX11_init_16 p h).2.2.2 r j = none := zq e15
  have e17 : ∀ j, (wX11_init_17 p h).2.2.2 r j = none := zv_X8 (by omega) e16
  have e18 : ∀ j, (wX11_init_18 p h).2.2.2 r j = none := zp (by omega) e17
  have e19 : ∀ j, (wX11_init_19 p h).2.2.2 r j = none := zq e18
  have e20 : ∀ j, (wX11_init_20 p h).2.2.2 r j = none := zv_X3 (by omega) e19
  have e21 : ∀ j, (wX11_init_21 p h).2.2.2 r j = none := zp (by omega) e20
  have e22 : ∀ j, (wX11_init_22 p h).2.2.2 r j = none := zq e21
  have e23 : ∀ j, (wX11_init_23 p h).2.2.2 r j = none := zv_X6 (by omega) e22
  have e24 : ∀ j, (wX11_init_24 p h).2.2.2 r j = none := zp (by omega) e23
  have e25 : ∀ j, (wX11_init_25 p h).2.2.2 r j = none := zq e24
  have e26 : ∀ j, (wX11_init_26 p h).2.2.2 r j = none := zv_X7 (by omega) e25
  have e27 : ∀ j, (wX11_init_27 p h).2.2.2 r j = none := zp (by omega) e26
  have e28 : ∀ j, (wX11_init_28 p h).2.2.2 r j = none := zq e27
  have e29 : ∀ j, (wX11_init_29 p h).2.2.2 r j = none := zv_X0 (by omega) e28
  have e30 : ∀ j, (wX11_init_30 p h).2.2.2 r j = none := zp (by omega) e29
  have e31 : ∀ j, (wX11_init_31 p h).2.2.2 r j = none := zq e30
  have e32 : ∀ j, (wX11_init_32 p h).2.2.2 r j = none := zv_X2 (by omega) e31
  have e33 : ∀ j, (wX11_init_33 p h).2.2.2 r j = none := zp (by omega) e32
  have e34 : ∀ j, (wX11_init_34 p h).2.2.2 r j = none := e33
  have e35 : ∀ j, (wX11_init_35 p h).2.2.2 r j = none := e34
  exact e35
theorem zi_X12 {p : Nat} {h : aHp} {g : Nat → Nat → Int32} (hg : ∀ n k, h.1.length ≤ n → g n k = 0) (hp : p < h.1.length) (e : h.2.1 = g) : (wX12_init p h).2.1 = (u2 (u2 g p 35 (-1)) p 36 50) := by
  have e0 := e
  have e1 : (wX12_init_1 p h).2.1 = g := zn e0 (fun k => hg _ k (Nat.le_refl _))
  have e2 : (wX12_init_2 p h).2.1 = g := e1
  have e3 : (wX12_init_3 p h).2.1 = g := zn e2 (fun k => hg _ k (by rw [lwX12_init_2]; omega))
  have e4 : (wX12_init_4 p h).2.1 = g := e3
  have e5 : (wX12_init_5 p h).2.1 = g := zn e4 (fun k => hg _ k (by rw [lwX12_init_4]; omega))
  have e6 : (wX12_init_6 p h).2.1 = g := e5
  have e7 : (wX12_init_7 p h).2.1 = g := zn e6 (fun k => hg _ k (by rw [lwX12_init_6]; omega))
  have e8 : (wX12_init_8 p h).2.1 = g := e7
  have e9 : (wX12_init_9 p h).2.1 = g := e8
  have e10 : (wX12_init_10 p h).2.1 = g := e9
  have e11 : (wX12_init_11 p h).2.1 = g := e10
  have e12 : (wX12_init_12 p h).2.1 = g := zn e11 (fun k => hg _ k (by rw [lwX12_init_11]; omega))
  have e13 : (wX12_init_13 p h).2.1 = g := e12
  have e14 : (wX12_init_14 p h).2.1 = g := zn e13 (fun k => hg _ k (by rw [lwX12_init_13]; omega))
  have e15 : (wX12_init_15 p h).2.1 = g := e14
  have e16 : (wX12_init_16 p h).2.1 = g := zn e15 (fun k => hg _ k (by rw [lwX12_init_15]; omega))
  have e17 : (wX12_init_17 p h).2.1 = g := e16
  have e18 : (wX12_init_18 p h).2.1 = g := zn e17 (fun k => hg _ k (by rw [lwX12_init_17]; omega))
  have e19 : (wX12_init_19 p h).2.1 = g := e18
  have e20 : (wX12_init_20 p h).2.1 = g := zn e19 (fun k => hg _ k (by rw [lwX12_init_19]; omega))
  have e21 : (wX12_init_21 p h).2.1 = g := e20
  have e22 : (wX12_init_22 p h).2.1 = g := zn e21 (fun k => hg _ k (by rw [lwX12_init_21]; omega))
  have e23 : (wX12_init_23 p h).2.1 = g := e22
  have e24 : (wX12_init_24 p h).2.1 = g := zn e23 (fun k => hg _ k (by rw [lwX12_init_23]; omega))
  have e25 : (wX12_init_25 p h).2.1 = g := e24
  have e26 : (wX12_init_26 p h).2.1 = g := zn e25 (fun k => hg _ k (by rw [lwX12_init_25]; omega))
  have e27 : (wX12_init_27 p h).2.1 = g := e26
  have e28 : (wX12_init_28 p h).2.1 = g := zn e27 (fun k => hg _ k (by rw [lwX12_init_27]; omega))
  have e29 : (wX12_init_29 p h).2.1 = g := e28
  have e30 : (wX12_init_30 p h).2.1 = g := zn e29 (fun k => hg _ k (by rw [lwX12_init_29]; omega))
  have e31 : (wX12_init_31 p h).2.1 = g := e30
  have e32 : (wX12_init_32 p h).2.1 = (u2 g p 35 (-1)) := by
    show u2 (wX12_init_31 p h).2.1 p 35 (-1) = _
    rw [e31]
  have hg32 : ∀ n k, h.1.length ≤ n → (u2 g p 35 (-1)) n k = 0 := fun n k hn => (u2_ne _ _ (Or.inl (by omega))).trans (hg n k hn)
  have e33 : (wX12_init_33 p h).2.1 = (u2 (u2 g p 35 (-1)) p 36 50) := by
    show u2 (wX12_init_32 p h).2.1 p 36 50 = _
    rw [e32]
  have hg33 : ∀ n k, h.1.length ≤ n → (u2 (u2 g p 35 (-1)) p 36 50) n k = 0 := fun n k hn => (u2_ne _ _ (Or.inl (by omega))).trans (hg32 n k hn)
  have e34 : (wX12_init_34 p h).2.1 = (u2 (u2 g p 35 (-1)) p 36 50) := zn e33 (fun k => hg33 _ k (by rw [lwX12_init_33]; omega))
  have e35 : (wX12_init_35 p h).2.1 = (u2 (u2 g p 35 (-1)) p 36 50) := e34
  have e36 : (wX12_init_36 p h).2.1 = (u2 (u2 g p 35 (-1)) p 36 50) := zn e35 (fun k => hg33 _ k (by rw [lwX12_init_35]; omega))
  have e37 : (wX12_init_37 p h).2.1 = (u2 (u2 g p 35 (-1)) p 36 50) := e36
  have e38 : (wX12_init_38 p h).2.1 = (u2 (u2 g p 35 (-1)) p 36 50) := zn e37 (fun k => hg33 _ k (by rw [lwX12_init_37]; omega))
  have e39 : (wX12_init_39 p h).2.1 = (u2 (u2 g p 35 (-1)) p 36 50) := e38
  have e40 : (wX12_init_40 p h).2.1 = (u2 (u2 g p 35 (-1)) p 36 50) := zn e39 (fun k => hg33 _ k (by rw [lwX12_init_39]; omega))
  have e41 : (wX12_init_41 p h).2.1 = (u2 (u2 g p 35 (-1)) p 36 50) := e40
  have e42 : (wX12_init_42 p h).2.1 = (u2 (u2 g p 35 (-1)) p 36 50) := zn e41 (fun k => hg33 _ k (by rw [lwX12_init_41]; omega))
  have e43 : (wX12_init_43 p h).2.1 = (u2 (u2 g p 35 (-1)) p 36 50) := e42
  have e44 : (wX12_init_44 p h).2.1 = (u2 (u2 g p 35 (-1)) p 36 50) := zn e43 (fun k => hg33 _ k (by rw [lwX12_init_43]; omega))
  have e45 : (wX12_init_45 p h).2.1 = (u2 (u2 g p 35 (-1)) p 36 50) := e44
  have e46 : (wX12_init_46 p h).2.1 = (u2 (u2 g p 35 (-1)) p 36 50) := zn e45 (fun k => hg33 _ k (by rw [lwX12_init_45]; omega))
  have e47 : (wX12_init_47 p h).2.1 = (u2 (u2 g p 35 (-1)) p 36 50) := e46
  have e48 : (wX12_init_48 p h).2.1 = (u2 (u2 g p 35 (-1)) p 36 50) := zn e47 (fun k => hg33 _ k (by rw [lwX12_init_47]; omega))
  have e49 : (wX12_init_49 p h).2.1 = (u2 (u2 g p 35 (-1)) p 36 50) := e48
  exact e49
theorem zv_X12 {p r : Nat} {h : aHp} (hp : p ≠ r) (e : ∀ j, h.2.2.2 r j = none) : ∀ j, (wX12_init p h).2.2.2 r j = none := by
  have e0 := e
  have e1 : ∀ j, (wX12_init_1 p h).2.2.2 r j = none := zq e0
  have e2 : ∀ j, (wX12_init_2 p h).2.2.2 r j = none := zp hp e1
  have e3 : ∀ j, (wX12_init_3 p h).2.2.2 r j = none := zq e2
  have e4 : ∀ j, (wX12_init_4 p h).2.2.2 r j = none := zp hp e3
  have e5 : ∀ j, (wX12_init_5 p h).2.2.2 r j = none := zq e4
  have e6 : ∀ j, (wX12_init_6 p h).2.2.2 r j = none := zp hp e5
  have e7 : ∀ j, (wX12_init_7 p h).2.2.2 r j = none := zq e6
  have e8 : ∀ j, (wX12_init_8 p h).2.2.2 r j = none := zp hp e7
  have e9 : ∀ j, (wX12_init_9 p h).2.2.2 r j = none := zp hp e8
  have e10 : ∀ j, (wX12_init_10 p h).2.2.2 r j = none := zp hp e9
  have e11 : ∀ j, (wX12_init_11 p h).2.2.2 r j = none := zp hp e10
  have e12 : ∀ j, (wX12_init_12 p h).2.2.2 r j = none := zq e11
  have e13 : ∀ j, (wX12_init_13 p h).2.2.2 r j = none := zp hp e12
  have e14 : ∀ j, (wX12_init_14 p h).2.2.2 r j = none := zq e13
  have e15 : ∀ j, (wX12_init_15 p h).2.2.2 r j = none := zp hp e14
  have e16 : ∀ j, (wX12_init_16 p h).2.2.2 r j = none := zq e15
  have e17 : ∀ j, (wX12_init_17 p h).2.2.2 r j = none := zp hp e16
  have e18 : ∀ j, (wX12_init_18 p h).2.2.2 r j = none := zq e17
  have e19 : ∀ j, (wX12_init_19 p h).2.2.2 r j = none := zp hp e18
  have e20 : ∀ j, (wX12_init_20 p h).2.2.2 r j = none := zq e19
  have e21 : ∀ j, (wX12_init_21 p h).2.2.2 r j = none := zp hp e20
  have e22 : ∀ j, (wX12_init_22 p h).2.2.2 r j = none := zq e21
  have e23 : ∀ j, (wX12_init_23 p h).2.2.2 r j = none := zp hp e22
  have e24 : ∀ j, (wX12_init_24 p h).2.2.2 r j = none := zq e23
  have e25 : ∀ j, (wX12_init_25 p h).2.2.2 r j = none := zp hp e24
  have e26 : ∀ j, (wX12_init_26 p h).2.2.2 r j = none := zq e25
  have e27 : ∀ j, (wX12_init_27 p h).2.2.2 r j = none := zp hp e26
  have e28 : ∀ j, (wX12_init_28 p h).2.2.2 r j = none := zq e27
  have e29 : ∀ j, (wX12_init_29 p h).2.2.2 r j = none := zp hp e28
  have e30 : ∀ j, (wX12_init_30 p h).2.2.2 r j = none := zq e29
  have e31 : ∀ j, (wX12_init_31 p h).2.2.2 r j = none := zp hp e30
  have e32 : ∀ j, (wX12_init_32 p h).2.2.2 r j = none := e31
  have e33 : ∀ j, (wX12_init_33 p h).2.2.2 r j = none := e32
  have e34 : ∀ j, (wX12_init_34 p h).2.2.2 r j = none := zq e33
  have e35 : ∀ j, (wX12_init_35 p h).2.2.2 r j = none := zp hp e34
  have e36 : ∀ j, (wX12_init_36 p h).2.2.2 r j = none := zq e35
  have e37 : ∀ j, (wX12_init_37 p h).2.2.2 r j = none := zp hp e36
  have e38 : ∀ j, (wX12_init_38 p h).2.2.2 r j = none := zq e37
  have e39 : ∀ j, (wX12_init_39 p h).2.2.2 r j = none := zp hp e38
  have e40 : ∀ j, (wX12_init_40 p h).2.2.2 r j = none := zq e39
  have e41 : ∀ j, (wX12_init_41 p h).2.2.2 r j = none := zp hp e40
  have e42 : ∀ j, (wX12_init_42 p h).2.2.2 r j = none := zq e41
  have e43 : ∀ j, (wX12_init_43 p h).2.2.2 r j = none := zp hp e42
  have e44 : ∀ j, (wX12_init_44 p h).2.2.2 r j = none := zq e43
  have e45 : ∀ j, (wX12_init_45 p h).2.2.2 r j = none := zp hp e44
  have e46 : ∀ j, (wX12_init_46 p h).2.2.2 r j = none := zq e45
  have e47 : ∀ j, (wX12_init_47 p h).2.2.2 r j = none := zp hp e46
  have e48 : ∀ j, (wX12_init_48 p h).2.2.2 r j = none := zq e47
  have e49 : ∀ j, (wX12_init_49 p h).2.2.2 r j = none := zp hp e48
  exact e49
def W00 : aHp := ([], fun _ _ => 0, fun _ _ => 0, fun _ _ => none)
def W01 : aHp := aNew W00 (.inr 11)
def W02 : aHp := wX11_init 0 W01
def W03 : aHp := aNew W02 (.inr 12)
def W04 : aHp := wX12_init 50 W03
def W05 : aHp := aNew W04 (.inl (.long, 1))
theorem W01_l : W01.1.length = 1 := rfl
theorem W02_l : W02.1.length = 50 := (lenX11_init 0 W01).trans rfl
theorem W03_l : W03.1.length = 51 := (aNew_len W02 _).trans (congrArg (· + 1) W02_l)
theorem W04_l : W04.1.length = 73 := (lenX12_init 50 W03).trans (congrArg (· + 22) W03_l)
theorem W05_l : W05.1.length = 74 := (aNew_len W04 _).trans (congrArg (· + 1) W04_l)
theorem W05_i : W05.2.1 = G0 := by
  have e0 : W00.2.1 = fun _ _ => 0 := rfl
  have e1 : W01.2.1 = fun _ _ => 0 := zn e0 (fun _ => rfl)
  have e2 : W02.2.1 = u2 (u2 (fun _ _ => 0) 0 11 50) 0 12 (-1) := zi_X11 (fun _ _ _ => rfl) e1
  have z2 : ∀ n k, 50 ≤ n → u2 (u2 (fun _ _ => 0) 0 11 50) 0 12 (-1) n k = (0 : Int32) := fun n k hn => by
    rw [u2_ne _ _ (Or.inl (by omega)), u2_ne _ _ (Or.inl (by omega))]
  have e3 : W03.2.1 = u2 (u2 (fun _ _ => 0) 0 11 50) 0 12 (-1) := zn e2 (fun k => z2 _ k (by rw [W02_l]; omega))
  have e4 : W04.2.1 = G0 := zi_X12 (fun n k hn => z2 n k (by rw [W03_l] at hn; omega)) (by rw [W03_l]; omega) e3
  exact zn e4 (fun k => G0_r (by rw [W04_l]; decide) (by rw [W04_l]; decide) k)
theorem W05_r {r : Nat} (hr : r = 4 ∨ r = 5) : ∀ j, W05.2.2.2 r j = none := by
  have e0 : ∀ j, W00.2.2.2 r j = none := fun _ => rfl
  have e2 := zv_X11 (p := 0) W01_l hr rfl (zq (x := .inr 11) e0)
  have e3 : ∀ j, W03.2.2.2 r j = none := zq e2
  have e4 : ∀ j, W04.2.2.2 r j = none := zv_X12 (p := 50) (by omega) e3
  exact zq e4
set_option maxRecDepth 100000 in
theorem W05_s : W05.1 = SH0 := by decide +kernel
set_option maxRecDepth 100000 in
theorem W05_f : (∀ x ∈ RFL, W05.2.2.2 x.1 x.2.1 = some x.2.2) ∧ W05.2.2.2 23 2 = none ∧ W05.2.2.2 3 2 = some 106 ∧ W05.2.2.2 3 3 = some 109 ∧ W05.2.2.2 50 5 = some 151 ∧ W05.2.2.2 6 0 = some 107 ∧ W05.2.2.2 6 1 = some 108 ∧ W05.2.2.2 9 0 = some 110 := by decide +kernel
theorem W05_n : aSn W05.1 ≤ 100000 := by
  rw [W05_s]
  decide +kernel
theorem W05_g : aGood W05.1 W05.2.2.2 := by
  obtain ⟨h1, h2, h3, h4, h5, h6, h7, h8⟩ := W05_f
  refine ⟨fun q _ => by rw [W05_s], h1, fun r hr => ?_, ?_, ?_, fun j r hr => ?_, fun j r hr => ?_, Or.inl h5⟩
  · rw [h2] at hr; cases hr
  · rw [h3]
    refine ⟨rfl, ?_, ?_, ?_, h6, h7⟩ <;> (rw [W05_s]; rfl)
  · rw [h4]
    refine ⟨rfl, ?_, ?_, h8⟩ <;> (rw [W05_s]; rfl)
  · rw [W05_r (Or.inl rfl)] at hr; cases hr
  · rw [W05_r (Or.inr rfl)] at hr; cases hr
theorem W05_v : Inv 0 W05.1.length W05.2.1 W05.2.2.2 := by
  rw [W05_l, W05_i]
  exact Inv_start W05_f.2.1 W05_f.2.2.1 W05_f.2.2.2.1
