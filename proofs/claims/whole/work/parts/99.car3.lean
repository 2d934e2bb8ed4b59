/-! cars as they are read: both sides -/
section CC
variable {X X' X'' i i' Y Y' Y'' j j' : Tb} {rv : Nat → Nat → Option Nat} {T V V' : Nat → Nat} {L B w a p q r n d e m k c z f fi mn fr it u t s : Nat} {v : Int32} {K D D' : Nat → Nat → Nat} {told : Bool}
theorem OkD_s (h : OkD D) (hV : ∀ k, k < 4 → V k ≤ hiA (0 + k)) : OkD (upI D 1 0 4 V) := by
  obtain ⟨h1, h2, h3, h4, h5⟩ := h
  rw [OkD, upI_o (by omega), upI_o (by omega)]
  refine ⟨h1, h2, fun k hk => ?_, fun p k hp hk => ?_, fun o k ho hk => ?_⟩
  · have := hV k hk
    rw [Nat.zero_add] at this
    have e := upI_i (D := D) (a := 1) (off := 0) (V := V) hk
    rw [Nat.zero_add] at e
    rw [e]
    exact this
  · rw [upI_o (by omega)]; exact h4 p k hp hk
  · rw [upI_o (by omega)]; exact h5 o k ho hk
theorem OkD_p (h : OkD D) (hn : D 0 3 < 9) (hV : ∀ k, k < 6 → V k ≤ hiA (4 + k)) : OkD (upI (upN D 3) 2 (6 * D 0 3) 6 V) := by
  obtain ⟨h1, h2, h3, h4, h5⟩ := h
  have e3 : upI (upN D 3) 2 (6 * D 0 3) 6 V 0 3 = D 0 3 + 1 := by rw [upI_o (by omega), upN_e]
  have e4 : upI (upN D 3) 2 (6 * D 0 3) 6 V 0 4 = D 0 4 := by rw [upI_o (by omega), upN_o (by omega)]
  rw [OkD, e3, e4]
  refine ⟨by omega, h2, fun k hk => ?_, fun p k hp hk => ?_, fun o k ho hk => ?_⟩
  · rw [upI_o (by omega), upN_o (by omega)]; exact h3 k hk
  · by_cases e : p = D 0 3
    · rw [e, upI_i hk]; exact hV k hk
    · rw [upI_o (by omega), upN_o (by omega)]; exact h4 p k (by omega) hk
  · rw [upI_o (by omega), upN_o (by omega)]; exact h5 o k ho hk
theorem OkD_o (h : OkD D) (hn : D 0 4 < 4) (hV : ∀ k, k < 4 → V k ≤ hiA (10 + k)) : OkD (upI (upN D 4) 3 (4 * D 0 4) 4 V) := by
  obtain ⟨h1, h2, h3, h4, h5⟩ := h
  have e3 : upI (upN D 4) 3 (4 * D 0 4) 4 V 0 3 = D 0 3 := by rw [upI_o (by omega), upN_o (by omega)]
  have e4 : upI (upN D 4) 3 (4 * D 0 4) 4 V 0 4 = D 0 4 + 1 := by rw [upI_o (by omega), upN_e]
  rw [OkD, e3, e4]
  refine ⟨h1, by omega, fun k hk => ?_, fun p k hp hk => ?_, fun o k ho hk => ?_⟩
  · rw [upI_o (by omega), upN_o (by omega)]; exact h3 k hk
  · rw [upI_o (by omega), upN_o (by omega)]; exact h4 p k hp hk
  · by_cases e : o = D 0 4
    · rw [e, upI_i hk]; exact hV k hk
    · rw [upI_o (by omega), upN_o (by omega)]; exact h5 o k (by omega) hk
theorem cc1_s (h : ch T L q = 115 ∧ told = false) : (∀ r, itS T L 0 4 20 0 (fun k => woA (0 + k)) (q + 1) = (r, none) → cc1 T L told D q = (r, none)) ∧ (∀ r V, itS T L 0 4 20 0 (fun k => woA (0 + k)) (q + 1) = (r, some V) → cc1 T L told D q = (r, some (upI D 1 0 4 V))) := ⟨fun r e => by unfold cc1; rw [if_pos h, e], fun r V e => by unfold cc1; rw [if_pos h, e]⟩
theorem cc1_p (h0 : ¬ (ch T L q = 115 ∧ told = false)) (h : ch T L q = 112 ∧ D 0 3 < 9) : (∀ r, itS T L 4 6 20 0 (fun k => woA (4 + k)) (q + 1) = (r, none) → cc1 T L told D q = (r, none)) ∧ (∀ r V, itS T L 4 6 20 0 (fun k => woA (4 + k)) (q + 1) = (r, some V) → cc1 T L told D q = (r, some (upI (upN D 3) 2 (6 * D 0 3) 6 V))) := ⟨fun r e => by unfold cc1; rw [if_neg h0, if_pos h, e], fun r V e => by unfold cc1; rw [if_neg h0, if_pos h, e]⟩
theorem cc1_o (h0 : ¬ (ch T L q = 115 ∧ told = false)) (h1 : ¬ (ch T L q = 112 ∧ D 0 3 < 9)) (h : ch T L q = 111 ∧ D 0 4 < 4) : (∀ r, itS T L 10 4 20 0 (fun k => woA (10 + k)) (q + 1) = (r, none) → cc1 T L told D q = (r, none)) ∧ (∀ r V, itS T L 10 4 20 0 (fun k => woA (10 + k)) (q + 1) = (r, some V) → cc1 T L told D q = (r, some (upI (upN D 4) 3 (4 * D 0 4) 4 V))) := ⟨fun r e => by unfold cc1; rw [if_neg h0, if_neg h1, if_pos h, e], fun r V e => by unfold cc1; rw [if_neg h0, if_neg h1, if_pos h, e]⟩
theorem cc1_n (h0 : ¬ (ch T L q = 115 ∧ told = false)) (h1 : ¬ (ch T L q = 112 ∧ D 0 3 < 9)) (h : ¬ (ch T L q = 111 ∧ D 0 4 < 4)) : cc1 T L told D q = (q, none) := by unfold cc1; rw [if_neg h0, if_neg h1, if_neg h]
theorem DrC_s (h : DrC D X) (hf : FrI 12 0 4 X X') (hV : ∀ k, k < 4 → X' 12 (0 + k) = nI (V k)) : DrC (upI D 1 0 4 V) X' := by
  obtain ⟨h1, h2, h3, h4, h5⟩ := h
  rw [DrC, upI_o (by omega), upI_o (by omega)]
  refine ⟨by rw [hf 11 3 (by omega)]; exact h1, by rw [hf 11 4 (by omega)]; exact h2, fun k hk => ?_, fun k hk => ?_, fun k hk => ?_⟩
  · have := hV k hk
    have e := upI_i (D := D) (a := 1) (off := 0) (V := V) hk
    rw [Nat.zero_add] at this e
    rw [e]
    exact this
  · rw [hf 13 k (by omega), upI_o (by omega)]; exact h4 k hk
  · rw [hf 14 k (by omega), upI_o (by omega)]; exact h5 k hk
theorem DrC_p (h : DrC D X) (hf : FrI 13 (6 * D 0 3) 6 (u2 X 11 3 (nI (D 0 3 + 1))) X') (hV : ∀ k, k < 6 → X' 13 (6 * D 0 3 + k) = nI (V k)) : DrC (upI (upN D 3) 2 (6 * D 0 3) 6 V) X' := by
  obtain ⟨h1, h2, h3, h4, h5⟩ := h
  have e3 : upI (upN D 3) 2 (6 * D 0 3) 6 V 0 3 = D 0 3 + 1 := by rw [upI_o (by omega), upN_e]
  have e4 : upI (upN D 3) 2 (6 * D 0 3) 6 V 0 4 = D 0 4 := by rw [upI_o (by omega), upN_o (by omega)]
  rw [DrC, e3, e4]
  refine ⟨by rw [hf 11 3 (by omega), u2e], by rw [hf 11 4 (by omega), u2n _ _ _ _ _ (by omega)]; exact h2, fun k hk => ?_, fun k hk => ?_, fun k hk => ?_⟩
  · rw [hf 12 k (by omega), u2r _ _ _ _ _ (by omega), upI_o (by omega), upN_o (by omega)]; exact h3 k hk
  · by_cases e : k < 6 * D 0 3
    · rw [hf 13 k (by omega), u2r _ _ _ _ _ (by omega), upI_o (by omega), upN_o (by omega)]; exact h4 k e
    · have a1 := hV (k - 6 * D 0 3) (by omega)
      have a2 := upI_i (D := upN D 3) (a := 2) (off := 6 * D 0 3) (V := V) (show k - 6 * D 0 3 < 6 by omega)
      rw [show 6 * D 0 3 + (k - 6 * D 0 3) = k by omega] at a1 a2
      rw [a1, a2]
  · rw [hf 14 k (by omega), u2r _ _ _ _ _ (by omega), upI_o (by omega), upN_o (by omega)]; exact h5 k hk
theorem DrC_o (h : DrC D X) (hf : FrI 14 (4 * D 0 4) 4 (u2 X 11 4 (nI (D 0 4 + 1))) X') (hV : ∀ k, k < 4 → X' 14 (4 * D 0 4 + k) = nI (V k)) : DrC (upI (upN D 4) 3 (4 * D 0 4) 4 V) X' := by
  obtain ⟨h1, h2, h3, h4, h5⟩ := h
  have e3 : upI (upN D 4) 3 (4 * D 0 4) 4 V 0 3 = D 0 3 := by rw [upI_o (by omega), upN_o (by omega)]
  have e4 : upI (upN D 4) 3 (4 * D 0 4) 4 V 0 4 = D 0 4 + 1 := by rw [upI_o (by omega), upN_e]
  rw [DrC, e3, e4]
  refine ⟨by rw [hf 11 3 (by omega), u2n _ _ _ _ _ (by omega)]; exact h1, by rw [hf 11 4 (by omega), u2e], fun k hk => ?_, fun k hk => ?_, fun k hk => ?_⟩
  · rw [hf 12 k (by omega), u2r _ _ _ _ _ (by omega), upI_o (by omega), upN_o (by omega)]; exact h3 k hk
  · rw [hf 13 k (by omega), u2r _ _ _ _ _ (by omega), upI_o (by omega), upN_o (by omega)]; exact h4 k hk
  · by_cases e : k < 4 * D 0 4
    · rw [hf 14 k (by omega), u2r _ _ _ _ _ (by omega), upI_o (by omega), upN_o (by omega)]; exact h5 k e
    · have a1 := hV (k - 4 * D 0 4) (by omega)
      have a2 := upI_i (D := upN D 4) (a := 3) (off := 4 * D 0 4) (V := V) (show k - 4 * D 0 4 < 4 by omega)
      rw [show 4 * D 0 4 + (k - 4 * D 0 4) = k by omega] at a1 a2
      rw [a1, a2]
theorem DrM_s (h : DrM told D Y) (hf : FrI 56 0 4 (u2 Y 50 32 1) Y') (hV : ∀ k, k < 4 → Y' 56 (0 + k) = nI (V k)) : DrM true (upI D 1 0 4 V) Y' := by
  obtain ⟨h1, h2, h0, h3, h4, h5⟩ := h
  rw [DrM, upI_o (by omega), upI_o (by omega)]
  refine ⟨by rw [hf 50 29 (by omega), u2n _ _ _ _ _ (by omega)]; exact h1, by rw [hf 50 30 (by omega), u2n _ _ _ _ _ (by omega)]; exact h2, by rw [hf 50 32 (by omega), u2e, if_pos rfl], fun k hk => ?_, fun k hk => ?_, fun k hk => ?_⟩
  · have := hV k hk
    have e := upI_i (D := D) (a := 1) (off := 0) (V := V) hk
    rw [Nat.zero_add] at this e
    rw [e]
    exact this
  · rw [hf 58 k (by omega), u2r _ _ _ _ _ (by omega), upI_o (by omega)]; exact h4 k hk
  · rw [hf 60 k (by omega), u2r _ _ _ _ _ (by omega), upI_o (by omega)]; exact h5 k hk
theorem DrM_p (h : DrM told D Y) (hf : FrI 58 (6 * D 0 3) 6 (u2 Y 50 29 (nI (D 0 3 + 1))) Y') (hV : ∀ k, k < 6 → Y' 58 (6 * D 0 3 + k) = nI (V k)) : DrM told (upI (upN D 3) 2 (6 * D 0 3) 6 V) Y' := by
  obtain ⟨h1, h2, h0, h3, h4, h5⟩ := h
  have e3 : upI (upN D 3) 2 (6 * D 0 3) 6 V 0 3 = D 0 3 + 1 := by rw [upI_o (by omega), upN_e]
  have e4 : upI (upN D 3) 2 (6 * D 0 3) 6 V 0 4 = D 0 4 := by rw [upI_o (by omega), upN_o (by omega)]
  rw [DrM, e3, e4]
  refine ⟨by rw [hf 50 29 (by omega), u2e], by rw [hf 50 30 (by omega), u2n _ _ _ _ _ (by omega)]; exact h2, by rw [hf 50 32 (by omega), u2n _ _ _ _ _ (by omega)]; exact h0, fun k hk => ?_, fun k hk => ?_, fun k hk => ?_⟩
  · rw [hf 56 k (by omega), u2r _ _ _ _ _ (by omega), upI_o (by omega), upN_o (by omega)]; exact h3 k hk
  · by_cases e : k < 6 * D 0 3
    · rw [hf 58 k (by omega), u2r _ _ _ _ _ (by omega), upI_o (by omega), upN_o (by omega)]; exact h4 k e
    · have a1 := hV (k - 6 * D 0 3) (by omega)
      have a2 := upI_i (D := upN D 3) (a := 2) (off := 6 * D 0 3) (V := V) (show k - 6 * D 0 3 < 6 by omega)
      rw [show 6 * D 0 3 + (k - 6 * D 0 3) = k by omega] at a1 a2
      rw [a1, a2]
  · rw [hf 60 k (by omega), u2r _ _ _ _ _ (by omega), upI_o (by omega), upN_o (by omega)]; exact h5 k hk
theorem DrM_o (h : DrM told D Y) (hf : FrI 60 (4 * D 0 4) 4 (u2 Y 50 30 (nI (D 0 4 + 1))) Y') (hV : ∀ k, k < 4 → Y' 60 (4 * D 0 4 + k) = nI (V k)) : DrM told (upI (upN D 4) 3 (4 * D 0 4) 4 V) Y' := by
  obtain ⟨h1, h2, h0, h3, h4, h5⟩ := h
  have e3 : upI (upN D 4) 3 (4 * D 0 4) 4 V 0 3 = D 0 3 := by rw [upI_o (by omega), upN_o (by omega)]
  have e4 : upI (upN D 4) 3 (4 * D 0 4) 4 V 0 4 = D 0 4 + 1 := by rw [upI_o (by omega), upN_e]
  rw [DrM, e3, e4]
  refine ⟨by rw [hf 50 29 (by omega), u2n _ _ _ _ _ (by omega)]; exact h1, by rw [hf 50 30 (by omega), u2e], by rw [hf 50 32 (by omega), u2n _ _ _ _ _ (by omega)]; exact h0, fun k hk => ?_, fun k hk => ?_, fun k hk => ?_⟩
  · rw [hf 56 k (by omega), u2r _ _ _ _ _ (by omega), upI_o (by omega), upN_o (by omega)]; exact h3 k hk
  · rw [hf 58 k (by omega), u2r _ _ _ _ _ (by omega), upI_o (by omega), upN_o (by omega)]; exact h4 k hk
  · by_cases e : k < 4 * D 0 4
    · rw [hf 60 k (by omega), u2r _ _ _ _ _ (by omega), upI_o (by omega), upN_o (by omega)]; exact h5 k e
    · have a1 := hV (k - 4 * D 0 4) (by omega)
      have a2 := upI_i (D := upN D 4) (a := 3) (off := 4 * D 0 4) (V := V) (show k - 4 * D 0 4 < 4 by omega)
      rw [show 4 * D 0 4 + (k - 4 * D 0 4) = k by omega] at a1 a2
      rw [a1, a2]
theorem FrD_i (hw : w = 12 ∨ w = 13 ∨ w = 14) (h : FrI w fr mn X X') : Fr [11, 12, 13, 14] X X' := fun q hq => by
  funext k
  exact h q k (by simp at hq; omega)
/-- the class reads a clause -/
theorem c_cc1 (hT : OkT T L) (hX : TaC T L X) (hD : DrC D X) (hO : OkD D) (hq : q ≤ L) :
    (∀ r D', cc1 T L told D q = (r, some D') → ∃ X', fX1_readClause 11 (ch T L q) (if told = true then 1 else 0) (pP X q) = some (1, pP X' r) ∧ DrC D' X' ∧ OkD D' ∧ Fr [11, 12, 13, 14] X X' ∧ q < r ∧ r ≤ L) ∧ (∀ r, cc1 T L told D q = (r, none) → ∃ X', fX1_readClause 11 (ch T L q) (if told = true then 1 else 0) (pP X q) = some (0, pP X' r) ∧ Fr [11, 12, 13, 14] X X' ∧ r ≤ L) := by
  have hL := hT.1
  have n0 : narrow .boolean (.int 0) = .int 0 := by decide +kernel
  have n1 : narrow .boolean (.int 1) = .int 1 := by decide +kernel
  obtain ⟨o1', o2', _, _, _⟩ := id hO
  have et : ((if told = true then (1 : Int32) else 0) = 0) = (told = false) := by cases told <;> decide
  unfold fX1_readClause fX1_readClause_26 fX1_readClause_76
  rw [pP_r (by omega), hD.1, hD.2.1]
  by_cases h0 : ch T L q = 115 ∧ told = false
  · have hlt := ch_lt (c := 115) (by omega) h0.1
    have k := C_items (w := 12) (n1 := 4) (fr := 0) (fi := 0) (mn := 4) hT (by omega) (by omega) (by omega) (by omega) (by omega) (show q + 1 ≤ L by omega) hX
    rw [if_pos h0.1, if_pos (et.mpr h0.2), c_pass hL hX hlt, mz_b1]
    rcases hr : itS T L 0 4 20 0 (fun k => woA (0 + k)) (q + 1) with ⟨r0, _ | V⟩
    · obtain ⟨X', g1, g2, g3⟩ := k.2 _ hr
      have g1' : fX1_readItems (11 + 1) 4 0 0 4 (pP X (q + 1)) = some (0, pP X' r0) := g1
      rw [(cc1_s h0).1 _ hr, g1', mz_b2, if_pos n0]
      refine ⟨fun r D' e => by have := (Prod.mk.inj e).2; simp at this, fun r e => ?_⟩
      rw [← (Prod.mk.inj e).1]
      exact ⟨X', rfl, FrD_i (by omega) g2, g3⟩
    · obtain ⟨X', g1, g2, g3, g4, g5⟩ := k.1 _ _ hr
      have hb := itS_b (T := T) (L := L) (by omega) 20 0 (fun k => woA (0 + k)) (q + 1) r0 V (fun k hk => wo_hi (0 + k) (by omega)) hr
      have g1' : fX1_readItems (11 + 1) 4 0 0 4 (pP X (q + 1)) = some (1, pP X' r0) := g1
      rw [(cc1_s h0).2 _ _ hr, g1', mz_b2, if_pos n1]
      refine ⟨fun r D' e => ?_, fun r e => by have := (Prod.mk.inj e).2; simp at this⟩
      rw [← (Prod.mk.inj e).1, ← Option.some.inj (Prod.mk.inj e).2]
      exact ⟨X', rfl, DrC_s hD g3 g2, OkD_s hO hb, FrD_i (by omega) g3, by omega, g5⟩
  · have red0 : ∀ (A C : Option (Int32 × Tb)), (if ch T L q = 115 then (if (if told = true then (1 : Int32) else 0) = 0 then A else C) else C) = C := by
      intro A C
      by_cases e : ch T L q = 115
      · rw [if_pos e, if_neg (fun e2 => h0 ⟨e, et.mp e2⟩)]
      · rw [if_neg e]
    rw [red0]
    have e9 : ((9 : Int32) ≤ nI (D 0 3)) = (9 ≤ D 0 3) := by rw [q9, mz_le (by omega) (by omega)]
    have e4 : ((4 : Int32) ≤ nI (D 0 4)) = (4 ≤ D 0 4) := by rw [q4, mz_le (by omega) (by omega)]
    by_cases h1 : ch T L q = 112 ∧ D 0 3 < 9
    · have hlt := ch_lt (c := 112) (by omega) h1.1
      have hX1 : TaC T L (u2 X 11 3 (nI (D 0 3 + 1))) := TaC_u hX (by omega)
      have k := C_items (w := 13) (n1 := 54) (fr := 6 * D 0 3) (fi := 4) (mn := 6) hT (by omega) (by omega) (by omega) (by omega) (by omega) (show q + 1 ≤ L by omega) hX1
      have efr : (nI (D 0 3 + 1) - 1) * 6 = nI (6 * D 0 3) := by
        rw [q1, mz_sub (by omega), q6, mz_mul]
        congr 1
        omega
      have fr0 : Fr [11, 12, 13, 14] X (u2 X 11 3 (nI (D 0 3 + 1))) := Fr_w (by decide) Fr_u
      rw [if_pos h1.1, if_neg (fun e => by have := e9.mp e; omega), c_pass hL hX hlt, mz_b1, mz_lt, pP_r (by omega), hD.1, q1, nI_add, pP_c (by omega), pP_r (by omega), u2e, q1.symm, efr]
      rcases hr : itS T L 4 6 20 0 (fun k => woA (4 + k)) (q + 1) with ⟨r0, _ | V⟩
      · obtain ⟨X', g1, g2, g3⟩ := k.2 _ hr
        have g1' : fX1_readItems (11 + 2) 54 (nI (6 * D 0 3)) 4 6 (pP (u2 X 11 3 (nI (D 0 3 + 1))) (q + 1)) = some (0, pP X' r0) := g1
        rw [(cc1_p h0 h1).1 _ hr, g1', mz_b2, if_pos n0]
        refine ⟨fun r D' e => by have := (Prod.mk.inj e).2; simp at this, fun r e => ?_⟩
        rw [← (Prod.mk.inj e).1]
        exact ⟨X', rfl, Fr_t fr0 (FrD_i (by omega) g2), g3⟩
      · obtain ⟨X', g1, g2, g3, g4, g5⟩ := k.1 _ _ hr
        have hb := itS_b (T := T) (L := L) (by omega) 20 0 (fun k => woA (4 + k)) (q + 1) r0 V (fun k hk => wo_hi (4 + k) (by omega)) hr
        have g1' : fX1_readItems (11 + 2) 54 (nI (6 * D 0 3)) 4 6 (pP (u2 X 11 3 (nI (D 0 3 + 1))) (q + 1)) = some (1, pP X' r0) := g1
        rw [(cc1_p h0 h1).2 _ _ hr, g1', mz_b2, if_pos n1]
        refine ⟨fun r D' e => ?_, fun r e => by have := (Prod.mk.inj e).2; simp at this⟩
        rw [← (Prod.mk.inj e).1, ← Option.some.inj (Prod.mk.inj e).2]
        exact ⟨X', rfl, DrC_p hD g3 g2, OkD_p hO h1.2 hb, Fr_t fr0 (FrD_i (by omega) g3), by omega, g5⟩
    · have red1 : ∀ (A C : Option (Int32 × Tb)), (if ch T L q = 112 then (if (9 : Int32) ≤ nI (D 0 3) then C else A) else C) = C := by
        intro A C
        by_cases e : ch T L q = 112
        · rw [if_pos e, if_pos (e9.mpr (by
            rcases Nat.lt_or_ge (D 0 3) 9 with e2 | e2
            · exact absurd ⟨e, e2⟩ h1
            · exact e2))]
        · rw [if_neg e]
      rw [red1]
      by_cases h2 : ch T L q = 111 ∧ D 0 4 < 4
      · have hlt := ch_lt (c := 111) (by omega) h2.1
        have hX1 : TaC T L (u2 X 11 4 (nI (D 0 4 + 1))) := TaC_u hX (by omega)
        have k := C_items (w := 14) (n1 := 16) (fr := 4 * D 0 4) (fi := 10) (mn := 4) hT (by omega) (by omega) (by omega) (by omega) (by omega) (show q + 1 ≤ L by omega) hX1
        have efr : (nI (D 0 4 + 1) - 1) * 4 = nI (4 * D 0 4) := by
          rw [q1, mz_sub (by omega), q4, mz_mul]
          congr 1
          omega
        have fr0 : Fr [11, 12, 13, 14] X (u2 X 11 4 (nI (D 0 4 + 1))) := Fr_w (by decide) Fr_u
        rw [if_pos h2.1, if_neg (fun e => by have := e4.mp e; omega), c_pass hL hX hlt, mz_b1, mz_lt, pP_r (by omega), hD.2.1, q1, nI_add, pP_c (by omega), pP_r (by omega), u2e, q1.symm, efr]
        rcases hr : itS T L 10 4 20 0 (fun k => woA (10 + k)) (q + 1) with ⟨r0, _ | V⟩
        · obtain ⟨X', g1, g2, g3⟩ := k.2 _ hr
          have g1' : fX1_readItems (11 + 3) 16 (nI (4 * D 0 4)) 10 4 (pP (u2 X 11 4 (nI (D 0 4 + 1))) (q + 1)) = some (0, pP X' r0) := g1
          rw [(cc1_o h0 h1 h2).1 _ hr, g1', mz_b2, if_pos n0]
          refine ⟨fun r D' e => by have := (Prod.mk.inj e).2; simp at this, fun r e => ?_⟩
          rw [← (Prod.mk.inj e).1]
          exact ⟨X', rfl, Fr_t fr0 (FrD_i (by omega) g2), g3⟩
        · obtain ⟨X', g1, g2, g3, g4, g5⟩ := k.1 _ _ hr
          have hb := itS_b (T := T) (L := L) (by omega) 20 0 (fun k => woA (10 + k)) (q + 1) r0 V (fun k hk => wo_hi (10 + k) (by omega)) hr
          have g1' : fX1_readItems (11 + 3) 16 (nI (4 * D 0 4)) 10 4 (pP (u2 X 11 4 (nI (D 0 4 + 1))) (q + 1)) = some (1, pP X' r0) := g1
          rw [(cc1_o h0 h1 h2).2 _ _ hr, g1', mz_b2, if_pos n1]
          refine ⟨fun r D' e => ?_, fun r e => by have := (Prod.mk.inj e).2; simp at this⟩
          rw [← (Prod.mk.inj e).1, ← Option.some.inj (Prod.mk.inj e).2]
          exact ⟨X', rfl, DrC_o hD g3 g2, OkD_o hO h2.2 hb, Fr_t fr0 (FrD_i (by omega) g3), by omega, g5⟩
      · have red2 : ∀ (A C : Option (Int32 × Tb)), (if ch T L q = 111 then (if (4 : Int32) ≤ nI (D 0 4) then C else A) else C) = C := by
          intro A C
          by_cases e : ch T L q = 111
          · rw [if_pos e, if_pos (e4.mpr (by
              rcases Nat.lt_or_ge (D 0 4) 4 with e2 | e2
              · exact absurd ⟨e, e2⟩ h2
              · exact e2))]
          · rw [if_neg e]
        rw [red2, cc1_n h0 h1 h2]
        refine ⟨fun r D' e => by have := (Prod.mk.inj e).2; simp at this, fun r e => ?_⟩
        rw [← (Prod.mk.inj e).1]
        exact ⟨X, rfl, Fr_r _ _, hq⟩
end CC
