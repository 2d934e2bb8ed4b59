/-! laws: what codes are worth to the class -/
def lwV (l : Nat → Int) : List CL → Int
  | [] => 0
  | (none, x) :: _ => x.2 l
  | (some y, x) :: cs => if y.2 l = 0 then lwV l cs else x.2 l
def atk (s : List Int) (k : Nat) : Int := s.getD (s.length - 1 - k) 0
def SkC (a : Nat) (i0 i : Tb) (s : List Int) : Prop := (∀ q k, q ≠ a + 2 → ¬ (q = a ∧ k = 3) → i q k = i0 q k) ∧ i a 3 = nI s.length ∧ ∀ k, k < s.length → i (a + 2) k = zI (atk s k)
def ClE (c : CL) : Prop := match c with
  | (none, x) => EvO 16 x
  | (some y, x) => EvO 16 x ∧ EvO 19 y ∧ BoO y
section WV
variable {i i' i0 : Tb} {T : Nat → Nat} {L a p q r n d e m k c z t : Nat} {x y : VL} {cs : List Int} {s s' : List Int} {v : Int} {l : Nat → Int} {cl : CL} {cls : List CL}
theorem atk_t : atk (v :: s) s.length = v := by
  unfold atk
  rw [List.length_cons, show s.length + 1 - 1 - s.length = 0 by omega]
  rfl
theorem atk_o (h : k < s.length) : atk (v :: s) k = atk s k := by
  unfold atk
  rw [List.length_cons, show s.length + 1 - 1 - k = (s.length - 1 - k) + 1 by omega]
  rfl
theorem k_push (h : SkC a i0 i s) (hs : s.length < 32) : ∃ i', fX4_push a (zI v) i = some i' ∧ SkC a i0 i' (v :: s) := by
  obtain ⟨h1, h2, h3⟩ := h
  unfold fX4_push
  rw [h2, if_neg (nI_ge hs (by omega)), if_pos (mz_in hs (by omega)), mz_lt, mz_lt, nI_clamp (by omega), u2r _ _ _ _ _ (show a ≠ a + 2 by omega), h2, q1, nI_add]
  refine ⟨_, rfl, fun q k hq hk => ?_, by rw [u2e]; rfl, fun k hk => ?_⟩
  · rw [u2o _ _ (by omega), u2o _ _ (by omega)]
    exact h1 q k hq hk
  · rw [List.length_cons] at hk
    rw [u2r _ _ _ _ _ (show a + 2 ≠ a by omega)]
    by_cases e : k = s.length
    · rw [e, u2e, atk_t]
    · rw [u2n _ _ _ _ _ e, h3 k (by omega), atk_o (by omega)]
theorem k_pop (h : SkC a i0 i (v :: s)) (hs : s.length < 32) : ∃ i', fX4_pop a i = some (zI v, i') ∧ SkC a i0 i' s := by
  obtain ⟨h1, h2, h3⟩ := h
  rw [List.length_cons] at h2
  unfold fX4_pop
  rw [h2, if_neg (show ¬ nI (s.length + 1) = 0 by rw [q0, nI_eq (by omega) (by omega)]; omega), mz_lt, u2e, q1, mz_sub (by omega), show s.length + 1 - 1 = s.length by omega, if_pos (mz_in hs (by omega)), nI_clamp (by omega), u2r _ _ _ _ _ (show a + 2 ≠ a by omega), h3 s.length (by rw [List.length_cons]; omega), atk_t]
  refine ⟨_, rfl, fun q k hq hk => ?_, u2e _ _ _ _, fun k hk => ?_⟩
  · rw [u2o _ _ (by omega)]
    exact h1 q k hq hk
  · rw [u2r _ _ _ _ _ (show a + 2 ≠ a by omega), h3 k (by rw [List.length_cons]; omega), atk_o hk]
theorem lg_z {v : Int} (h1 : -2147483648 ≤ v) (h2 : v < 2147483648) : (zI v).toInt64.toInt = v := by rw [Int32.toInt_toInt64, zI_toInt h1 h2]
theorem lg_wi {X : Int64} (h : X.toInt = v) : ((if (if X < (1000000 : Int64) then X else (1000000 : Int64)) < ((-1000000) : Int64) then ((-1000000) : Int64) else (if X < (1000000 : Int64) then X else (1000000 : Int64)))).toInt32 = zI (wi v) := by
  have e1 : (1000000 : Int64).toInt = 1000000 := by decide +kernel
  have e2 : (-1000000 : Int64).toInt = -1000000 := by decide +kernel
  have f : ∀ Y : Int64, Y.toInt32 = zI Y.toInt := fun Y => (Int32.ofInt_int64ToInt Y).symm
  unfold wi
  by_cases h1 : X < (1000000 : Int64)
  · have h1' := Int64.lt_iff_toInt_lt.mp h1
    rw [e1, h] at h1'
    rw [if_pos h1]
    by_cases h2 : X < (-1000000 : Int64)
    · have h2' := Int64.lt_iff_toInt_lt.mp h2
      rw [e2, h] at h2'
      rw [if_pos h2, f, e2]
      congr 1
      omega
    · have h2' : ¬ X.toInt < (-1000000 : Int64).toInt := fun e => h2 (Int64.lt_iff_toInt_lt.mpr e)
      rw [e2, h] at h2'
      rw [if_neg h2, f, h]
      congr 1
      omega
  · have h1' : ¬ X.toInt < (1000000 : Int64).toInt := fun e => h1 (Int64.lt_iff_toInt_lt.mpr e)
    rw [e1, h] at h1'
    rw [if_neg h1, if_neg (by decide +kernel), f, e1]
    congr 1
    omega
theorem lg_mul {A B : Int} (hA : -2147483648 ≤ A ∧ A < 2147483648) (hB : -2147483648 ≤ B ∧ B < 2147483648) : ((zI A).toInt64 * (zI B).toInt64).toInt = A * B := by
  rw [Int64.toInt_mul, lg_z hA.1 hA.2, lg_z hB.1 hB.2]
  have h1 : A.natAbs ≤ 2147483648 := by omega
  have h2 : B.natAbs ≤ 2147483648 := by omega
  have h3 : A.natAbs * B.natAbs ≤ 2147483648 * 2147483648 := Nat.mul_le_mul h1 h2
  have h4 : (A * B).natAbs ≤ 2147483648 * 2147483648 := by rw [Int.natAbs_mul]; exact h3
  apply Int.bmod_eq_of_le <;> omega
theorem lg_add {A B : Int} (hA : -2147483648 ≤ A ∧ A < 2147483648) (hB : -2147483648 ≤ B ∧ B < 2147483648) : ((zI A).toInt64 + (zI B).toInt64).toInt = A + B := by
  rw [Int64.toInt_add, lg_z hA.1 hA.2, lg_z hB.1 hB.2]
  apply Int.bmod_eq_of_le <;> omega
theorem lg_sub {A B : Int} (hA : -2147483648 ≤ A ∧ A < 2147483648) (hB : -2147483648 ≤ B ∧ B < 2147483648) : ((zI A).toInt64 - (zI B).toInt64).toInt = A - B := by
  rw [Int64.toInt_sub, lg_z hA.1 hA.2, lg_z hB.1 hB.2]
  apply Int.bmod_eq_of_le <;> omega
theorem tdiv_ab (A B : Int) : (Int.tdiv A B).natAbs ≤ A.natAbs := by
  rw [Int.natAbs_tdiv]
  exact Nat.div_le_self _ _
theorem lg_div {A B : Int} (hA : -2147483648 ≤ A ∧ A < 2147483648) (hB : -2147483648 ≤ B ∧ B < 2147483648) : ((zI A).toInt64 / (zI B).toInt64).toInt = Int.tdiv A B := by
  rw [Int64.toInt_div, lg_z hA.1 hA.2, lg_z hB.1 hB.2]
  have := tdiv_ab A B
  apply Int.bmod_eq_of_le <;> omega
theorem z_div {A B : Int} (hA : -1000000 ≤ A ∧ A ≤ 1000000) (hB : -1000000 ≤ B ∧ B ≤ 1000000) : zI A / zI B = zI (Int.tdiv A B) := by
  apply Int32.toInt_inj.mp
  have := tdiv_ab A B
  rw [Int32.toInt_div, zI_toInt (by omega) (by omega), zI_toInt (by omega) (by omega), zI_toInt (by omega) (by omega)]
  apply Int.bmod_eq_of_le <;> omega
theorem z_clamp {A : Int} (hA : -2147483648 ≤ A ∧ A < 2147483648) : (if (-1000000 : Int32) < (if zI A < (1000000 : Int32) then zI A else (1000000 : Int32)) then (if zI A < (1000000 : Int32) then zI A else (1000000 : Int32)) else (-1000000 : Int32)) = zI (wi A) := by
  have e1 : (1000000 : Int32) = zI 1000000 := by decide +kernel
  have e2 : (-1000000 : Int32) = zI (-1000000) := by decide +kernel
  unfold wi
  rw [e2, e1]
  by_cases h1 : A < 1000000
  · rw [if_pos ((zI_lt (by omega) (by omega) (by omega) (by omega)).mpr h1)]
    by_cases h2 : -1000000 < A
    · rw [if_pos ((zI_lt (by omega) (by omega) (by omega) (by omega)).mpr h2)]
      congr 1
      omega
    · rw [if_neg (fun e => h2 ((zI_lt (by omega) (by omega) (by omega) (by omega)).mp e))]
      congr 1
      omega
  · rw [if_neg (fun e => h1 ((zI_lt (by omega) (by omega) (by omega) (by omega)).mp e)), if_pos (by decide +kernel)]
    congr 1
    omega
theorem k_join {A B : Int} (hk : oks k) (hA : -1000000 ≤ A ∧ A ≤ 1000000) (hB : -1000000 ≤ B ∧ B ≤ 1000000) (hb : (k = 38 ∨ k = 124) → (A = 0 ∨ A = 1) ∧ (B = 0 ∨ B = 1)) : fX4_joined (nI k) (zI A) (zI B) = some (zI (jn k A B)) := by
  have e0 : (0 : Int32) = zI 0 := by decide +kernel
  have e1 : (1 : Int32) = zI 1 := by decide +kernel
  have hle : ∀ C D : Int, (-1000000 ≤ C ∧ C ≤ 1000000) → (-1000000 ≤ D ∧ D ≤ 1000000) → (zI C ≤ zI D) = (C ≤ D) := fun C D h1 h2 => zI_le (by omega) (by omega) (by omega) (by omega)
  have heq : ∀ C D : Int, (-1000000 ≤ C ∧ C ≤ 1000000) → (-1000000 ≤ D ∧ D ≤ 1000000) → (zI C = zI D) = (C = D) := fun C D h1 h2 => zI_eq (by omega) (by omega) (by omega) (by omega)
  unfold fX4_joined fX4_joined_159
  unfold oks at hk
  rcases hk with rfl | rfl | rfl | rfl | rfl | rfl | rfl | rfl | rfl
  · rw [if_pos (show nI 38 = 38 from rfl), show jn 38 A B = (if A = 0 then 0 else if B = 0 then 0 else 1) from rfl]
    obtain ⟨h1, h2⟩ := hb (Or.inl rfl)
    rcases h1 with rfl | rfl <;> rcases h2 with rfl | rfl <;> decide +kernel
  · rw [if_neg (show ¬ nI 42 = 38 by decide), if_pos (show nI 42 = 42 from rfl), show jn 42 A B = wi (A * B) from rfl, lg_wi (lg_mul (A := A) (B := B) (by omega) (by omega))]
  · rw [if_neg (show ¬ nI 47 = 38 by decide), if_neg (show ¬ nI 47 = 42 by decide), if_pos (show nI 47 = 47 from rfl), show jn 47 A B = wi (if B = 0 then 0 else Int.tdiv A B) from rfl]
    by_cases h0 : B = 0
    · rw [if_pos (show zI B = 0 by rw [h0]; decide +kernel), if_pos h0]
      decide +kernel
    · have hz : ¬ zI B = 0 := by rw [e0, heq _ _ hB (by omega)]; exact h0
      have := tdiv_ab A B
      rw [if_neg hz, if_neg hz, if_neg h0, z_div hA hB]
      congr 2
      unfold wi
      omega
  · rw [if_neg (show ¬ nI 60 = 38 by decide), if_neg (show ¬ nI 60 = 42 by decide), if_neg (show ¬ nI 60 = 47 by decide), if_pos (show nI 60 = 60 from rfl), show jn 60 A B = (if A < B then 1 else 0) from rfl]
    by_cases h0 : B ≤ A
    · rw [if_pos ((hle _ _ hB hA).mpr h0), if_neg (show ¬ A < B by omega), e0]
    · rw [if_neg (fun e => h0 ((hle _ _ hB hA).mp e)), if_pos (show A < B by omega), e1]
  · rw [if_neg (show ¬ nI 61 = 38 by decide), if_neg (show ¬ nI 61 = 42 by decide), if_neg (show ¬ nI 61 = 47 by decide), if_neg (show ¬ nI 61 = 60 by decide), if_pos (show nI 61 = 61 from rfl), show jn 61 A B = (if A = B then 1 else 0) from rfl]
    by_cases h0 : A = B
    · rw [if_pos ((heq _ _ hA hB).mpr h0), if_pos h0, e1]
    · rw [if_neg (fun e => h0 ((heq _ _ hA hB).mp e)), if_neg h0, e0]
  · rw [if_neg (show ¬ nI 62 = 38 by decide), if_neg (show ¬ nI 62 = 42 by decide), if_neg (show ¬ nI 62 = 47 by decide), if_neg (show ¬ nI 62 = 60 by decide), if_neg (show ¬ nI 62 = 61 by decide), if_pos (show nI 62 = 62 from rfl), show jn 62 A B = (if B < A then 1 else 0) from rfl]
    by_cases h0 : A ≤ B
    · rw [if_pos ((hle _ _ hA hB).mpr h0), if_neg (show ¬ B < A by omega), e0]
    · rw [if_neg (fun e => h0 ((hle _ _ hA hB).mp e)), if_pos (show B < A by omega), e1]
  · rw [if_neg (show ¬ nI 124 = 38 by decide), if_neg (show ¬ nI 124 = 42 by decide), if_neg (show ¬ nI 124 = 47 by decide), if_neg (show ¬ nI 124 = 60 by decide), if_neg (show ¬ nI 124 = 61 by decide), if_neg (show ¬ nI 124 = 62 by decide), if_pos (show nI 124 = 124 from rfl), show jn 124 A B = (if A = 0 then (if B = 0 then 0 else 1) else 1) from rfl]
    obtain ⟨h1, h2⟩ := hb (Or.inr rfl)
    rcases h1 with rfl | rfl <;> rcases h2 with rfl | rfl <;> decide +kernel
  · rw [if_neg (show ¬ nI 43 = 38 by decide), if_neg (show ¬ nI 43 = 42 by decide), if_neg (show ¬ nI 43 = 47 by decide), if_neg (show ¬ nI 43 = 60 by decide), if_neg (show ¬ nI 43 = 61 by decide), if_neg (show ¬ nI 43 = 62 by decide), if_neg (show ¬ nI 43 = 124 by decide), if_pos (show nI 43 = 43 from rfl), show jn 43 A B = wi (A + B) from rfl, zI_add, z_clamp (by omega)]
  · rw [if_neg (show ¬ nI 45 = 38 by decide), if_neg (show ¬ nI 45 = 42 by decide), if_neg (show ¬ nI 45 = 47 by decide), if_neg (show ¬ nI 45 = 60 by decide), if_neg (show ¬ nI 45 = 61 by decide), if_neg (show ¬ nI 45 = 62 by decide), if_neg (show ¬ nI 45 = 124 by decide), if_neg (show ¬ nI 45 = 43 by decide), show jn 45 A B = wi (A - B) from rfl, zI_sub, z_clamp (by omega)]
/-- one code -/
theorem k_step {c : Int} (hl : mil l) (h24 : ∀ z, z < 6 → i0 24 z = zI (l z)) (ha : a = 6 ∨ 74 ≤ a) (h : SkC a i0 i s) (hs : s.length < 32) (hst : st1 l c s s') (hsz : i0 a 2 = nI n) (hn : n ≤ 240) (hp : p < n) (ht : t ≤ p) (hc : i0 (a + 1) p = zI c) : ∃ i', fX4_worth_9 a 24 6 (m + 1) (nI p) (nI t) i = fX4_worth_9 a 24 6 m (nI (p + 1)) (nI (t + 1)) i' ∧ SkC a i0 i' s' := by
  have e2 : i a 2 = nI n := by rw [h.1 a 2 (by omega) (by omega)]; exact hsz
  have ec : i (a + 1) p = zI c := by rw [h.1 (a + 1) p (by omega) (by omega)]; exact hc
  have e24 : ∀ z, z < 6 → i 24 z = zI (l z) := fun z hz => by rw [h.1 24 z (by omega) (by omega)]; exact h24 z hz
  have e0 : (0 : Int32) = zI 0 := by decide +kernel
  have em6 : (-6 : Int32) = zI (-6) := by decide +kernel
  have em7 : (-7 : Int32) = zI (-7) := by decide +kernel
  have em33 : (-33 : Int32) = zI (-33) := by decide +kernel
  have emM : (-1000 : Int32) = zI (-1000) := by decide +kernel
  rw [fX4_worth_9, e2, if_neg (nI_ge (by omega) (by omega)), if_neg (nI_ge (by omega) (by omega)), if_pos (mz_in (by omega) (by omega)), nI_clamp (by omega), ec, mz_lt]
  unfold fX4_worth_153
  rw [nI_1, nI_1]
  rcases hst with ⟨c1, c2, rfl⟩ | ⟨z, c1, rfl, rfl⟩ | ⟨rfl, A, t', rfl, c2, rfl⟩ | ⟨k, A, B, t', c1, rfl, rfl, c3, c4, c5, rfl⟩
  · obtain ⟨i', p1, p2⟩ := k_push (v := c) h hs
    rw [if_neg (show ¬ zI c < 0 by rw [e0, zI_lt (by omega) (by omega) (by omega) (by omega)]; omega), p1, mz_b1]
    exact ⟨i', rfl, p2⟩
  · obtain ⟨i', p1, p2⟩ := k_push (v := l z) h hs
    have ez : (-1 : Int32) - zI (-1 - (z : Int)) = nI z := by
      rw [show (-1 : Int32) = zI (-1) from by decide +kernel, zI_sub, zI_n]
      congr 1
      omega
    rw [if_pos (show zI (-1 - (z : Int)) < 0 by rw [e0, zI_lt (by omega) (by omega) (by omega) (by omega)]; omega), if_neg (show ¬ zI (-1 - (z : Int)) < -6 by rw [em6, zI_lt (by omega) (by omega) (by omega) (by omega)]; omega), ez, if_pos (mz_in c1 (by omega)), nI_clamp (by omega), e24 z c1, p1, mz_b1]
    exact ⟨i', rfl, p2⟩
  · rw [List.length_cons] at hs
    obtain ⟨i1, p1, p2⟩ := k_pop h (by omega)
    obtain ⟨i2, p3, p4⟩ := k_push (v := 1 - A) p2 (by omega)
    rw [if_pos (show zI (-33) < 0 by decide +kernel), if_pos (show zI (-33) < -6 by decide +kernel), if_neg (show ¬ zI (-33) = -7 by decide +kernel), if_pos (show (-1000 : Int32) < zI (-33) by decide +kernel), if_pos (show zI (-33) = -33 by decide +kernel), p1, mz_b2, show (1 : Int32) = zI 1 from by decide +kernel, zI_sub, p3, mz_b1]
    exact ⟨i2, rfl, p4⟩
  · rw [List.length_cons, List.length_cons] at hs
    obtain ⟨i1, p1, p2⟩ := k_pop h (by rw [List.length_cons]; omega)
    obtain ⟨i2, p3, p4⟩ := k_pop p2 (by omega)
    obtain ⟨i3, p5, p6⟩ := k_push (v := jn k A B) p4 (by omega)
    have hk : 38 ≤ k ∧ k ≤ 124 := by omega
    have eneg : -zI (-(k : Int)) = nI k := by
      rw [zI_neg, zI_n]
      congr 1
      omega
    rw [if_pos (show zI (-(k : Int)) < 0 by rw [e0, zI_lt (by omega) (by omega) (by omega) (by omega)]; omega), if_pos (show zI (-(k : Int)) < -6 by rw [em6, zI_lt (by omega) (by omega) (by omega) (by omega)]; omega), if_neg (show ¬ zI (-(k : Int)) = -7 by rw [em7, zI_eq (by omega) (by omega) (by omega) (by omega)]; omega), if_pos (show (-1000 : Int32) < zI (-(k : Int)) by rw [emM, zI_lt (by omega) (by omega) (by omega) (by omega)]; omega), if_neg (show ¬ zI (-(k : Int)) = -33 by rw [em33, zI_eq (by omega) (by omega) (by omega) (by omega)]; omega), p1, mz_b2, p3, mz_b2, eneg, k_join c1 c3 c4 c5, mz_b1, p5, mz_b1]
    exact ⟨i3, rfl, p6⟩
/-- codes in a row -/
theorem k_run (hl : mil l) (h24 : ∀ z, z < 6 → i0 24 z = zI (l z)) (ha : a = 6 ∨ 74 ≤ a) (hsz : i0 a 2 = nI n) (hn : n ≤ 240) : ∀ cs i s p t m, SkC a i0 i s → Rn l cs s s' → p + cs.length ≤ n → t ≤ p → (∀ k, k < cs.length → i0 (a + 1) (p + k) = zI (cs.getD k 0)) → ∃ i' t', t' ≤ p + cs.length ∧ fX4_worth_9 a 24 6 (m + cs.length) (nI p) (nI t) i = fX4_worth_9 a 24 6 m (nI (p + cs.length)) (nI t') i' ∧ SkC a i0 i' s' := by
  intro cs
  induction cs with
  | nil =>
    intro i s p t m h hr h1 ht h2
    have e : s' = s := hr
    rw [e]
    exact ⟨i, t, ht, rfl, h⟩
  | cons c cs ih =>
    intro i s p t m h hr h1 ht h2
    obtain ⟨r1, s1, r2, r3⟩ := hr
    rw [List.length_cons] at h1 h2 ⊢
    obtain ⟨i1, e1, e2⟩ := k_step (m := m + cs.length) (p := p) (t := t) hl h24 ha h r1 r2 hsz hn (by omega) ht (h2 0 (by omega))
    obtain ⟨i2, t', e3, e4, e5⟩ := ih i1 s1 (p + 1) (t + 1) m e2 r3 (by omega) (by omega) (fun k hk => by
      have := h2 (k + 1) (by omega)
      rw [show p + 1 + k = p + (k + 1) by omega]
      exact this)
    refine ⟨i2, t', by omega, ?_, e5⟩
    rw [show m + (cs.length + 1) = m + cs.length + 1 by omega, e1, e4, show p + 1 + cs.length = p + (cs.length + 1) by omega]
theorem k_done (hsz : i0 a 2 = nI n) (hn : n ≤ 240) (h : SkC a i0 i (v :: s)) (hs : s.length < 32) (hp : p < n) (ht : t ≤ p) (hc : i0 (a + 1) p = zI (-7)) (ha : a = 6 ∨ 74 ≤ a) : ∃ i', fX4_worth_9 a 24 6 (m + 1) (nI p) (nI t) i = some (zI v, i') ∧ SkC a i0 i' s := by
  have e2 : i a 2 = nI n := by rw [h.1 a 2 (by omega) (by omega)]; exact hsz
  have ec : i (a + 1) p = zI (-7) := by rw [h.1 (a + 1) p (by omega) (by omega)]; exact hc
  obtain ⟨i1, p1, p2⟩ := k_pop h hs
  rw [fX4_worth_9, e2, if_neg (nI_ge (by omega) (by omega)), if_neg (nI_ge (by omega) (by omega)), if_pos (mz_in (by omega) (by omega)), nI_clamp (by omega), ec, mz_lt, if_pos (by decide +kernel), if_pos (by decide +kernel), if_pos (by decide +kernel), p1, mz_b2]
  exact ⟨i1, rfl, p2⟩
theorem k_skip {d : Nat} (hsz : i0 a 2 = nI n) (hn : n ≤ 240) (h : SkC a i0 i (v :: s)) (hs : s.length < 32) (hv : v = 0 ∨ v = 1) (hp : p < n) (ht : t ≤ p) (hd : d ≤ 1000) (hc : i0 (a + 1) p = zI (-1000 - (d : Int))) (ha : a = 6 ∨ 74 ≤ a) : ∃ i', fX4_worth_9 a 24 6 (m + 1) (nI p) (nI t) i = fX4_worth_9 a 24 6 m (nI (if v = 0 then d else p + 1)) (nI (t + 1)) i' ∧ SkC a i0 i' s := by
  have e2 : i a 2 = nI n := by rw [h.1 a 2 (by omega) (by omega)]; exact hsz
  have ec : i (a + 1) p = zI (-1000 - (d : Int)) := by rw [h.1 (a + 1) p (by omega) (by omega)]; exact hc
  have e0 : (0 : Int32) = zI 0 := by decide +kernel
  have em6 : (-6 : Int32) = zI (-6) := by decide +kernel
  have em7 : (-7 : Int32) = zI (-7) := by decide +kernel
  have emM : (-1000 : Int32) = zI (-1000) := by decide +kernel
  obtain ⟨i1, p1, p2⟩ := k_pop h hs
  have ed : (-1000 : Int32) - zI (-1000 - (d : Int)) = nI d := by
    rw [emM, zI_sub, zI_n]
    congr 1
    omega
  rw [fX4_worth_9, e2, if_neg (nI_ge (by omega) (by omega)), if_neg (nI_ge (by omega) (by omega)), if_pos (mz_in (by omega) (by omega)), nI_clamp (by omega), ec, mz_lt, if_pos (show zI (-1000 - (d : Int)) < 0 by rw [e0, zI_lt (by omega) (by omega) (by omega) (by omega)]; omega), if_pos (show zI (-1000 - (d : Int)) < -6 by rw [em6, zI_lt (by omega) (by omega) (by omega) (by omega)]; omega), if_neg (show ¬ zI (-1000 - (d : Int)) = -7 by rw [em7, zI_eq (by omega) (by omega) (by omega) (by omega)]; omega), if_neg (show ¬ (-1000 : Int32) < zI (-1000 - (d : Int)) by rw [emM, zI_lt (by omega) (by omega) (by omega) (by omega)]; omega), p1, mz_b2, ed]
  unfold fX4_worth_107 fX4_worth_153
  rw [nI_1, nI_1]
  rcases hv with rfl | rfl
  · rw [if_pos (show zI 0 = 0 by decide +kernel), if_pos rfl]
    exact ⟨i1, rfl, p2⟩
  · rw [if_neg (show ¬ zI 1 = 0 by decide +kernel), if_neg (show ¬ (1 : Int) = 0 by decide)]
    exact ⟨i1, rfl, p2⟩
theorem gD_app1 {A B : List Int} (h : k < A.length) : (A ++ B).getD k 0 = A.getD k 0 := by
  rw [List.getD_eq_getElem?_getD, List.getD_eq_getElem?_getD, List.getElem?_append_left h]
theorem gD_app2 {A B : List Int} : (A ++ B).getD (A.length + k) 0 = B.getD k 0 := by
  rw [List.getD_eq_getElem?_getD, List.getD_eq_getElem?_getD, List.getElem?_append_right (by omega), show A.length + k - A.length = k by omega]
/-- a whole law -/
theorem k_law (hl : mil l) (h24 : ∀ z, z < 6 → i0 24 z = zI (l z)) (ha : a = 6 ∨ 74 ≤ a) (hsz : i0 a 2 = nI n) (hn : n ≤ 240) : ∀ cls i p t m, SkC a i0 i [] → (∀ c, c ∈ cls → ClE c) → p + (lwC p cls).length = n → t ≤ p → (∀ k, k < (lwC p cls).length → i0 (a + 1) (p + k) = zI ((lwC p cls).getD k 0)) → n - p < m → ∃ i' s', fX4_worth_9 a 24 6 m (nI p) (nI t) i = some (zI (lwV l cls), i') ∧ SkC a i0 i' s' := by
  intro cls
  induction cls with
  | nil =>
    intro i p t m h _ h1 ht _ hm
    obtain ⟨m, rfl⟩ : ∃ m', m = m' + 1 := ⟨m - 1, by omega⟩
    have e2 : i a 2 = nI n := by rw [h.1 a 2 (by omega) (by omega)]; exact hsz
    have h1' : p = n := h1
    refine ⟨i, [], ?_, h⟩
    rw [fX4_worth_9, e2, if_pos (show nI n ≤ nI p from nI_le (by omega) (by omega))]
    split <;> (show some ((0 : Int32), i) = some (zI 0, i); rw [show (0 : Int32) = zI 0 from by decide +kernel])
  | cons c cls ih =>
    intro i p t m h hC h1 ht h2 hm
    have hc := hC c (List.mem_cons_self ..)
    rw [show lwC p (c :: cls) = kdC p c ++ lwC (p + (kdC p c).length) cls from rfl] at h1 h2
    rw [List.length_append] at h1 h2
    have hk : ∀ k, k < (kdC p c).length → i0 (a + 1) (p + k) = zI ((kdC p c).getD k 0) := fun k hk => by rw [h2 k (by omega), gD_app1 hk]
    rcases c with ⟨_ | y, x⟩
    · have hx : EvO 16 x := hc
      have e7 : kdC p (none, x) = x.1 ++ [-7] := rfl
      rw [kd_0] at h1
      rw [e7] at hk
      have hr := ((hx.2 l hl).2 [] (by decide))
      obtain ⟨m, rfl⟩ : ∃ m', m = m' + 1 + x.1.length := ⟨m - 1 - x.1.length, by omega⟩
      obtain ⟨i1, t', e1, e2, e3⟩ := k_run hl h24 ha hsz hn x.1 i [] p t (m + 1) h hr (by omega) ht (fun k hk2 => by rw [hk k (by rw [List.length_append]; omega), gD_app1 hk2])
      obtain ⟨i2, e4, e5⟩ := k_done (m := m) hsz hn e3 (by decide) (show p + x.1.length < n by omega) (by omega) (by rw [hk x.1.length (by rw [List.length_append]; show x.1.length < x.1.length + 1; omega)]; have := gD_app2 (k := 0) (A := x.1) (B := [-7]); rw [Nat.add_zero] at this; rw [this]; rfl) ha
      refine ⟨i2, [], ?_, e5⟩
      rw [e2, e4]
      rfl
    · obtain ⟨hx, hy, hbo⟩ : EvO 16 x ∧ EvO 19 y ∧ BoO y := hc
      have e7 : kdC p (some y, x) = y.1 ++ ((-1000 - ((p + y.1.length + x.1.length + 2 : Nat) : Int)) :: (x.1 ++ [-7])) := rfl
      have hk1 := hk
      rw [kd_1] at h1
      rw [e7] at hk1
      have hry := ((hy.2 l hl).2 [] (by decide))
      have hlen : (y.1 ++ ((-1000 - ((p + y.1.length + x.1.length + 2 : Nat) : Int)) :: (x.1 ++ [-7]))).length = y.1.length + x.1.length + 2 := by rw [← e7, kd_1]
      rw [hlen] at hk1
      obtain ⟨m, rfl⟩ : ∃ m', m = m' + 1 + y.1.length := ⟨m - 1 - y.1.length, by omega⟩
      obtain ⟨i1, t', e1, e2, e3⟩ := k_run hl h24 ha hsz hn y.1 i [] p t (m + 1) h hry (by omega) ht (fun k hk2 => by rw [hk1 k (by omega), gD_app1 hk2])
      obtain ⟨i2, e4, e5⟩ := k_skip (m := m) (d := p + y.1.length + x.1.length + 2) hsz hn e3 (by decide) (hbo l) (show p + y.1.length < n by omega) (by omega) (by omega) (by
        rw [hk1 y.1.length (by omega)]
        exact congrArg zI (gD_app2 (k := 0) (A := y.1) (B := (-1000 - ((p + y.1.length + x.1.length + 2 : Nat) : Int)) :: (x.1 ++ [-7]))) ) ha
      rw [e2, e4]
      by_cases h0 : y.2 l = 0
      · rw [if_pos h0]
        have ih' := ih i2 (p + (kdC p (some y, x)).length) (t' + 1) m e5 (fun c hc => hC c (List.mem_cons_of_mem _ hc)) (by rw [kd_1]; omega) (by rw [kd_1]; omega) (fun k hk3 => by
          have := h2 ((kdC p (some y, x)).length + k) (by omega)
          rw [gD_app2] at this
          rw [Nat.add_assoc]
          exact this) (by rw [kd_1]; omega)
        obtain ⟨i3, s3, f1, f2⟩ := ih'
        refine ⟨i3, s3, ?_, f2⟩
        rw [kd_1, show p + (y.1.length + x.1.length + 2) = p + y.1.length + x.1.length + 2 by omega] at f1
        rw [f1]
        show _ = some (zI (if y.2 l = 0 then lwV l cls else x.2 l), i3)
        rw [if_pos h0]
      · rw [if_neg h0]
        have hr := ((hx.2 l hl).2 [] (by decide))
        have hg : ∀ k, k < x.1.length + 1 → i0 (a + 1) (p + y.1.length + 1 + k) = zI ((x.1 ++ [-7]).getD k 0) := by
          intro k hk3
          have := hk1 (y.1.length + (k + 1)) (by omega)
          rw [gD_app2] at this
          rw [show p + y.1.length + 1 + k = p + (y.1.length + (k + 1)) by omega, this]
          rfl
        obtain ⟨m, rfl⟩ : ∃ m', m = m' + 1 + x.1.length := ⟨m - 1 - x.1.length, by omega⟩
        obtain ⟨i3, t3, f1, f2, f3⟩ := k_run hl h24 ha hsz hn x.1 i2 [] (p + y.1.length + 1) (t' + 1) (m + 1) e5 hr (by omega) (by omega) (fun k hk2 => by rw [hg k (by omega), gD_app1 hk2])
        obtain ⟨i4, f4, f5⟩ := k_done (m := m) hsz hn f3 (by decide) (show p + y.1.length + 1 + x.1.length < n by omega) (by omega) (by rw [hg x.1.length (by omega)]; have := gD_app2 (k := 0) (A := x.1) (B := [-7]); rw [Nat.add_zero] at this; rw [this]; rfl) ha
        refine ⟨i4, [], ?_, f5⟩
        rw [f2, f4]
        show _ = some (zI (if y.2 l = 0 then lwV l cls else x.2 l), i4)
        rw [if_neg h0]
def l6 (l : Nat → Nat) : Nat → Int := fun z => if z < 6 then (l z : Int) else 0
theorem lwV_b (hl : mil l) : ∀ cls : List CL, (∀ c, c ∈ cls → ClE c) → -1000000 ≤ lwV l cls ∧ lwV l cls ≤ 1000000 := by
  intro cls
  induction cls with
  | nil => intro _; show -1000000 ≤ (0 : Int) ∧ (0 : Int) ≤ 1000000; omega
  | cons c cls ih =>
    intro hC
    have hc := hC c (List.mem_cons_self ..)
    have k := ih (fun c hc => hC c (List.mem_cons_of_mem _ hc))
    rcases c with ⟨_ | y, x⟩
    · exact ((show EvO 16 x from hc).2 l hl).1
    · obtain ⟨hx, _, _⟩ : EvO 16 x ∧ EvO 19 y ∧ BoO y := hc
      show -1000000 ≤ (if y.2 l = 0 then lwV l cls else x.2 l) ∧ (if y.2 l = 0 then lwV l cls else x.2 l) ≤ 1000000
      split
      · exact k
      · exact (hx.2 l hl).1
theorem mil_6 {l : Nat → Nat} (h : ∀ z, z < 6 → l z ≤ 100000) : mil (l6 l) := by
  intro z
  unfold l6
  by_cases hz : z < 6
  · rw [if_pos hz]
    have := h z hz
    omega
  · rw [if_neg hz]
    omega
/-- the codes of a law are worth what its clauses are -/
theorem C_worth (hC : ∀ c, c ∈ cls → ClE c) : WorthOK (lwC 0 cls) (fun l => lwV (l6 l) cls) := by
  intro a i l ha hL h24
  have hm := mil_6 (fun z hz => (h24 z hz).2)
  refine ⟨lwV_b hm cls hC, ?_⟩
  obtain ⟨L1, L2, L3⟩ := hL
  obtain ⟨fu, hfu, hfu2⟩ := fuel_g
  unfold fX4_worth
  rw [mz_lt, hfu]
  have k := k_law (i0 := i) hm (fun z hz => by rw [(h24 z hz).1, zI_n]; unfold l6; rw [if_pos hz]) ha L1 L2 cls (u2 i a 3 0) 0 0 fu ⟨fun q k h1 h2 => u2o _ _ (by omega), u2e _ _ _ _, fun k hk => by simp at hk⟩ hC (by omega) (by omega) (fun k hk => by rw [Nat.zero_add]; exact L3 k hk) (by omega)
  obtain ⟨i', s', e1, e2⟩ := k
  exact ⟨i', e1, fun q k h1 h2 => e2.1 q k h1 h2⟩
end WV
