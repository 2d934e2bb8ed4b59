/-! texts: blanks, signs, digits, numbers, on both sides -/
def sk (T : Nat → Nat) (L : Nat) : Nat → Nat → Nat
  | 0, p => p
  | n + 1, p => if p < L ∧ T p = 32 then sk T L n (p + 1) else p
def skp (T : Nat → Nat) (L p : Nat) : Nat := sk T L (L - p) p
def ch (T : Nat → Nat) (L p : Nat) : Int32 := if p < L then nI (T p) else NN
def dgt (T : Nat → Nat) (L p : Nat) : Bool := decide (p < L ∧ 48 ≤ T p ∧ T p ≤ 57)
def nmS (T : Nat → Nat) (L : Nat) : Nat → Nat → Nat → Nat × Option Nat
  | 0, v, p => if dgt T L p = true then (p, none) else (p, some v)
  | m + 1, v, p => if dgt T L p = true then nmS T L m (10 * v + (T p - 48)) (p + 1) else (p, some v)
def nmT (T : Nat → Nat) (L m p : Nat) : Nat × Option Nat := if dgt T L p = true then nmS T L m 0 p else (p, none)
def oI (x : Option Nat) : Int32 := match x with
  | none => NN
  | some v => nI v
def pP (X : Tb) (p : Nat) : Tb := u2 X 1 2 (nI p)
def mP (Y : Tb) (p : Nat) : Tb := u2 Y 50 10 (nI p)
/-- the model's text: w the row, B its beginning -/
def TxM (T : Nat → Nat) (L B w : Nat) (Y : Tb) (rv : Nat → Nat → Option Nat) : Prop := Y 50 8 = nI B ∧ Y 50 9 = nI L ∧ plc (rv 50 5) = w ∧ (w = 51 ∨ w = 52) ∧ B + L ≤ bLen w ∧ (∀ k, k < L → Y w (B + k) = bS (T k))
def fnC (f : Nat → Int32) (c : Int32) : Nat → Nat → Option Nat
  | 0, _ => none
  | n + 1, k => if f k = c then some k else fnC f c n (k + 1)
section TX
variable {i i' i1 i2 j j' X X' Y Y' : Tb} {rv rv' : Nat → Nat → Option Nat} {T : Nat → Nat} {L B w p q r k m n v c z s y : Nat} {f g : Nat → Int32} {a x1 x2 : Int32}
theorem skp_u : skp T L p = if p < L ∧ T p = 32 then skp T L (p + 1) else p := by
  unfold skp
  by_cases h : p < L
  · rw [show L - p = (L - (p + 1)) + 1 by omega, sk]
  · rw [show L - p = 0 by omega, sk, if_neg (fun e => h e.1)]
theorem skp_b (h : p < L ∧ T p = 32) : skp T L p = skp T L (p + 1) := by rw [skp_u, if_pos h]
theorem skp_n (h : ¬ (p < L ∧ T p = 32)) : skp T L p = p := by rw [skp_u, if_neg h]
theorem sk_all : ∀ d p, L - p = d → p ≤ L → p ≤ skp T L p ∧ skp T L p ≤ L ∧ ¬ (skp T L p < L ∧ T (skp T L p) = 32) := by
  intro d
  induction d with
  | zero =>
    intro p h1 h2
    rw [skp_n (by omega)]
    exact ⟨Nat.le_refl _, h2, by omega⟩
  | succ d ih =>
    intro p h1 h2
    by_cases h : p < L ∧ T p = 32
    · rw [skp_b h]
      have := ih (p + 1) (by omega) (by omega)
      exact ⟨by omega, this.2⟩
    · rw [skp_n h]
      exact ⟨Nat.le_refl _, h2, h⟩
theorem sk_ge (h : p ≤ L) : p ≤ skp T L p := (sk_all _ p rfl h).1
theorem sk_le (h : p ≤ L) : skp T L p ≤ L := (sk_all _ p rfl h).2.1
theorem sk_id (h : p ≤ L) : skp T L (skp T L p) = skp T L p := skp_n (sk_all _ p rfl h).2.2
theorem ch_in (h : p < L) : ch T L p = nI (T p) := if_pos h
theorem ch_out (h : L ≤ p) : ch T L p = NN := if_neg (by omega)
theorem ch_lt (hc : c < 2 ^ 31) (h : ch T L p = nI c) : p < L := by
  by_cases h1 : p < L
  · exact h1
  · rw [ch_out (by omega), mz_mn hc] at h
    exact h.elim
theorem ch_N (hT : OkT T L) : (ch T L p = NN) ↔ L ≤ p := by
  by_cases h1 : p < L
  · rw [ch_in h1, mz_nm (by have := (hT.2 p h1).2; omega)]
    exact ⟨fun e => e.elim, fun e => by omega⟩
  · rw [ch_out (by omega)]
    exact ⟨fun _ => by omega, fun _ => rfl⟩
theorem u2_2 {α : Type} (f : Nat → Nat → α) (p k : Nat) (v w : α) : u2 (u2 f p k v) p k w = u2 f p k w := by
  funext q z
  simp only [u2]
  split <;> (try split) <;> rfl
theorem u2_c {α : Type} (f : Nat → Nat → α) {p k q z : Nat} (v w : α) (h : p ≠ q ∨ k ≠ z) : u2 (u2 f p k v) q z w = u2 (u2 f q z w) p k v := by
  funext a b
  simp only [u2]
  by_cases h1 : a = q <;> by_cases h2 : a = p <;> by_cases h3 : b = z <;> by_cases h4 : b = k <;> simp_all
theorem u2_i {α : Type} (f : Nat → Nat → α) {p k : Nat} {v : α} (h : f p k = v) : u2 f p k v = f := by
  funext a b
  simp only [u2]
  by_cases h1 : a = p <;> by_cases h3 : b = k <;> simp_all
theorem u2o {α : Type} (f : Nat → Nat → α) {p k q z : Nat} (v : α) (h : q ≠ p ∨ z ≠ k) : u2 f p k v q z = f q z := by
  simp only [u2]
  by_cases h1 : q = p <;> by_cases h2 : z = k <;> simp_all
theorem pP_2 : u2 (pP X p) 1 2 (nI q) = pP X q := u2_2 _ _ _ _ _
theorem mP_2 : u2 (mP Y p) 50 10 (nI q) = mP Y q := u2_2 _ _ _ _ _
theorem pP_c (h : q ≠ 1 ∨ k ≠ 2) : u2 (pP X p) q k a = pP (u2 X q k a) p := u2_c _ _ _ (by omega)
theorem mP_c (h : q ≠ 50 ∨ k ≠ 10) : u2 (mP Y p) q k a = mP (u2 Y q k a) p := u2_c _ _ _ (by omega)
theorem pP_at : pP X p 1 2 = nI p := u2e _ _ _ _
theorem mP_at : mP Y p 50 10 = nI p := u2e _ _ _ _
theorem pP_r (h : q ≠ 1) : pP X p q = X q := u2r _ _ _ _ _ h
theorem mP_r (h : q ≠ 50) : mP Y p q = Y q := u2r _ _ _ _ _ h
theorem pP_n (h : k ≠ 2) : pP X p 1 k = X 1 k := u2n _ _ _ _ _ h
theorem mP_n (h : k ≠ 10) : mP Y p 50 k = Y 50 k := u2n _ _ _ _ _ h
theorem pP_i (h : X 1 2 = nI p) : pP X p = X := u2_i _ h
theorem mP_i (h : Y 50 10 = nI p) : mP Y p = Y := u2_i _ h
theorem TaC_p (h : TaC T L X) : TaC T L (pP X p) := ⟨by rw [pP_n (by omega)]; exact h.1, by rw [pP_r (by omega)]; exact h.2⟩
theorem TaC_u (h : TaC T L X) (hq : 2 < q) : TaC T L (u2 X q k a) := ⟨by rw [u2r _ _ _ _ _ (by omega)]; exact h.1, by rw [u2r _ _ _ _ _ (by omega)]; exact h.2⟩
theorem TxM_p (h : TxM T L B w Y rv) : TxM T L B w (mP Y p) rv := by
  obtain ⟨h1, h2, h3, h4, h5, h6⟩ := h
  exact ⟨by rw [mP_n (by omega)]; exact h1, by rw [mP_n (by omega)]; exact h2, h3, h4, h5, by rw [mP_r (by omega)]; exact h6⟩
theorem TxM_u (h : TxM T L B w Y rv) (hq : (q = 50 ∧ k ≠ 8 ∧ k ≠ 9) ∨ 52 < q) : TxM T L B w (u2 Y q k a) rv := by
  obtain ⟨h1, h2, h3, h4, h5, h6⟩ := h
  refine ⟨?_, ?_, h3, h4, h5, by rw [u2r _ _ _ _ _ (by omega)]; exact h6⟩
  · rw [u2o _ _ (by omega)]; exact h1
  · rw [u2o _ _ (by omega)]; exact h2
/-! the class's tape -/
theorem c_ahead_l (hT : OkT T L) (h : TaC T L X) : ∀ n p, p ≤ L → L - p < n → fX10_ahead_0 n (pP X p) = some (ch T L (skp T L p), pP X (skp T L p)) := by
  have hL := hT.1
  intro n
  induction n with
  | zero => intro p h1 h2; omega
  | succ n ih =>
    intro p h1 h2
    rw [fX10_ahead_0, pP_at, pP_n (by omega), h.1, pP_r (by omega)]
    unfold fX10_ahead_38
    rw [pP_at, pP_n (by omega), h.1, pP_r (by omega)]
    by_cases h3 : p = L
    · rw [if_pos (nI_le (by omega) (by omega)), if_pos (nI_le (by omega) (by omega)), skp_n (by omega), ch_out (by omega)]
      rfl
    · have hp : p < L := by omega
      have ht := hT.2 p hp
      rw [if_neg (nI_ge (by omega) (by omega)), if_neg (nI_ge (by omega) (by omega)), if_pos (mz_in (by omega) (by omega)), if_pos (mz_in (by omega) (by omega)), nI_clamp (by omega), h.2 p hp]
      by_cases h4 : T p = 32
      · rw [if_pos (show nI (T p) = 32 by rw [h4]; rfl), mz_lt, nI_1, pP_2, skp_b ⟨hp, h4⟩]
        exact ih (p + 1) (by omega) (by omega)
      · rw [if_neg (show ¬ nI (T p) = 32 by rw [q32, nI_eq (by omega) (by omega)]; exact h4), skp_n (fun e => h4 e.2), ch_in hp]
theorem c_ahead (hT : OkT T L) (h : TaC T L X) (hp : p ≤ L) : fX10_ahead (pP X p) = some (ch T L (skp T L p), pP X (skp T L p)) := by
  have hL := hT.1
  obtain ⟨fu, hfu, hfu2⟩ := fuel_g
  unfold fX10_ahead
  rw [hfu]
  exact c_ahead_l hT h fu p hp (by omega)
theorem c_pass (hL : L ≤ 240) (h : TaC T L X) (hp : p < L) : fX10_pass (pP X p) = some (pP X (p + 1)) := by
  unfold fX10_pass
  rw [pP_at, pP_n (by omega), h.1, if_neg (nI_ge (by omega) (by omega)), mz_lt, q1, nI_add, pP_2]
theorem c_takes (hT : OkT T L) (h : TaC T L X) (hp : p ≤ L) (hc : c < 2 ^ 31) : fX10_takes (nI c) (pP X p) = if ch T L (skp T L p) = nI c then some (1, pP X (skp T L p + 1)) else some (0, pP X (skp T L p)) := by
  unfold fX10_takes
  rw [c_ahead hT h hp, mz_b2]
  by_cases h1 : ch T L (skp T L p) = nI c
  · rw [if_pos h1, if_pos h1, c_pass hT.1 h (ch_lt hc h1), mz_b1]
  · rw [if_neg h1, if_neg h1]
theorem c_atDigit (hT : OkT T L) (h : TaC T L X) (hp : p ≤ L) : fX10_atDigit (pP X p) = some (if dgt T L p = true then 1 else 0) := by
  have hL := hT.1
  unfold fX10_atDigit
  rw [pP_at, pP_n (by omega), h.1, pP_r (by omega)]
  by_cases h3 : p = L
  · have hd : dgt T L p = false := decide_eq_false (by omega)
    rw [if_pos (nI_le (by omega) (by omega)), hd]
    rfl
  · have hp : p < L := by omega
    have ht := hT.2 p hp
    rw [if_neg (nI_ge (by omega) (by omega)), if_pos (mz_in (by omega) (by omega)), if_pos (mz_in (by omega) (by omega)), nI_clamp (by omega), h.2 p hp]
    by_cases h4 : T p < 48
    · have hd : dgt T L p = false := decide_eq_false (by omega)
      rw [if_pos (show nI (T p) < 48 by rw [q48, mz_ltp (by omega) (by omega)]; exact h4), hd]
      rfl
    · rw [if_neg (show ¬ nI (T p) < 48 by rw [q48, mz_ltp (by omega) (by omega)]; exact h4)]
      by_cases h5 : 57 < T p
      · have hd : dgt T L p = false := decide_eq_false (by omega)
        rw [if_pos (show (57 : Int32) < nI (T p) by rw [q57, mz_ltp (by omega) (by omega)]; exact h5), hd]
        rfl
      · have hd : dgt T L p = true := decide_eq_true (by omega)
        rw [if_neg (show ¬ (57 : Int32) < nI (T p) by rw [q57, mz_ltp (by omega) (by omega)]; exact h5), hd]
        rfl
theorem dgt_of (h : dgt T L p = true) : p < L ∧ 48 ≤ T p ∧ T p ≤ 57 := of_decide_eq_true h
theorem c_num_l (hT : OkT T L) (h : TaC T L X) (hm : m ≤ 4) : ∀ d n x v p, p ≤ L → x + d = m → d < n → fX10_number_20 n (nI m) (nI v) (nI x) (pP X p) = some (oI (nmS T L d v p).2, pP X (nmS T L d v p).1) := by
  have hL := hT.1
  intro d
  induction d with
  | zero =>
    intro n x v p hp h1 h2
    obtain ⟨n', rfl⟩ : ∃ n', n = n' + 1 := ⟨n - 1, by omega⟩
    rw [fX10_number_20, if_pos (nI_le (by omega) (by omega)), nmS]
    unfold fX10_number_66
    rw [c_atDigit hT h hp, mz_b1]
    by_cases h3 : dgt T L p = true
    · rw [if_pos h3, if_neg (show ¬ (1 : Int32) = 0 by decide), if_pos h3]
      rfl
    · rw [if_neg h3, if_pos rfl, if_neg h3]
      rfl
  | succ d ih =>
    intro n x v p hp h1 h2
    obtain ⟨n', rfl⟩ : ∃ n', n = n' + 1 := ⟨n - 1, by omega⟩
    rw [fX10_number_20, if_neg (nI_ge (by omega) (by omega)), nmS]
    unfold fX10_number_66
    rw [c_atDigit hT h hp, mz_b1]
    by_cases h3 : dgt T L p = true
    · have h4 := dgt_of h3
      rw [if_pos h3, if_neg (show ¬ (1 : Int32) = 0 by decide), if_pos h3, pP_at, if_pos (mz_in (by omega) (by omega)), nI_clamp (by omega), pP_r (by omega), h.2 p h4.1, q10, mz_mul, nI_add, q48, mz_sub (by omega), mz_lt, mz_lt, nI_1, nI_1, pP_2, show 10 * v + T p - 48 = 10 * v + (T p - 48) by omega]
      exact ih n' (x + 1) _ (p + 1) (by omega) (by omega) (by omega)
    · rw [if_neg h3, if_pos rfl, mz_b1, if_pos rfl, if_neg h3]
      rfl
theorem c_number (hT : OkT T L) (h : TaC T L X) (hp : p ≤ L) (hm : m ≤ 4) (hm0 : 0 < m) : fX10_number (nI m) (pP X p) = some (oI (nmT T L m (skp T L p)).2, pP X (nmT T L m (skp T L p)).1) := by
  have hs := sk_le (T := T) hp
  unfold fX10_number fX10_number_17 nmT
  obtain ⟨fu, hfu, hfu2⟩ := fuel_g
  rw [c_ahead hT h hp, mz_b2, c_atDigit hT h hs, mz_b1, hfu]
  by_cases h3 : dgt T L (skp T L p) = true
  · rw [if_pos h3, if_neg (show ¬ (1 : Int32) = 0 by decide), if_pos h3]
    exact c_num_l hT h hm m fu 0 0 _ hs (by omega) (by omega)
  · obtain ⟨n', rfl⟩ : ∃ n', fu = n' + 1 := ⟨fu - 1, by omega⟩
    rw [if_neg h3, if_pos rfl, if_neg h3, fX10_number_20]
    unfold fX10_number_66
    rw [if_neg (show ¬ nI m ≤ 0 by rw [q0, mz_le (by omega) (by omega)]; omega), c_atDigit hT h hs, mz_b1, if_neg h3, if_pos rfl, mz_b1, if_pos rfl]
    rfl
theorem c_digit (hT : OkT T L) (h : TaC T L X) (hp : p ≤ L) : fX10_digit (pP X p) = if dgt T L (skp T L p) = true then some (nI (T (skp T L p) - 48), pP X (skp T L p + 1)) else some (NN, pP X (skp T L p)) := by
  have hs := sk_le (T := T) hp
  have hL := hT.1
  unfold fX10_digit
  rw [c_ahead hT h hp, mz_b2, c_atDigit hT h hs, mz_b1]
  by_cases h3 : dgt T L (skp T L p) = true
  · have h4 := dgt_of h3
    rw [if_pos h3, if_neg (show ¬ (1 : Int32) = 0 by decide), if_pos h3, pP_at, if_pos (mz_in (by omega) (by omega)), nI_clamp (by omega), pP_r (by omega), h.2 _ h4.1, q48, mz_sub (by omega), mz_lt, mz_lt, q1, nI_add, pP_2]
  · rw [if_neg h3, if_pos rfl, if_neg h3]
    rfl
theorem c_stay (hL : L ≤ 240) (hp : p < L) : fX10_stayAtLastDigit (pP X (p + 1)) = some (pP X p) := by
  unfold fX10_stayAtLastDigit
  rw [pP_at, if_neg (show ¬ nI (p + 1) ≤ 0 by rw [q0, mz_le (by omega) (by omega)]; omega), mz_lt, q1, mz_sub (by omega), pP_2]
  rfl
/-! numbers -/
theorem nmS_ok : ∀ d v p, p ≤ L → p ≤ (nmS T L d v p).1 ∧ (nmS T L d v p).1 ≤ L ∧ (nmS T L d v p).1 ≤ p + d ∧ ∀ x, (nmS T L d v p).2 = some x → x < (v + 1) * 10 ^ d := by
  intro d
  induction d with
  | zero =>
    intro v p hp
    rw [nmS]
    split
    · exact ⟨Nat.le_refl _, hp, by omega, fun x hx => by simp at hx⟩
    · exact ⟨Nat.le_refl _, hp, by omega, fun x hx => by simp at hx; omega⟩
  | succ d ih =>
    intro v p hp
    rw [nmS]
    split
    · rename_i h3
      have h4 := dgt_of h3
      obtain ⟨e1, e2, e3, e4⟩ := ih (10 * v + (T p - 48)) (p + 1) (by omega)
      refine ⟨by omega, e2, by omega, fun x hx => ?_⟩
      have := e4 x hx
      have h5 : (10 * v + (T p - 48) + 1) * 10 ^ d ≤ (10 * (v + 1)) * 10 ^ d := Nat.mul_le_mul_right _ (by omega)
      have h6 : (v + 1) * 10 ^ (d + 1) = (10 * (v + 1)) * 10 ^ d := by rw [Nat.pow_succ, Nat.mul_comm 10, Nat.mul_assoc, Nat.mul_comm (10 ^ d)]
      omega
    · refine ⟨Nat.le_refl _, hp, by omega, fun x hx => ?_⟩
      have h5 : (v + 1) * 1 ≤ (v + 1) * 10 ^ (d + 1) := Nat.mul_le_mul_left _ (Nat.pow_pos (by omega))
      simp at hx
      omega
theorem nmT_ok (hp : p ≤ L) : p ≤ (nmT T L m p).1 ∧ (nmT T L m p).1 ≤ L ∧ ∀ x, (nmT T L m p).2 = some x → x < 10 ^ m := by
  unfold nmT
  split
  · obtain ⟨e1, e2, e3, e4⟩ := nmS_ok (T := T) m 0 p hp
    exact ⟨e1, e2, fun x hx => by have := e4 x hx; omega⟩
  · exact ⟨Nat.le_refl _, hp, fun x hx => by simp at hx⟩
theorem nmT_lt (hp : p ≤ L) (hm : 0 < m) (h : (nmT T L m p).2 = some v) : p < (nmT T L m p).1 := by
  unfold nmT at h ⊢
  by_cases h3 : dgt T L p = true
  · rw [if_pos h3] at h ⊢
    obtain ⟨m', rfl⟩ : ∃ m', m = m' + 1 := ⟨m - 1, by omega⟩
    rw [nmS, if_pos h3]
    have h4 := dgt_of h3
    have := (nmS_ok (T := T) (L := L) m' (10 * 0 + (T p - 48)) (p + 1) (by omega)).1
    omega
  · rw [if_neg h3] at h
    simp at h
/-! letters -/
theorem fnC_congr : ∀ n k, (∀ z, k ≤ z → z < k + n → f z = g z) → fnC f a n k = fnC g a n k := by
  intro n
  induction n with
  | zero => intro k _; rfl
  | succ n ih =>
    intro k h
    rw [fnC, fnC, h k (by omega) (by omega), ih (k + 1) (fun z h1 h2 => h z (by omega) (by omega))]
theorem fnC_lt : ∀ n k, fnC f a n k = some z → k ≤ z ∧ z < k + n ∧ f z = a := by
  intro n
  induction n with
  | zero => intro k h; simp [fnC] at h
  | succ n ih =>
    intro k h
    rw [fnC] at h
    by_cases h1 : f k = a
    · rw [if_pos h1] at h
      have := Option.some.inj h
      subst this
      exact ⟨Nat.le_refl _, by omega, h1⟩
    · rw [if_neg h1] at h
      obtain ⟨e1, e2, e3⟩ := ih (k + 1) h
      exact ⟨by omega, by omega, e3⟩
theorem fnC_NN : ∀ n k, (∀ z, k ≤ z → z < k + n → f z ≠ a) → fnC f a n k = none := by
  intro n
  induction n with
  | zero => intro k _; rfl
  | succ n ih =>
    intro k h
    rw [fnC, if_neg (h k (by omega) (by omega))]
    exact ih (k + 1) (fun z h1 h2 => h z (by omega) (by omega))
theorem chr_at (h : k < aLen.getD n 0) (hn : aLen.getD n 0 < 100) : fJ0_charAt_5068e n (nI k) = some (aCh n (nI k)) := by
  unfold fJ0_charAt_5068e
  rw [if_pos (mz_in h (by omega))]
theorem c_itemOf_l (hm : p + m ≤ 14) : ∀ d n k, k + d = m → d < n → fX1_itemOf_2 n a (nI p) (nI m) (nI k) = some (oI (fnC (fun z => aCh 1 (nI (p + z))) a d k)) := by
  have e14 : aLen.getD 1 0 = 14 := by decide +kernel
  intro d
  induction d with
  | zero =>
    intro n k h1 h2
    obtain ⟨n', rfl⟩ : ∃ n', n = n' + 1 := ⟨n - 1, by omega⟩
    rw [fX1_itemOf_2, if_pos (nI_le (by omega) (by omega))]
    rfl
  | succ d ih =>
    intro n k h1 h2
    obtain ⟨n', rfl⟩ : ∃ n', n = n' + 1 := ⟨n - 1, by omega⟩
    rw [fX1_itemOf_2, if_neg (nI_ge (by omega) (by omega)), nI_add, chr_at (by omega) (by omega), mz_b1, nI_1, fnC]
    by_cases h3 : aCh 1 (nI (p + k)) = a
    · rw [if_pos h3, if_pos h3]
      rfl
    · rw [if_neg h3, if_neg h3]
      exact ih n' (k + 1) (by omega) (by omega)
theorem c_itemOf (hm : p + m ≤ 14) : fX1_itemOf a (nI p) (nI m) = some (oI (fnC (fun z => aCh 1 (nI (p + z))) a m 0)) := by
  obtain ⟨fu, hfu, hfu2⟩ := fuel_g
  unfold fX1_itemOf
  rw [hfu]
  exact c_itemOf_l hm m fu 0 (by omega) (by omega)
theorem c_letter_l : ∀ d n k, k + d = 6 → d < n → fX4_letterOf_2 n a (nI k) = some (oI (fnC (fun z => aCh 2 (nI z)) a d k)) := by
  have e14 : aLen.getD 2 0 = 6 := by decide +kernel
  intro d
  induction d with
  | zero =>
    intro n k h1 h2
    obtain ⟨n', rfl⟩ : ∃ n', n = n' + 1 := ⟨n - 1, by omega⟩
    rw [fX4_letterOf_2, if_pos (show (6 : Int32) ≤ nI k by rw [q6]; exact nI_le (by omega) (by omega))]
    rfl
  | succ d ih =>
    intro n k h1 h2
    obtain ⟨n', rfl⟩ : ∃ n', n = n' + 1 := ⟨n - 1, by omega⟩
    rw [fX4_letterOf_2, if_neg (show ¬ (6 : Int32) ≤ nI k by rw [q6]; exact nI_ge (by omega) (by omega)), chr_at (by omega) (by omega), mz_b1, nI_1, fnC]
    by_cases h3 : aCh 2 (nI k) = a
    · rw [if_pos h3, if_pos h3]
      rfl
    · rw [if_neg h3, if_neg h3]
      exact ih n' (k + 1) (by omega) (by omega)
theorem c_letterOf : fX4_letterOf a = some (oI (fnC (fun z => aCh 2 (nI z)) a 6 0)) := by
  obtain ⟨fu, hfu, hfu2⟩ := fuel_g
  unfold fX4_letterOf
  rw [hfu]
  exact c_letter_l 6 fu 0 (by omega) (by omega)
theorem c_kind_l : ∀ d n k, k + d = 6 → d < n → fX5_kindOf_2 n a (nI k) = some (oI (fnC (fun z => aCh 3 (nI z)) a d k)) := by
  have e14 : aLen.getD 3 0 = 6 := by decide +kernel
  intro d
  induction d with
  | zero =>
    intro n k h1 h2
    obtain ⟨n', rfl⟩ : ∃ n', n = n' + 1 := ⟨n - 1, by omega⟩
    rw [fX5_kindOf_2, if_pos (show (6 : Int32) ≤ nI k by rw [q6]; exact nI_le (by omega) (by omega))]
    rfl
  | succ d ih =>
    intro n k h1 h2
    obtain ⟨n', rfl⟩ : ∃ n', n = n' + 1 := ⟨n - 1, by omega⟩
    rw [fX5_kindOf_2, if_neg (show ¬ (6 : Int32) ≤ nI k by rw [q6]; exact nI_ge (by omega) (by omega)), chr_at (by omega) (by omega), mz_b1, nI_1, fnC]
    by_cases h3 : aCh 3 (nI k) = a
    · rw [if_pos h3, if_pos h3]
      rfl
    · rw [if_neg h3, if_neg h3]
      exact ih n' (k + 1) (by omega) (by omega)
theorem c_kindOf : fX5_kindOf a = some (oI (fnC (fun z => aCh 3 (nI z)) a 6 0)) := by
  obtain ⟨fu, hfu, hfu2⟩ := fuel_g
  unfold fX5_kindOf
  rw [hfu]
  exact c_kind_l 6 fu 0 (by omega) (by omega)
theorem str_len : ∀ s, s < 8 → fJ0_length_8abf5 s = some (nI (aLen.getD s 0)) ∧ aLen.getD s 0 < 100 := by decide +kernel
theorem m_spot_l (hs : s < 8) : ∀ d n k, k + d = aLen.getD s 0 → d < n → fX12_spotOf_2 s n a (nI k) = some (oI (fnC (fun z => aCh s (nI z)) a d k)) := by
  obtain ⟨e1, e2⟩ := str_len s hs
  intro d
  induction d with
  | zero =>
    intro n k h1 h2
    obtain ⟨n', rfl⟩ : ∃ n', n = n' + 1 := ⟨n - 1, by omega⟩
    rw [fX12_spotOf_2, e1, mz_b1, if_pos (nI_le (by omega) (by omega))]
    rfl
  | succ d ih =>
    intro n k h1 h2
    obtain ⟨n', rfl⟩ : ∃ n', n = n' + 1 := ⟨n - 1, by omega⟩
    rw [fX12_spotOf_2, e1, mz_b1, if_neg (nI_ge (by omega) (by omega)), chr_at (by omega) (by omega), mz_b1, nI_1, fnC]
    by_cases h3 : aCh s (nI k) = a
    · rw [if_pos h3, if_pos h3]
      rfl
    · rw [if_neg h3, if_neg h3]
      exact ih n' (k + 1) (by omega) (by omega)
theorem m_spotOf (hs : s < 8) : fX12_spotOf s a = some (oI (fnC (fun z => aCh s (nI z)) a (aLen.getD s 0) 0)) := by
  obtain ⟨e1, e2⟩ := str_len s hs
  obtain ⟨fu, hfu, hfu2⟩ := fuel_g
  unfold fX12_spotOf
  rw [hfu]
  exact m_spot_l hs (aLen.getD s 0) fu 0 (by omega) (by omega)
theorem m_among_l (hs : s < 8) : ∀ d n k, k + d = aLen.getD s 0 → d < n → fX12_isAmong_2 s n a (nI k) = some (if (fnC (fun z => aCh s (nI z)) a d k).isSome = true then 1 else 0) := by
  obtain ⟨e1, e2⟩ := str_len s hs
  intro d
  induction d with
  | zero =>
    intro n k h1 h2
    obtain ⟨n', rfl⟩ : ∃ n', n = n' + 1 := ⟨n - 1, by omega⟩
    rw [fX12_isAmong_2, e1, mz_b1, if_pos (nI_le (by omega) (by omega))]
    rfl
  | succ d ih =>
    intro n k h1 h2
    obtain ⟨n', rfl⟩ : ∃ n', n = n' + 1 := ⟨n - 1, by omega⟩
    rw [fX12_isAmong_2, e1, mz_b1, if_neg (nI_ge (by omega) (by omega)), chr_at (by omega) (by omega), mz_b1, nI_1, fnC]
    by_cases h3 : aCh s (nI k) = a
    · rw [if_pos h3, if_pos h3]
      rfl
    · rw [if_neg h3, if_neg h3]
      exact ih n' (k + 1) (by omega) (by omega)
theorem m_isAmong (hs : s < 8) : fX12_isAmong s a = some (if (fnC (fun z => aCh s (nI z)) a (aLen.getD s 0) 0).isSome = true then 1 else 0) := by
  obtain ⟨e1, e2⟩ := str_len s hs
  obtain ⟨fu, hfu, hfu2⟩ := fuel_g
  unfold fX12_isAmong
  rw [hfu]
  exact m_among_l hs (aLen.getD s 0) fu 0 (by omega) (by omega)
/-! the model's text -/
theorem bS_eq : ∀ t, t < 256 → ∀ c, c < 128 → (bS t = nI c ↔ t = c) := by
  intro t ht c hc
  by_cases h : t < 128
  · rw [bS_lo t h]
    exact nI_eq (by omega) (by omega)
  · have := bS_hi t ht (by omega)
    refine ⟨fun e => ?_, fun e => by omega⟩
    rw [e, q0, mz_ltp (by omega) (by omega)] at this
    omega
theorem m_look_l (hT : OkT T L) (h : TxM T L B w Y rv) : ∀ n p, p ≤ L → L - p < n → fX12_look_0 n (mP Y p) rv = some (ch T L (skp T L p), mP Y (skp T L p)) := by
  have hL := hT.1
  obtain ⟨h1, h2, h3, h4, h5, h6⟩ := h
  have hb : bLen w ≤ 960 := by unfold bLen; split <;> omega
  intro n
  induction n with
  | zero => intro p g1 g2; omega
  | succ n ih =>
    intro p g1 g2
    rw [fX12_look_0, mP_at, mP_n (by omega), mP_n (by omega), h1, h2, h3, mP_r (by omega)]
    unfold fX12_look_43
    rw [mP_at, mP_n (by omega), mP_n (by omega), h1, h2, h3, mP_r (by omega)]
    by_cases g3 : p = L
    · rw [if_pos (nI_le (by omega) (by omega)), if_pos (nI_le (by omega) (by omega)), skp_n (by omega), ch_out (by omega)]
      rfl
    · have hp : p < L := by omega
      have ht := hT.2 p hp
      rw [if_neg (nI_ge (by omega) (by omega)), if_neg (nI_ge (by omega) (by omega)), nI_add, if_pos (mz_in (by omega) (by omega)), if_pos (mz_in (by omega) (by omega)), nI_clamp (by omega), h6 p hp]
      by_cases g4 : T p = 32
      · rw [if_pos (show bS (T p) = 32 by rw [g4]; decide), mz_lt, nI_1, mP_2, skp_b ⟨hp, g4⟩]
        exact ih (p + 1) (by omega) (by omega)
      · rw [if_neg (show ¬ bS (T p) = 32 from fun e => g4 ((bS_eq _ (by omega) 32 (by omega)).mp e)), skp_n (fun e => g4 e.2), ch_in hp, bS_and _ (by omega)]
theorem m_look (hT : OkT T L) (h : TxM T L B w Y rv) (hp : p ≤ L) : fX12_look (mP Y p) rv = some (ch T L (skp T L p), mP Y (skp T L p)) := by
  have hL := hT.1
  obtain ⟨fu, hfu, hfu2⟩ := fuel_g
  unfold fX12_look
  rw [hfu]
  exact m_look_l hT h fu p hp (by omega)
theorem m_isDigit (hT : OkT T L) (h : TxM T L B w Y rv) (hp : p ≤ L) : fX12_isDigit (mP Y p) rv = some (if dgt T L p = true then 1 else 0) := by
  have hL := hT.1
  obtain ⟨h1, h2, h3, h4, h5, h6⟩ := h
  have hb : bLen w ≤ 960 := by unfold bLen; split <;> omega
  unfold fX12_isDigit
  rw [mP_at, mP_n (by omega), mP_n (by omega), h1, h2, h3, mP_r (by omega)]
  by_cases g3 : p = L
  · have hd : dgt T L p = false := decide_eq_false (by omega)
    rw [if_pos (nI_le (by omega) (by omega)), hd]
    rfl
  · have hp : p < L := by omega
    have ht := hT.2 p hp
    rw [if_neg (nI_ge (by omega) (by omega)), nI_add, if_pos (mz_in (by omega) (by omega)), if_pos (mz_in (by omega) (by omega)), nI_clamp (by omega), h6 p hp]
    by_cases g0 : 128 ≤ T p
    · have hd : dgt T L p = false := decide_eq_false (by omega)
      have hh := bS_hi _ ht.2 g0
      rw [if_pos (show bS (T p) < 48 from Int32.lt_trans hh (by decide)), hd]
      rfl
    · rw [bS_lo _ (by omega)]
      by_cases g4 : T p < 48
      · have hd : dgt T L p = false := decide_eq_false (by omega)
        rw [if_pos (show nI (T p) < 48 by rw [q48, mz_ltp (by omega) (by omega)]; exact g4), hd]
        rfl
      · rw [if_neg (show ¬ nI (T p) < 48 by rw [q48, mz_ltp (by omega) (by omega)]; exact g4)]
        by_cases g5 : 57 < T p
        · have hd : dgt T L p = false := decide_eq_false (by omega)
          rw [if_pos (show (57 : Int32) < nI (T p) by rw [q57, mz_ltp (by omega) (by omega)]; exact g5), hd]
          rfl
        · have hd : dgt T L p = true := decide_eq_true (by omega)
          rw [if_neg (show ¬ (57 : Int32) < nI (T p) by rw [q57, mz_ltp (by omega) (by omega)]; exact g5), hd]
          rfl
/-- the model at a fault -/
def mF (Y : Tb) (p : Nat) : Tb := u2 (mP Y p) 50 11 (nI p)
theorem m_fails (h : Y 50 11 = NN) : fX12_fails (mP Y p) = some (0, mF Y p) := by
  unfold fX12_fails
  rw [mP_n (by omega), h, if_pos qN1.symm, mz_lt, mP_at]
  rfl
theorem mF_11 : mF Y p 50 11 = nI p := u2e _ _ _ _
theorem m_fails2 (h : ¬ Y 50 11 = NN) : fX12_fails Y = some (0, Y) := by
  unfold fX12_fails
  rw [if_neg (by rw [qN1]; exact h)]
theorem m_takes (hT : OkT T L) (h : TxM T L B w Y rv) (h11 : Y 50 11 = NN) (hp : p ≤ L) (hc : c < 2 ^ 31) : fX12_takes (nI c) (mP Y p) rv = if ch T L (skp T L p) = nI c then some (1, mP Y (skp T L p + 1)) else some (0, mF Y (skp T L p)) := by
  have n0 : narrow .boolean (.int 0) = .int 0 := by decide +kernel
  unfold fX12_takes fX12_takes_16
  rw [mP_n (by omega), h11, if_pos qN1.symm, m_look hT h hp, mz_b2, mP_at, q1, nI_add, mP_2, m_fails h11, mz_b2, if_pos n0, mz_lt]
theorem m_takes2 (h11 : ¬ Y 50 11 = NN) : fX12_takes a Y rv = some (0, Y) := by
  have n0 : narrow .boolean (.int 0) = .int 0 := by decide +kernel
  unfold fX12_takes fX12_takes_16
  rw [if_neg (by rw [qN1]; exact h11), m_fails2 h11, mz_b2, if_pos n0]
end TX
