/-! a border goes into the log -/
/-- the class's diary with one entry more -/
def dyU (d : Nat → Int32) (n : Nat) (a0 a1 a2 a3 : Int32) : Nat → Int32 := fun k => if k = 4 * (n % 100) + 3 then a3 else if k = 4 * (n % 100) + 2 then a2 else if k = 4 * (n % 100) + 1 then a1 else if k = 4 * (n % 100) then a0 else d k
section LGS
variable {i i' j j' : Tb} {rv rv' : Nat → Nat → Option Nat} {W : Option ((Nat → Nat) → Int)} {K g : Nat → Nat → Nat} {σ τ : Nat → Nat} {q p o k b t w w0 v n r z c s re x : Nat} {l l5 : List Nat} {d d' : Nat → Int32} {a0 a1 a2 a3 : Int32}
theorem dyU_o (h : k < 4 * (n % 100) ∨ 4 * (n % 100) + 4 ≤ k) : dyU d n a0 a1 a2 a3 k = d k := by
  unfold dyU
  rw [if_neg (by omega), if_neg (by omega), if_neg (by omega), if_neg (by omega)]
/-- the model's row, with room for one entry: m entries, the latest of them number n - 1 -/
def LgH (d : Nat → Int32) (n m : Nat) (w : Nat → Int32) : Prop := w 55 = nI m ∧ ∀ a c, a < m → c < 4 → w (56 + 4 * (m - 1 - a) + c) = d (4 * ((n - 1 - a) % 100) + c)
theorem LgM_push {w0 w' : Nat → Int32} (h : LgH d n (min 59 n) w0) (e0 : w' 55 = nI (min 59 n + 1)) (ho : ∀ k, 56 ≤ k → k < 56 + 4 * min 59 n → w' k = w0 k) (h0 : w' (56 + 4 * min 59 n) = a0) (h1 : w' (56 + 4 * min 59 n + 1) = a1) (h2 : w' (56 + 4 * min 59 n + 2) = a2) (h3 : w' (56 + 4 * min 59 n + 3) = a3) : LgM (dyU d n a0 a1 a2 a3) (n + 1) w' := by
  have em : min 60 (n + 1) = min 59 n + 1 := by omega
  refine ⟨by rw [e0, em], fun a c ha hc => ?_⟩
  rw [em] at ha ⊢
  by_cases e : a = 0
  · subst e
    rw [show 56 + 4 * (min 59 n + 1 - 1 - 0) + c = 56 + 4 * min 59 n + c by omega, show n + 1 - 1 - 0 = n by omega]
    unfold dyU
    have hc4 : c = 0 ∨ c = 1 ∨ c = 2 ∨ c = 3 := by omega
    rcases hc4 with rfl | rfl | rfl | rfl
    · rw [if_neg (by omega), if_neg (by omega), if_neg (by omega), if_pos (by omega)]
      exact h0
    · rw [if_neg (by omega), if_neg (by omega), if_pos (by omega)]
      exact h1
    · rw [if_neg (by omega), if_pos (by omega)]
      exact h2
    · rw [if_pos (by omega)]
      exact h3
  · rw [ho _ (by omega) (by omega), show 56 + 4 * (min 59 n + 1 - 1 - a) + c = 56 + 4 * (min 59 n - 1 - (a - 1)) + c by omega, h.2 (a - 1) c (by omega) hc, show n + 1 - 1 - a = n - 1 - (a - 1) by omega]
    rw [dyU_o]
    omega
theorem q236 : (236 : Int32) = nI 236 := rfl
theorem m_shift_l (hw : w ≠ 50) (x2 : Int32) : ∀ n k j', 1 ≤ k → k ≤ 237 → 237 - k < n → Fr [w] j j' → (∀ z, z < 55 + k → z < 56 → j' w z = j w z) → (∀ z, 56 ≤ z → z < 55 + k → j' w z = j w (z + 4)) → (∀ z, 55 + k ≤ z → j' w z = j w z) →
    ∃ j'', fX12_goesBorder_17 w 296 n x2 (nI k) j' rv = fX12_goesBorder_52 w 296 x2 (u2 j'' w 55 (j'' w 55 - 1)) rv ∧ Fr [w] j j'' ∧ (∀ z, z < 56 → j'' w z = j w z) ∧ (∀ z, 56 ≤ z → z < 292 → j'' w z = j w (z + 4)) := by
  intro n
  induction n with
  | zero => intro k j' h1 h2 h3; omega
  | succ n ih =>
    intro k j' h1 h2 h3 hf c1 c2 c3
    rw [fX12_goesBorder_17]
    by_cases h4 : k = 237
    · have hh : (236 : Int32) < nI k := by rw [q236]; exact nI_lt (by omega) (by omega)
      have hin : aIn 55 296 = true := by rw [q55]; exact mz_in (by omega) (by omega)
      have hcl : (55 : Int32).toNatClampNeg = 55 := by rw [q55]; exact nI_clamp (by omega)
      rw [if_pos hh, if_pos hin, if_pos hin, mz_lt, hcl]
      exact ⟨j', rfl, hf, fun z hz => c1 z (by omega) hz, fun z hz hz2 => c2 z hz (by omega)⟩
    · have hh : ¬ (236 : Int32) < nI k := by rw [q236]; exact nI_nlt (by omega) (by omega)
      have e1 : (55 : Int32) + nI k = nI (55 + k) := by rw [q55, nI_add]
      have e2 : nI (55 + k) + (4 : Int32) = nI (55 + k + 4) := by rw [q4, nI_add]
      rw [if_neg hh, e1, e2, if_pos (mz_in (by omega) (by omega)), if_pos (mz_in (by omega) (by omega)), mz_lt, nI_clamp (by omega), nI_clamp (by omega), nI_1]
      refine ih (k + 1) _ (by omega) (by omega) (by omega) (Fr_t hf Fr_u) (fun z hz hz2 => ?_) (fun z hz hz2 => ?_) (fun z hz => ?_)
      · rw [u2n _ _ _ _ _ (by omega)]
        exact c1 z (by omega) hz2
      · by_cases e : z = 55 + k
        · subst e
          rw [u2e]
          exact c3 _ (by omega)
        · rw [u2n _ _ _ _ _ e]
          exact c2 z hz (by omega)
      · rw [u2n _ _ _ _ _ (by omega)]
        exact c3 z (by omega)
theorem m_write {m : Nat} (h : CarM K j) (hK : OkK K) (hw6 : w = 63 ∨ w = 64) (hm : m ≤ 59) (h55 : j w 55 = nI m) (x2 : Int32) {tens lost : Nat} (e37 : j 50 37 = nI tens) (e38 : j 50 38 = nI lost) (ht : tens < 100000) : ∃ j', fX12_goesBorder_52 w 296 x2 j rv = some (j', rv) ∧ Fr [w] j j' ∧ j' w 55 = nI (m + 1) ∧ (∀ z, z < 55 → j' w z = j w z) ∧ (∀ k, 56 ≤ k → k < 56 + 4 * m → j' w k = j w k) ∧ j' w (56 + 4 * m) = x2 ∧ j' w (56 + 4 * m + 1) = nI tens ∧ j' w (56 + 4 * m + 2) = (if tens ≤ 6 * K 1 0 then nI 0 else nI 1) ∧ j' w (56 + 4 * m + 3) = nI lost := by
  have e0 := h.2.2.2.1 0 (by omega)
  have hr := hK.2.2.2.2.2.1
  unfold fX12_goesBorder_52 fX12_goesBorder_95 fX12_isLate
  simp (disch := omega) only [q55, q56, q4, q1, q2, q3, q0, q6, nI_add, mz_mul, mz_in, nI_clamp, ↓reduceIte, h55]
  simp only [↓mz_lt]
  simp (disch := omega) only [nI_add, mz_in, nI_clamp, ↓reduceIte, u2r, u2n, e37, e38, e0, mz_mul, mz_le, h55]
  by_cases hl : tens ≤ 6 * K 1 0
  · rw [if_pos hl]
    simp (disch := omega) only [mz_b1, mz_eq, if_pos, if_neg, ↓reduceIte, u2r, u2n, u2e, h55, e38, nI_add]
    refine ⟨_, rfl, Fr_t Fr_u (Fr_t Fr_u (Fr_t Fr_u (Fr_t Fr_u Fr_u))), u2e _ _ _ _, fun z hz => ?_, fun z hz hz2 => ?_, ?_, ?_, ?_, ?_⟩ <;> simp (disch := omega) only [u2r, u2n, u2e]
  · rw [if_neg hl]
    simp (disch := omega) only [mz_b1, mz_eq, if_pos, if_neg, ↓reduceIte, u2r, u2n, u2e, h55, e38, nI_add]
    refine ⟨_, rfl, Fr_t Fr_u (Fr_t Fr_u (Fr_t Fr_u (Fr_t Fr_u Fr_u))), u2e _ _ _ _, fun z hz => ?_, fun z hz hz2 => ?_, ?_, ?_, ?_, ?_⟩ <;> simp (disch := omega) only [u2r, u2n, u2e]
/-- the scene behind a border, and its log -/
def bdS (K : Nat → Nat → Nat) (W : Option ((Nat → Nat) → Int)) (o : Nat) (σ : Nat → Nat) : Nat → Nat := up (up (sB K W o σ (K 0 5)) 54 (cB σ (K 0 5))) 55 (σ 55 + 1)
def bdD (K : Nat → Nat → Nat) (W : Option ((Nat → Nat) → Int)) (o : Nat) (σ : Nat → Nat) (d : Nat → Int32) : Nat → Int32 := dyU d (σ 55) (nI o) (nI (oB K o σ (K 0 5))) (if oB K o σ (K 0 5) ≤ 6 * K 1 0 then nI 0 else nI 1) (nI (lB K W o σ (K 0 5)))
theorem bdS_ok (hK : OkK K) (hb : OkS K b σ) : OkS K (b + 1) (bdS K W o σ) := by
  have h1 := sB_ok (W := W) (o := o) hK hb (K 0 5) (by omega)
  have h2 := hb.2.2.2.2.2.2.2.2.2
  exact OkS_bd hK (OkS_cof hK h1 (cB_le hb)) (by omega)
theorem bdS_55 : bdS K W o σ 55 = σ 55 + 1 := upe _ _ _
theorem M_goesn (h' : CarM K j) (hK : OkK K) (hb : OkS K b σ) (hb2 : b < 100000) (hw : ScM K σ (j w)) (hw6 : w = 63 ∨ w = 64) (hL : LawM W j) (ho : o < K 0 4) (hlg : LgM d n (j w)) : ∃ j' rv', fX12_goesBorder w 296 (nI o) j rv = some (j', rv') ∧ Fr [50, 54, w] j j' ∧ F5 l41 j j' ∧ RvM rv rv' ∧ ScM K (up (sB K W o σ (K 0 5)) 54 (cB σ (K 0 5))) (j' w) ∧ LgM (dyU d n (nI o) (nI (oB K o σ (K 0 5))) (if oB K o σ (K 0 5) ≤ 6 * K 1 0 then nI 0 else nI 1) (nI (lB K W o σ (K 0 5)))) (n + 1) (j' w) ∧ j' 50 37 = nI (oB K o σ (K 0 5)) := by
  obtain ⟨j1, rv1, e1, f1, f5, r1, s1, k1, a1, a2, a3⟩ := M_gob (rv := rv) h' hK hb hb2 hw hw6 hL ho
  have hov := oB_le hK hb ho (K 0 5) (by omega)
  have hoK := OkS_cof hK (sB_ok (W := W) (o := o) hK hb (K 0 5) (by omega)) (cB_le (z := K 0 5) hb)
  have hc1 : CarM K j1 := CarM_f h' f1 f5 (by simp; omega) (by simp; omega) (by simp; omega) (by decide) (by decide) (by decide)
  have hl1 : LgM d n (j1 w) := LgM_e hlg (fun k hk _ => k1 k hk)
  unfold fX12_goesBorder
  obtain ⟨fu, hfu, hfu2⟩ := fuel_g
  rw [hfu, e1, mz_b2]
  simp (disch := omega) only [q55, q60, mz_in, nI_clamp, ↓reduceIte, hl1.1, mz_eq]
  have fin : ∀ j2, Fr [w] j1 j2 → (∀ z, z < 55 → j2 w z = j1 w z) → LgH d n (min 59 n) (j2 w) → ∃ j' rv', fX12_goesBorder_52 w 296 (nI o) j2 rv1 = some (j', rv') ∧ Fr [50, 54, w] j j' ∧ F5 l41 j j' ∧ RvM rv rv' ∧ ScM K (up (sB K W o σ (K 0 5)) 54 (cB σ (K 0 5))) (j' w) ∧ LgM (dyU d n (nI o) (nI (oB K o σ (K 0 5))) (if oB K o σ (K 0 5) ≤ 6 * K 1 0 then nI 0 else nI 1) (nI (lB K W o σ (K 0 5)))) (n + 1) (j' w) ∧ j' 50 37 = nI (oB K o σ (K 0 5)) := by
    intro j2 f2 z2 hh
    have e50 : j2 50 = j1 50 := f2 50 (by simp; omega)
    obtain ⟨j3, g1, g2, g3, g4, g5, g6, g7, g8, g9⟩ := m_write (rv := rv1) (m := min 59 n) (w := w) (CarM_f hc1 f2 (l5 := []) (fun k _ => by rw [e50]) (by simp; omega) (by simp; omega) (by simp; omega) (by decide) (by decide) (by decide)) hK hw6 (by omega) hh.1 (nI o) (tens := oB K o σ (K 0 5)) (lost := lB K W o σ (K 0 5)) (by rw [e50]; exact a1) (by rw [e50]; exact a2) (by omega)
    have e503 : j3 50 = j1 50 := by rw [g2 50 (by simp; omega), e50]
    refine ⟨j3, rv1, g1, Fr_t f1 (Fr_t (Fr_w (by simp) f2) (Fr_w (by simp) g2)), fun k hk => by rw [e503]; exact f5 k hk, r1, ?_, LgM_push hh g3 (fun k hk hk2 => g5 k hk hk2) g6 g7 g8 g9, by rw [e503]; exact a1⟩
    refine ScM_e hK hoK s1 (fun k hk => ?_)
    by_cases e : k = 55
    · omega
    · rw [g4 k (by omega), z2 k (by omega)]
  by_cases h60 : min 60 n = 60
  · rw [if_pos h60]
    obtain ⟨j2, g1, g2, g3, g4⟩ := m_shift_l (j := j1) (rv := rv1) (w := w) (by omega) (nI o) fu 1 j1 (by omega) (by omega) (by omega) (Fr_r _ _) (fun _ _ _ => rfl) (fun z h1 h2 => by omega) (fun _ _ => rfl)
    rw [q1, g1]
    refine fin _ (Fr_t g2 Fr_u) (fun z hz => by rw [u2n _ _ _ _ _ (by omega), g3 z (by omega)]) ⟨?_, fun a c ha hc => ?_⟩
    · rw [u2e, g3 55 (by omega), hl1.1, q1, mz_sub (by omega)]
      congr 1
      omega
    · rw [u2n _ _ _ _ _ (by omega), g4 _ (by omega) (by omega), ← hl1.2 a c (by omega) hc]
      congr 1
      omega
  · rw [if_neg h60]
    refine fin j1 (Fr_r _ _) (fun _ _ => rfl) ⟨?_, fun a c ha hc => ?_⟩
    · rw [hl1.1]
      congr 1
      omega
    · rw [← hl1.2 a c (by omega) hc]
      congr 1
      omega
theorem M_goes (h' : CarM K j) (hK : OkK K) (hb : OkS K b σ) (hb2 : b < 100000) (hw : ScM K σ (j w)) (hw6 : w = 63 ∨ w = 64) (hL : LawM W j) (ho : o < K 0 4) (hlg : LgM d (σ 55) (j w)) : ∃ j' rv', fX12_goesBorder w 296 (nI o) j rv = some (j', rv') ∧ Fr [50, 54, w] j j' ∧ F5 l41 j j' ∧ RvM rv rv' ∧ ScM K (bdS K W o σ) (j' w) ∧ LgM (bdD K W o σ d) (σ 55 + 1) (j' w) ∧ j' 50 37 = nI (oB K o σ (K 0 5)) := by
  obtain ⟨j', rv', h1, h2, h3, h4, h5, h6, h7⟩ := M_goesn (rv := rv) h' hK hb hb2 hw hw6 hL ho hlg
  exact ⟨j', rv', h1, h2, h3, h4, ScM_bd hK h5, h6, h7⟩
/-! the class writes its diary -/
theorem C_write (hs : ScC σ (i 20)) (hb : OkS K b σ) (hb2 : b < 100000) : ∃ i', fX6_write 19 a0 a1 a2 a3 i = some i' ∧ ScC (up σ 55 (σ 55 + 1)) (i' 20) ∧ i' 27 = dyU (i 27) (σ 55) a0 a1 a2 a3 ∧ Fr [20, 27] i i' := by
  have h1 := hb.2.2.2.2.2.2.2.2.2
  have h7 : σ 55 % 100 < 100 := Nat.mod_lt _ (by omega)
  unfold fX6_write fX8_addBorder
  rw [s_borders (q := 19) hs, mz_b1]
  rw [show nI (σ 55) - nI (σ 55) / 100 * 100 = nI (σ 55 % 100) from mz_rem (a := σ 55) (b := 100) (by omega) (by omega)]
  simp (disch := omega) only [q4, q1, q2, q3, q55, mz_mul]
  simp only [↓mz_lt]
  simp (disch := omega) only [nI_add, mz_in, nI_clamp, ↓reduceIte, u2r, Nat.mul_comm (σ 55 % 100) 4, mz_b1]
  rw [hs 55 (by omega), nI_add]
  refine ⟨_, rfl, ?_, ?_, ?_⟩
  · refine ScC_u ?_ rfl
    simp (disch := omega) only [u2r]
    exact hs
  · rw [u2r _ _ _ _ _ (by omega)]
    funext k
    unfold dyU
    rw [u2s, u2s, u2s, u2s]
  · exact Fr_t (Fr_w (by decide) Fr_u) (Fr_t (Fr_w (by decide) Fr_u) (Fr_t (Fr_w (by decide) Fr_u) (Fr_t (Fr_w (by decide) Fr_u) (Fr_w (by decide) Fr_u))))
end LGS
