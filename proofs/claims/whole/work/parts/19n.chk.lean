/-- Preconditions.checkIndex -/
theorem okJ3_check {l : Launch} {h : aHp} {x n : Int32} {v : Value} (hv : v = .null ∨ v = .ref 5) (h0 : ¬ x < 0) (hn : x < n) : aM l yJ3_checkIndex_8e157 cJ3_checkIndex_8e157 3 (some .int) 0 [.int x, .int n, v] h (some (.int x)) h := by
  refine aM_of (by decide) ?_ (Nat.le_refl _) (Nat.le_refl _) (fun p e s m args below meth c D cA A ad0 hX hr hlk hnm => ?_)
  · rcases hv with rfl | rfl <;> exact Nat.le_of_ble_eq_true rfl
  · have hE : aEnt [.int x, .int n, v] 3 = [some (.int x), some (.int n), some v] := by rcases hv with rfl | rfl <;> rfl
    rw [hE]
    refine j_iload_n hX dJ3_checkIndex_8e157_0 rfl ?_
    refine j_if_lt (tgt := 9) hX dJ3_checkIndex_8e157_1 (by decide) (fun hc => absurd hc h0) (fun hc => ?_)
    refine j_iload_n hX dJ3_checkIndex_8e157_4 rfl ?_
    refine j_iload_n hX dJ3_checkIndex_8e157_5 rfl ?_
    refine j_icmp_lt (tgt := 16) hX dJ3_checkIndex_8e157_6 (by decide) (fun hc => ?_) (fun hc => absurd hn hc)
    refine j_iload_n hX dJ3_checkIndex_8e157_16 rfl ?_
    exact j_ret hX hr hlk rfl dJ3_checkIndex_8e157_17
/-- String.checkIndex -/
theorem okJ0_check {l : Launch} {h : aHp} {x n : Int32} (h0 : ¬ x < 0) (hn : x < n) : aM l yJ0_checkIndex_df160 cJ0_checkIndex_df160 2 none 1 [.int x, .int n] h none h := by
  refine aM_of (by decide) (Nat.le_of_ble_eq_true rfl) (Nat.le_refl _) (Nat.le_refl _) (fun p e s m args below meth c D cA A ad0 hX hr hlk hnm => ?_)
  refine j_iload_n hX dJ0_checkIndex_df160_0 rfl ?_
  refine j_iload_n hX dJ0_checkIndex_df160_1 rfl ?_
  refine j_getsQ hX fk_J0_1053 dJ0_checkIndex_df160_2 ?_ ?_
  · refine j_cS3i hX lk_J0_1059 dJ0_checkIndex_df160_5 (okJ3_check (Or.inl rfl) h0 hn) rfl rfl ⟨Nat.le_of_ble_eq_true rfl, Nat.le_of_ble_eq_true rfl⟩ (Nat.le_of_ble_eq_true rfl) (Nat.le_add_right _ _) (Nat.le_add_right _ _) ?_
    refine j_pop hX dJ0_checkIndex_df160_8 rfl ?_
    exact j_vret hX hr hlk dJ0_checkIndex_df160_9
  · refine j_cS3i hX lk_J0_1059 dJ0_checkIndex_df160_5 (okJ3_check (Or.inr rfl) h0 hn) rfl rfl ⟨Nat.le_of_ble_eq_true rfl, Nat.le_of_ble_eq_true rfl⟩ (Nat.le_of_ble_eq_true rfl) (Nat.le_add_right _ _) (Nat.le_add_right _ _) ?_
    refine j_pop hX dJ0_checkIndex_df160_8 rfl ?_
    exact j_vret hX hr hlk dJ0_checkIndex_df160_9
/-- the char at a place of a constant -/
def aCh (j : Nat) (x : Int32) : Int32 := (((aStr.getD j []).getD x.toNatClampNeg 0 &&& 255).toUInt32 % 65536).toInt32
theorem aLen_lt (j : Nat) : aLen.getD j 0 < 2 ^ 31 := by
  have : ∀ n ∈ aLen, n < 2 ^ 31 := by decide
  by_cases hj : j < aLen.length
  · have e : aLen.getD j 0 = aLen[j] := by simp [List.getD, hj]
    rw [e]; exact this _ (List.getElem_mem hj)
  · have e : aLen.getD j 0 = 0 := by simp [List.getD, List.getElem?_eq_none (Nat.le_of_not_lt hj)]
    rw [e]; decide
theorem aIn_lt {x : Int32} {n : Nat} (hn : n < 2 ^ 31) (h : aIn x n = true) : ¬ x < 0 ∧ x < nI n := by
  obtain ⟨j, hj, rfl⟩ := vp_in_of (aIn_vp h) hn
  exact ⟨nI_pos (by omega), nI_lt hj hn⟩
/-- StringLatin1.charAt -/
theorem okJ1_char {l : Launch} {h : aHp} {j : Nat} {x : Int32} (hj : j < 8) (hx : aIn x (aLen.getD j 0) = true) : aM l yJ1_charAt_3b067 cJ1_charAt_3b067 2 (some .char) 2 [.ref (30 + j), .int x] h (some (.int (aCh j x))) h := by
  obtain ⟨h0, hn⟩ := aIn_lt (aLen_lt j) hx
  refine aM_of (by decide) (Nat.le_of_ble_eq_true rfl) (Nat.le_refl _) (Nat.le_refl _) (fun p e s m args below meth c D cA A ad0 hX hr hlk hnm => ?_)
  refine j_iload_n hX dJ1_charAt_3b067_0 rfl ?_
  refine j_aload_n hX dJ1_charAt_3b067_1 rfl ?_
  refine j_slen hX hj dJ1_charAt_3b067_2 ?_
  refine j_cS2v hX lk_J1_9 dJ1_charAt_3b067_3 (okJ0_check h0 hn) rfl rfl ⟨Nat.le_of_ble_eq_true rfl, Nat.le_of_ble_eq_true rfl⟩ (Nat.le_of_ble_eq_true rfl) (Nat.le_add_right _ _) (Nat.le_add_right _ _) ?_
  refine j_aload_n hX dJ1_charAt_3b067_6 rfl ?_
  refine j_iload_n hX dJ1_charAt_3b067_7 rfl ?_
  refine j_sbald hX hj hx dJ1_charAt_3b067_8 ?_
  refine j_sipush hX dJ1_charAt_3b067_9 sp_255 ?_
  refine j_iand hX dJ1_charAt_3b067_12 ?_
  refine j_i2c hX dJ1_charAt_3b067_13 ?_
  exact j_ret hX hr hlk (pk_nc _) dJ1_charAt_3b067_14
/-- String.isLatin1 -/
theorem okJ0_lat {l : Launch} {h : aHp} {j : Nat} (hj : j < 8) : aM l yJ0_isLatin1_aae02 cJ0_isLatin1_aae02 1 (some .boolean) 0 [.ref (10 + j)] h (some (.int 1)) h := by
  refine aM_of (by decide) (Nat.le_of_ble_eq_true rfl) (Nat.le_refl _) (Nat.le_refl _) (fun p e s m args below meth c D cA A ad0 hX hr hlk hnm => ?_)
  refine j_getsC hX fk_J0_38 dJ0_isLatin1_aae02_0 ?_
  refine j_if_eq (tgt := 17) hX dJ0_isLatin1_aae02_3 (by decide) (fun hc => absurd hc (by decide)) (fun hc => ?_)
  refine j_aload_n hX dJ0_isLatin1_aae02_6 rfl ?_
  refine j_scod hX hj fk_J0_15 dJ0_isLatin1_aae02_7 ?_
  refine j_if_ne (tgt := 17) hX dJ0_isLatin1_aae02_10 (by decide) (fun hc => absurd rfl hc) (fun hc => ?_)
  refine j_iconst hX dJ0_isLatin1_aae02_13 ic_1 ?_
  refine j_goto (tgt := 18) hX dJ0_isLatin1_aae02_14 (by decide) ?_
  exact j_ret hX hr hlk rfl dJ0_isLatin1_aae02_18
def fJ0_charAt_5068e (j : Nat) (x : Int32) : Option Int32 := if aIn x (aLen.getD j 0) = true then some (aCh j x) else none
/-- String.charAt -/
theorem okJ0_charAt_5068e {l : Launch} {sh : List aSh} {i : Nat → Nat → Int32} {lo : Nat → Nat → Int64} {rv : Nat → Nat → Option Nat} {j0 : Nat} {a1 vR : Int32} (hG : aGood sh rv) (hj : j0 < 8) (hf : fJ0_charAt_5068e j0 a1 = some vR) : aM l yJ0_charAt_5068e cJ0_charAt_5068e 2 (some .char) 3 [.ref (10 + j0), .int a1] (sh, i, lo, rv) (some (.int vR)) (sh, i, lo, rv) := by
  unfold fJ0_charAt_5068e at hf
  obtain ⟨hx, hf⟩ := gd hf
  cases hf
  refine aM_of (by decide) (Nat.le_of_ble_eq_true rfl) (Nat.le_refl _) (Nat.le_refl _) (fun p e s m args below meth c D cA A ad0 hX hr hlk hnm => ?_)
  refine j_aload_n hX dJ0_charAt_5068e_0 rfl ?_
  refine j_cT0i hX lk_J0_492 rfl hj dJ0_charAt_5068e_1 (okJ0_lat hj) ⟨Nat.le_of_ble_eq_true rfl, Nat.le_of_ble_eq_true rfl⟩ (Nat.le_of_ble_eq_true rfl) (Nat.le_add_right _ _) (Nat.le_add_right _ _) ?_
  refine j_if_eq (tgt := 16) hX dJ0_charAt_5068e_4 (by decide) (fun hc => absurd hc (by decide)) (fun hc => ?_)
  refine j_aload_n hX dJ0_charAt_5068e_7 rfl ?_
  refine j_sval hX hj fk_J0_9 dJ0_charAt_5068e_8 ?_
  refine j_iload_n hX dJ0_charAt_5068e_11 rfl ?_
  refine j_cS2i hX lk_J0_495 dJ0_charAt_5068e_12 (okJ1_char hj hx) rfl rfl ⟨Nat.le_of_ble_eq_true rfl, Nat.le_of_ble_eq_true rfl⟩ (Nat.le_of_ble_eq_true rfl) (Nat.le_add_right _ _) (Nat.le_add_right _ _) ?_
  exact j_ret hX hr hlk (pk_nc _) dJ0_charAt_5068e_15
/-! what keeps the shape good -/
section GP
variable {sh : List aSh} {rv : Nat → Nat → Option Nat}
theorem gB_50_5 {w : Nat} (h : aGood sh rv) (hw : w = 51 ∨ w = 52) : 100 + w < 100 + sh.length := by
  have h1 := (List.getElem?_eq_some_iff.mp (sh_52 h)).1
  omega
theorem isLaw_u {q k a : Nat} {v : Option Nat} (hq : q ≠ a) (h : isLaw sh rv a) : isLaw sh (u2 rv q k v) a := by
  obtain ⟨h1, h2, h3, h4, h5⟩ := h
  exact ⟨h1, h2, h3, by rw [u2_ne _ _ (Or.inl (Ne.symm hq))]; exact h4, by rw [u2_ne _ _ (Or.inl (Ne.symm hq))]; exact h5⟩
theorem isLin_u {q k a : Nat} {v : Option Nat} (hq : q ≠ a) (h : isLin sh rv a) : isLin sh (u2 rv q k v) a := by
  obtain ⟨h1, h2, h3⟩ := h
  exact ⟨h1, h2, by rw [u2_ne _ _ (Or.inl (Ne.symm hq))]; exact h3⟩
theorem isLaw_ne {q a : Nat} {x : aSh} (hs : sh[q]? = some x) (hx : x ≠ .inr 4) (h : isLaw sh rv a) : q ≠ a := by
  intro e
  subst e
  rw [h.1] at hs
  exact hx (Option.some.inj hs).symm
theorem isLin_ne {q a : Nat} {x : aSh} (hs : sh[q]? = some x) (hx : x ≠ .inr 5) (h : isLin sh rv a) : q ≠ a := by
  intro e
  subst e
  rw [h.1] at hs
  exact hx (Option.some.inj hs).symm
theorem gP_50_5 {w : Nat} (h : aGood sh rv) (hw : w = 51 ∨ w = 52) : aGood sh (u2 rv 50 5 (some (100 + w))) := by
  have nL : ∀ a, isLaw sh rv a → 50 ≠ a := fun a ha => isLaw_ne (sh_50 h) (by decide) ha
  have nN : ∀ a, isLin sh rv a → 50 ≠ a := fun a ha => isLin_ne (sh_50 h) (by decide) ha
  have e1 : ∀ q j, q ≠ 50 → u2 rv 50 5 (some (100 + w)) q j = rv q j := fun q j hq => u2_ne _ _ (Or.inl hq)
  refine ⟨h.1, fun x hx => ?_, fun r hr => ?_, ?_, ?_, fun j r hr => ?_, fun j r hr => ?_, ?_⟩
  · by_cases hq : x.1 = 50 ∧ x.2.1 = 5
    · exfalso
      have : ∀ x ∈ RFL, ¬ (x.1 = 50 ∧ x.2.1 = 5) := by decide
      exact this x hx hq
    · rw [u2_ne _ _ (by omega)]
      exact h.2.1 x hx
  · rw [e1 23 2 (by decide)] at hr
    exact ⟨(h.2.2.1 r hr).1, isLaw_u (nL _ (h.2.2.1 r hr).2) (h.2.2.1 r hr).2⟩
  · rw [e1 3 2 (by decide)]
    exact ⟨h.2.2.2.1.1, isLaw_u (nL _ h.2.2.2.1.2) h.2.2.2.1.2⟩
  · rw [e1 3 3 (by decide)]
    exact ⟨h.2.2.2.2.1.1, isLin_u (nN _ h.2.2.2.2.1.2) h.2.2.2.2.1.2⟩
  · rw [e1 4 j (by decide)] at hr
    exact ⟨(h.2.2.2.2.2.1 j r hr).1, isLaw_u (nL _ (h.2.2.2.2.2.1 j r hr).2) (h.2.2.2.2.2.1 j r hr).2⟩
  · rw [e1 5 j (by decide)] at hr
    exact ⟨(h.2.2.2.2.2.2.1 j r hr).1, isLin_u (nN _ (h.2.2.2.2.2.2.1 j r hr).2) (h.2.2.2.2.2.2.1 j r hr).2⟩
  · rw [u2_same]
    rcases hw with rfl | rfl
    · exact Or.inl rfl
    · exact Or.inr rfl
end GP
