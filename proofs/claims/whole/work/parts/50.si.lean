/-! scene, log, acts and image together -/
def ImR (K : Nat → Nat → Nat) (b : Nat) (i j : Tb) : Prop := (i 25 6 = nI 0 ∧ j 50 57 = nI 0) ∨ (i 25 6 = nI 1 ∧ j 50 57 = nI 1 ∧ ∃ ρ, OkS K b ρ ∧ ScC ρ (i 28) ∧ ScM K ρ (j 72) ∧ LgM (i 29) (ρ 55) (j 72))
def SI (K : Nat → Nat → Nat) (W : Option ((Nat → Nat) → Int)) (b : Nat) (σ : Nat → Nat) (i j : Tb) (rv : Nat → Nat → Option Nat) : Prop := WC K W σ i rv ∧ OkS K b σ ∧ CarM K j ∧ ScM K σ (j 63) ∧ LawM W j ∧ LgM (i 27) (σ 55) (j 63) ∧ (∃ ac nx us, UnR K b (σ 55) i j ac nx us) ∧ ImR K b i j
section SIS
variable {i i' i1 i2 i3 j j' j1 j2 : Tb} {rv rv' : Nat → Nat → Option Nat} {W : Option ((Nat → Nat) → Int)} {K g : Nat → Nat → Nat} {σ τ σ' : Nat → Nat} {q p o k b b' t w w0 v n r z c s re x ac nx B B' : Nat} {l l5 : List Nat} {d d' : Nat → Int32} {us : Nat → Nat → Nat}
theorem LawC_rv (h : LawC W i rv) (hr : RvM rv rv') : LawC W i rv' := by
  have e : rv' 23 2 = rv 23 2 := by
    rcases hr with rfl | rfl
    · rfl
    · exact congrFun (u2r _ _ _ _ _ (by omega)) 2
  unfold LawC at h ⊢
  rw [e]
  exact h
theorem FrL_rv (h : FrL l rv i i') (e : rv' 23 2 = rv 23 2) : FrL l rv' i i' := fun q k h1 h2 => h q k h1 (fun a ha => h2 a (by rw [e]; exact ha))
theorem SI_rv (h : SI K W b σ i j rv) (hr : RvM rv rv') : SI K W b σ i j rv' := by
  obtain ⟨⟨h1, h2, h3⟩, h4⟩ := h
  exact ⟨⟨h1, h2, LawC_rv h3 hr⟩, h4⟩
theorem SI_WM (h : SI K W b σ i j rv) : WM K W σ j := ⟨h.2.2.1, h.2.2.2.1, h.2.2.2.2.1, min 60 (σ 55), by omega, h.2.2.2.2.2.1.1⟩
theorem ImR_f (h : ImR K b i j) (hbb : b ≤ b') (e1 : i' 25 6 = i 25 6) (e2 : i' 28 = i 28) (e3 : i' 29 = i 29) (e4 : j' 50 57 = j 50 57) (e5 : j' 72 = j 72) : ImR K b' i' j' := by
  unfold ImR at h ⊢
  rw [e1, e2, e3, e4, e5]
  rcases h with h | ⟨h1, h2, ρ, h3, h4⟩
  · exact Or.inl h
  · exact Or.inr ⟨h1, h2, ρ, OkS_up h3 hbb, h4⟩
theorem UnR_f (h : UnR K b B i j ac nx us) (hbb : b ≤ b') (e1 : i' 25 5 = i 25 5) (e1' : i' 25 4 = i 25 4) (e2 : ∀ r c, r < 41 → r ≠ nx → c < 56 → i' 26 (56 * r + c) = i 26 (56 * r + c)) (e3 : i' 27 = i 27) (e4 : j' 50 42 = j 50 42) (e5 : j' 65 = j 65) : UnR K b' B i' j' ac nx us := by
  obtain ⟨h1, h2, h3, h4, h5, h6⟩ := h
  refine ⟨h1, h2, by rw [e1]; exact h3, by rw [e1']; exact h4, by rw [e4]; exact h5, fun x hx => ?_⟩
  obtain ⟨g1, g2, g3, g4, g5, g6⟩ := h6 x hx
  rw [e3, e5]
  refine ⟨OkS_up g1 hbb, fun c hc => ?_, g3, g4, g5, g6⟩
  rw [e2 _ c (by omega) (by omega) hc]
  exact g2 c hc
/-- the frame of a question: nothing of the scene, the log, the acts, the image is touched -/
theorem SI_f (h : SI K W b σ i j rv) (hf : FrL l rv i i') (hl : ∀ x, x ∈ l → x ≠ 20 ∧ x ≠ 25 ∧ x ≠ 26 ∧ x ≠ 27 ∧ x ≠ 28 ∧ x ≠ 29 ∧ 18 < x ∧ x < 74) (hf' : Fr l5 j j') (h5 : F5 (0 :: l41 ++ [44, 45, 53, 54]) j j') (hl5 : 52 ∉ l5 ∧ 53 ∉ l5 ∧ 55 ∉ l5 ∧ 57 ∉ l5 ∧ 59 ∉ l5 ∧ 63 ∉ l5 ∧ 65 ∉ l5 ∧ 72 ∉ l5) : SI K W b σ i' j' rv := by
  obtain ⟨hw, h1, h2, h3, h4, h6, ⟨ac, nx, us, h7⟩, h8⟩ := h
  have row : ∀ q, 18 < q → q < 74 → q ∉ l → i' q = i q := fun q h1 h2 h3 => FrL_row hw.2.2 hf h3 (by omega) (by omega) h2
  have nl : ∀ q, (q = 20 ∨ q = 25 ∨ q = 26 ∨ q = 27 ∨ q = 28 ∨ q = 29) → q ∉ l := fun q hq h => by have := hl q h; omega
  refine ⟨⟨CarC_L hw.1 hw.2.2 hf (fun q h1 h2 h3 => by have := hl q h3; omega), ?_, FrL_law hw.2.2 hf (fun x hx => by have := hl x hx; omega)⟩, h1, CarM_f h2 hf' h5 hl5.2.2.1 hl5.2.2.2.1 hl5.2.2.2.2.1 (by decide) (by decide) (by decide), ?_, LawM_f h4 hf' h5 hl5.1 hl5.2.1 (by decide), ?_, ⟨ac, nx, us, UnR_f h7 (Nat.le_refl _) ?_ ?_ (fun r c _ _ _ => ?_) ?_ (h5 _ (by decide)) (hf' _ hl5.2.2.2.2.2.2.1)⟩, ImR_f h8 (Nat.le_refl _) ?_ ?_ ?_ (h5 _ (by decide)) (hf' _ hl5.2.2.2.2.2.2.2)⟩
  · rw [row 20 (by omega) (by omega) (nl 20 (by omega))]; exact hw.2.1
  · rw [hf' 63 hl5.2.2.2.2.2.1]; exact h3
  · rw [row 27 (by omega) (by omega) (nl 27 (by omega)), hf' 63 hl5.2.2.2.2.2.1]; exact h6
  · rw [row 25 (by omega) (by omega) (nl 25 (by omega))]
  · rw [row 25 (by omega) (by omega) (nl 25 (by omega))]
  · rw [row 26 (by omega) (by omega) (nl 26 (by omega))]
  · rw [row 27 (by omega) (by omega) (nl 27 (by omega))]
  · rw [row 25 (by omega) (by omega) (nl 25 (by omega))]
  · rw [row 28 (by omega) (by omega) (nl 28 (by omega))]
  · rw [row 29 (by omega) (by omega) (nl 29 (by omega))]
/-- the scene noted, nothing kept -/
theorem SI_note (h : SI K W b σ i j rv) (h7 : UnR K b (σ 55) i j ac nx us) : SI K W b σ (cp2 i (i 20) 0 26 (nx * 56) 56) j rv ∧ Fr [26] i (cp2 i (i 20) 0 26 (nx * 56) 56) ∧ UnR K b (σ 55) (cp2 i (i 20) 0 26 (nx * 56) 56) j ac nx us := by
  have hfr : Fr [26] i (cp2 i (i 20) 0 26 (nx * 56) 56) := fun q hq => cp2r _ _ _ _ _ _ _ (fun e => hq (by simp [e]))
  have e26 : cp2 i (i 20) 0 26 (nx * 56) 56 26 = va_cpy (i 20) (i 26) 0 (nx * 56) 56 := cp2s _ _ _ _ _ _
  have hU : UnR K b (σ 55) (cp2 i (i 20) 0 26 (nx * 56) 56) j ac nx us := UnR_f h7 (Nat.le_refl _) (by rw [hfr 25 (by decide)]) (by rw [hfr 25 (by decide)]) (fun r c hr hne hc => by
    rw [e26, pk_cpy_out]
    omega) (by rw [hfr 27 (by decide)]) rfl rfl
  obtain ⟨hw, h1, h2, h3, h4, h6, _, h8⟩ := h
  refine ⟨⟨⟨CarC_L hw.1 hw.2.2 (FrL_f hfr) (fun q h1 h2 h3 => by simp at h3; omega), ?_, FrL_law hw.2.2 (FrL_f hfr) (by decide)⟩, h1, h2, h3, h4, ?_, ⟨ac, nx, us, hU⟩, ImR_f h8 (Nat.le_refl _) ?_ ?_ ?_ rfl rfl⟩, hfr, hU⟩
  · rw [hfr 20 (by decide)]; exact hw.2.1
  · rw [hfr 27 (by decide)]; exact h6
  · rw [hfr 25 (by decide)]
  · rw [hfr 28 (by decide)]
  · rw [hfr 29 (by decide)]
/-- an act done and kept, on both sides -/
theorem SI_push {i3 j3 : Tb} (hK : OkK K) (h : SI K W b σ i j rv) (h7 : UnR K b (σ 55) i j ac nx us) (hbb : b ≤ b') (hok : OkS K b' σ')
    (hf : FrL [20, 23, 24, 25, 26, 27] rv i i3) (hs : ScC σ' (i3 20)) (e26 : i3 26 = va_cpy (i 20) (i 26) 0 (nx * 56) 56) (e4 : i3 25 4 = nI ((nx + 1) % 41)) (e5 : i3 25 5 = nI (min 40 (ac + 1))) (e6 : i3 25 6 = i 25 6) (e27 : (σ' 55 = σ 55 ∧ i3 27 = i 27) ∨ ∃ a0 a1 a2 a3, i3 27 = dyU (i 27) (σ 55) a0 a1 a2 a3 ∧ σ' 55 = σ 55 + 1)
    (hf' : Fr [50, 54, 63, 65] j j3) (hf5 : F5 (0 :: 42 :: l41) j j3) (hs' : ScM K σ' (j3 63)) (hl' : LgM (i3 27) (σ' 55) (j3 63))
    (f42 : j3 50 42 = nI (min 40 (ac + 1))) (fn : ∀ c, c < 296 → j3 65 (296 * (min 40 (ac + 1) - 1) + c) = j 63 c) (fo : ∀ x c, x < min 40 (ac + 1) - 1 → c < 296 → j3 65 (296 * x + c) = j 65 (296 * (if ac = 40 then x + 1 else x) + c)) :
    SI K W b' σ' i3 j3 rv := by
  obtain ⟨hw, h1, h2, h3, h4, h6, _, h8⟩ := h
  have row : ∀ q, q < 74 → q ∉ [20, 23, 24, 25, 26, 27] → q ≠ 6 → q ≠ 8 → i3 q = i q := fun q h1 h2 h3 h4 => FrL_row hw.2.2 hf h2 h3 h4 h1
  refine ⟨⟨CarC_L hw.1 hw.2.2 hf (fun q h1 h2 h3 => by simp at h3; omega), hs, FrL_law hw.2.2 hf (by decide)⟩, hok, CarM_f h2 hf' hf5 (by decide) (by decide) (by decide) (by decide) (by decide) (by decide), hs', LawM_f h4 hf' hf5 (by decide) (by decide) (by decide), hl', ?_, ImR_f h8 hbb e6 (row 28 (by omega) (by decide) (by omega) (by omega)) (row 29 (by omega) (by decide) (by omega) (by omega)) (hf5 _ (by decide)) (hf' _ (by decide))⟩
  obtain ⟨us', hu⟩ := UnR_push (i3 := i3) (j3 := j3) h7 hbb hw.2.1 (OkS_up h1 hbb) h3 h6 rfl (B' := σ' 55) (by rcases e27 with ⟨e, _⟩ | ⟨_, _, _, _, _, e⟩ <;> omega) hK e26 e4 e5 e27 f42 fn fo
  exact ⟨_, _, us', hu⟩
end SIS
