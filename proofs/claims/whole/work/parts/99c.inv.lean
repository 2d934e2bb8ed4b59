/-! what holds between two calls -/
def LwAt (i : Tb) (x a : Nat) (f : (Nat → Nat) → Int) : Prop := ∃ cs T' L', LawAt a cs i ∧ WorthOK cs f ∧ i 53 x = nI L' ∧ L' ≤ 240 ∧ (∀ k, k < L' → i 52 (240 * x + k) = bS (T' k)) ∧ TextOK T' L' f
/-- the laws and the lines that were told, and the two drafts behind them -/
def ShA (n m m' : Nat) (la li : Nat → Nat) (rv : Nat → Nat → Option Nat) : Prop := m ≤ 4 ∧ m' ≤ 4 ∧ 74 ≤ n ∧ (∀ x, x < m → rv 4 x = some (100 + la x)) ∧ (∀ x, x < m' → rv 5 x = some (100 + li x)) ∧ rv 3 2 = some (100 + la m) ∧ rv 3 3 = some (100 + li m') ∧ (∀ x, x ≤ m → (la x = 6 ∨ 74 ≤ la x) ∧ la x + 2 < n) ∧ (∀ x, x ≤ m' → (li x = 9 ∨ 74 ≤ li x) ∧ li x + 1 < n) ∧ (∀ x y, x < y → y ≤ m → la x + 2 < la y) ∧ (∀ x y, x < y → y ≤ m' → li x + 1 < li y) ∧ (∀ x y, x ≤ m → y ≤ m' → la x + 2 < li y ∨ li y + 1 < la x)
def ShB (m m' : Nat) (la li : Nat → Nat) (W : Option ((Nat → Nat) → Int)) (i : Tb) (rv : Nat → Nat → Option Nat) : Prop := i 3 4 = nI m ∧ i 50 7 = nI m ∧ i 3 5 = nI m' ∧ i 50 31 = nI m' ∧ (∀ x, x < m → ∃ f, LwAt i x (la x) f) ∧ (∀ x, x < m' → ∃ sz, LnAt i i x (li x) sz) ∧ ((rv 23 2 = none ∧ i 0 12 = NN ∧ i 50 35 = NN ∧ W = none) ∨ ∃ h f, h < m ∧ rv 23 2 = some (100 + la h) ∧ i 0 12 = nI h ∧ i 50 35 = nI h ∧ W = some f ∧ LwAt i h (la h) f)
def Rst (n : Nat) (K : Nat → Nat → Nat) (W : Option ((Nat → Nat) → Int)) (g : Nat → Nat → Nat) (T : Nat → Nat) (L dr m m' : Nat) (la li : Nat → Nat) (i : Tb) (rv : Nat → Nat → Option Nat) : Prop := GuC g i ∧ GuM g i ∧ OkG K g ∧ TaC T L i ∧ TaM T L i ∧ OkT T L ∧ (i 0 11 = nI dr ∧ i 50 36 = nI dr ∧ dr ≤ 99) ∧ ShA n m m' la li rv ∧ ShB m m' la li W i rv
def Inv (c n : Nat) (i : Tb) (rv : Nat → Nat → Option Nat) : Prop := ∃ K W b σ g T L dr m m' la li, OkK K ∧ SI K W b σ i i rv ∧ b ≤ 20 * c ∧ Rst n K W g T L dr m m' la li i rv
section IV
variable {i i' i1 i2 j j' j1 : Tb} {rv rv' rv2 : Nat → Nat → Option Nat} {W : Option ((Nat → Nat) → Int)} {K g : Nat → Nat → Nat} {σ σ' T la li : Nat → Nat} {c n b b' L dr m m' q k x a : Nat} {l lm l5 lc : List Nat}
theorem LawC_e (h : LawC W i rv) (e : ∀ q k, (q < 50 ∨ 73 ≤ q) → i' q k = i q k) : LawC W i' rv := by
  rcases h with h | ⟨f, a, cs, h1, h2, h3, ⟨h4, h5, h6⟩, h7⟩
  · exact Or.inl h
  · refine Or.inr ⟨f, a, cs, h1, h2, h3, ⟨by rw [e a 2 (by omega)]; exact h4, h5, fun k hk => by rw [e (a + 1) k (by omega)]; exact h6 k hk⟩, h7⟩
/-- the class's side and the model's stand in rows of their own -/
theorem SI_c (h : SI K W b σ i j rv) (e : ∀ q k, (q < 50 ∨ 73 ≤ q) → i' q k = i q k) (e' : ∀ q k, 50 ≤ q → q < 73 → j' q k = j q k) : SI K W b σ i' j' rv := by
  obtain ⟨⟨w1, w2, w3⟩, h1, h2, h3, h4, h6, ⟨ac, nx, us, h7⟩, h8⟩ := h
  have r : ∀ q, q < 50 → i' q = i q := fun q hq => funext (fun k => e q k (by omega))
  have r' : ∀ q, 50 ≤ q → q < 73 → j' q = j q := fun q h1 h2 => funext (fun k => e' q k h1 h2)
  refine ⟨⟨CarC_f w1 (fun q a b => r q (by omega)), by rw [r 20 (by omega)]; exact w2, LawC_e w3 e⟩, h1, ?_, by rw [r' 63 (by omega) (by omega)]; exact h3, ?_, by rw [r 27 (by omega), r' 63 (by omega) (by omega)]; exact h6, ⟨ac, nx, us, UnR_f h7 (Nat.le_refl _) (by rw [r 25 (by omega)]) (by rw [r 25 (by omega)]) (fun r' c _ _ _ => by rw [r 26 (by omega)]) (r 27 (by omega)) (by rw [r' 50 (by omega) (by omega)]) (r' 65 (by omega) (by omega))⟩, ImR_f h8 (Nat.le_refl _) (by rw [r 25 (by omega)]) (r 28 (by omega)) (r 29 (by omega)) (by rw [r' 50 (by omega) (by omega)]) (r' 72 (by omega) (by omega))⟩
  · unfold CarM at h2 ⊢
    rw [r' 50 (by omega) (by omega), r' 55 (by omega) (by omega), r' 57 (by omega) (by omega), r' 59 (by omega) (by omega)]
    exact h2
  · unfold LawM at h4 ⊢
    rw [r' 50 (by omega) (by omega), r' 53 (by omega) (by omega), r' 52 (by omega) (by omega)]
    exact h4
theorem ShB_f (hA : ShA n m m' la li rv) (h : ShB m m' la li W i rv) (hf : FrL lc rv i i') (hc : ∀ q, q ∈ lc → 10 < q ∧ q < 50) (hm : Fr lm i' j') (hlm : ∀ q, q ∈ lm → q = 50 ∨ q = 51 ∨ 54 ≤ q ∧ q ≤ 60 ∨ 63 ≤ q ∧ q < 73) (h5 : F5 l5 i' j') (hl5 : ∀ k, k ∈ l5 → k ≠ 7 ∧ k ≠ 31 ∧ k ≠ 35) (hr : rv' 23 2 = rv 23 2) : ShB m m' la li W j' rv' := by
  obtain ⟨a1, a2, an, a3, a4, a5, a6, a7, a8, a9, a10, a11⟩ := hA
  obtain ⟨b1, b2, b3, b4, b5, b6, b7⟩ := h
  -- what a cell needs in order to be the same
  have held : ∀ al, rv 23 2 = some (100 + al) → ∃ x, x < m ∧ al = la x := by
    intro al e
    rcases b7 with ⟨e1, _⟩ | ⟨x, f, hx, e1, _⟩
    · rw [e] at e1; exact absurd e1 (by simp)
    · rw [e] at e1
      have := Option.some.inj e1
      exact ⟨x, hx, by omega⟩
  have cell : ∀ q k, q ∉ lc → q ∉ lm → (∀ x, x < m → q ≠ la x + 2 ∧ ¬ (q = la x ∧ k = 3)) → j' q k = i q k := by
    intro q k h1 h2 h3
    rw [hm q h2]
    refine hf q k h1 (fun al e => ?_)
    obtain ⟨x, hx, rfl⟩ := held al e
    exact h3 x hx
  have nlc : ∀ q, (q ≤ 10 ∨ 50 ≤ q) → q ∉ lc := fun q hq e => by have := hc q e; omega
  have nlm : ∀ q, (q < 50 ∨ q = 52 ∨ q = 53 ∨ q = 61 ∨ q = 62 ∨ 73 ≤ q) → q ∉ lm := fun q hq e => by have := hlm q e; omega
  have n5 : ∀ k, (k = 7 ∨ k = 31 ∨ k = 35) → j' 50 k = i 50 k := by
    intro k hk
    rw [h5 k (fun e => by have := hl5 k e; omega)]
    refine hf 50 k (nlc 50 (by omega)) (fun al e => ?_)
    obtain ⟨x, hx, rfl⟩ := held al e
    have := a7 x (by omega)
    omega
  have low : ∀ q k, q ≤ 5 → j' q k = i q k := fun q k hq => cell q k (nlc q (by omega)) (nlm q (by omega)) (fun x hx => by have := a7 x (by omega); omega)
  have mod : ∀ q k, (q = 52 ∨ q = 53 ∨ q = 61 ∨ q = 62) → j' q k = i q k := fun q k hq => cell q k (nlc q (by omega)) (nlm q (by omega)) (fun x hx => by have := a7 x (by omega); omega)
  have lw : ∀ x f, x < m → LwAt i x (la x) f → LwAt j' x (la x) f := by
    intro x f hx h
    obtain ⟨cs, T', L', ⟨l1, l2, l3⟩, l4, l5', l6, l7, l8⟩ := h
    have hx7 := a7 x (by omega)
    refine ⟨cs, T', L', ⟨?_, l2, fun k hk => ?_⟩, l4, by rw [mod 53 x (by omega)]; exact l5', l6, fun k hk => by rw [mod 52 _ (by omega)]; exact l7 k hk, l8⟩
    · rw [cell (la x) 2 (nlc _ (by omega)) (nlm _ (by omega)) (fun y hy => by
        rcases Nat.lt_trichotomy x y with e | e | e
        · have := a9 x y e (by omega); omega
        · rw [e]; omega
        · have := a9 y x e (by omega); omega)]
      exact l1
    · rw [cell (la x + 1) k (nlc _ (by omega)) (nlm _ (by omega)) (fun y hy => by
        rcases Nat.lt_trichotomy x y with e | e | e
        · have := a9 x y e (by omega); omega
        · rw [e]; omega
        · have := a9 y x e (by omega); omega)]
      exact l3 k hk
  refine ⟨by rw [low 3 4 (by omega)]; exact b1, by rw [n5 7 (by omega)]; exact b2, by rw [low 3 5 (by omega)]; exact b3, by rw [n5 31 (by omega)]; exact b4, fun x hx => ?_, fun x hx => ?_, ?_⟩
  · obtain ⟨f, hf2⟩ := b5 x hx
    exact ⟨f, lw x f hx hf2⟩
  · obtain ⟨sz, l1, l2, l3, l4, l5', l6⟩ := b6 x hx
    have hx8 := a8 x (by omega)
    have r0 : ∀ k, j' (li x) k = i (li x) k := fun k => cell (li x) k (nlc _ (by omega)) (nlm _ (by omega)) (fun y hy => by have := a11 y x (by omega) (by omega); omega)
    have r1 : ∀ k, j' (li x + 1) k = i (li x + 1) k := fun k => cell (li x + 1) k (nlc _ (by omega)) (nlm _ (by omega)) (fun y hy => by have := a11 y x (by omega) (by omega); omega)
    refine ⟨sz, by rw [r0]; exact l1, by rw [mod 62 _ (by omega)]; exact l2, l3, l4, fun k hk => ?_, fun k c hk hcc => by rw [r1, mod 61 _ (by omega)]; exact l6 k c hk hcc⟩
    obtain ⟨kd, e1, e2, e3⟩ := l5' k hk
    exact ⟨kd, e1, by rw [r1]; exact e2, by rw [mod 61 _ (by omega)]; exact e3⟩
  · rw [hr]
    rcases b7 with ⟨e1, e2, e3, e4⟩ | ⟨x, f, hx, e1, e2, e3, e4, e5⟩
    · exact Or.inl ⟨e1, by rw [low 0 12 (by omega)]; exact e2, by rw [n5 35 (by omega)]; exact e3, e4⟩
    · exact Or.inr ⟨x, f, hx, e1, by rw [low 0 12 (by omega)]; exact e2, by rw [n5 35 (by omega)]; exact e3, e4, lw x f hx e5⟩
theorem ShA_rv (h : ShA n m m' la li rv) (hr : RvM rv rv') : ShA n m m' la li rv' := by
  rcases hr with rfl | rfl
  · exact h
  · obtain ⟨a1, a2, an, a3, a4, a5, a6, a7⟩ := h
    exact ⟨a1, a2, an, fun x hx => by rw [u2r _ _ _ _ _ (by omega)]; exact a3 x hx, fun x hx => by rw [u2r _ _ _ _ _ (by omega)]; exact a4 x hx, by rw [u2r _ _ _ _ _ (by omega)]; exact a5, by rw [u2r _ _ _ _ _ (by omega)]; exact a6, a7⟩
theorem RvM_23 (hr : RvM rv rv') : rv' 23 2 = rv 23 2 := by
  rcases hr with rfl | rfl
  · rfl
  · rw [u2r _ _ _ _ _ (by omega)]
theorem ShB_LnS (hA : ShA n m m' la li rv) (h : ShB m m' la li W i rv) (e : ∀ q k, 50 ≤ q → q < 73 → j q k = i q k) : LnS i j rv := by
  obtain ⟨a1, a2, an, a3, a4, a5, a6, a7, a8, a9, a10, a11⟩ := hA
  obtain ⟨b1, b2, b3, b4, b5, b6, b7⟩ := h
  refine ⟨m', a2, b3, by rw [e 50 31 (by omega) (by omega)]; exact b4, fun x hx => ?_⟩
  obtain ⟨sz, l1, l2, l3, l4, l5', l6⟩ := b6 x hx
  refine ⟨li x, sz, a4 x hx, (a8 x (by omega)).1, fun al hal => ?_, l1, by rw [e 62 _ (by omega) (by omega)]; exact l2, l3, l4, fun k hk => ?_, fun k c hk hcc => by rw [e 61 _ (by omega) (by omega)]; exact l6 k c hk hcc⟩
  · rcases b7 with ⟨e1, _⟩ | ⟨y, f, hy, e1, _⟩
    · rw [hal] at e1; exact absurd e1 (by simp)
    · rw [hal] at e1
      have e2 := Option.some.inj e1
      have := a11 y x (by omega) (by omega)
      omega
  · obtain ⟨kd, e1, e2, e3⟩ := l5' k hk
    exact ⟨kd, e1, e2, by rw [e 61 _ (by omega) (by omega)]; exact e3⟩
/-- a call that leaves texts, guesses and what is told alone -/
theorem Rst_f (h : Rst n K W g T L dr m m' la li i rv) (hL : LawC W i rv) (hf : FrL lc rv i i') (hc : ∀ q, q ∈ lc → 10 < q ∧ q < 45) (hm : Fr lm i' j') (hlm : ∀ q, q ∈ lm → q = 50 ∨ 54 ≤ q ∧ q ≤ 60 ∨ 63 ≤ q ∧ q ≤ 66 ∨ 71 ≤ q ∧ q < 73) (h5 : F5 l5 i' j') (hl5 : ∀ k, k ∈ l5 → k ≠ 6 ∧ k ≠ 7 ∧ k ≠ 31 ∧ k ≠ 35 ∧ k ≠ 36 ∧ k ≠ 49 ∧ k ≠ 52) (hr : RvM rv rv') : Rst n K W g T L dr m m' la li j' rv' := by
  obtain ⟨g1, g2, g3, t1, t2, t3, ⟨d1, d2, d3⟩, hA, hB⟩ := h
  have row : ∀ q, q ≤ 5 ∨ 45 ≤ q ∧ q < 50 ∨ q = 51 ∨ 67 ≤ q ∧ q ≤ 70 → j' q = i q := fun q hq => by
    rw [hm q (fun e => by have := hlm q e; omega)]
    exact FrL_row hL hf (fun e => by have := hc q e; omega) (by omega) (by omega) (by omega)
  have c50 : ∀ k, (k = 6 ∨ k = 36 ∨ k = 49 ∨ k = 52) → j' 50 k = i 50 k := fun k hk => by
    rw [h5 k (fun e => by have := hl5 k e; omega), FrL_row hL hf (fun e => by have := hc 50 e; omega) (by omega) (by omega) (by omega)]
  refine ⟨?_, ?_, g3, ⟨by rw [row 1 (by omega)]; exact t1.1, by rw [row 2 (by omega)]; exact t1.2⟩, ⟨by rw [c50 6 (by omega)]; exact t2.1, by rw [row 51 (by omega)]; exact t2.2⟩, t3, ⟨by rw [row 0 (by omega)]; exact d1, by rw [c50 36 (by omega)]; exact d2, d3⟩, ShA_rv hA hr, ShB_f hA hB hf (fun q hq => by have := hc q hq; omega) hm (fun q hq => by have := hlm q hq; omega) h5 (fun k hk => by have := hl5 k hk; omega) (RvM_23 hr)⟩
  · unfold GuC at g1 ⊢
    rw [row 45 (by omega), row 46 (by omega), row 47 (by omega), row 48 (by omega), row 49 (by omega)]
    exact g1
  · unfold GuM at g2 ⊢
    rw [c50 49 (by omega), c50 52 (by omega), row 67 (by omega), row 68 (by omega), row 69 (by omega), row 70 (by omega)]
    exact g2
theorem FrL_mod (hL : LawC W i rv) (hf : FrL lc rv i i') (hc : ∀ q, q ∈ lc → 10 < q ∧ q < 50) : ∀ q k, 50 ≤ q → q < 73 → i' q k = i q k := fun q k h1 h2 => by
  rw [FrL_row hL hf (fun e => by have := hc q e; omega) (by omega) (by omega) (by omega)]
theorem Fr_cls (hm : Fr lm i' j') (hlm : ∀ q, q ∈ lm → 50 ≤ q ∧ q < 73) : ∀ q k, (q < 50 ∨ 73 ≤ q) → j' q k = i' q k := fun q k h => by
  rw [hm q (fun e => by have := hlm q e; omega)]
/-- one call, the class first and the model behind it -/
theorem one {Fc : Option (Int32 × Tb)} {Fm : Tb → (Nat → Nat → Option Nat) → Option (Int32 × Tb × (Nat → Nat → Option Nat))} (hK : OkK K) (hS : SI K W b σ i i rv) (hRs : Rst n K W g T L dr m m' la li i rv) (hbc : b' ≤ 20 * c)
    (hR : ∀ j, SI K W b σ i j rv → (∀ q k, 50 ≤ q → q < 73 → j q k = i q k) → ∃ v i' j' σ' rv2, Fc = some (v, i') ∧ Fm j rv = some (v, j', rv2) ∧ SI K W b' σ' i' j' rv ∧ FrL lc rv i i' ∧ Fr lm j j' ∧ F5 l5 j j' ∧ RvM rv rv2)
    (hc : ∀ q, q ∈ lc → 10 < q ∧ q < 45) (hlm : ∀ q, q ∈ lm → q = 50 ∨ 54 ≤ q ∧ q ≤ 60 ∨ 63 ≤ q ∧ q ≤ 66 ∨ 71 ≤ q ∧ q < 73) (hl5 : ∀ k, k ∈ l5 → k ≠ 6 ∧ k ≠ 7 ∧ k ≠ 31 ∧ k ≠ 35 ∧ k ≠ 36 ∧ k ≠ 49 ∧ k ≠ 52) :
    ∃ v i' j' rv2, Fc = some (v, i') ∧ Fm i' rv = some (v, j', rv2) ∧ RvM rv rv2 ∧ Inv c n j' rv2 := by
  obtain ⟨v, i', _, _, _, e1, _, _, f1, _⟩ := hR i hS (fun _ _ _ _ => rfl)
  have hmod := FrL_mod hS.1.2.2 f1 (fun q hq => by have := hc q hq; omega)
  obtain ⟨v2, i2, j', σ', rv2, e2, e3, s1, f2, f3, f4, f5⟩ := hR i' (SI_c hS (fun _ _ _ => rfl) hmod) hmod
  rw [e1] at e2
  have e4 := Option.some.inj e2
  obtain ⟨rfl, rfl⟩ := Prod.mk.inj e4
  refine ⟨v, i', j', rv2, e1, e3, f5, K, W, b', σ', g, T, L, dr, m, m', la, li, hK, ?_, hbc, Rst_f hRs hS.1.2.2 f1 hc f3 hlm f4 hl5 f5⟩
  exact SI_rv (SI_c s1 (Fr_cls f3 (fun q hq => by have := hlm q hq; omega)) (fun _ _ _ _ => rfl)) f5
/-- one question -/
theorem ask {Fc : Option (Int32 × Tb)} {Fm : Tb → (Nat → Nat → Option Nat) → Option (Int32 × Tb × (Nat → Nat → Option Nat))} (hK : OkK K) (hS : SI K W b σ i i rv) (hRs : Rst n K W g T L dr m m' la li i rv) (hbc : b ≤ 20 * c)
    (hR : ∀ j, SI K W b σ i j rv → (∀ q k, 50 ≤ q → q < 73 → j q k = i q k) → ∃ v i' j' rv2, Fc = some (v, i') ∧ Fm j rv = some (v, j', rv2) ∧ FrL lc rv i i' ∧ Fr lm j j' ∧ F5 l5 j j' ∧ RvM rv rv2)
    (hc : ∀ q, q ∈ lc → (q = 22 ∨ q = 23 ∨ q = 24 ∨ 30 ≤ q) ∧ q < 45) (hlm : ∀ q, q ∈ lm → q = 50 ∨ q = 54 ∨ q = 64 ∨ q = 66 ∨ q = 71) (hl5 : ∀ k, k ∈ l5 → k ∈ (0 :: l41 ++ [44, 45, 53, 54])) :
    ∃ v i' j' rv2, Fc = some (v, i') ∧ Fm i' rv = some (v, j', rv2) ∧ RvM rv rv2 ∧ Inv c n j' rv2 := by
  refine one (lc := lc) (lm := lm) (l5 := l5) hK hS hRs hbc (fun j hj hjm => ?_) (fun q hq => by have := hc q hq; omega) (fun q hq => by have := hlm q hq; omega) (fun k hk => by
    have := hl5 k hk
    simp at this
    omega)
  obtain ⟨v, i', j', rv2, e1, e2, f1, f2, f3, f4⟩ := hR j hj hjm
  exact ⟨v, i', j', σ, rv2, e1, e2, SI_f hj f1 (fun x hx => by have := hc x hx; omega) f2 (F5_w hl5 f3) ⟨fun e => by have := hlm _ e; omega, fun e => by have := hlm _ e; omega, fun e => by have := hlm _ e; omega, fun e => by have := hlm _ e; omega, fun e => by have := hlm _ e; omega, fun e => by have := hlm _ e; omega, fun e => by have := hlm _ e; omega, fun e => by have := hlm _ e; omega⟩, f1, f2, f3, f4⟩
end IV
