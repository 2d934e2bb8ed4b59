/-! one call keeps what holds: texts fed, guesses, laws held -/
def RvT (rv rv' : Nat → Nat → Option Nat) : Prop := rv' = rv ∨ rv' = u2 rv 50 5 (some (100 + 51)) ∨ rv' = u2 rv 50 5 (some (100 + 52))
section QD
variable {i i' i1 i2 j j' j1 J : Tb} {rv rv' rv2 : Nat → Nat → Option Nat} {W W' : Option ((Nat → Nat) → Int)} {K g g' : Nat → Nat → Nat} {σ σ' T T' la li : Nat → Nat} {c n b b' L L' dr m m' q k x a : Nat}
theorem RvT_e (h : RvT rv rv') (hq : q ≠ 50) : rv' q = rv q := by
  rcases h with rfl | rfl | rfl
  · rfl
  · exact u2r _ _ _ _ _ hq
  · exact u2r _ _ _ _ _ hq
theorem RvT_m (h : RvM rv rv') : RvT rv rv' := h.elim Or.inl (fun e => Or.inr (Or.inr e))
theorem ShA_t (h : ShA n m m' la li rv) (hr : RvT rv rv') : ShA n m m' la li rv' := by
  obtain ⟨a1, a2, an, a3, a4, a5, a6, a7⟩ := h
  exact ⟨a1, a2, an, fun x hx => by rw [RvT_e hr (by omega)]; exact a3 x hx, fun x hx => by rw [RvT_e hr (by omega)]; exact a4 x hx, by rw [RvT_e hr (by omega)]; exact a5, by rw [RvT_e hr (by omega)]; exact a6, a7⟩
theorem SI_g (h : SI K W b σ i j rv) (hr : ∀ q, 15 ≤ q → q < 30 → i' q = i q) (hL : LawC W' i' rv') (hm : ∀ q, (q = 55 ∨ q = 57 ∨ q = 59 ∨ q = 63 ∨ q = 65 ∨ q = 72) → j' q = j q) (h50 : ∀ k, (k = 26 ∨ k = 27 ∨ k = 28 ∨ k = 42 ∨ k = 57) → j' 50 k = j 50 k) (hM : LawM W' j') : SI K W' b σ i' j' rv' := by
  obtain ⟨⟨w1, w2, w3⟩, h1, h2, h3, h4, h6, ⟨ac, nx, us, h7⟩, h8⟩ := h
  refine ⟨⟨CarC_f w1 (fun q a b => hr q (by omega) (by omega)), by rw [hr 20 (by omega) (by omega)]; exact w2, hL⟩, h1, ?_, by rw [hm 63 (by omega)]; exact h3, hM, by rw [hr 27 (by omega) (by omega), hm 63 (by omega)]; exact h6, ⟨ac, nx, us, UnR_f h7 (Nat.le_refl _) (by rw [hr 25 (by omega) (by omega)]) (by rw [hr 25 (by omega) (by omega)]) (fun r' c _ _ _ => by rw [hr 26 (by omega) (by omega)]) (hr 27 (by omega) (by omega)) (h50 42 (by omega)) (hm 65 (by omega))⟩, ImR_f h8 (Nat.le_refl _) (by rw [hr 25 (by omega) (by omega)]) (hr 28 (by omega) (by omega)) (hr 29 (by omega) (by omega)) (h50 57 (by omega)) (hm 72 (by omega))⟩
  unfold CarM at h2 ⊢
  rw [h50 26 (by omega), h50 27 (by omega), h50 28 (by omega), hm 55 (by omega), hm 57 (by omega), hm 59 (by omega)]
  exact h2
theorem ShB_law (hA : ShA n m m' la li rv) (h : ShB m m' la li W i rv) : LawC W i rv ∧ LawM W i := by
  obtain ⟨a1, a2, an, a3, a4, a5, a6, a7, _⟩ := hA
  obtain ⟨b1, b2, b3, b4, b5, b6, b7⟩ := h
  rcases b7 with ⟨e1, e2, e3, e4⟩ | ⟨x, f, hx, e1, e2, e3, e4, cs, T', L', l1, l2, l3, l4, l5, l6⟩
  · exact ⟨Or.inl ⟨e4, e1⟩, Or.inl ⟨e4, e3⟩⟩
  · exact ⟨Or.inr ⟨f, la x, cs, e4, e1, (a7 x (by omega)).1, l1, l2⟩, Or.inr ⟨f, x, T', L', e4, by omega, e3, l3, l4, l5, l6⟩⟩
theorem LwAt_e {f : (Nat → Nat) → Int} (h : LwAt i x a f) (e2 : j a 2 = i a 2) (e1 : ∀ k, j (a + 1) k = i (a + 1) k) (e3 : j 53 x = i 53 x) (e4 : ∀ k, j 52 k = i 52 k) : LwAt j x a f := by
  obtain ⟨cs, T', L', ⟨l1, l2, l3⟩, l4, l5, l6, l7, l8⟩ := h
  exact ⟨cs, T', L', ⟨by rw [e2]; exact l1, l2, fun k hk => by rw [e1]; exact l3 k hk⟩, l4, by rw [e3]; exact l5, l6, fun k hk => by rw [e4]; exact l7 k hk, l8⟩
theorem LnAt_e {sz : Nat} (hx : x < 4) (h : LnAt i i x a sz) (e0 : j a 1 = i a 1) (e1 : ∀ k, j (a + 1) k = i (a + 1) k) (e2 : ∀ k, k < 4 → j 62 k = i 62 k) (e3 : ∀ k, k < 192 → j 61 k = i 61 k) : LnAt j j x a sz := by
  obtain ⟨l1, l2, l3, l4, l5, l6⟩ := h
  refine ⟨by rw [e0]; exact l1, by rw [e2 x hx]; exact l2, l3, l4, fun k hk => ?_, fun k c hk hc => by rw [e1, e3 _ (by omega)]; exact l6 k c hk hc⟩
  obtain ⟨kd, h1, h2, h3⟩ := l5 k hk
  exact ⟨kd, h1, by rw [e1]; exact h2, by rw [e3 _ (by omega)]; exact h3⟩
theorem ShB_g (hA : ShA n m m' la li rv) (h : ShB m m' la li W i rv) (e34 : J 3 4 = i 3 4) (e35 : J 3 5 = i 3 5) (e12 : J 0 12 = i 0 12) (e50 : ∀ k, (k = 7 ∨ k = 31 ∨ k = 35) → J 50 k = i 50 k) (r52 : ∀ k, J 52 k = i 52 k) (r53 : ∀ k, J 53 k = i 53 k) (r61 : ∀ k, k < 192 → J 61 k = i 61 k) (r62 : ∀ k, k < 4 → J 62 k = i 62 k) (el : ∀ x, x < m → J (la x) 2 = i (la x) 2 ∧ ∀ k, J (la x + 1) k = i (la x + 1) k) (en : ∀ x, x < m' → J (li x) 1 = i (li x) 1 ∧ ∀ k, J (li x + 1) k = i (li x + 1) k) (hr : rv' 23 2 = rv 23 2) : ShB m m' la li W J rv' := by
  obtain ⟨b1, b2, b3, b4, b5, b6, b7⟩ := h
  refine ⟨by rw [e34]; exact b1, by rw [e50 7 (by omega)]; exact b2, by rw [e35]; exact b3, by rw [e50 31 (by omega)]; exact b4, fun x hx => ?_, fun x hx => ?_, ?_⟩
  · obtain ⟨f, hf⟩ := b5 x hx
    exact ⟨f, LwAt_e hf (el x hx).1 (el x hx).2 (r53 x) r52⟩
  · obtain ⟨sz, hs⟩ := b6 x hx
    exact ⟨sz, LnAt_e (by have := hA.2.1; omega) hs (en x hx).1 (en x hx).2 r62 r61⟩
  · rw [hr, e12, e50 35 (by omega)]
    rcases b7 with e | ⟨x, f, hx, e1, e2, e3, e4, e5⟩
    · exact Or.inl e
    · exact Or.inr ⟨x, f, hx, e1, e2, e3, e4, LwAt_e e5 (el x hx).1 (el x hx).2 (r53 x) r52⟩
/-- a call that leaves the scene and what is told alone -/
theorem mk (hS : SI K W b σ i i rv) (hA : ShA n m m' la li rv) (hB : ShB m m' la li W i rv) (r : ∀ q, 15 ≤ q → q < 30 → J q = i q) (e34 : J 3 4 = i 3 4) (e35 : J 3 5 = i 3 5) (e12 : J 0 12 = i 0 12) (e50 : ∀ k, (k = 7 ∨ k = 31 ∨ k = 35 ∨ k = 26 ∨ k = 27 ∨ k = 28 ∨ k = 42 ∨ k = 57) → J 50 k = i 50 k) (rm : ∀ q, (q = 52 ∨ q = 53 ∨ q = 55 ∨ q = 57 ∨ q = 59 ∨ q = 63 ∨ q = 65 ∨ q = 72) → J q = i q) (r61 : ∀ k, k < 192 → J 61 k = i 61 k) (r62 : ∀ k, k < 4 → J 62 k = i 62 k) (el : ∀ x, x < m → J (la x) 2 = i (la x) 2 ∧ ∀ k, J (la x + 1) k = i (la x + 1) k) (en : ∀ x, x < m' → J (li x) 1 = i (li x) 1 ∧ ∀ k, J (li x + 1) k = i (li x + 1) k) (hr : RvT rv rv') : SI K W b σ J J rv' ∧ ShA n m m' la li rv' ∧ ShB m m' la li W J rv' := by
  have hB' : ShB m m' la li W J rv' := ShB_g hA hB e34 e35 e12 (fun k hk => e50 k (by omega)) (fun k => by rw [rm 52 (by omega)]) (fun k => by rw [rm 53 (by omega)]) r61 r62 el en (by rw [RvT_e hr (by omega)])
  have hA' := ShA_t hA hr
  obtain ⟨hL, hM⟩ := ShB_law hA' hB'
  exact ⟨SI_g hS r hL (fun q hq => rm q (by omega)) (fun k hk => e50 k (by omega)) hM, hA', hB'⟩
theorem el_r (hA : ShA n m m' la li rv) (h : ∀ q, (q = 6 ∨ q = 7 ∨ 74 ≤ q) → J q = i q) : ∀ x, x < m → J (la x) 2 = i (la x) 2 ∧ ∀ k, J (la x + 1) k = i (la x + 1) k := fun x hx => by
  have := hA.2.2.2.2.2.2.2.1 x (by omega)
  exact ⟨by rw [h _ (by omega)], fun k => by rw [h _ (by omega)]⟩
theorem en_r (hA : ShA n m m' la li rv) (h : ∀ q, (q = 9 ∨ q = 10 ∨ 74 ≤ q) → J q = i q) : ∀ x, x < m' → J (li x) 1 = i (li x) 1 ∧ ∀ k, J (li x + 1) k = i (li x + 1) k := fun x hx => by
  have := hA.2.2.2.2.2.2.2.2.1 x (by omega)
  exact ⟨by rw [h _ (by omega)], fun k => by rw [h _ (by omega)]⟩
theorem Q_drowsy (h : Inv c n i rv) (hc : c < 512) (a1 : Int32) : ∃ v i' j', fX11_drowsy a1 i = some (v, i') ∧ fX12_drowsy a1 i' = some (v, j') ∧ Inv (c + 1) n j' rv := by
  obtain ⟨K, W, b, σ, g, T, L, dr, m, m', la, li, h1, h2, h3, h4⟩ := id h
  obtain ⟨g1, g2, g3, t1, t2, t3, ⟨d1, d2, d3⟩, hA, hB⟩ := h4
  obtain ⟨v, i', _, _, e1, _, _, _, _, f1, _⟩ := R_drowsy (j := i) d1 d2 d3 a1
  obtain ⟨v2, i2, j', d', e2, e3, q1, q2, q3, q4, q5, q6, q7⟩ := R_drowsy (j := i') d1 (by rw [f1 50 (by decide)]; exact d2) d3 a1
  rw [e1] at e2
  obtain ⟨rfl, rfl⟩ := Prod.mk.inj (Option.some.inj e2)
  have row : ∀ q, q ≠ 0 → q ≠ 50 → j' q = i q := fun q a1 a2 => by rw [q6 q (by simp [a2]), q4 q (by simp [a1])]
  have c50 : ∀ k, k ≠ 0 → k ≠ 36 → j' 50 k = i 50 k := fun k a1 a2 => by rw [q7 k (by simp [a1, a2]), q4 50 (by decide)]
  obtain ⟨s1, s2, s3⟩ := mk (J := j') h2 hA hB (fun q a b => row q (by omega) (by omega)) (by rw [row 3 (by omega) (by omega)]) (by rw [row 3 (by omega) (by omega)]) (by rw [q6 0 (by decide), q5 12 (by omega)]) (fun k hk => c50 k (by omega) (by omega)) (fun q hq => row q (by omega) (by omega)) (fun k _ => by rw [row 61 (by omega) (by omega)]) (fun k _ => by rw [row 62 (by omega) (by omega)]) (el_r hA (fun q hq => row q (by omega) (by omega))) (en_r hA (fun q hq => row q (by omega) (by omega))) (Or.inl rfl)
  refine ⟨v, i', j', e1, e3, K, W, b, σ, g, T, L, d', m, m', la, li, h1, s1, by omega, ?_, ?_, g3, ⟨by rw [row 1 (by omega) (by omega)]; exact t1.1, by rw [row 2 (by omega) (by omega)]; exact t1.2⟩, ⟨by rw [c50 6 (by omega) (by omega)]; exact t2.1, by rw [row 51 (by omega) (by omega)]; exact t2.2⟩, t3, ⟨by rw [q6 0 (by decide)]; exact q2, q3, q1⟩, s2, s3⟩
  · unfold GuC at g1 ⊢
    rw [row 45 (by omega) (by omega), row 46 (by omega) (by omega), row 47 (by omega) (by omega), row 48 (by omega) (by omega), row 49 (by omega) (by omega)]
    exact g1
  · unfold GuM at g2 ⊢
    rw [c50 49 (by omega) (by omega), c50 52 (by omega) (by omega), row 67 (by omega) (by omega), row 68 (by omega) (by omega), row 69 (by omega) (by omega), row 70 (by omega) (by omega)]
    exact g2
/-- both guesses -/
theorem gues {v : Int32} {hear : Bool} {Fc : Option (Int32 × Tb)} {Fm : Tb → Option (Int32 × Tb)} (h : Inv c n i rv) (hc : c < 512)
    (hR : ∀ K g j, OkK K → CarC 15 K i → CarM K j → GuC g i → GuM g j → OkG K g → ∃ v i' j' g', Fc = some (v, i') ∧ Fm j = some (v, j') ∧ GuC g' i' ∧ GuM g' j' ∧ OkG K g' ∧ Fr [45, 46, 47, 48, 49] i i' ∧ Fr [50, 67, 68, 69, 70] j j' ∧ F5 [0, 49, 52] j j') : ∃ v i' j', Fc = some (v, i') ∧ Fm i' = some (v, j') ∧ Inv (c + 1) n j' rv := by
  obtain ⟨K, W, b, σ, g, T, L, dr, m, m', la, li, h1, h2, h3, h4⟩ := id h
  obtain ⟨g1, g2, g3, t1, t2, t3, ⟨d1, d2, d3⟩, hA, hB⟩ := h4
  obtain ⟨v, i', _, _, e1, _, _, _, _, f1, _⟩ := hR K g i h1 h2.1.1 h2.2.2.1 g1 g2 g3
  have hmod : ∀ q k, 50 ≤ q → q < 73 → i' q k = i q k := fun q k a1 a2 => by rw [f1 q (by simp; omega)]
  have hM : CarM K i' := by
    have := h2.2.2.1
    unfold CarM at this ⊢
    rw [f1 50 (by decide), f1 55 (by decide), f1 57 (by decide), f1 59 (by decide)]
    exact this
  obtain ⟨v2, i2, j', g', e2, e3, q1, q2, q3, q4, q5, q6⟩ := hR K g i' h1 h2.1.1 hM g1 (GuM_e g2 hmod) g3
  rw [e1] at e2
  obtain ⟨rfl, rfl⟩ := Prod.mk.inj (Option.some.inj e2)
  have row : ∀ q, (q < 45 ∨ 51 ≤ q ∧ q < 67 ∨ 71 ≤ q) → j' q = i q := fun q a => by rw [q5 q (by simp; omega), q4 q (by simp; omega)]
  have c50 : ∀ k, k ≠ 0 → k ≠ 49 → k ≠ 52 → j' 50 k = i 50 k := fun k a1 a2 a3 => by rw [q6 k (by simp [a1, a2, a3]), q4 50 (by decide)]
  obtain ⟨s1, s2, s3⟩ := mk (J := j') h2 hA hB (fun q a b => row q (by omega)) (by rw [row 3 (by omega)]) (by rw [row 3 (by omega)]) (by rw [row 0 (by omega)]) (fun k hk => c50 k (by omega) (by omega) (by omega)) (fun q hq => row q (by omega)) (fun k _ => by rw [row 61 (by omega)]) (fun k _ => by rw [row 62 (by omega)]) (el_r hA (fun q hq => row q (by omega))) (en_r hA (fun q hq => row q (by omega))) (Or.inl rfl)
  refine ⟨v, i', j', e1, e3, K, W, b, σ, g', T, L, dr, m, m', la, li, h1, s1, by omega, ?_, q2, q3, ⟨by rw [row 1 (by omega)]; exact t1.1, by rw [row 2 (by omega)]; exact t1.2⟩, ⟨by rw [c50 6 (by omega) (by omega) (by omega)]; exact t2.1, by rw [row 51 (by omega)]; exact t2.2⟩, t3, ⟨by rw [row 0 (by omega)]; exact d1, by rw [c50 36 (by omega) (by omega) (by omega)]; exact d2, d3⟩, s2, s3⟩
  unfold GuC at q1 ⊢
  rw [q5 45 (by decide), q5 46 (by decide), q5 47 (by decide), q5 48 (by decide), q5 49 (by decide)]
  exact q1
theorem Q_hear (h : Inv c n i rv) (hc : c < 512) (a1 a2 : Int32) (ha : a1 = nI 0 ∨ a1 = nI 1) : ∃ v i' j', fX11_hear a1 a2 i = some (v, i') ∧ fX12_hear a1 a2 i' = some (v, j') ∧ Inv (c + 1) n j' rv :=
  gues (v := 0) (hear := true) (Fc := fX11_hear a1 a2 i) (Fm := fun j => fX12_hear a1 a2 j) h hc (fun K g j k1 k2 k3 k4 k5 k6 => by
    obtain ⟨v, i', j', g', e1, e2, e3, e4, e5, e6, e7, e8⟩ := R_hear k1 k2 k3 k4 k5 k6 a1 a2 ha
    exact ⟨v, i', j', g', e1, e2, e3, e4, e5, Fr_w (by decide) e6, Fr_w (by decide) e7, F5_w (by decide) e8⟩)
theorem Q_lookAt (h : Inv c n i rv) (hc : c < 512) (a1 a2 : Int32) (ha : a2 = nI 0 ∨ a2 = nI 1) : ∃ v i' j', fX11_lookAt a1 a2 i = some (v, i') ∧ fX12_lookAt a1 a2 i' = some (v, j') ∧ Inv (c + 1) n j' rv :=
  gues (v := 0) (hear := true) (Fc := fX11_lookAt a1 a2 i) (Fm := fun j => fX12_lookAt a1 a2 j) h hc (fun K g j k1 k2 k3 k4 k5 k6 => by
    obtain ⟨v, i', j', g', e1, e2, e3, e4, e5, e6, e7, e8⟩ := R_lookAt k1 k2 k3 k4 k5 k6 a1 a2 ha
    exact ⟨v, i', j', g', e1, e2, e3, e4, e5, Fr_w (by decide) e6, Fr_w (by decide) e7, F5_w (by decide) e8⟩)
/-- the tape -/
theorem tapes {Fc : Option (Int32 × Tb)} {Fm : Tb → Option (Int32 × Tb)} (h : Inv c n i rv) (hc : c < 512)
    (hR : ∀ T L j, TaC T L i → TaM T L j → OkT T L → ∃ v i' j' T' L', Fc = some (v, i') ∧ Fm j = some (v, j') ∧ TaC T' L' i' ∧ TaM T' L' j' ∧ OkT T' L' ∧ Fr [1, 2] i i' ∧ Fr [50, 51] j j' ∧ F5 [0, 6] j j') : ∃ v i' j', Fc = some (v, i') ∧ Fm i' = some (v, j') ∧ Inv (c + 1) n j' rv := by
  obtain ⟨K, W, b, σ, g, T, L, dr, m, m', la, li, h1, h2, h3, h4⟩ := id h
  obtain ⟨g1, g2, g3, t1, t2, t3, ⟨d1, d2, d3⟩, hA, hB⟩ := h4
  obtain ⟨v, i', _, _, _, e1, _, _, _, _, f1, _⟩ := hR T L i t1 t2 t3
  obtain ⟨v2, i2, j', T', L', e2, e3, q1, q2, q3, q4, q5, q6⟩ := hR T L i' t1 ⟨by rw [f1 50 (by decide)]; exact t2.1, by rw [f1 51 (by decide)]; exact t2.2⟩ t3
  rw [e1] at e2
  obtain ⟨rfl, rfl⟩ := Prod.mk.inj (Option.some.inj e2)
  have row : ∀ q, (q = 0 ∨ 3 ≤ q ∧ q < 50 ∨ 52 ≤ q) → j' q = i q := fun q a => by rw [q5 q (by simp; omega), q4 q (by simp; omega)]
  have c50 : ∀ k, k ≠ 0 → k ≠ 6 → j' 50 k = i 50 k := fun k a1 a2 => by rw [q6 k (by simp [a1, a2]), q4 50 (by decide)]
  obtain ⟨s1, s2, s3⟩ := mk (J := j') h2 hA hB (fun q a b => row q (by omega)) (by rw [row 3 (by omega)]) (by rw [row 3 (by omega)]) (by rw [row 0 (by omega)]) (fun k hk => c50 k (by omega) (by omega)) (fun q hq => row q (by omega)) (fun k _ => by rw [row 61 (by omega)]) (fun k _ => by rw [row 62 (by omega)]) (el_r hA (fun q hq => row q (by omega))) (en_r hA (fun q hq => row q (by omega))) (Or.inl rfl)
  refine ⟨v, i', j', e1, e3, K, W, b, σ, g, T', L', dr, m, m', la, li, h1, s1, by omega, ?_, ?_, g3, ⟨by rw [q5 1 (by decide)]; exact q1.1, by rw [q5 2 (by decide)]; exact q1.2⟩, q2, q3, ⟨by rw [row 0 (by omega)]; exact d1, by rw [c50 36 (by omega) (by omega)]; exact d2, d3⟩, s2, s3⟩
  · unfold GuC at g1 ⊢
    rw [row 45 (by omega), row 46 (by omega), row 47 (by omega), row 48 (by omega), row 49 (by omega)]
    exact g1
  · unfold GuM at g2 ⊢
    rw [c50 49 (by omega) (by omega), c50 52 (by omega) (by omega), row 67 (by omega), row 68 (by omega), row 69 (by omega), row 70 (by omega)]
    exact g2
theorem Q_feed (h : Inv c n i rv) (hc : c < 512) (a1 a2 a3 a4 a5 : Int32) : ∃ v i' j', fX11_feed a1 a2 a3 a4 a5 i = some (v, i') ∧ fX12_feed a1 a2 a3 a4 a5 i' = some (v, j') ∧ Inv (c + 1) n j' rv :=
  tapes (Fc := fX11_feed a1 a2 a3 a4 a5 i) (Fm := fun j => fX12_feed a1 a2 a3 a4 a5 j) h hc (fun T L j k1 k2 k3 => R_feed k1 k2 k3 a1 a2 a3 a4 a5)
theorem Q_end (h : Inv c n i rv) (hc : c < 512) (a1 : Int32) : ∃ v i' j', fX11_end a1 i = some (v, i') ∧ fX12_end a1 i' = some (v, j') ∧ Inv (c + 1) n j' rv :=
  tapes (Fc := fX11_end a1 i) (Fm := fun j => fX12_end a1 j) h hc (fun T L j k1 k2 k3 => by
    obtain ⟨v, i', j', L', e⟩ := R_end k1 k2 k3 a1
    exact ⟨v, i', j', T, L', e⟩)
/-- a law is held -/
theorem Q_law (h : Inv c n i rv) (hc : c < 512) (a1 : Int32) : ∃ v i' rv1 j', fX11_law a1 i rv = some (v, i', rv1) ∧ fX12_law a1 i' = some (v, j') ∧ Inv (c + 1) n j' rv1 := by
  obtain ⟨K, W, b, σ, g, T, L, dr, m, m', la, li, h1, h2, h3, h4⟩ := id h
  obtain ⟨g1, g2, g3, t1, t2, t3, ⟨d1, d2, d3⟩, hA, hB⟩ := id h4
  obtain ⟨a1', a2', an, a3', a4', a5', a6', a7', a8', a9', a10', a11'⟩ := id hA
  obtain ⟨b1, b2, b3, b4, b5, b6, b7⟩ := id hB
  -- the new state, when the call is good
  have good : ∀ (z : Int32) (r : Option Nat) (W' : Option ((Nat → Nat) → Int)), ((r = none ∧ z = NN ∧ W' = none) ∨ ∃ x f, x < m ∧ r = some (100 + la x) ∧ z = nI x ∧ W' = some f ∧ LwAt i x (la x) f) → Inv (c + 1) n (u2 (u2 (u2 i 0 12 z) 50 0 0) 50 35 z) (u2 rv 23 2 r) := by
    intro z r W' hz
    have row : ∀ q, q ≠ 0 → q ≠ 50 → u2 (u2 (u2 i 0 12 z) 50 0 0) 50 35 z q = i q := fun q e1 e2 => by rw [u2r _ _ _ _ _ e2, u2r _ _ _ _ _ e2, u2r _ _ _ _ _ e1]
    have c50 : ∀ k, k ≠ 0 → k ≠ 35 → u2 (u2 (u2 i 0 12 z) 50 0 0) 50 35 z 50 k = i 50 k := fun k e1 e2 => by rw [u2n _ _ _ _ _ e2, u2n _ _ _ _ _ e1, u2r _ _ _ _ _ (by omega)]
    have c0 : ∀ k, k ≠ 12 → u2 (u2 (u2 i 0 12 z) 50 0 0) 50 35 z 0 k = i 0 k := fun k e1 => by rw [u2r _ _ _ _ _ (by omega), u2r _ _ _ _ _ (by omega), u2n _ _ _ _ _ e1]
    have c012 : u2 (u2 (u2 i 0 12 z) 50 0 0) 50 35 z 0 12 = z := by rw [u2r _ _ _ _ _ (by omega), u2r _ _ _ _ _ (by omega), u2e]
    have c35 : u2 (u2 (u2 i 0 12 z) 50 0 0) 50 35 z 50 35 = z := u2e _ _ _ _
    generalize u2 (u2 (u2 i 0 12 z) 50 0 0) 50 35 z = J at *
    have lw : ∀ x f, x < m → LwAt i x (la x) f → LwAt J x (la x) f := fun x f hx hf => by
      have := a7' x (by omega)
      exact LwAt_e hf (by rw [row _ (by omega) (by omega)]) (fun k => by rw [row _ (by omega) (by omega)]) (by rw [row 53 (by omega) (by omega)]) (fun k => by rw [row 52 (by omega) (by omega)])
    have hA2 : ShA n m m' la li (u2 rv 23 2 r) := ⟨a1', a2', an, fun x hx => by rw [u2r _ _ _ _ _ (by omega)]; exact a3' x hx, fun x hx => by rw [u2r _ _ _ _ _ (by omega)]; exact a4' x hx, by rw [u2r _ _ _ _ _ (by omega)]; exact a5', by rw [u2r _ _ _ _ _ (by omega)]; exact a6', a7', a8', a9', a10', a11'⟩
    have hB2 : ShB m m' la li W' J (u2 rv 23 2 r) := by
      refine ⟨by rw [row 3 (by omega) (by omega)]; exact b1, by rw [c50 7 (by omega) (by omega)]; exact b2, by rw [row 3 (by omega) (by omega)]; exact b3, by rw [c50 31 (by omega) (by omega)]; exact b4, fun x hx => ?_, fun x hx => ?_, ?_⟩
      · obtain ⟨f, hf⟩ := b5 x hx
        exact ⟨f, lw x f hx hf⟩
      · obtain ⟨sz, hs⟩ := b6 x hx
        have := a8' x (by omega)
        exact ⟨sz, LnAt_e (by omega) hs (by rw [row _ (by omega) (by omega)]) (fun k => by rw [row _ (by omega) (by omega)]) (fun k _ => by rw [row 62 (by omega) (by omega)]) (fun k _ => by rw [row 61 (by omega) (by omega)])⟩
      · rw [u2e, c012, c35]
        rcases hz with ⟨e1, e2, e3⟩ | ⟨x, f, hx, e1, e2, e3, e4⟩
        · exact Or.inl ⟨e1, e2, e2, e3⟩
        · exact Or.inr ⟨x, f, hx, e1, e2, e2, e3, lw x f hx e4⟩
    obtain ⟨hL, hM⟩ := ShB_law hA2 hB2
    refine ⟨K, W', b, σ, g, T, L, dr, m, m', la, li, h1, SI_g h2 (fun q e1 e2 => row q (by omega) (by omega)) hL (fun q hq => row q (by omega) (by omega)) (fun k hk => c50 k (by omega) (by omega)) hM, by omega, ?_, ?_, g3, ⟨by rw [row 1 (by omega) (by omega)]; exact t1.1, by rw [row 2 (by omega) (by omega)]; exact t1.2⟩, ⟨by rw [c50 6 (by omega) (by omega)]; exact t2.1, by rw [row 51 (by omega) (by omega)]; exact t2.2⟩, t3, ⟨by rw [c0 11 (by omega)]; exact d1, by rw [c50 36 (by omega) (by omega)]; exact d2, d3⟩, hA2, hB2⟩
    · unfold GuC at g1 ⊢
      rw [row 45 (by omega) (by omega), row 46 (by omega) (by omega), row 47 (by omega) (by omega), row 48 (by omega) (by omega), row 49 (by omega) (by omega)]
      exact g1
    · unfold GuM at g2 ⊢
      rw [c50 49 (by omega) (by omega), c50 52 (by omega) (by omega), row 67 (by omega) (by omega), row 68 (by omega) (by omega), row 69 (by omega) (by omega), row 70 (by omega) (by omega)]
      exact g2
  unfold fX11_law fX12_law fX12_law_28
  rw [b1]
  by_cases hN : a1 = NN
  · have e1 : ¬ a1 < -1 := by rw [hN]; decide
    have e2 : ¬ nI m ≤ a1 := by rw [hN, mz_ml (by omega)]; exact fun e => e
    have e3 : fX9_lawAt a1 (u2 i 0 12 a1) rv = some none := by
      unfold fX9_lawAt
      rw [if_pos (show a1 < 0 by rw [hN]; decide)]
    rw [if_neg e1, if_neg e2, e3, mz_b1]
    refine ⟨1, _, _, _, rfl, ?_, good a1 none none (Or.inl ⟨rfl, hN, rfl⟩)⟩
    rw [mz_lt, if_pos (show a1 = -1 from hN), mz_lt]
  · rcases mz_cases a1 with hneg | ⟨x, hx, rfl⟩
    · have e1 : a1 < -1 := by
        have h5 := Int32.lt_iff_toInt_lt.mp hneg
        have h6 : (nI 0).toInt = 0 := by decide +kernel
        have h7 : (-1 : Int32).toInt = -1 := by decide +kernel
        have h8 : a1.toInt ≠ -1 := fun e => hN (Int32.toInt_inj.mp (by rw [e]; decide +kernel))
        apply Int32.lt_iff_toInt_lt.mpr
        omega
      rw [if_pos e1]
      refine ⟨0, i, rv, u2 i 50 0 0, rfl, ?_, Inv_up (Inv_0 h)⟩
      rw [mz_lt, if_neg (show ¬ a1 = -1 from hN), L0, mz_isG (by omega) hneg, mz_b1, if_pos rfl]
    · rw [if_neg (show ¬ nI x < -1 by rw [qN1, mz_nl (by omega)]; exact fun e => e)]
      by_cases hxm : x < m
      · have e3 : fX9_lawAt (nI x) (u2 i 0 12 (nI x)) rv = some (some (100 + la x)) := by
          unfold fX9_lawAt
          rw [if_neg (show ¬ nI x < 0 by rw [q0, mz_ltp (by omega) (by omega)]; omega), u2r _ _ _ _ _ (by omega), b1, if_neg (nI_ge hxm (by omega)), if_pos (mz_in (by omega) (by omega)), nI_clamp (by omega), a3' x hxm, mz_o1]
          congr 2
          omega
        obtain ⟨f, hf⟩ := b5 x hxm
        rw [if_neg (nI_ge hxm (by omega)), e3, mz_b1]
        refine ⟨1, _, _, _, rfl, ?_, good (nI x) (some (100 + la x)) (some f) (Or.inr ⟨x, f, hxm, rfl, rfl, rfl, hf⟩)⟩
        rw [mz_lt, if_neg (show ¬ nI x = -1 from hN), u2n _ _ _ _ _ (by omega), u2r _ _ _ _ _ (by omega), b2, q1, mz_sub (by omega), L0, mz_isN (by omega) (by omega) (by omega), if_pos (by omega), mz_b1, if_neg (show ¬ (1 : Int32) = 0 by decide), mz_lt]
      · rw [if_pos (nI_le (by omega) (by omega))]
        refine ⟨0, i, rv, u2 i 50 0 0, rfl, ?_, Inv_up (Inv_0 h)⟩
        by_cases hm0 : m = 0
        · have e5 : fX12_isIn (nI x).toInt64 0 (u2 i 50 0 0 50 7 - 1).toInt64 = some 0 := by
            rw [u2n _ _ _ _ _ (by omega), b2, hm0, show nI 0 - 1 = NN from by decide, show (0 : Int64) = (nI 0).toInt64 from L0, mz_isIn]
            rw [if_neg (fun e => by have := e.2; rw [mz_ml (by omega)] at this; exact this)]
          rw [mz_lt, if_neg (show ¬ nI x = -1 from hN), e5, mz_b1, if_pos rfl]
        · rw [mz_lt, if_neg (show ¬ nI x = -1 from hN), u2n _ _ _ _ _ (by omega), b2, q1, mz_sub (by omega), L0, mz_isN (by omega) (by omega) (by omega), if_neg (by omega), mz_b1, if_pos rfl]
end QD
