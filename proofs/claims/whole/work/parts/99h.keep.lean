/-! text: what is kept holds -/
section QK
variable {i i' i1 i2 i3 j j' j1 J X X' : Tb} {rv rv' rv2 rv3 rv4 : Nat → Nat → Option Nat} {W W' : Option ((Nat → Nat) → Int)} {K g g' D : Nat → Nat → Nat} {σ σ' T T' la li : Nat → Nat} {c n b b' L L' dr m m' q k x a r ld ln : Nat} {cls : List CL} {ss : List SP}
theorem FMl_r : FMl j j := ⟨fun _ _ _ _ _ _ _ _ => rfl, F5_r _ _⟩
/-- a law is kept -/
theorem K_law (h1 : OkK K) (h2 : SI K W b σ i i rv) (hb : b ≤ 20 * c) (h4 : Rst n K W g T L dr m m' la li i rv) (hm : m < 4) (fc : FCl (la m) (li m') i i1) (hla : LawAt (la m) (lwC 0 cls) i1) {f : (Nat → Nat) → Int} (hto : TextOK T L f) (hwo : WorthOK (lwC 0 cls) f)
    (hi3 : ∀ p k, p < n → i3 p k = u2 (u2 i1 3 4 (nI (m + 1))) 1 1 0 p k) (hrv3 : ∀ p k, p < n → rv3 p k = u2 (u2 rv 4 m (some (100 + la m))) 3 2 (some (100 + n)) p k)
    (hft : ∀ j, TaM T L j → ∃ j', fX12_fault 1 j rv3 = some (NN, j', u2 rv3 50 5 (some (100 + 51))) ∧ FMl j j') :
    ∃ j' rv4, fX12_text 1 i3 rv3 = some (nI m, j', rv4) ∧ RvT rv3 rv4 ∧ Inv c (n + 3) j' rv4 := by
  obtain ⟨g1, g2, g3, t1, t2, t3, ⟨d1, d2, d3⟩, hA, hB⟩ := id h4
  obtain ⟨a1', a2', an, a3', a4', a5', a6', a7', a8', a9', a10', a11'⟩ := id hA
  have hm7 := a7' m (Nat.le_refl _)
  have hm8 := a8' m' (Nat.le_refl _)
  have hL := t3.1
  -- the class's table, seen from i
  have ci : ∀ q k, q < n → ¬ (q = 1 ∧ (k = 1 ∨ k = 2)) → ¬ (q = 3 ∧ k = 4) → ¬ (11 ≤ q ∧ q ≤ 14) → ¬ (q = la m ∧ k = 2) → q ≠ la m + 1 → ¬ (q = li m' ∧ k = 1) → q ≠ li m' + 1 → i3 q k = i q k := fun q k e0 e1 e2 e3 e4 e5 e6 e7 => by
    rw [hi3 q k e0, u2o _ _ (by omega), u2o _ _ (by omega)]
    exact fc q k (by omega) e3 e4 e5 e6 e7
  have m50 : ∀ k, i3 50 k = i 50 k := fun k => ci 50 k (by omega) (by omega) (by omega) (by omega) (by omega) (by omega) (by omega) (by omega)
  have hTM : TaM T L (u2 i3 50 0 0) := ⟨by rw [u2n _ _ _ _ _ (by omega), m50]; exact t2.1, fun k hk => by rw [u2r _ _ _ _ _ (by omega), ci 51 k (by omega) (by omega) (by omega) (by omega) (by omega) (by omega) (by omega) (by omega)]; exact t2.2 k hk⟩
  obtain ⟨j5, f1, f2⟩ := hft _ hTM
  have fm5 : FMl i3 j5 := FMl_t FMl_0 f2
  have h506 : j5 50 6 = nI L := by rw [fm5.2 6 (by decide), m50]; exact t2.1
  obtain ⟨fu, hfu, hfu2⟩ := fuel_g
  obtain ⟨J, e1, e2, e3, e4, e5, e6, e7, e8⟩ := m_keepL (rv := u2 rv3 50 5 (some (100 + 51))) (j := u2 j5 50 6 0) t3 hm (by rw [u2n _ _ _ _ _ (by omega), fm5.2 7 (by decide), m50]; exact hB.2.1) (fun k hk => by rw [u2r _ _ _ _ _ (by omega), fm5.1 51 k (by omega) (by omega) (by omega) (by omega) (by omega) (by omega)]; have := hTM.2 k hk; rw [u2r _ _ _ _ _ (by omega)] at this; exact this) fu 0 _ (by omega) (by omega) (Fr_r _ _) (fun _ _ => rfl) (fun z hz => by omega)
  refine ⟨J, _, ?_, Or.inr (Or.inl rfl), ?_⟩
  · unfold fX12_text fX12_text_30 fX12_text_43
    rw [mz_lt, show fX12_isIn (1 : Int32).toInt64 0 2 = some 1 from is02 1 (by omega), mz_b1, if_neg (show ¬ (1 : Int32) = 0 by decide), if_pos (show (1 : Int32) = 1 from rfl), u2n _ _ _ _ _ (show (7 : Nat) ≠ 0 by omega), m50, hB.2.1, if_neg (show ¬ nI m = 4 by rw [q4, nI_eq (by omega) (by omega)]; omega), if_neg (show ¬ (1 : Int32) = 2 by decide), f1, mz_b3, if_pos qN1.symm, mz_lt, if_pos (show (1 : Int32) = 1 from rfl), h506, hfu]
    exact e1
  · -- cells of the end
    have cj : ∀ q k, q ≠ 50 → q ≠ 52 → q ≠ 53 → q ≠ 56 → q ≠ 58 → q ≠ 60 → ¬ (q = 61 ∧ 192 ≤ k) → ¬ (q = 62 ∧ 4 ≤ k) → J q k = i3 q k := fun q k x1 x2 x3 x4 x5 x6 x7 x8 => by
      rw [e2 q (by simp [x1, x2, x3]), u2r _ _ _ _ _ x1]
      exact fm5.1 q k x1 x4 x5 x6 x7 x8
    have cc : ∀ q k, q < n → q ≠ 50 → q ≠ 52 → q ≠ 53 → q ≠ 56 → q ≠ 58 → q ≠ 60 → ¬ (q = 61 ∧ 192 ≤ k) → ¬ (q = 62 ∧ 4 ≤ k) → ¬ (q = 1 ∧ (k = 1 ∨ k = 2)) → ¬ (q = 3 ∧ k = 4) → ¬ (11 ≤ q ∧ q ≤ 14) → ¬ (q = la m ∧ k = 2) → q ≠ la m + 1 → ¬ (q = li m' ∧ k = 1) → q ≠ li m' + 1 → J q k = i q k := fun q k x0 x1 x2 x3 x4 x5 x6 x7 x8 y1 y2 y3 y4 y5 y6 y7 => by
      rw [cj q k x1 x2 x3 x4 x5 x6 x7 x8]
      exact ci q k x0 y1 y2 y3 y4 y5 y6 y7
    have c50 : ∀ k, (k = 26 ∨ k = 27 ∨ k = 28 ∨ k = 31 ∨ k = 35 ∨ k = 36 ∨ k = 42 ∨ k = 49 ∨ k = 52 ∨ k = 57) → J 50 k = i 50 k := fun k hk => by
      rw [e3 k (by simp; omega), u2n _ _ _ _ _ (by omega), fm5.2 k (by simp; omega), m50]
    have row : ∀ q, (q = 0 ∨ q = 2 ∨ 15 ≤ q ∧ q < 50 ∨ q = 51 ∨ q = 55 ∨ q = 57 ∨ q = 59 ∨ 63 ≤ q ∧ q < 74) → J q = i q := fun q hq => funext (fun k => cc q k (by omega) (by omega) (by omega) (by omega) (by omega) (by omega) (by omega) (by omega) (by omega) (by omega) (by omega) (by omega) (by omega) (by omega) (by omega) (by omega))
    have r52 : ∀ k, k < 240 * m → J 52 k = i 52 k := fun k hk => by
      rw [e7 k hk, u2r _ _ _ _ _ (by omega), fm5.1 52 k (by omega) (by omega) (by omega) (by omega) (by omega) (by omega)]
      exact ci 52 k (by omega) (by omega) (by omega) (by omega) (by omega) (by omega) (by omega) (by omega)
    have r53 : ∀ k, k ≠ m → J 53 k = i 53 k := fun k hk => by
      rw [e6 k hk, u2r _ _ _ _ _ (by omega), fm5.1 53 k (by omega) (by omega) (by omega) (by omega) (by omega) (by omega)]
      exact ci 53 k (by omega) (by omega) (by omega) (by omega) (by omega) (by omega) (by omega) (by omega)
    obtain ⟨b1, b2, b3, b4, b5, b6, b7⟩ := id hB
    have lw : ∀ x f', x < m → LwAt i x (la x) f' → LwAt J x (la x) f' := by
      intro x f' hx hf'
      obtain ⟨cs, T', L', ⟨l1, l2, l3⟩, l4, l5, l6, l7, l8⟩ := hf'
      have h7 := a7' x (by omega)
      have h9 := a9' x m hx (Nat.le_refl _)
      have h11 := a11' x m' (by omega) (Nat.le_refl _)
      refine ⟨cs, T', L', ⟨?_, l2, fun k hk => ?_⟩, l4, by rw [r53 x (by omega)]; exact l5, l6, fun k hk => by rw [r52 _ (by omega)]; exact l7 k hk, l8⟩
      · rw [cc _ _ (by omega) (by omega) (by omega) (by omega) (by omega) (by omega) (by omega) (by omega) (by omega) (by omega) (by omega) (by omega) (by omega) (by omega) (by omega) (by omega)]; exact l1
      · rw [cc _ _ (by omega) (by omega) (by omega) (by omega) (by omega) (by omega) (by omega) (by omega) (by omega) (by omega) (by omega) (by omega) (by omega) (by omega) (by omega) (by omega)]; exact l3 k hk
    have lwm : LwAt J m (la m) f := by
      have h11 := a11' m m' (Nat.le_refl _) (Nat.le_refl _)
      obtain ⟨l1, l2, l3⟩ := hla
      refine ⟨lwC 0 cls, T, L, ⟨?_, l2, fun k hk => ?_⟩, hwo, e5, hL, e8, hto⟩
      · rw [cj _ _ (by omega) (by omega) (by omega) (by omega) (by omega) (by omega) (by omega) (by omega), hi3 _ _ (by omega), u2o _ _ (by omega), u2o _ _ (by omega)]; exact l1
      · rw [cj _ _ (by omega) (by omega) (by omega) (by omega) (by omega) (by omega) (by omega) (by omega), hi3 _ _ (by omega), u2o _ _ (by omega), u2o _ _ (by omega)]; exact l3 k hk
    have rvr : ∀ p k, p < n → p ≠ 50 → u2 rv3 50 5 (some (100 + 51)) p k = u2 (u2 rv 4 m (some (100 + la m))) 3 2 (some (100 + n)) p k := fun p k hp hp2 => by rw [u2r _ _ _ _ _ hp2]; exact hrv3 p k hp
    have hla' : ∀ x, x ≤ m → (fun x => if x ≤ m then la x else n) x = la x := fun x hx => if_pos hx
    have hlan : (fun x => if x ≤ m then la x else n) (m + 1) = n := if_neg (by omega)
    generalize hLA : (fun x => if x ≤ m then la x else n) = la2 at hla' hlan
    have hA2 : ShA (n + 3) (m + 1) m' la2 li (u2 rv3 50 5 (some (100 + 51))) := by
      refine ⟨by omega, a2', by omega, fun x hx => ?_, fun x hx => ?_, ?_, ?_, fun x hx => ?_, fun x hx => ?_, fun x y hxy hy => ?_, a10', fun x y hx hy => ?_⟩
      · rw [rvr 4 x (by omega) (by omega), u2r _ _ _ _ _ (by omega), hla' x (by omega)]
        by_cases e : x = m
        · rw [e, u2e]
        · rw [u2n _ _ _ _ _ e]; exact a3' x (by omega)
      · rw [rvr 5 x (by omega) (by omega), u2r _ _ _ _ _ (by omega), u2r _ _ _ _ _ (by omega)]; exact a4' x hx
      · rw [rvr 3 2 (by omega) (by omega), u2e, hlan]
      · rw [rvr 3 3 (by omega) (by omega), u2n _ _ _ _ _ (by omega), u2r _ _ _ _ _ (by omega)]; exact a6'
      · by_cases e : x = m + 1
        · rw [e, hlan]; omega
        · rw [hla' x (by omega)]; have := a7' x (by omega); omega
      · have := a8' x hx; omega
      · by_cases e : y = m + 1
        · rw [e, hlan, hla' x (by omega)]; have := a7' x (by omega); omega
        · rw [hla' x (by omega), hla' y (by omega)]; exact a9' x y hxy (by omega)
      · have h8 := a8' y hy
        by_cases e : x = m + 1
        · rw [e, hlan]; omega
        · rw [hla' x (by omega)]; exact a11' x y (by omega) hy
    have hB2 : ShB (m + 1) m' la2 li W J (u2 rv3 50 5 (some (100 + 51))) := by
      refine ⟨?_, e4, ?_, by rw [c50 31 (by omega)]; exact b4, fun x hx => ?_, fun x hx => ?_, ?_⟩
      · rw [cj 3 4 (by omega) (by omega) (by omega) (by omega) (by omega) (by omega) (by omega) (by omega), hi3 3 4 (by omega), u2r _ _ _ _ _ (by omega), u2e]
      · rw [cc 3 5 (by omega) (by omega) (by omega) (by omega) (by omega) (by omega) (by omega) (by omega) (by omega) (by omega) (by omega) (by omega) (by omega) (by omega) (by omega) (by omega)]; exact b3
      · rw [hla' x (by omega)]
        by_cases e : x = m
        · rw [e]; exact ⟨f, lwm⟩
        · obtain ⟨f', hf'⟩ := b5 x (by omega)
          exact ⟨f', lw x f' (by omega) hf'⟩
      · obtain ⟨sz, hs⟩ := b6 x hx
        have h8 := a8' x (by omega)
        have h10 := a10' x m' hx (Nat.le_refl _)
        have h11 := a11' m x (Nat.le_refl _) (by omega)
        refine ⟨sz, LnAt_e (by omega) hs ?_ (fun k => ?_) (fun k hk => ?_) (fun k hk => ?_)⟩
        · exact cc _ _ (by omega) (by omega) (by omega) (by omega) (by omega) (by omega) (by omega) (by omega) (by omega) (by omega) (by omega) (by omega) (by omega) (by omega) (by omega) (by omega)
        · exact cc _ _ (by omega) (by omega) (by omega) (by omega) (by omega) (by omega) (by omega) (by omega) (by omega) (by omega) (by omega) (by omega) (by omega) (by omega) (by omega) (by omega)
        · exact cc _ _ (by omega) (by omega) (by omega) (by omega) (by omega) (by omega) (by omega) (by omega) (by omega) (by omega) (by omega) (by omega) (by omega) (by omega) (by omega) (by omega)
        · exact cc _ _ (by omega) (by omega) (by omega) (by omega) (by omega) (by omega) (by omega) (by omega) (by omega) (by omega) (by omega) (by omega) (by omega) (by omega) (by omega) (by omega)
      · rw [rvr 23 2 (by omega) (by omega), u2r _ _ _ _ _ (by omega), u2r _ _ _ _ _ (by omega), row 0 (by omega), c50 35 (by omega)]
        rcases b7 with e | ⟨x, f', hx, y1, y2, y3, y4, y5⟩
        · exact Or.inl e
        · exact Or.inr ⟨x, f', by omega, by rw [hla' x (by omega)]; exact y1, y2, y3, y4, by rw [hla' x (by omega)]; exact lw x f' hx y5⟩
    obtain ⟨hLC, hLM⟩ := ShB_law hA2 hB2
    refine ⟨K, W, b, σ, g, T, 0, dr, m + 1, m', la2, li, h1, SI_g h2 (fun q x1 x2 => row q (by omega)) hLC (fun q hq => row q (by omega)) (fun k hk => c50 k (by omega)) hLM, hb, ?_, ?_, g3, ⟨?_, fun k hk => by omega⟩, ⟨?_, fun k hk => by omega⟩, ⟨by omega, fun k hk => by omega⟩, ⟨by rw [row 0 (by omega)]; exact d1, by rw [c50 36 (by omega)]; exact d2, d3⟩, hA2, hB2⟩
    · unfold GuC at g1 ⊢
      rw [row 45 (by omega), row 46 (by omega), row 47 (by omega), row 48 (by omega), row 49 (by omega)]
      exact g1
    · unfold GuM at g2 ⊢
      rw [c50 49 (by omega), c50 52 (by omega), row 67 (by omega), row 68 (by omega), row 69 (by omega), row 70 (by omega)]
      exact g2
    · rw [cj 1 1 (by omega) (by omega) (by omega) (by omega) (by omega) (by omega) (by omega) (by omega), hi3 1 1 (by omega), u2e]; rfl
    · rw [e3 6 (by decide), u2e]; rfl
end QK
