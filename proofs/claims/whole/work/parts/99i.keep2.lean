/-! text: lines that are kept hold -/
section QL
variable {i i' i1 i2 i3 j j' j1 J X X' : Tb} {rv rv' rv2 rv3 rv4 : Nat → Nat → Option Nat} {W W' : Option ((Nat → Nat) → Int)} {K g g' D : Nat → Nat → Nat} {σ σ' T T' la li : Nat → Nat} {c n b b' L L' dr m m' q k x a r ld ln : Nat} {cls : List CL} {ss : List SP}
theorem spV_0 {s : SP} : spV s 0 = nI s.1 := if_pos rfl
theorem gD_mem {n : Nat} (h : n < ss.length) : ss.getD n (0, 0, none) ∈ ss := by
  rw [List.getD_eq_getElem?_getD, List.getElem?_eq_getElem h]
  exact List.getElem_mem h
theorem K_lines (h1 : OkK K) (h2 : SI K W b σ i i rv) (hb : b ≤ 20 * c) (h4 : Rst n K W g T L dr m m' la li i rv) (hm : m' < 4) (fc : FCl (la m) (li m') i i1) (hs1 : 1 ≤ ss.length) (hs2 : ss.length ≤ 16) (hs3 : ∀ s, s ∈ ss → s.1 < 6) (hc1 : i1 (li m') 1 = nI ss.length) (hc2 : ∀ n c, n < ss.length → c < 3 → i1 (li m' + 1) (3 * n + c) = spV (ss.getD n (0, 0, none)) c)
    (hi3 : ∀ p k, p < n → i3 p k = u2 (u2 i1 3 5 (nI (m' + 1))) 1 1 0 p k) (hrv3 : ∀ p k, p < n → rv3 p k = u2 (u2 rv 5 m' (some (100 + li m'))) 3 3 (some (100 + n)) p k)
    (hft : ∀ j, TaM T L j → ∃ j', fX12_fault 2 j rv3 = some (NN, j', u2 rv3 50 5 (some (100 + 51))) ∧ FMl j j' ∧ j' 62 4 = nI ss.length ∧ (∀ n c, n < ss.length → c < 3 → j' 61 (192 + 3 * n + c) = spV (ss.getD n (0, 0, none)) c)) :
    ∃ j' rv4, fX12_text 2 i3 rv3 = some (nI m', j', rv4) ∧ RvT rv3 rv4 ∧ Inv c (n + 2) j' rv4 := by
  obtain ⟨g1, g2, g3, t1, t2, t3, ⟨d1, d2, d3⟩, hA, hB⟩ := id h4
  obtain ⟨a1', a2', an, a3', a4', a5', a6', a7', a8', a9', a10', a11'⟩ := id hA
  have hm7 := a7' m (Nat.le_refl _)
  have hm8 := a8' m' (Nat.le_refl _)
  have hL := t3.1
  have ci : ∀ q k, q < n → ¬ (q = 1 ∧ (k = 1 ∨ k = 2)) → ¬ (q = 3 ∧ k = 5) → ¬ (11 ≤ q ∧ q ≤ 14) → ¬ (q = la m ∧ k = 2) → q ≠ la m + 1 → ¬ (q = li m' ∧ k = 1) → q ≠ li m' + 1 → i3 q k = i q k := fun q k e0 e1 e2 e3 e4 e5 e6 e7 => by
    rw [hi3 q k e0, u2o _ _ (by omega), u2o _ _ (by omega)]
    exact fc q k (by omega) e3 e4 e5 e6 e7
  have m50 : ∀ k, i3 50 k = i 50 k := fun k => ci 50 k (by omega) (by omega) (by omega) (by omega) (by omega) (by omega) (by omega) (by omega)
  have hTM : TaM T L (u2 i3 50 0 0) := ⟨by rw [u2n _ _ _ _ _ (by omega), m50]; exact t2.1, fun k hk => by rw [u2r _ _ _ _ _ (by omega), ci 51 k (by omega) (by omega) (by omega) (by omega) (by omega) (by omega) (by omega) (by omega)]; exact t2.2 k hk⟩
  obtain ⟨j5, f1, f2, f3, f4⟩ := hft _ hTM
  have fm5 : FMl i3 j5 := FMl_t FMl_0 f2
  obtain ⟨fu, hfu, hfu2⟩ := fuel_g
  obtain ⟨J, e1, e2, e3, e4, e5, e6, e7, e8⟩ := m_keepS (rv := u2 rv3 50 5 (some (100 + 51))) (j := u2 j5 50 6 0) hm (by rw [u2n _ _ _ _ _ (by omega), fm5.2 31 (by decide), m50]; exact hB.2.2.2.1) fu 0 _ (by omega) (by omega) (Fr_r _ _) (fun _ _ => rfl) (fun z hz => by omega)
  refine ⟨J, _, ?_, Or.inr (Or.inl rfl), ?_⟩
  · unfold fX12_text fX12_text_30 fX12_text_43
    rw [mz_lt, show fX12_isIn (2 : Int32).toInt64 0 2 = some 1 from is02 2 (by omega), mz_b1, if_neg (show ¬ (1 : Int32) = 0 by decide), if_neg (show ¬ (2 : Int32) = 1 by decide), if_pos (show (2 : Int32) = 2 from rfl), u2n _ _ _ _ _ (show (31 : Nat) ≠ 0 by omega), m50, hB.2.2.2.1, if_neg (show ¬ nI m' = 4 by rw [q4, nI_eq (by omega) (by omega)]; omega), f1, mz_b3, if_pos qN1.symm, mz_lt, if_neg (show ¬ (2 : Int32) = 1 by decide), if_pos (show (2 : Int32) = 2 from rfl), hfu]
    exact e1
  · have cj : ∀ q k, q ≠ 50 → q ≠ 61 → q ≠ 62 → q ≠ 56 → q ≠ 58 → q ≠ 60 → J q k = i3 q k := fun q k x1 x2 x3 x4 x5 x6 => by
      rw [e2 q (by simp [x1, x2, x3]), u2r _ _ _ _ _ x1]
      exact fm5.1 q k x1 x4 x5 x6 (by omega) (by omega)
    have cc : ∀ q k, q < n → q ≠ 50 → q ≠ 61 → q ≠ 62 → q ≠ 56 → q ≠ 58 → q ≠ 60 → ¬ (q = 1 ∧ (k = 1 ∨ k = 2)) → ¬ (q = 3 ∧ k = 5) → ¬ (11 ≤ q ∧ q ≤ 14) → ¬ (q = la m ∧ k = 2) → q ≠ la m + 1 → ¬ (q = li m' ∧ k = 1) → q ≠ li m' + 1 → J q k = i q k := fun q k x0 x1 x2 x3 x4 x5 x6 y1 y2 y3 y4 y5 y6 y7 => by
      rw [cj q k x1 x2 x3 x4 x5 x6]
      exact ci q k x0 y1 y2 y3 y4 y5 y6 y7
    have c50 : ∀ k, (k = 7 ∨ k = 26 ∨ k = 27 ∨ k = 28 ∨ k = 35 ∨ k = 36 ∨ k = 42 ∨ k = 49 ∨ k = 52 ∨ k = 57) → J 50 k = i 50 k := fun k hk => by
      rw [e3 k (by simp; omega), u2n _ _ _ _ _ (by omega), fm5.2 k (by simp; omega), m50]
    have row : ∀ q, (q = 0 ∨ q = 2 ∨ 15 ≤ q ∧ q < 50 ∨ 51 ≤ q ∧ q ≤ 53 ∨ q = 55 ∨ q = 57 ∨ q = 59 ∨ 63 ≤ q ∧ q < 74) → J q = i q := fun q hq => funext (fun k => cc q k (by omega) (by omega) (by omega) (by omega) (by omega) (by omega) (by omega) (by omega) (by omega) (by omega) (by omega) (by omega) (by omega) (by omega))
    have r61 : ∀ k, k < 48 * m' → J 61 k = i 61 k := fun k hk => by
      rw [e7 k hk, u2r _ _ _ _ _ (by omega), fm5.1 61 k (by omega) (by omega) (by omega) (by omega) (by omega) (by omega)]
      exact ci 61 k (by omega) (by omega) (by omega) (by omega) (by omega) (by omega) (by omega) (by omega)
    have r62 : ∀ k, k < m' → J 62 k = i 62 k := fun k hk => by
      rw [e6 k (by omega), u2r _ _ _ _ _ (by omega), fm5.1 62 k (by omega) (by omega) (by omega) (by omega) (by omega) (by omega)]
      exact ci 62 k (by omega) (by omega) (by omega) (by omega) (by omega) (by omega) (by omega) (by omega)
    obtain ⟨b1, b2, b3, b4, b5, b6, b7⟩ := id hB
    have lw : ∀ x f', x < m → LwAt i x (la x) f' → LwAt J x (la x) f' := by
      intro x f' hx hf'
      have h7 := a7' x (by omega)
      have h9 := a9' x m hx (Nat.le_refl _)
      have h11 := a11' x m' (by omega) (Nat.le_refl _)
      exact LwAt_e hf' (cc _ _ (by omega) (by omega) (by omega) (by omega) (by omega) (by omega) (by omega) (by omega) (by omega) (by omega) (by omega) (by omega) (by omega) (by omega)) (fun k => cc _ _ (by omega) (by omega) (by omega) (by omega) (by omega) (by omega) (by omega) (by omega) (by omega) (by omega) (by omega) (by omega) (by omega) (by omega)) (by rw [row 53 (by omega)]) (fun k => by rw [row 52 (by omega)])
    have lnm : LnAt J J m' (li m') ss.length := by
      have h11 := a11' m m' (Nat.le_refl _) (Nat.le_refl _)
      have x1 : ∀ k, J (li m' + 1) k = i1 (li m' + 1) k := fun k => by
        rw [cj _ _ (by omega) (by omega) (by omega) (by omega) (by omega) (by omega), hi3 _ _ (by omega), u2o _ _ (by omega), u2o _ _ (by omega)]
      have x2 : ∀ n c, n < ss.length → c < 3 → J 61 (48 * m' + 3 * n + c) = spV (ss.getD n (0, 0, none)) c := fun n c hn hcc => by
        rw [show 48 * m' + 3 * n + c = 48 * m' + (3 * n + c) by omega, e8 _ (by omega), u2r _ _ _ _ _ (by omega), show 192 + (3 * n + c) = 192 + 3 * n + c by omega]
        exact f4 n c hn hcc
      refine ⟨?_, by rw [e5, u2r _ _ _ _ _ (by omega)]; exact f3, hs1, hs2, fun k hk => ⟨(ss.getD k (0, 0, none)).1, hs3 _ (gD_mem hk), ?_, ?_⟩, fun k c hk hcc => by rw [x1, hc2 k c hk hcc, x2 k c hk hcc]⟩
      · rw [cj _ _ (by omega) (by omega) (by omega) (by omega) (by omega) (by omega), hi3 _ _ (by omega), u2o _ _ (by omega), u2o _ _ (by omega)]; exact hc1
      · have := hc2 k 0 hk (by omega)
        rw [spV_0] at this
        rw [x1]; exact this
      · have := x2 k 0 hk (by omega)
        rw [spV_0] at this
        exact this
    have rvr : ∀ p k, p < n → p ≠ 50 → u2 rv3 50 5 (some (100 + 51)) p k = u2 (u2 rv 5 m' (some (100 + li m'))) 3 3 (some (100 + n)) p k := fun p k hp hp2 => by rw [u2r _ _ _ _ _ hp2]; exact hrv3 p k hp
    have hla' : ∀ x, x ≤ m' → (fun x => if x ≤ m' then li x else n) x = li x := fun x hx => if_pos hx
    have hlan : (fun x => if x ≤ m' then li x else n) (m' + 1) = n := if_neg (by omega)
    generalize hLA : (fun x => if x ≤ m' then li x else n) = li2 at hla' hlan
    have hA2 : ShA (n + 2) m (m' + 1) la li2 (u2 rv3 50 5 (some (100 + 51))) := by
      refine ⟨a1', by omega, by omega, fun x hx => ?_, fun x hx => ?_, ?_, ?_, fun x hx => ?_, fun x hx => ?_, a9', fun x y hxy hy => ?_, fun x y hx hy => ?_⟩
      · rw [rvr 4 x (by omega) (by omega), u2r _ _ _ _ _ (by omega), u2r _ _ _ _ _ (by omega)]; exact a3' x hx
      · rw [rvr 5 x (by omega) (by omega), u2r _ _ _ _ _ (by omega), hla' x (by omega)]
        by_cases e : x = m'
        · rw [e, u2e]
        · rw [u2n _ _ _ _ _ e]; exact a4' x (by omega)
      · rw [rvr 3 2 (by omega) (by omega), u2n _ _ _ _ _ (by omega), u2r _ _ _ _ _ (by omega)]; exact a5'
      · rw [rvr 3 3 (by omega) (by omega), u2e, hlan]
      · have := a7' x hx; omega
      · by_cases e : x = m' + 1
        · rw [e, hlan]; omega
        · rw [hla' x (by omega)]; have := a8' x (by omega); omega
      · by_cases e : y = m' + 1
        · rw [e, hlan, hla' x (by omega)]; have := a8' x (by omega); omega
        · rw [hla' x (by omega), hla' y (by omega)]; exact a10' x y hxy (by omega)
      · have h7 := a7' x hx
        by_cases e : y = m' + 1
        · rw [e, hlan]; omega
        · rw [hla' y (by omega)]; exact a11' x y hx (by omega)
    have hB2 : ShB m (m' + 1) la li2 W J (u2 rv3 50 5 (some (100 + 51))) := by
      refine ⟨?_, by rw [c50 7 (by omega)]; exact b2, ?_, e4, fun x hx => ?_, fun x hx => ?_, ?_⟩
      · rw [cc 3 4 (by omega) (by omega) (by omega) (by omega) (by omega) (by omega) (by omega) (by omega) (by omega) (by omega) (by omega) (by omega) (by omega) (by omega)]; exact b1
      · rw [cj 3 5 (by omega) (by omega) (by omega) (by omega) (by omega) (by omega), hi3 3 5 (by omega), u2r _ _ _ _ _ (by omega), u2e]
      · obtain ⟨f', hf'⟩ := b5 x hx
        exact ⟨f', lw x f' hx hf'⟩
      · rw [hla' x (by omega)]
        by_cases e : x = m'
        · rw [e]; exact ⟨_, lnm⟩
        · obtain ⟨sz, l1, l2, l3, l4, l5, l6⟩ := b6 x (by omega)
          have h8 := a8' x (by omega)
          have h10 := a10' x m' (by omega) (Nat.le_refl _)
          have h11 := a11' m x (Nat.le_refl _) (by omega)
          have x1 : ∀ k, J (li x + 1) k = i (li x + 1) k := fun k => cc _ _ (by omega) (by omega) (by omega) (by omega) (by omega) (by omega) (by omega) (by omega) (by omega) (by omega) (by omega) (by omega) (by omega) (by omega)
          refine ⟨sz, by rw [cc _ _ (by omega) (by omega) (by omega) (by omega) (by omega) (by omega) (by omega) (by omega) (by omega) (by omega) (by omega) (by omega) (by omega) (by omega)]; exact l1, by rw [r62 x (by omega)]; exact l2, l3, l4, fun k hk => ?_, fun k c hk hcc => by rw [x1, r61 _ (by omega)]; exact l6 k c hk hcc⟩
          obtain ⟨kd, y1, y2, y3⟩ := l5 k hk
          exact ⟨kd, y1, by rw [x1]; exact y2, by rw [r61 _ (by omega)]; exact y3⟩
      · rw [rvr 23 2 (by omega) (by omega), u2r _ _ _ _ _ (by omega), u2r _ _ _ _ _ (by omega), row 0 (by omega), c50 35 (by omega)]
        rcases b7 with e | ⟨x, f', hx, y1, y2, y3, y4, y5⟩
        · exact Or.inl e
        · exact Or.inr ⟨x, f', hx, y1, y2, y3, y4, lw x f' hx y5⟩
    obtain ⟨hLC, hLM⟩ := ShB_law hA2 hB2
    refine ⟨K, W, b, σ, g, T, 0, dr, m, m' + 1, la, li2, h1, SI_g h2 (fun q x1 x2 => row q (by omega)) hLC (fun q hq => row q (by omega)) (fun k hk => c50 k (by omega)) hLM, hb, ?_, ?_, g3, ⟨?_, fun k hk => by omega⟩, ⟨?_, fun k hk => by omega⟩, ⟨by omega, fun k hk => by omega⟩, ⟨by rw [row 0 (by omega)]; exact d1, by rw [c50 36 (by omega)]; exact d2, d3⟩, hA2, hB2⟩
    · unfold GuC at g1 ⊢
      rw [row 45 (by omega), row 46 (by omega), row 47 (by omega), row 48 (by omega), row 49 (by omega)]
      exact g1
    · unfold GuM at g2 ⊢
      rw [c50 49 (by omega), c50 52 (by omega), row 67 (by omega), row 68 (by omega), row 69 (by omega), row 70 (by omega)]
      exact g2
    · rw [cj 1 1 (by omega) (by omega) (by omega) (by omega) (by omega) (by omega), hi3 1 1 (by omega), u2e]; rfl
    · rw [e3 6 (by decide), u2e]; rfl
end QL
