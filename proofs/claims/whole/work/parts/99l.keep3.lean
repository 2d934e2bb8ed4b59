/-! text: a boarded car holds -/
section QC
variable {i i' i1 i2 i3 j j' j1 J X X' Y : Tb} {rv rv' rv2 rv3 rv4 : Nat → Nat → Option Nat} {W W' : Option ((Nat → Nat) → Int)} {K g g' D : Nat → Nat → Nat} {σ σ' T T' la li : Nat → Nat} {c n b b' L L' dr m m' p q k x a r ld ln : Nat} {td : Bool} {w : Nat → Int32}
theorem sB_1 (h : p < K 0 3) (hm : K 0 3 ≤ 9) : up (sB0 K (K 0 3)) 54 (K 1 2) p = p := by
  rw [up_n (by omega)]
  unfold sB0
  rw [if_pos h]
theorem sB_2 (hn : nb K (K 0 3) = K 0 5) (hm : K 0 3 ≤ 9) (h5 : K 0 5 ≤ 9) (h : q < K 0 5) : up (sB0 K (K 0 3)) 54 (K 1 2) (9 + q) = pp K q := by
  rw [up_n (by omega)]
  unfold sB0
  rw [if_neg (by omega), hn, if_pos (by omega), show 9 + q - 9 = q by omega]
theorem sB_3 (hm : K 0 3 ≤ 9) (h : p < 9) : up (sB0 K (K 0 3)) 54 (K 1 2) (18 + p) = 0 := by
  have hb := nb_le9 (K := K) (n := K 0 3)
  rw [up_n (by omega)]
  unfold sB0
  rw [if_neg (by omega), if_neg (by omega), if_neg (by omega)]
theorem sB_4 (hm : K 0 3 ≤ 9) (h : p < 9) : up (sB0 K (K 0 3)) 54 (K 1 2) (27 + p) = if p < K 0 3 then 1 else 0 := by
  have hb := nb_le9 (K := K) (n := K 0 3)
  rw [up_n (by omega)]
  unfold sB0
  rw [if_neg (by omega), if_neg (by omega)]
  by_cases e : p < K 0 3
  · rw [if_pos e, if_pos (by omega)]
  · rw [if_neg e, if_neg (by omega)]
theorem sB_5 (hm : K 0 3 ≤ 9) (h : 36 ≤ k) (h4 : k ≠ 54) : up (sB0 K (K 0 3)) 54 (K 1 2) k = 0 := by
  have hb := nb_le9 (K := K) (n := K 0 3)
  rw [up_n h4]
  unfold sB0
  rw [if_neg (by omega), if_neg (by omega), if_neg (by omega)]
theorem sBo_ok (hK : OkK K) (hn : nb K (K 0 3) = K 0 5) : OkS K b (up (sB0 K (K 0 3)) 54 (K 1 2)) := by
  have hm := hK.1
  have h5 := hK.2.2.1
  refine ⟨fun p hp => by rw [sB_1 hp hm]; exact hp, fun p q hp hq e => ?_, fun q hq => ?_, fun q r hq hr e => ?_, fun p hp e => ?_, fun p hp => ?_, fun p hp => ?_, fun p hp hp2 => ?_, ?_, ?_⟩
  · rw [sB_1 hp hm, sB_1 hq hm] at e
    exact e
  · rw [sB_2 hn hm (by omega) hq]
    obtain ⟨e1, e2, e3⟩ := pp_ok (K := K) hm (by rw [hn]; exact hq)
    exact ⟨e1, e2⟩
  · rw [sB_2 hn hm (by omega) hq, sB_2 hn hm (by omega) hr] at e
    obtain ⟨_, _, e3⟩ := pp_ok (K := K) hm (k := q) (by rw [hn]; exact hq)
    obtain ⟨_, _, e4⟩ := pp_ok (K := K) hm (k := r) (by rw [hn]; exact hr)
    rw [← e3, ← e4, e]
  · have hl : nb K p < K 0 5 := by rw [← hn]; exact nb_lt e hp
    exact ⟨nb K p, hl, by rw [sB_2 hn hm (by omega) hl]; exact pp_nb (by omega) e⟩
  · rw [sB_3 hm (by omega)]
    exact ⟨by omega, fun e => absurd rfl e⟩
  · rw [sB_4 hm hp, sB_5 hm (by omega) (by omega), sB_5 hm (by omega) (by omega)]
    refine ⟨?_, by omega, by omega⟩
    split <;> omega
  · rw [sB_4 hm hp, sB_5 hm (by omega) (by omega), if_neg (by omega)]
    exact ⟨rfl, rfl⟩
  · rw [up_e]; exact hK.2.2.2.2.2.2.2.1
  · rw [sB_5 hm (by omega) (by omega)]; omega
theorem sB_m (hK : OkK K) (hn : nb K (K 0 3) = K 0 5) (h : ∀ q, q < K 0 3 → bC K w q) (h54 : w 54 = nI (K 1 2)) : ScM K (up (sB0 K (K 0 3)) 54 (K 1 2)) w := by
  have hm := hK.1
  have h5 := hK.2.2.1
  refine ⟨fun p hp => ?_, fun p hp e => ?_, fun q hq => ?_, by rw [up_e]; exact h54⟩
  · obtain ⟨c1, c2, c3, c4, c5, c6⟩ := h p hp
    rw [sB_1 hp hm, sB_3 hm (by omega), sB_4 hm (by omega), if_pos hp, sB_5 hm (by omega) (by omega), sB_5 hm (by omega) (by omega)]
    exact ⟨c1, c3, c4, c5, c6⟩
  · rw [(h p hp).2.1, if_pos e]
  · obtain ⟨e1, e2, e3⟩ := pp_ok (K := K) hm (k := q) (by rw [hn]; exact hq)
    rw [sB_2 hn hm (by omega) hq, (h _ e1).2.1, if_neg (by omega), e3]
theorem K_car (h2 : SI K W b σ i i rv) (h4 : Rst n K W g T L dr m m' la li i rv) (hD : DrC D i1) (hO : OkD D) (hp : 0 < pap D) (hd4 : 0 < D 0 4) (h5 : i1 11 5 = nI (pap D)) (fc : FCl (la m) (li m') i i1)
    (hft : ∀ j, TaM T L j → ∃ Y r td, fX12_fault 0 j rv = some (NN, mP Y r, u2 rv 50 5 (some (100 + 51))) ∧ FMl j (mP Y r) ∧ DrM td D Y) :
    ∃ i2 i3 j' rv4, fX11_board i1 = some (nI (D 0 3), i2) ∧ fX10_cut 0 i2 = some i3 ∧ ¬ nI (D 0 3) = -1 ∧ fX12_text 0 i3 rv = some (nI (D 0 3), j', rv4) ∧ RvT rv rv4 ∧ Inv c n j' rv4 := by
  obtain ⟨g1, g2, g3, t1, t2, t3, ⟨d1, d2, d3⟩, hA, hB⟩ := id h4
  obtain ⟨a1', a2', an, a3', a4', a5', a6', a7', a8', a9', a10', a11'⟩ := id hA
  have hm7 := a7' m (Nat.le_refl _)
  have hm8 := a8' m' (Nat.le_refl _)
  have hL := t3.1
  have hd3 := hO.1
  have hK' : OkK (kB D i1) := kB_ok hO hp hd4
  have hn' : nb (kB D i1) (D 0 3) = pap D := kB_nb (D 0 3) (Nat.le_refl _)
  obtain ⟨i2, e1, e2, e3, e4, e5, e6, e7, e8, fr2⟩ := C_board hD hO hp hd4 h5
  have ci : ∀ q k, q ≠ 15 → q ≠ 16 → q ≠ 17 → q ≠ 18 → q ≠ 20 → q ≠ 25 → q ≠ 45 → ¬ (q = 1 ∧ (k = 1 ∨ k = 2)) → ¬ (11 ≤ q ∧ q ≤ 14) → ¬ (q = la m ∧ k = 2) → q ≠ la m + 1 → ¬ (q = li m' ∧ k = 1) → q ≠ li m' + 1 → u2 i2 1 1 0 q k = i q k := fun q k x1 x2 x3 x4 x5 x6 x7 y1 y3 y4 y5 y6 y7 => by
    rw [u2o _ _ (by omega), fr2 q (by simp [x1, x2, x3, x4, x5, x6, x7])]
    exact fc q k (by omega) y3 y4 y5 y6 y7
  have m50 : ∀ k, u2 i2 1 1 0 50 k = i 50 k := fun k => ci 50 k (by omega) (by omega) (by omega) (by omega) (by omega) (by omega) (by omega) (by omega) (by omega) (by omega) (by omega) (by omega) (by omega)
  have hTM : TaM T L (u2 (u2 i2 1 1 0) 50 0 0) := ⟨by rw [u2n _ _ _ _ _ (by omega), m50]; exact t2.1, fun k hk => by rw [u2r _ _ _ _ _ (by omega), ci 51 k (by omega) (by omega) (by omega) (by omega) (by omega) (by omega) (by omega) (by omega) (by omega) (by omega) (by omega) (by omega) (by omega)]; exact t2.2 k hk⟩
  obtain ⟨Y, r, td, f1, f2, f3, f4, f5, f6, f7, f8⟩ := hft _ hTM
  have fm5 : FMl (u2 i2 1 1 0) (mP Y r) := FMl_t FMl_0 f2
  obtain ⟨fu, hfu, hfu2⟩ := fuel_g
  have hF : 300 < fuel := by rw [hfu]; omega
  have z29 : u2 (mP Y r) 50 6 0 50 29 = nI (D 0 3) := by rw [u2n _ _ _ _ _ (by omega), mP_n (by omega)]; exact f3
  have z30 : u2 (u2 (mP Y r) 50 6 0) 50 26 (nI (D 0 3)) 50 30 = nI (D 0 4) := by rw [u2n _ _ _ _ _ (by omega), u2n _ _ _ _ _ (by omega), mP_n (by omega)]; exact f4
  have r0 : ∀ q, q ≠ 50 → u2 (u2 (u2 (mP Y r) 50 6 0) 50 26 (nI (D 0 3))) 50 27 (nI (D 0 4)) q = mP Y r q := fun q hq => by rw [u2r _ _ _ _ _ hq, u2r _ _ _ _ _ hq, u2r _ _ _ _ _ hq]
  have k0 : ∀ k, k ≠ 6 → k ≠ 26 → k ≠ 27 → u2 (u2 (u2 (mP Y r) 50 6 0) 50 26 (nI (D 0 3))) 50 27 (nI (D 0 4)) 50 k = mP Y r 50 k := fun k x1 x2 x3 => by rw [u2n _ _ _ _ _ x3, u2n _ _ _ _ _ x2, u2n _ _ _ _ _ x1]
  have k6 : u2 (u2 (u2 (mP Y r) 50 6 0) 50 26 (nI (D 0 3))) 50 27 (nI (D 0 4)) 50 6 = 0 := by rw [u2n _ _ _ _ _ (by omega), u2n _ _ _ _ _ (by omega), u2e]
  have k26 : u2 (u2 (u2 (mP Y r) 50 6 0) 50 26 (nI (D 0 3))) 50 27 (nI (D 0 4)) 50 26 = nI (D 0 3) := by rw [u2n _ _ _ _ _ (by omega), u2e]
  have k27 : u2 (u2 (u2 (mP Y r) 50 6 0) 50 26 (nI (D 0 3))) 50 27 (nI (D 0 4)) 50 27 = nI (D 0 4) := u2e _ _ _ _
  generalize hJ0 : u2 (u2 (u2 (mP Y r) 50 6 0) 50 26 (nI (D 0 3))) 50 27 (nI (D 0 4)) = J0 at r0 k0 k6 k26 k27
  obtain ⟨J1, u1, v1, w1⟩ := m_b223 (j := J0) (rv := u2 rv 50 5 (some (100 + 51))) fuel 0 J0 (by omega) (by omega) (Fr_r _ _) (fun z hz => by omega)
  obtain ⟨J2, u2', v2, w2⟩ := m_b248 (j := J1) (rv := u2 rv 50 5 (some (100 + 51))) fuel 0 J1 (by omega) (by omega) (Fr_r _ _) (fun z hz => by omega)
  obtain ⟨J3, u3, v3, w3⟩ := m_b274 (j := J2) (rv := u2 rv 50 5 (some (100 + 51))) fuel 0 J2 (by omega) (by omega) (Fr_r _ _) (fun z hz => by omega)
  obtain ⟨J4, u4, v4, w4⟩ := m_b300 (j := J3) (rv := u2 rv 50 5 (some (100 + 51))) fuel 0 J3 (by omega) (by omega) (Fr_r _ _) (fun z hz => by omega)
  rw [show nI 0 = (0 : Int32) from rfl] at u1 u2' u3 u4
  have s50 : J4 50 = J0 50 := by rw [v4 50 (by decide), v3 50 (by decide), v2 50 (by decide), v1 50 (by decide)]
  have s55 : ∀ k, k < 4 → J4 55 k = nI (D 1 k) := fun k hk => by
    rw [v4 55 (by decide), v3 55 (by decide), v2 55 (by decide), w1 k hk, r0 56 (by omega), mP_r (by omega)]
    exact f6 k hk
  have s57 : ∀ k, k < 6 * D 0 3 → J4 57 k = nI (D 2 k) := fun k hk => by
    rw [v4 57 (by decide), v3 57 (by decide), w2 k (by omega), v1 58 (by decide), r0 58 (by omega), mP_r (by omega)]
    exact f7 k hk
  have s59 : ∀ k, k < 4 * D 0 4 → J4 59 k = nI (D 3 k) := fun k hk => by
    have := hO.2.1
    rw [v4 59 (by decide), w3 k (by omega), v2 60 (by decide), v1 60 (by decide), r0 60 (by omega), mP_r (by omega)]
    exact f8 k hk
  obtain ⟨J, l1, l2, l3, l4, ⟨l42, l49, l52, l57⟩, l6, l7, l8⟩ := m_b327 (K := kB D i1) (j := u2 J4 50 28 0) (rv := u2 rv 50 5 (some (100 + 51))) hK' (by rw [u2n _ _ _ _ _ (by omega), s50]; exact k26) (fun p hp => by
      rw [u2r _ _ _ _ _ (by omega), kB_sv (D := D) hp (by omega)]
      have hp' : p < D 0 3 := hp
      exact s57 _ (by omega)) (by rw [u2r _ _ _ _ _ (by omega)]; exact s55 2 (by omega)) fuel 0 _ (by omega) (by show D 0 3 - 0 < fuel; omega) (Fr_r _ _) (F5_r _ _) (by rw [u2e]; rfl) (fun q hq => by omega) (fun z _ hz => by rw [u2r _ _ _ _ _ (by omega)]; exact w4 z hz)
  rw [show nI 0 = (0 : Int32) from rfl] at l1
  refine ⟨i2, _, J, _, e1, rfl, by rw [qN1, mz_nm (by omega)]; exact id, ?_, Or.inr (Or.inl rfl), ?_⟩
  · unfold fX12_text fX12_text_30 fX12_text_43
    rw [mz_lt, show fX12_isIn (0 : Int32).toInt64 0 2 = some 1 from is02 0 (by omega), mz_b1, if_neg (show ¬ (1 : Int32) = 0 by decide), if_neg (show ¬ (0 : Int32) = 1 by decide), if_neg (show ¬ (0 : Int32) = 2 by decide), f1, mz_b3, if_pos qN1.symm, mz_lt, if_neg (show ¬ (0 : Int32) = 1 by decide), if_neg (show ¬ (0 : Int32) = 2 by decide), mz_lt, mz_lt, z29, z30, hJ0, u1, u2', u3, u4, l1]
    rfl
  · have cj : ∀ q k, q ≠ 50 → q ≠ 55 → q ≠ 56 → q ≠ 57 → q ≠ 58 → q ≠ 59 → q ≠ 60 → q ≠ 63 → ¬ (q = 61 ∧ 192 ≤ k) → ¬ (q = 62 ∧ 4 ≤ k) → J q k = u2 i2 1 1 0 q k := fun q k x1 x2 x3 x4 x5 x6 x7 x8 x9 x10 => by
      rw [l2 q (by simp [x1, x8]), u2r _ _ _ _ _ x1, v4 q (by simp [x8]), v3 q (by simp [x6]), v2 q (by simp [x4]), v1 q (by simp [x2]), r0 q x1]
      exact fm5.1 q k x1 x3 x5 x7 x9 x10
    have cc : ∀ q k, q ≠ 50 → q ≠ 55 → q ≠ 56 → q ≠ 57 → q ≠ 58 → q ≠ 59 → q ≠ 60 → q ≠ 63 → ¬ (q = 61 ∧ 192 ≤ k) → ¬ (q = 62 ∧ 4 ≤ k) → q ≠ 15 → q ≠ 16 → q ≠ 17 → q ≠ 18 → q ≠ 20 → q ≠ 25 → q ≠ 45 → ¬ (q = 1 ∧ (k = 1 ∨ k = 2)) → ¬ (11 ≤ q ∧ q ≤ 14) → ¬ (q = la m ∧ k = 2) → q ≠ la m + 1 → ¬ (q = li m' ∧ k = 1) → q ≠ li m' + 1 → J q k = i q k := fun q k x1 x2 x3 x4 x5 x6 x7 x8 x9 x10 y1 y2 y3 y4 y5 y6 y7 y8 y9 y10 y11 y12 y13 => by
      rw [cj q k x1 x2 x3 x4 x5 x6 x7 x8 x9 x10]
      exact ci q k y1 y2 y3 y4 y5 y6 y7 y8 y9 y10 y11 y12 y13
    have cr : ∀ q k, (q = 0 ∨ q = 2 ∨ q = 3 ∨ q = 4 ∨ q = 5 ∨ q = 51 ∨ q = 52 ∨ q = 53 ∨ q = 61 ∧ k < 192 ∨ q = 62 ∧ k < 4) → J q k = i q k := fun q k hq => cc q k (by omega) (by omega) (by omega) (by omega) (by omega) (by omega) (by omega) (by omega) (by omega) (by omega) (by omega) (by omega) (by omega) (by omega) (by omega) (by omega) (by omega) (by omega) (by omega) (by omega) (by omega) (by omega) (by omega)
    have c50 : ∀ k, (k = 7 ∨ k = 31 ∨ k = 35 ∨ k = 36) → J 50 k = i 50 k := fun k hk => by
      rw [l3 k (by simp; omega), u2n _ _ _ _ _ (by omega), s50, k0 k (by omega) (by omega) (by omega), fm5.2 k (by simp; omega), m50]
    have cl : ∀ q, (q = 15 ∨ q = 16 ∨ q = 17 ∨ q = 18 ∨ q = 20 ∨ q = 25 ∨ q = 45) → J q = i2 q := fun q hq => funext (fun k => by
      rw [cj q k (by omega) (by omega) (by omega) (by omega) (by omega) (by omega) (by omega) (by omega) (by omega) (by omega), u2r _ _ _ _ _ (by omega)])
    have hB2 : ShB m m' la li W J (u2 rv 50 5 (some (100 + 51))) := ShB_g hA hB (cr 3 4 (by omega)) (cr 3 5 (by omega)) (cr 0 12 (by omega)) (fun k hk => c50 k (by omega)) (fun k => cr 52 k (by omega)) (fun k => cr 53 k (by omega)) (fun k hk => cr 61 k (by omega)) (fun k hk => cr 62 k (by omega)) (fun x hx => by
        have h7 := a7' x (by omega)
        have h9 := a9' x m hx (Nat.le_refl _)
        have h11 := a11' x m' (by omega) (Nat.le_refl _)
        refine ⟨?_, fun k => ?_⟩
        · exact cc _ _ (by omega) (by omega) (by omega) (by omega) (by omega) (by omega) (by omega) (by omega) (by omega) (by omega) (by omega) (by omega) (by omega) (by omega) (by omega) (by omega) (by omega) (by omega) (by omega) (by omega) (by omega) (by omega) (by omega)
        · exact cc _ _ (by omega) (by omega) (by omega) (by omega) (by omega) (by omega) (by omega) (by omega) (by omega) (by omega) (by omega) (by omega) (by omega) (by omega) (by omega) (by omega) (by omega) (by omega) (by omega) (by omega) (by omega) (by omega) (by omega)) (fun x hx => by
        have h8 := a8' x (by omega)
        have h10 := a10' x m' hx (Nat.le_refl _)
        have h11 := a11' m x (Nat.le_refl _) (by omega)
        refine ⟨?_, fun k => ?_⟩
        · exact cc _ _ (by omega) (by omega) (by omega) (by omega) (by omega) (by omega) (by omega) (by omega) (by omega) (by omega) (by omega) (by omega) (by omega) (by omega) (by omega) (by omega) (by omega) (by omega) (by omega) (by omega) (by omega) (by omega) (by omega)
        · exact cc _ _ (by omega) (by omega) (by omega) (by omega) (by omega) (by omega) (by omega) (by omega) (by omega) (by omega) (by omega) (by omega) (by omega) (by omega) (by omega) (by omega) (by omega) (by omega) (by omega) (by omega) (by omega) (by omega) (by omega)) (by rw [u2r _ _ _ _ _ (by omega)])
    have hA2 : ShA n m m' la li (u2 rv 50 5 (some (100 + 51))) := ShA_t hA (Or.inr (Or.inl rfl))
    obtain ⟨hLC, hLM⟩ := ShB_law hA2 hB2
    obtain ⟨ac, nx, us, x1, x2, x3, x4, x5⟩ := h2.2.2.2.2.2.2.1
    have h55 : up (sB0 (kB D i1) (D 0 3)) 54 (D 1 2) 55 = 0 := sB_5 (K := kB D i1) hd3 (by omega) (by omega)
    refine ⟨kB D i1, W, 0, up (sB0 (kB D i1) (D 0 3)) 54 (D 1 2), fun _ _ => 0, T, 0, dr, m, m', la, li, hK', ⟨⟨CarC_f e2 (fun q a b => cl q (by omega)), by rw [cl 20 (by omega)]; exact e3, hLC⟩, sBo_ok hK' hn', ⟨?_, ?_, ?_, fun k hk => ?_, fun k hk => ?_, fun k hk => ?_⟩, sB_m hK' hn' l6 l7, hLM, ?_, ⟨0, nx, us, by omega, x2, ?_, ?_, l42, fun x hx => by omega⟩, Or.inl ⟨?_, l57⟩⟩, by omega, ⟨?_, ?_, fun k hk => absurd hk (by show ¬ k < 0; omega), fun k hk => absurd hk (by show ¬ k < 0; omega)⟩, ⟨l49, l52, fun k hk => absurd hk (by show ¬ k < 0; omega), fun k hk => absurd hk (by show ¬ k < 0; omega)⟩, ⟨Nat.zero_le _, Nat.zero_le _, fun k hk => absurd hk (by show ¬ k < 0; omega), fun k hk => absurd hk (by show ¬ k < 0; omega)⟩, ⟨?_, fun k hk => by omega⟩, ⟨?_, fun k hk => by omega⟩, ⟨by omega, fun k hk => by omega⟩, ⟨by rw [cr 0 11 (by omega)]; exact d1, by rw [c50 36 (by omega)]; exact d2, d3⟩, hA2, hB2⟩
    · rw [l3 26 (by decide), u2n _ _ _ _ _ (by omega), s50]; exact k26
    · rw [l3 27 (by decide), u2n _ _ _ _ _ (by omega), s50]; exact k27
    · rw [l4]; exact congrArg nI hn'
    · rw [l2 55 (by decide), u2r _ _ _ _ _ (by omega)]; exact s55 k hk
    · have hk' : k < 6 * D 0 3 := hk
      rw [l2 57 (by decide), u2r _ _ _ _ _ (by omega), s57 k hk']
      unfold kB
      rw [if_neg (by omega), if_neg (by omega), if_pos rfl, if_pos hk']
    · have hk' : k < 4 * D 0 4 := hk
      rw [l2 59 (by decide), u2r _ _ _ _ _ (by omega), s59 k hk']
      unfold kB
      rw [if_neg (by omega), if_neg (by omega), if_neg (by omega), if_pos hk']
    · rw [h55]
      exact ⟨l8, fun j k hj => by omega⟩
    · rw [cl 25 (by omega)]; exact e4
    · rw [cl 25 (by omega), e6, fc 25 4 (by omega) (by omega) (by omega) (by omega) (by omega) (by omega)]; exact x4
    · rw [cl 25 (by omega)]; exact e5
    · rw [cl 45 (by omega)]; exact e7
    · rw [cl 45 (by omega)]; exact e8
    · rw [cj 1 1 (by omega) (by omega) (by omega) (by omega) (by omega) (by omega) (by omega) (by omega) (by omega) (by omega), u2e]; rfl
    · rw [l3 6 (by decide), u2n _ _ _ _ _ (by omega), s50]; exact k6
end QC
