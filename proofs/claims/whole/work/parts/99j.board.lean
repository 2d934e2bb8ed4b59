/-! text: a car is boarded -/
def kB (D : Nat → Nat → Nat) (i : Tb) : Nat → Nat → Nat := fun x k => if x = 0 then (if k = 5 then pap D else D 0 k) else if x = 1 then D 1 k else if x = 2 then (if k < 6 * D 0 3 then D 2 k else (i 13 k).toBitVec.toNat) else (if k < 4 * D 0 4 then D 3 k else (i 14 k).toBitVec.toNat)
def sB0 (K : Nat → Nat → Nat) (n : Nat) : Nat → Nat := fun k => if k < n then k else if 9 ≤ k ∧ k < 9 + nb K n then pp K (k - 9) else if 27 ≤ k ∧ k < 27 + n then 1 else 0
section QB
variable {i i' i1 i2 i3 j j' j1 J X X' : Tb} {rv rv' rv2 rv3 rv4 : Nat → Nat → Option Nat} {W W' : Option ((Nat → Nat) → Int)} {K g g' D : Nat → Nat → Nat} {σ σ' T T' la li : Nat → Nat} {c n b b' L L' dr m m' p q k x a r ld ln : Nat} {td : Bool}
theorem nI_any (y : Int32) : y = nI y.toBitVec.toNat := Int32.toBitVec_inj.mp (by show _ = BitVec.ofNat 32 _; simp)
theorem kB_sv (h : p < D 0 3) (hk : k < 6) : sv (kB D i) p k = sv D p k := by
  unfold sv kB
  rw [if_neg (by omega), if_neg (by omega), if_pos rfl, if_pos (by omega)]
theorem kB_ov (h : x < D 0 4) (hk : k < 4) : ov (kB D i) x k = ov D x k := by
  unfold ov kB
  rw [if_neg (by omega), if_neg (by omega), if_neg (by omega), if_pos (by omega)]
theorem kB_nb : ∀ n, n ≤ D 0 3 → nb (kB D i) n = sumTo (fun p => if sv D p 5 = 0 then 1 else 0) n := fun n hn => sumTo_congr (fun z hz => by rw [kB_sv (by omega) (by omega)])
theorem kB_ok (hO : OkD D) (hp : 0 < pap D) (h4 : 0 < D 0 4) : OkK (kB D i) := by
  obtain ⟨o1, o2, o3, o4, o5⟩ := hO
  have hpl := pap_le (D := D)
  have h0 : 0 < D 0 3 := by omega
  refine ⟨o1, o2, show pap D ≤ D 0 3 by omega, fun _ => ⟨h4, hp⟩, fun e => absurd (show D 0 3 = 0 from e) (by omega), o3 0 (by omega), o3 1 (by omega), o3 2 (by omega), o3 3 (by omega), fun p k hp hk => ?_, fun p hp => ?_, fun o k ho hk => ?_, fun o ho => ?_⟩
  · rw [kB_sv (D := D) hp hk]
    exact Nat.le_trans (o4 p k hp hk) ((by decide : ∀ k, k < 6 → hiA (4 + k) ≤ 9) k hk)
  · rw [kB_sv (D := D) hp (by omega)]
    exact o4 p 5 hp (by omega)
  · rw [kB_ov (D := D) ho hk]
    exact Nat.le_trans (o5 o k ho hk) ((by decide : ∀ k, k < 4 → hiA (10 + k) ≤ 9) k hk)
  · rw [kB_ov (D := D) ho (by omega)]
    exact o5 o 1 ho (by omega)
theorem c_copyF (hD : DrC D i) (h5 : i 11 5 = nI (pap D)) : ∃ i', fX1_copyFrom 15 11 i = some i' ∧ CarC 15 (kB D i) i' ∧ Fr [15, 16, 17, 18] i i' := by
  obtain ⟨d1, d2, d3, d4, d5⟩ := hD
  have c0 : (0 : Int32).toNatClampNeg = 0 := by decide
  have c4 : (nI 4).toNatClampNeg = 4 := nI_clamp (by omega)
  have c54 : (nI 54).toNatClampNeg = 54 := nI_clamp (by omega)
  have c16 : (nI 16).toNatClampNeg = 16 := nI_clamp (by omega)
  unfold fX1_copyFrom
  rw [c0, c4, c54, c16, if_pos (by decide), mz_lt, if_pos (by decide), mz_lt, if_pos (by decide), mz_lt, mz_lt, mz_lt, mz_lt]
  refine ⟨_, rfl, ?_, ?_⟩
  · have vg : ∀ (f g : Nat → Int32) n k, k < n → va_cpy f g 0 0 n k = f k := fun f g n k hk => by
      have := va_g f g 0 0 n hk
      rw [Nat.zero_add] at this
      exact this
    have x11 : ∀ k, cp2 (cp2 (cp2 i (i (11 + 1)) 0 (15 + 1) 0 4) (cp2 i (i (11 + 1)) 0 (15 + 1) 0 4 (11 + 2)) 0 (15 + 2) 0 54) (cp2 (cp2 i (i (11 + 1)) 0 (15 + 1) 0 4) (cp2 i (i (11 + 1)) 0 (15 + 1) 0 4 (11 + 2)) 0 (15 + 2) 0 54 (11 + 3)) 0 (15 + 3) 0 16 11 k = i 11 k := fun k => by rw [cp2r _ _ _ _ _ _ _ (by omega), cp2r _ _ _ _ _ _ _ (by omega), cp2r _ _ _ _ _ _ _ (by omega)]
    refine ⟨?_, ?_, ?_, fun k hk => ?_, fun k hk => ?_, fun k hk => ?_⟩
    · rw [u2n _ _ _ _ _ (by omega), u2n _ _ _ _ _ (by omega), u2e, x11]; exact d1
    · rw [u2n _ _ _ _ _ (by omega), u2e, u2r _ _ _ _ _ (by omega), x11]; exact d2
    · rw [u2e, u2r _ _ _ _ _ (by omega), u2r _ _ _ _ _ (by omega), x11]; exact h5
    · rw [u2r _ _ _ _ _ (by omega), u2r _ _ _ _ _ (by omega), u2r _ _ _ _ _ (by omega), cp2r _ _ _ _ _ _ _ (by omega), cp2r _ _ _ _ _ _ _ (by omega), cp2s, vg _ _ _ _ hk]
      exact d3 k hk
    · rw [u2r _ _ _ _ _ (by omega), u2r _ _ _ _ _ (by omega), u2r _ _ _ _ _ (by omega), cp2r _ _ _ _ _ _ _ (by omega), cp2s, vg _ _ _ _ hk, cp2r _ _ _ _ _ _ _ (by omega)]
      show i 13 k = nI (if k < 6 * D 0 3 then D 2 k else (i 13 k).toBitVec.toNat)
      by_cases e : k < 6 * D 0 3
      · rw [if_pos e]; exact d4 k e
      · rw [if_neg e]; exact nI_any _
    · rw [u2r _ _ _ _ _ (by omega), u2r _ _ _ _ _ (by omega), u2r _ _ _ _ _ (by omega), cp2s, vg _ _ _ _ hk, cp2r _ _ _ _ _ _ _ (by omega), cp2r _ _ _ _ _ _ _ (by omega)]
      show i 14 k = nI (if k < 4 * D 0 4 then D 3 k else (i 14 k).toBitVec.toNat)
      by_cases e : k < 4 * D 0 4
      · rw [if_pos e]; exact d5 k e
      · rw [if_neg e]; exact nI_any _
  · intro q hq
    simp at hq
    rw [u2r _ _ _ _ _ (by omega), u2r _ _ _ _ _ (by omega), u2r _ _ _ _ _ (by omega), cp2r _ _ _ _ _ _ _ (by omega), cp2r _ _ _ _ _ _ _ (by omega), cp2r _ _ _ _ _ _ _ (by omega)]
theorem c_fill : ∀ n k i1, k ≤ 56 → 56 - k < n → Fr [20] i i1 → (∀ z, z < k → i1 20 z = 0) → ∃ i', fJ7_fill_53178_5 20 56 n 0 (nI k) (nI 56) i1 = some i' ∧ Fr [20] i i' ∧ ∀ z, z < 56 → i' 20 z = 0 := by
  intro n
  induction n with
  | zero => intro k i1 h1 h2; omega
  | succ n ih =>
    intro k i1 h1 h2 g1 g2
    rw [fJ7_fill_53178_5]
    by_cases h3 : k = 56
    · rw [h3] at g2
      rw [if_pos (nI_le (by omega) (by omega))]
      exact ⟨i1, rfl, g1, g2⟩
    · rw [if_neg (nI_ge (by omega) (by omega)), if_pos (mz_in (by omega) (by omega)), mz_lt, nI_clamp (by omega), nI_1]
      exact ih (k + 1) _ (by omega) (by omega) (Fr_t g1 Fr_u) (fun z hz => by
        by_cases e : z = k
        · rw [e, u2e]
        · rw [u2n _ _ _ _ _ e]; exact g2 z (by omega))
theorem nb_le9 : nb K n ≤ n * 1 := sumTo_le (fun z _ => by split <;> omega)
theorem sB0_s (hp : p < 9) (h : ∀ k, k < 56 → i 20 k = nI (sB0 K p k)) : ∀ k, k < 56 → (if sv K p 5 = 0 then u2 (u2 (u2 i 20 p (nI p)) 20 (27 + p) 1) 20 (9 + nb K p) (nI p) else u2 (u2 i 20 p (nI p)) 20 (27 + p) 1) 20 k = nI (sB0 K (p + 1) k) := by
  intro k hk
  have hb := nb_le9 (K := K) (n := p)
  have base : u2 (u2 i 20 p (nI p)) 20 (27 + p) 1 20 k = if k = 27 + p then nI 1 else if k = p then nI p else nI (sB0 K p k) := by
    by_cases e1 : k = 27 + p
    · rw [if_pos e1, e1, u2e]; rfl
    · rw [if_neg e1, u2n _ _ _ _ _ e1]
      by_cases e2 : k = p
      · rw [if_pos e2, e2, u2e]
      · rw [if_neg e2, u2n _ _ _ _ _ e2]; exact h k hk
  by_cases h5 : sv K p 5 = 0
  · have e : nb K (p + 1) = nb K p + 1 := by rw [nb_s, if_pos h5]
    rw [if_pos h5]
    by_cases e0 : k = 9 + nb K p
    · rw [e0, u2e]
      congr 1
      unfold sB0
      rw [if_neg (by omega), if_pos (by omega), show 9 + nb K p - 9 = nb K p by omega, pp_nb hp h5]
    · rw [u2n _ _ _ _ _ e0, base]
      unfold sB0
      rw [e]
      by_cases e1 : k = 27 + p
      · rw [if_pos e1, if_neg (by omega), if_neg (by omega), if_pos (by omega)]
      · rw [if_neg e1]
        by_cases e2 : k = p
        · rw [if_pos e2, if_pos (by omega)]; congr 1; omega
        · rw [if_neg e2]
          congr 1
          by_cases e3 : k < p
          · rw [if_pos e3, if_pos (show k < p + 1 by omega)]
          · rw [if_neg e3, if_neg (show ¬ k < p + 1 by omega)]
            by_cases e4 : 9 ≤ k ∧ k < 9 + nb K p
            · rw [if_pos e4, if_pos (show 9 ≤ k ∧ k < 9 + (nb K p + 1) by omega)]
            · rw [if_neg e4, if_neg (show ¬ (9 ≤ k ∧ k < 9 + (nb K p + 1)) by omega)]
              by_cases e5 : 27 ≤ k ∧ k < 27 + p
              · rw [if_pos e5, if_pos (show 27 ≤ k ∧ k < 27 + (p + 1) by omega)]
              · rw [if_neg e5, if_neg (show ¬ (27 ≤ k ∧ k < 27 + (p + 1)) by omega)]
  · have e : nb K (p + 1) = nb K p := by rw [nb_s, if_neg h5]; rfl
    rw [if_neg h5, base]
    unfold sB0
    rw [e]
    by_cases e1 : k = 27 + p
    · rw [if_pos e1, if_neg (by omega), if_neg (by omega), if_pos (by omega)]
    · rw [if_neg e1]
      by_cases e2 : k = p
      · rw [if_pos e2, if_pos (by omega)]; congr 1; omega
      · rw [if_neg e2]
        congr 1
        by_cases e3 : k < p
        · rw [if_pos e3, if_pos (show k < p + 1 by omega)]
        · rw [if_neg e3, if_neg (show ¬ k < p + 1 by omega)]
          by_cases e4 : 9 ≤ k ∧ k < 9 + nb K p
          · rw [if_pos e4, if_pos e4]
          · rw [if_neg e4, if_neg e4]
            by_cases e5 : 27 ≤ k ∧ k < 27 + p
            · rw [if_pos e5, if_pos (show 27 ≤ k ∧ k < 27 + (p + 1) by omega)]
            · rw [if_neg e5, if_neg (show ¬ (27 ≤ k ∧ k < 27 + (p + 1)) by omega)]
theorem c_begin_l (hK : OkK K) (h : CarC 15 K i) : ∀ n p i1, p ≤ K 0 3 → K 0 3 - p < n → Fr [20] i i1 → (∀ k, k < 56 → i1 20 k = nI (sB0 K p k)) → ∃ i', fX8_begin_12 19 15 n (nI (nb K p)) (nI p) i1 = some i' ∧ ScC (up (sB0 K (K 0 3)) 54 (K 1 2)) (i' 20) ∧ Fr [20] i i' := by
  have hm := hK.1
  intro n
  induction n with
  | zero => intro p i1 h1 h2; omega
  | succ n ih =>
    intro p i1 h1 h2 g1 g2
    have hc1 : CarC 15 K i1 := CarC_f h (fun q a b => g1 q (by simp; omega))
    have hb := nb_le9 (K := K) (n := p)
    rw [fX8_begin_12]
    unfold fX1_sleepers fX8_begin_60
    rw [hc1.1, mz_b1]
    by_cases h3 : p = K 0 3
    · rw [h3] at g2
      rw [if_pos (nI_le (by omega) (by omega)), q2, c_ruleOf hc1 (by omega), mz_b1, if_pos (show aIn 54 56 = true by decide), mz_lt, show (54 : Int32).toNatClampNeg = 54 from by decide]
      refine ⟨_, rfl, fun k hk => ?_, Fr_t g1 Fr_u⟩
      show u2 i1 20 54 (nI (K 1 2)) 20 k = _
      by_cases e : k = 54
      · rw [e, u2e, up_e]
      · rw [u2n _ _ _ _ _ e, up_n e]; exact g2 k hk
    · have hpl : p < K 0 3 := by omega
      have hs := sB0_s (K := K) (p := p) (i := i1) (by omega) g2
      rw [if_neg (nI_ge (by omega) (by omega)), show (0 : Int32) + nI p = nI p from Int32.zero_add _, if_pos (mz_in (by omega) (by omega)), mz_lt, nI_clamp (by omega), q27, nI_add, if_pos (mz_in (by omega) (by omega)), mz_lt, nI_clamp (by omega)]
      have hc2 : CarC 15 K (u2 (u2 i1 (19 + 1) p (nI p)) (19 + 1) (27 + p) 1) := CarC_f hc1 (fun q a b => by rw [u2r _ _ _ _ _ (by omega), u2r _ _ _ _ _ (by omega)])
      rw [c_hasPaper hc2 hK hpl, mz_b1, nI_1, nI_1]
      have ih' := ih (p + 1)
      rw [nb_s] at ih'
      by_cases h5 : sv K p 5 = 0
      · rw [if_pos h5] at ih' hs
        rw [if_pos h5, if_neg (show ¬ (1 : Int32) = 0 by decide), q9, nI_add, if_pos (mz_in (by omega) (by omega)), mz_lt, nI_clamp (by omega)]
        exact ih' _ (by omega) (by omega) (Fr_t g1 (Fr_t Fr_u (Fr_t Fr_u Fr_u))) hs
      · rw [if_neg h5] at ih' hs
        rw [if_neg h5, if_pos rfl]
        exact ih' _ (by omega) (by omega) (Fr_t g1 (Fr_t Fr_u Fr_u)) hs
/-- the class boards -/
theorem C_board (hD : DrC D i) (hO : OkD D) (hp : 0 < pap D) (h4 : 0 < D 0 4) (h5 : i 11 5 = nI (pap D)) : ∃ i', fX11_board i = some (nI (D 0 3), i') ∧ CarC 15 (kB D i) i' ∧ ScC (up (sB0 (kB D i) (D 0 3)) 54 (D 1 2)) (i' 20) ∧ i' 25 5 = 0 ∧ i' 25 6 = 0 ∧ i' 25 4 = i 25 4 ∧ i' 45 7 = 0 ∧ i' 45 8 = 0 ∧ Fr [15, 16, 17, 18, 20, 25, 45] i i' := by
  have hK : OkK (kB D i) := kB_ok hO hp h4
  have hm := hK.1
  obtain ⟨I1, e1, e2, e3⟩ := c_copyF hD h5
  obtain ⟨fu, hfu, hfu2⟩ := fuel_g
  obtain ⟨I2, e4, e5, e6⟩ := c_fill (i := I1) fu 0 I1 (by omega) (by omega) (Fr_r _ _) (fun z hz => by omega)
  have hc2 : CarC 15 (kB D i) I2 := CarC_f e2 (fun q a b => e5 q (by simp; omega))
  obtain ⟨I3, e7, e8, e9⟩ := c_begin_l hK hc2 fu 0 I2 (by omega) (by omega) (Fr_r _ _) (fun k hk => by
    rw [e6 k hk]
    unfold sB0
    rw [if_neg (by omega), if_neg (by show ¬ (9 ≤ k ∧ k < 9 + 0); omega), if_neg (by omega)]
    rfl)
  have hc3 : CarC 15 (kB D i) I3 := CarC_f hc2 (fun q a b => e9 q (by simp; omega))
  have fr3 : Fr [15, 16, 17, 18, 20, 25, 45] i I3 := Fr_t (Fr_w (by decide) e3) (Fr_t (Fr_w (by decide) e5) (Fr_w (by decide) e9))
  have hs : (u2 (u2 (u2 (u2 I3 25 5 0) 25 6 0) 45 7 0) 45 8 0) 15 3 = nI (D 0 3) := by
    rw [u2r _ _ _ _ _ (by omega), u2r _ _ _ _ _ (by omega), u2r _ _ _ _ _ (by omega), u2r _ _ _ _ _ (by omega)]
    exact hc3.1
  refine ⟨u2 (u2 (u2 (u2 I3 25 5 0) 25 6 0) 45 7 0) 45 8 0, ?_, CarC_f hc3 (fun q a b => by rw [u2r _ _ _ _ _ (by omega), u2r _ _ _ _ _ (by omega), u2r _ _ _ _ _ (by omega), u2r _ _ _ _ _ (by omega)]), ?_, ?_, ?_, ?_, ?_, u2e _ _ _ _, Fr_t fr3 (Fr_t (Fr_w (by decide) Fr_u) (Fr_t (Fr_w (by decide) Fr_u) (Fr_t (Fr_w (by decide) Fr_u) (Fr_w (by decide) Fr_u))))⟩
  · unfold fX11_board fX8_begin fJ7_fill_53178 fX6_clear fX2_clear fX1_sleepers
    rw [e1, mz_b1, hfu]
    have e4' : fJ7_fill_53178_5 (19 + 1) 56 fu 0 0 (nI 56) I1 = some I2 := e4
    have e7' : fX8_begin_12 19 15 fu 0 0 I2 = some I3 := e7
    rw [e4', mz_b1, e7', mz_b1, mz_lt, mz_lt, mz_b1, mz_lt, mz_lt, mz_b1, mz_b1, hs]
  · rw [u2r _ _ _ _ _ (by omega), u2r _ _ _ _ _ (by omega), u2r _ _ _ _ _ (by omega), u2r _ _ _ _ _ (by omega)]; exact e8
  · rw [u2r _ _ _ _ _ (by omega), u2r _ _ _ _ _ (by omega), u2n _ _ _ _ _ (by omega), u2e]
  · rw [u2r _ _ _ _ _ (by omega), u2r _ _ _ _ _ (by omega), u2e]
  · rw [u2r _ _ _ _ _ (by omega), u2r _ _ _ _ _ (by omega), u2n _ _ _ _ _ (by omega), u2n _ _ _ _ _ (by omega), e9 25 (by decide), e5 25 (by decide), e3 25 (by decide)]
  · rw [u2n _ _ _ _ _ (by omega), u2e]
end QB
