/-! text: every outcome -/
def TxE (c n : Nat) (a1 v : Int32) (i : Tb) (rv : Nat → Nat → Option Nat) : Prop := ∃ j' rv4, fX12_text a1 i rv = some (v, j', rv4) ∧ RvT rv rv4 ∧ Inv c n j' rv4
section QX
variable {i i' i1 i2 i3 j j' j1 J X X' Y : Tb} {rv rv' rv2 rv3 rv4 : Nat → Nat → Option Nat} {W W' : Option ((Nat → Nat) → Int)} {K g g' D : Nat → Nat → Nat} {σ σ' T T' la li : Nat → Nat} {c n b b' L L' dr m m' p q k x a r ld ln : Nat} {td : Bool}
theorem Q_text (h : Inv c n i rv) (hc : c < 512) (a1 : Int32) :
    ((a1 < 0 ∨ 2 < a1) ∧ TxE (c + 1) n a1 (-1) i rv) ∨ (¬ a1 < 0 ∧ ¬ 2 < a1 ∧
    ((∃ i1, fX11_canRead a1 i rv = some (0, i1) ∧ TxE (c + 1) n a1 (-1) i1 rv) ∨
    (a1 = 0 ∧ ∃ i1 i2 i3 w, fX11_canRead a1 i rv = some (1, i1) ∧ fX11_board i1 = some (w, i2) ∧ ¬ w = -1 ∧ fX10_cut 0 i2 = some i3 ∧ TxE (c + 1) n a1 w i3 rv) ∨
    (a1 = 1 ∧ ∃ i1, fX11_canRead a1 i rv = some (1, i1) ∧ i1 3 4 = 4 ∧ TxE (c + 1) n a1 (-1) i1 rv) ∨
    (a1 = 1 ∧ ∃ i1, fX11_canRead a1 i rv = some (1, i1) ∧ ¬ i1 3 4 = 4 ∧ aIn (i1 3 4) 4 = true ∧ ¬ i1 3 4 + 1 - 1 = -1 ∧ ∀ i3 rv3, (∀ p k, p < n → i3 p k = u2 (u2 i1 3 4 (i1 3 4 + 1)) 1 1 0 p k) → (∀ p k, p < n → rv3 p k = u2 (u2 rv 4 (i1 3 4).toNatClampNeg (some (100 + plc (rv 3 2)))) 3 2 (some (100 + n)) p k) → TxE (c + 1) (n + 3) a1 (i1 3 4 + 1 - 1) i3 rv3) ∨
    (a1 = 2 ∧ ∃ i1, fX11_canRead a1 i rv = some (1, i1) ∧ i1 3 5 = 4 ∧ TxE (c + 1) n a1 (-1) i1 rv) ∨
    (a1 = 2 ∧ ∃ i1, fX11_canRead a1 i rv = some (1, i1) ∧ ¬ i1 3 5 = 4 ∧ aIn (i1 3 5) 4 = true ∧ ¬ i1 3 5 + 1 - 1 = -1 ∧ ∀ i3 rv3, (∀ p k, p < n → i3 p k = u2 (u2 i1 3 5 (i1 3 5 + 1)) 1 1 0 p k) → (∀ p k, p < n → rv3 p k = u2 (u2 rv 5 (i1 3 5).toNatClampNeg (some (100 + plc (rv 3 3)))) 3 3 (some (100 + n)) p k) → TxE (c + 1) (n + 2) a1 (i1 3 5 + 1 - 1) i3 rv3))) := by
  obtain ⟨K, W, b, σ, g, T, L, dr, m, m', la, li, h1, h2, h3, h4⟩ := id h
  obtain ⟨g1, g2, g3, t1, t2, t3, ⟨d1, d2, d3⟩, hA, hB⟩ := id h4
  obtain ⟨a1', a2', an, a3', a4', a5', a6', a7', a8', a9', a10', a11'⟩ := id hA
  obtain ⟨b1, b2, b3, b4, b5, b6, b7⟩ := id hB
  have hm7 := a7' m (Nat.le_refl _)
  have hm8 := a8' m' (Nat.le_refl _)
  have hL := t3.1
  have hpl2 : plc (rv 3 2) = la m := by
    rw [a5']
    show 100 + la m - 100 = la m
    omega
  have hpl3 : plc (rv 3 3) = li m' := by
    rw [a6']
    show 100 + li m' - 100 = li m'
    omega
  have bad : ¬ (0 ≤ a1 ∧ a1 ≤ 2) → TxE (c + 1) n a1 (-1) i rv := by
    intro hn
    refine ⟨u2 i 50 0 0, rv, ?_, Or.inl rfl, Inv_up (Inv_0 h)⟩
    unfold fX12_text
    rw [mz_lt, show fX12_isIn a1.toInt64 0 2 = some (if 0 ≤ a1 ∧ a1 ≤ 2 then 1 else 0) from mz_isIn a1 0 2, mz_b1, if_neg hn, if_pos rfl]
  by_cases ha0 : a1 < 0
  · exact Or.inl ⟨Or.inl ha0, bad (fun e => absurd ha0 (Int32.not_lt.mpr e.1))⟩
  by_cases ha2 : 2 < a1
  · exact Or.inl ⟨Or.inr ha2, bad (fun e => absurd ha2 (Int32.not_lt.mpr e.2))⟩
  refine Or.inr ⟨ha0, ha2, ?_⟩
  have tin : fX12_isIn a1.toInt64 0 2 = some 1 := by
    rw [show fX12_isIn a1.toInt64 0 2 = some (if 0 ≤ a1 ∧ a1 ≤ 2 then 1 else 0) from mz_isIn a1 0 2, if_pos ⟨Int32.not_lt.mp ha0, Int32.not_lt.mp ha2⟩]
  -- a reading leaves what holds
  have I1 : ∀ i1, FCl (la m) (li m') i i1 → Inv c n i1 rv := fun i1 fc => by
    obtain ⟨s1, s2⟩ := rd_inv h2 h4 fc FMl_r (Or.inl rfl)
    exact ⟨K, W, b, σ, g, T, L, dr, m, m', la, li, h1, s1, by omega, s2⟩
  have tm : ∀ i1, FCl (la m) (li m') i i1 → TaM T L (u2 i1 50 0 0) := fun i1 fc => TaM_0 (TaM_c hA t2 fc)
  have fail : ∀ i1 j' (v0 : Int32), FCl (la m) (li m') i i1 → fX12_fault a1 (u2 i1 50 0 0) rv = some (v0, j', u2 rv 50 5 (some (100 + 51))) → ¬ v0 = -1 → FMl (u2 i1 50 0 0) j' → TxE (c + 1) n a1 (-1) i1 rv := by
    intro i1 j' v0 fc hf hv fm
    obtain ⟨s1, s2⟩ := rd_inv (rv2 := u2 rv 50 5 (some (100 + 51))) h2 h4 fc (FMl_t FMl_0 fm) (Or.inr (Or.inl rfl))
    exact t_fail (I1 i1 fc) tin hf hv ⟨K, W, b, σ, g, T, L, dr, m, m', la, li, h1, s1, by omega, s2⟩ (Or.inr (Or.inl rfl))
  have full : ∀ i1, FCl (la m) (li m') i i1 → (a1 = 1 ∧ i1 50 7 = 4 ∨ a1 = 2 ∧ i1 50 31 = 4) → TxE (c + 1) n a1 (-1) i1 rv := by
    intro i1 fc hq
    refine ⟨u2 i1 50 0 0, rv, ?_, Or.inl rfl, Inv_up (Inv_0 (I1 i1 fc))⟩
    unfold fX12_text fX12_text_30
    rw [mz_lt, tin, mz_b1, if_neg (show ¬ (1 : Int32) = 0 by decide)]
    rcases hq with ⟨e1, e2⟩ | ⟨e1, e2⟩
    · rw [if_pos e1, u2n _ _ _ _ _ (show (7 : Nat) ≠ 0 by omega), if_pos e2]
    · rw [if_neg (show ¬ a1 = 1 by rw [e1]; decide), if_pos e1, u2n _ _ _ _ _ (show (31 : Nat) ≠ 0 by omega), if_pos e2]
  have m50 : ∀ i1, FCl (la m) (li m') i i1 → ∀ q k, (q = 50 ∨ q = 3) → i1 q k = i q k := fun i1 fc q k hq => fc q k (by omega) (by omega) (by omega) (by omega) (by omega) (by omega)
  rcases mz_cases a1 with hneg | ⟨x, hx, rfl⟩
  · exact absurd hneg ha0
  have hx2 : x ≤ 2 := by
    rw [qTWO, mz_ltp (by omega) (by omega)] at ha2
    omega
  rcases (show x = 0 ∨ x = 1 ∨ x = 2 by omega) with rfl | rfl | rfl
  · rcases R_rd0 (rv := rv) (rv' := rv) (j := i) (ld := la m) (ln := li m') t3 t1 t2 with ⟨r, X', _, e0, e1, e2, _⟩ | ⟨r, D, X', _, _, e0, e1, e2, e3, e4, e5, e6, e7, _, _, _, e8⟩
    · left
      refine ⟨_, e1, ?_⟩
      rcases R_rd0 (rv := rv) (rv' := rv) (ld := la m) (ln := li m') t3 t1 (tm _ e2) with ⟨r', X2, j', y0, f1, f2, f3, f4⟩ | ⟨r', D, X2, Y, td, _, f1, _⟩
      · exact fail _ j' _ e2 f3 (by rw [qN1, mz_nm (by omega)]; exact id) f4
      · rw [e1] at f1
        exact absurd (Prod.mk.inj (Option.some.inj f1)).1 (by decide)
    · right; left
      obtain ⟨p1, p2, p3, p4, p5⟩ := e3
      have hk := K_car (c := c + 1) (i1 := pP X' r) h2 h4 (D := D) ⟨by rw [pP_r (by omega)]; exact p1, by rw [pP_r (by omega)]; exact p2, fun k hk => by rw [pP_r (by omega)]; exact p3 k hk, fun k hk => by rw [pP_r (by omega)]; exact p4 k hk, fun k hk => by rw [pP_r (by omega)]; exact p5 k hk⟩ e4 e5 e6 (by rw [pP_r (by omega)]; exact e7) e2 (fun j hj => by
        have ee1 := e1
        rcases R_rd0 (rv := rv) (rv' := rv) (ld := la m) (ln := li m') t3 t1 hj with ⟨r', X2, j', _, f1, _⟩ | ⟨r', D2, X2, Y, td, _, f1, f2, y1, _, _, _, _, f3, f4, f5, f6⟩
        · rw [ee1] at f1
          exact absurd (Prod.mk.inj (Option.some.inj f1)).1 (by decide)
        · rw [e8] at f6
          have ed := Option.some.inj (Prod.mk.inj f6).2
          rw [← ed] at f5
          exact ⟨Y, r', td, f3, f4, f5⟩)
      obtain ⟨i2, i3, j', rv4, k1, k2, k3, k4, k5, k6⟩ := hk
      exact ⟨rfl, _, i2, i3, _, e1, k1, k3, k2, j', rv4, k4, k5, k6⟩
  · rcases R_rd1 (rv := rv) (rv' := rv) (j := i) (ld := la m) (ln := li m') t3 t1 t2 a5' (by omega) with ⟨r, X', _, e0, e1, e10, e2, _⟩ | ⟨X', _, cls, e1, e2, e3, e4, e5, _⟩
    · left
      refine ⟨_, e1, ?_⟩
      rcases R_rd1 (rv := rv) (rv' := rv) (ld := la m) (ln := li m') t3 t1 (tm _ e2) a5' (by omega) with ⟨r', X2, j', y0, f1, f10, f2, f3, f4⟩ | ⟨X2, j', cls, f1, _⟩
      · exact fail _ j' _ e2 f3 (by rw [qN1, mz_nm (by omega)]; exact id) f4
      · rw [e1] at f1
        exact absurd (Prod.mk.inj (Option.some.inj f1)).1 (by decide)
    · have hi : X' 3 4 = nI m := by rw [m50 _ e2 3 4 (by omega)]; exact b1
      have hj : X' 50 7 = nI m := by rw [m50 _ e2 50 7 (by omega)]; exact b2
      right; right
      by_cases h5 : m = 4
      · left
        rw [h5] at hi hj
        exact ⟨rfl, _, e1, hi, full _ e2 (Or.inl ⟨rfl, hj⟩)⟩
      · right; left
        have hr1 : X' 3 4 + 1 = nI (m + 1) := by rw [hi, q1, nI_add]
        have hr2 : X' 3 4 + 1 - 1 = nI m := by rw [hr1, q1, mz_sub (by omega), show m + 1 - 1 = m by omega]
        refine ⟨rfl, X', e1, by rw [hi, q4, nI_eq (by omega) (by omega)]; exact h5, by rw [hi]; exact mz_in (by omega) (by omega), by rw [hr2, qN1, mz_nm (by omega)]; exact id, fun i3 rv3 y1 y2 => ?_⟩
        rw [hr2]
        rw [hr1] at y1
        rw [hi, nI_clamp (by omega), hpl2] at y2
        exact K_law h1 h2 (by omega) h4 (by omega) e2 e3 e4 e5 y1 y2 (fun j hj => by
          rcases R_rd1 (rv := rv) (rv' := rv3) (ld := la m) (ln := li m') t3 t1 hj a5' (by omega) with ⟨r', X2, j', _, f1, _⟩ | ⟨X2, j', cls2, f1, f2, _, _, _, f3, f4⟩
          · rw [e1] at f1
            exact absurd (Prod.mk.inj (Option.some.inj f1)).1 (by decide)
          · exact ⟨j', f3, f4⟩)
  · rcases R_rd2 (rv := rv) (rv' := rv) (j := i) (ld := la m) (ln := li m') t3 t1 t2 a6' (by omega) with ⟨r, X', _, e0, e1, e10, e2, _⟩ | ⟨X', _, ss, e1, e2, e3, e4, e5, e6, e7, _, _, _, _, re, e8⟩
    · left
      refine ⟨_, e1, ?_⟩
      rcases R_rd2 (rv := rv) (rv' := rv) (ld := la m) (ln := li m') t3 t1 (tm _ e2) a6' (by omega) with ⟨r', X2, j', y0, f1, f10, f2, f3, f4⟩ | ⟨X2, j', ss, f1, _⟩
      · exact fail _ j' _ e2 f3 (by rw [qN1, mz_nm (by omega)]; exact id) f4
      · rw [e1] at f1
        exact absurd (Prod.mk.inj (Option.some.inj f1)).1 (by decide)
    · have hi : X' 3 5 = nI m' := by rw [m50 _ e2 3 5 (by omega)]; exact b3
      have hj : X' 50 31 = nI m' := by rw [m50 _ e2 50 31 (by omega)]; exact b4
      right; right; right; right
      by_cases h5 : m' = 4
      · left
        rw [h5] at hi hj
        exact ⟨rfl, _, e1, hi, full _ e2 (Or.inr ⟨rfl, hj⟩)⟩
      · right
        have hr1 : X' 3 5 + 1 = nI (m' + 1) := by rw [hi, q1, nI_add]
        have hr2 : X' 3 5 + 1 - 1 = nI m' := by rw [hr1, q1, mz_sub (by omega), show m' + 1 - 1 = m' by omega]
        refine ⟨rfl, X', e1, by rw [hi, q4, nI_eq (by omega) (by omega)]; exact h5, by rw [hi]; exact mz_in (by omega) (by omega), by rw [hr2, qN1, mz_nm (by omega)]; exact id, fun i3 rv3 y1 y2 => ?_⟩
        rw [hr2]
        rw [hr1] at y1
        rw [hi, nI_clamp (by omega), hpl3] at y2
        exact K_lines h1 h2 (by omega) h4 (by omega) e2 e3 e4 e5 e6 e7 y1 y2 (fun j hj => by
          rcases R_rd2 (rv := rv) (rv' := rv3) (ld := la m) (ln := li m') t3 t1 hj a6' (by omega) with ⟨r', X2, j', _, f1, _⟩ | ⟨X2, j', ss2, f1, f2, _, _, _, _, _, f3, f4, f5, f6, _, f7⟩
          · rw [e1] at f1
            exact absurd (Prod.mk.inj (Option.some.inj f1)).1 (by decide)
          · rw [e8] at f7
            have ed := Option.some.inj (Prod.mk.inj f7).2
            rw [← ed] at f5 f6
            exact ⟨j', f3, f4, f5, f6⟩)
end QX
