/-! one call of the script, and the loop over it -/
def lS (k : Nat) (sh : List aSh) (i : Nat → Nat → Int32) (rv : Nat → Nat → Option Nat) (x9 y9 : Nat) (y5 y6 : Option Value) : Prop :=
  aGood sh rv ∧ Inv k sh.length i rv ∧ 73 < sh.length ∧ sh.length ≤ 74 + 3 * k ∧ aSn sh ≤ 100000 + 300 * k ∧ x9 ≤ k ∧ y9 ≤ 6 * k ∧ (∀ v, y5 = some v → aBel 174 v = true) ∧ (∀ v, y6 = some v → aBel 174 v = true)
def lNx (p : Program) (l : Launch) (e : Env) (s : State) (m : MethodId) (args : Array Value) (below : List Frame) (meth : Method) (c : Code) (Q : State → Prop) (D : va_G) (cA : FieldType → ClassId) (ad0 : Nat → Nat) (pc n k : Nat) : Prop :=
  ∀ (sh : List aSh) (i : Nat → Nat → Int32) (lo : Nat → Nat → Int64) (rv : Nat → Nat → Option Nat) (x9 y9 : Nat) (y5 y6 : Option Value), lS k sh i rv x9 y9 y5 y6 → aK x9 y9 p l e room_1 s m args below meth c Q D cA (fun q => s.heap.size ≤ q) ad0 7 0 0 pc [some (.ref 4), some (.ref (100 + 0)), some (.ref (100 + 50)), some (.ref (100 + 73)), some (.int (nI n)), y5, y6] [] (sh, i, lo, rv)
section LP
variable {sh : List aSh} {i i' j : Nat → Nat → Int32} {rv rv1 rv2 : Nat → Nat → Option Nat} {x9 y9 k : Nat} {y5 y6 : Option Value} {a1 v : Int32}
theorem lS_nx (h : lS k sh i rv x9 y9 y5 y6) (hG : aGood sh rv2) (hI : Inv (k + 1) sh.length j rv2) : lS (k + 1) sh j rv2 x9 y9 y5 y6 := by
  obtain ⟨-, -, h1, h2, h3, h4, h5, h6, h7⟩ := h
  exact ⟨hG, hI, h1, by omega, by omega, by omega, by omega, h6, h7⟩
theorem lS_mk (a1 : aGood sh rv) (a2 : Inv k sh.length i rv) (a3 : 73 < sh.length) (a4 : sh.length ≤ 74 + 3 * k) (a5 : aSn sh ≤ 100000 + 300 * k) (a6 : x9 ≤ k) (a7 : y9 ≤ 6 * k) (a8 : ∀ v, y5 = some v → aBel 174 v = true) (a9 : ∀ v, y6 = some v → aBel 174 v = true) : lS k sh i rv x9 y9 y5 y6 := ⟨a1, a2, a3, a4, a5, a6, a7, a8, a9⟩
theorem s5_0 {a k : Nat} (h : a ≤ 100000 + 300 * k) : a ≤ 100000 + 300 * (k + 1) := by omega
theorem s5_1 {a b d k : Nat} (h : a ≤ 100000 + 300 * k) (e : b = a + d) (hd : d ≤ 300) : b ≤ 100000 + 300 * (k + 1) := by omega
theorem bl_i (x : Int32) : ∀ v, some (Value.int x) = some v → aBel 174 v = true := fun v hv => by
  cases hv
  rfl
theorem gd_M (hG : aGood sh rv) (h : RvM rv rv2) : aGood sh rv2 := by
  rcases h with rfl | rfl
  · exact hG
  · exact gP_50_5 hG (Or.inr rfl)
theorem gd_T (hG : aGood sh rv) (h : RvT rv rv2) : aGood sh rv2 := by
  rcases h with rfl | rfl | rfl
  · exact hG
  · exact gP_50_5 hG (Or.inl rfl)
  · exact gP_50_5 hG (Or.inr rfl)
theorem gd_law (hG : aGood sh rv) (h : fX11_law a1 i rv = some (v, i', rv1)) : aGood sh rv1 := by
  unfold fX11_law at h
  split at h
  · cases h; exact hG
  · split at h
    · cases h; exact hG
    · have key : ∀ r, fX9_lawAt a1 (u2 i 0 12 a1) rv = some r → aGood sh (u2 rv 23 2 r) := by
        intro r hr
        unfold fX9_lawAt at hr
        split at hr
        · cases hr; exact gP_23_2N hG
        · split at hr
          · cases hr; exact gP_23_2N hG
          · split at hr
            · cases hv : rv 4 a1.toNatClampNeg with
              | none =>
                rw [hv] at hr
                have hr2 := mO_n hr
                cases hr2
                exact gP_23_2N hG
              | some r1 =>
                rw [hv] at hr
                have hr2 := mO_s hr
                cases hr2
                exact gP_23_2 hG (hG.2.2.2.2.2.1 _ _ hv).2
            · cases hr
      cases hq : fX9_lawAt a1 (u2 i 0 12 a1) rv with
      | none =>
        rw [hq] at h
        cases h
      | some r =>
        rw [hq] at h
        have h2 : some ((1 : Int32), u2 i 0 12 a1, u2 rv 23 2 r) = some (v, i', rv1) := h
        cases h2
        exact key r hq
theorem bI_01 (x : Int32) : bI x = nI 0 ∨ bI x = nI 1 := by
  unfold bI
  split
  · exact Or.inl rfl
  · exact Or.inr rfl
end LP
section LQ
variable {p : Program} {l : Launch} {e : Env} {s : State} {m : MethodId} {args : Array Value} {below : List Frame} {meth : Method} {c : Code} {Q : State → Prop} {D : va_G} {cA : FieldType → ClassId} {ad0 : Nat → Nat}
variable {b Ln n k : Nat} {xs : Nat → Int32}
theorem ls_0 (hX : lX p s m args c D cA ad0 b Ln xs) (hn : n + 5 < Ln) (hk : k < 512) (kk : lNx p l e s m args below meth c Q D cA ad0 1684 n (k + 1)) : lNx p l e s m args below meth c Q D cA ad0 236 n k := by
  intro sh i lo rv x9 y9 y5 y6 hS
  obtain ⟨hG, hI, hl, hz1, hz2, hx, hy, h5, h6⟩ := id hS
  have b1 : sh.length ≤ 600000 := by omega
  have b2 : aSn sh ≤ 7280000 := by omega
  obtain ⟨v, i', j', e1, e2, hI2⟩ := Q_feed hI hk (xs (n + 1)) (xs (n + 2)) (xs (n + 3)) (xs (n + 4)) (xs (n + 5))
  exact lc_0 (v := v) (h1 := (sh, i', lo, rv)) (h2 := (sh, j', lo, rv)) hX hn h5 h6 ⟨_, by decide, okX11_feed hG e1, b1, b2⟩ ⟨_, by decide, okX12_feed hG e2, b1, b2⟩ hl (sh_0 hG) (sh_50 hG) (by omega) (by omega) (kk _ _ _ _ _ _ _ _ (lS_nx hS hG hI2))
theorem ls_1 (hX : lX p s m args c D cA ad0 b Ln xs) (hn : n + 5 < Ln) (hk : k < 512) (kk : lNx p l e s m args below meth c Q D cA ad0 1684 n (k + 1)) : lNx p l e s m args below meth c Q D cA ad0 309 n k := by
  intro sh i lo rv x9 y9 y5 y6 hS
  obtain ⟨hG, hI, hl, hz1, hz2, hx, hy, h5, h6⟩ := id hS
  have b1 : sh.length ≤ 600000 := by omega
  have b2 : aSn sh ≤ 7280000 := by omega
  obtain ⟨v, i', j', e1, e2, hI2⟩ := Q_end hI hk (xs (n + 1))
  exact lc_1 (v := v) (h1 := (sh, i', lo, rv)) (h2 := (sh, j', lo, rv)) hX hn h5 h6 ⟨_, by decide, okX11_end hG e1, b1, b2⟩ ⟨_, by decide, okX12_end hG e2, b1, b2⟩ hl (sh_0 hG) (sh_50 hG) (by omega) (by omega) (kk _ _ _ _ _ _ _ _ (lS_nx hS hG hI2))
theorem ls_2 (hX : lX p s m args c D cA ad0 b Ln xs) (hn : n + 5 < Ln) (hk : k < 512) (kk : lNx p l e s m args below meth c Q D cA ad0 1684 n (k + 1)) : lNx p l e s m args below meth c Q D cA ad0 334 n k := by
  intro sh i lo rv x9 y9 y5 y6 hS
  obtain ⟨hG, hI, hl, hz1, hz2, hx, hy, h5, h6⟩ := id hS
  have b1 : sh.length ≤ 600000 := by omega
  have b2 : aSn sh ≤ 7280000 := by omega
  obtain ⟨v, i', j', rv2, e1, e2, hr, hI2⟩ := Q_fault hI hk (xs (n + 1))
  exact lc_2 (v := v) (h1 := (sh, i', lo, rv)) (h2 := (sh, j', lo, rv2)) hX hn h5 h6 ⟨_, by decide, okX11_fault hG e1, b1, b2⟩ ⟨_, by decide, okX12_fault hG e2, b1, b2⟩ hl (sh_0 hG) (sh_50 hG) (by omega) (by omega) (kk _ _ _ _ _ _ _ _ (lS_nx hS (gd_T hG hr) hI2))
theorem ls_3 (hX : lX p s m args c D cA ad0 b Ln xs) (hn : n + 5 < Ln) (hk : k < 512) (kk : lNx p l e s m args below meth c Q D cA ad0 1684 n (k + 1)) : lNx p l e s m args below meth c Q D cA ad0 359 n k := by
  intro sh i lo rv x9 y9 y5 y6 hS
  obtain ⟨hG, hI, hl, hz1, hz2, hx, hy, h5, h6⟩ := id hS
  have b1 : sh.length ≤ 600000 := by omega
  have b2 : aSn sh ≤ 7280000 := by omega
  rcases Q_text hI hk (xs (n + 1)) with ⟨h0, T⟩ | ⟨h0, h2, ⟨i1, e1, T⟩ | ⟨ha, i1, i2, i3, w, e1, e2, hw, e3, T⟩ | ⟨ha, i1, e1, hm, T⟩ | ⟨ha, i1, e1, hm, hin, hw, T⟩ | ⟨ha, i1, e1, hm, T⟩ | ⟨ha, i1, e1, hm, hin, hw, T⟩⟩
  · obtain ⟨j', rv4, f12, hr, hI2⟩ := T
    exact lc_3 (v := -1) (h1 := (sh, i, lo, rv)) (h2 := (sh, j', lo, rv4)) hX hn h5 h6 ⟨1027, by decide, okX11_text0 h0, b1, b2⟩ ⟨1147, by decide, okX12_text hG f12, b1, b2⟩ hl (sh_0 hG) (sh_50 hG) (by omega) (by omega) (kk _ _ _ _ _ _ _ _ (lS_nx hS (gd_T hG hr) hI2))
  · obtain ⟨j', rv4, f12, hr, hI2⟩ := T
    exact lc_3 (v := -1) (h1 := (sh, i1, lo, rv)) (h2 := (sh, j', lo, rv4)) hX hn h5 h6 ⟨1027, by decide, okX11_text1 hG h0 h2 e1, b1, b2⟩ ⟨1147, by decide, okX12_text hG f12, b1, b2⟩ hl (sh_0 hG) (sh_50 hG) (by omega) (by omega) (kk _ _ _ _ _ _ _ _ (lS_nx hS (gd_T hG hr) hI2))
  · obtain ⟨j', rv4, f12, hr, hI2⟩ := T
    exact lc_3 (v := w) (h1 := (sh, i3, lo, rv)) (h2 := (sh, j', lo, rv4)) hX hn h5 h6 ⟨1027, by decide, okX11_text2 (vb := 0) hG h0 h2 ha (by decide) e1 e2 hw e3, b1, b2⟩ ⟨1147, by decide, okX12_text hG f12, b1, b2⟩ hl (sh_0 hG) (sh_50 hG) (by omega) (by omega) (kk _ _ _ _ _ _ _ _ (lS_nx hS (gd_T hG hr) hI2))
  · obtain ⟨j', rv4, f12, hr, hI2⟩ := T
    exact lc_3 (v := -1) (h1 := (sh, i1, lo, rv)) (h2 := (sh, j', lo, rv4)) hX hn h5 h6 ⟨1027, by decide, okX11_text3 hG h0 h2 ha (by decide) e1 hm, b1, b2⟩ ⟨1147, by decide, okX12_text hG f12, b1, b2⟩ hl (sh_0 hG) (sh_50 hG) (by omega) (by omega) (kk _ _ _ _ _ _ _ _ (lS_nx hS (gd_T hG hr) hI2))
  · have hG2 : aGood (wKL (sh, i1, lo, rv)).1 (wKL (sh, i1, lo, rv)).2.2.2 := wKL_good hG
    have hL2 : (wKL (sh, i1, lo, rv)).1.length = sh.length + 3 := wKL_len (sh, i1, lo, rv)
    have hS2 : aSn (wKL (sh, i1, lo, rv)).1 = aSn sh + 276 := wKL_sn (sh, i1, lo, rv)
    obtain ⟨j', rv4, f12, hr, hI2⟩ := T (u2 (wKL (sh, i1, lo, rv)).2.1 1 1 0) (wKL (sh, i1, lo, rv)).2.2.2 (fun p k hp => by
      by_cases hh : p = 1 ∧ k = 1
      · obtain ⟨rfl, rfl⟩ := hh
        rw [u2_same, u2_same]
      · have hd : p ≠ 1 ∨ k ≠ 1 := by omega
        rw [u2_ne _ _ hd, u2_ne _ _ hd, wKL_i hp]) (fun p k hp => wKL_rv (by omega) hp)
    rw [← hL2] at hI2
    have hcut : fX10_cut 0 (wKL (sh, i1, lo, rv)).2.1 = some (u2 (wKL (sh, i1, lo, rv)).2.1 1 1 0) := by
      unfold fX10_cut
      rw [mz_lt]
    have c1 : (wKL (sh, i1, lo, rv)).1.length ≤ 600000 := by omega
    have c2 : aSn (wKL (sh, i1, lo, rv)).1 ≤ 7280000 := by omega
    have hS3 : lS (k + 1) (wKL (sh, i1, lo, rv)).1 j' rv4 x9 y9 y5 y6 := lS_mk (gd_T hG2 hr) hI2 (by omega) (by omega) (s5_1 hz2 hS2 (by omega)) (by omega) (by omega) h5 h6
    exact lc_3 (v := i1 3 4 + 1 - 1) (h1 := ((wKL (sh, i1, lo, rv)).1, u2 (wKL (sh, i1, lo, rv)).2.1 1 1 0, (wKL (sh, i1, lo, rv)).2.2.1, (wKL (sh, i1, lo, rv)).2.2.2)) (h2 := ((wKL (sh, i1, lo, rv)).1, j', (wKL (sh, i1, lo, rv)).2.2.1, rv4)) hX hn h5 h6 ⟨1027, by decide, okX11_text4 hG h0 h2 ha (by decide) e1 hm hin hw hcut, c1, c2⟩ ⟨1147, by decide, okX12_text hG2 f12, c1, c2⟩ hl (sh_0 hG) (sh_50 hG2) (by omega) (by omega) (kk _ _ _ _ _ _ _ _ hS3)
  · obtain ⟨j', rv4, f12, hr, hI2⟩ := T
    exact lc_3 (v := -1) (h1 := (sh, i1, lo, rv)) (h2 := (sh, j', lo, rv4)) hX hn h5 h6 ⟨1027, by decide, okX11_text5 hG h0 h2 ha (by decide) e1 hm, b1, b2⟩ ⟨1147, by decide, okX12_text hG f12, b1, b2⟩ hl (sh_0 hG) (sh_50 hG) (by omega) (by omega) (kk _ _ _ _ _ _ _ _ (lS_nx hS (gd_T hG hr) hI2))
  · have hG2 : aGood (wKS (sh, i1, lo, rv)).1 (wKS (sh, i1, lo, rv)).2.2.2 := wKS_good hG
    have hL2 : (wKS (sh, i1, lo, rv)).1.length = sh.length + 2 := wKS_len (sh, i1, lo, rv)
    have hS2 : aSn (wKS (sh, i1, lo, rv)).1 = aSn sh + 50 := wKS_sn (sh, i1, lo, rv)
    obtain ⟨j', rv4, f12, hr, hI2⟩ := T (u2 (wKS (sh, i1, lo, rv)).2.1 1 1 0) (wKS (sh, i1, lo, rv)).2.2.2 (fun p k hp => by
      by_cases hh : p = 1 ∧ k = 1
      · obtain ⟨rfl, rfl⟩ := hh
        rw [u2_same, u2_same]
      · have hd : p ≠ 1 ∨ k ≠ 1 := by omega
        rw [u2_ne _ _ hd, u2_ne _ _ hd, wKS_i hp]) (fun p k hp => wKS_rv (by omega) hp)
    rw [← hL2] at hI2
    have hcut : fX10_cut 0 (wKS (sh, i1, lo, rv)).2.1 = some (u2 (wKS (sh, i1, lo, rv)).2.1 1 1 0) := by
      unfold fX10_cut
      rw [mz_lt]
    have c1 : (wKS (sh, i1, lo, rv)).1.length ≤ 600000 := by omega
    have c2 : aSn (wKS (sh, i1, lo, rv)).1 ≤ 7280000 := by omega
    have hS3 : lS (k + 1) (wKS (sh, i1, lo, rv)).1 j' rv4 x9 y9 y5 y6 := lS_mk (gd_T hG2 hr) hI2 (by omega) (by omega) (s5_1 hz2 hS2 (by omega)) (by omega) (by omega) h5 h6
    exact lc_3 (v := i1 3 5 + 1 - 1) (h1 := ((wKS (sh, i1, lo, rv)).1, u2 (wKS (sh, i1, lo, rv)).2.1 1 1 0, (wKS (sh, i1, lo, rv)).2.2.1, (wKS (sh, i1, lo, rv)).2.2.2)) (h2 := ((wKS (sh, i1, lo, rv)).1, j', (wKS (sh, i1, lo, rv)).2.2.1, rv4)) hX hn h5 h6 ⟨1027, by decide, okX11_text6 hG h0 h2 ha (by decide) e1 hm hin hw hcut, c1, c2⟩ ⟨1147, by decide, okX12_text hG2 f12, c1, c2⟩ hl (sh_0 hG) (sh_50 hG2) (by omega) (by omega) (kk _ _ _ _ _ _ _ _ hS3)
theorem ls_4 (hX : lX p s m args c D cA ad0 b Ln xs) (hn : n + 5 < Ln) (hk : k < 512) (kk : lNx p l e s m args below meth c Q D cA ad0 1684 n (k + 1)) : lNx p l e s m args below meth c Q D cA ad0 384 n k := by
  intro sh i lo rv x9 y9 y5 y6 hS
  obtain ⟨hG, hI, hl, hz1, hz2, hx, hy, h5, h6⟩ := id hS
  have b1 : sh.length ≤ 600000 := by omega
  have b2 : aSn sh ≤ 7280000 := by omega
  obtain ⟨v, j', e1, e2, hI2⟩ := Q_rule hI hk (xs (n + 1))
  exact lc_4 (v := v) (h1 := (sh, i, lo, rv)) (h2 := (sh, j', lo, rv)) hX hn h5 h6 ⟨_, by decide, okX11_rule hG e1, b1, b2⟩ ⟨_, by decide, okX12_rule hG e2, b1, b2⟩ hl (sh_0 hG) (sh_50 hG) (by omega) (by omega) (kk _ _ _ _ _ _ _ _ (lS_nx hS hG hI2))
theorem ls_6 (hX : lX p s m args c D cA ad0 b Ln xs) (hn : n + 5 < Ln) (hk : k < 512) (kk : lNx p l e s m args below meth c Q D cA ad0 1684 n (k + 1)) : lNx p l e s m args below meth c Q D cA ad0 477 n k := by
  intro sh i lo rv x9 y9 y5 y6 hS
  obtain ⟨hG, hI, hl, hz1, hz2, hx, hy, h5, h6⟩ := id hS
  have b1 : sh.length ≤ 600000 := by omega
  have b2 : aSn sh ≤ 7280000 := by omega
  obtain ⟨v, j', e1, e2, hI2⟩ := Q_officer hI hk (xs (n + 1)) (xs (n + 2))
  exact lc_6 (v := v) (h1 := (sh, i, lo, rv)) (h2 := (sh, j', lo, rv)) hX hn h5 h6 ⟨_, by decide, okX11_officer hG e1, b1, b2⟩ ⟨_, by decide, okX12_officer hG e2, b1, b2⟩ hl (sh_0 hG) (sh_50 hG) (by omega) (by omega) (kk _ _ _ _ _ _ _ _ (lS_nx hS hG hI2))
theorem ls_7 (hX : lX p s m args c D cA ad0 b Ln xs) (hn : n + 5 < Ln) (hk : k < 512) (kk : lNx p l e s m args below meth c Q D cA ad0 1684 n (k + 1)) : lNx p l e s m args below meth c Q D cA ad0 514 n k := by
  intro sh i lo rv x9 y9 y5 y6 hS
  obtain ⟨hG, hI, hl, hz1, hz2, hx, hy, h5, h6⟩ := id hS
  have b1 : sh.length ≤ 600000 := by omega
  have b2 : aSn sh ≤ 7280000 := by omega
  obtain ⟨v, i', rv1, j', e1, e2, hI2⟩ := Q_law hI hk (xs (n + 1))
  have hG1 := gd_law hG e1
  exact lc_7 (v := v) (h1 := (sh, i', lo, rv1)) (h2 := (sh, j', lo, rv1)) hX hn h5 h6 ⟨_, by decide, okX11_law hG e1, b1, b2⟩ ⟨_, by decide, okX12_law hG1 e2, b1, b2⟩ hl (sh_0 hG) (sh_50 hG1) (by omega) (by omega) (kk _ _ _ _ _ _ _ _ (lS_nx hS hG1 hI2))
theorem ls_8 (hX : lX p s m args c D cA ad0 b Ln xs) (hn : n + 5 < Ln) (hk : k < 512) (kk : lNx p l e s m args below meth c Q D cA ad0 1684 n (k + 1)) : lNx p l e s m args below meth c Q D cA ad0 539 n k := by
  intro sh i lo rv x9 y9 y5 y6 hS
  obtain ⟨hG, hI, hl, hz1, hz2, hx, hy, h5, h6⟩ := id hS
  have b1 : sh.length ≤ 600000 := by omega
  have b2 : aSn sh ≤ 7280000 := by omega
  obtain ⟨v, i', j', e1, e2, hI2⟩ := Q_drowsy hI hk (xs (n + 1))
  exact lc_8 (v := v) (h1 := (sh, i', lo, rv)) (h2 := (sh, j', lo, rv)) hX hn h5 h6 ⟨_, by decide, okX11_drowsy hG e1, b1, b2⟩ ⟨_, by decide, okX12_drowsy hG e2, b1, b2⟩ hl (sh_0 hG) (sh_50 hG) (by omega) (by omega) (kk _ _ _ _ _ _ _ _ (lS_nx hS hG hI2))
theorem ls_9 (hX : lX p s m args c D cA ad0 b Ln xs) (hn : n + 5 < Ln) (hk : k < 512) (kk : lNx p l e s m args below meth c Q D cA ad0 1684 n (k + 1)) : lNx p l e s m args below meth c Q D cA ad0 564 n k := by
  intro sh i lo rv x9 y9 y5 y6 hS
  obtain ⟨hG, hI, hl, hz1, hz2, hx, hy, h5, h6⟩ := id hS
  have b1 : sh.length ≤ 600000 := by omega
  have b2 : aSn sh ≤ 7280000 := by omega
  obtain ⟨v, i', j', e1, e2, hI2⟩ := Q_move hI hk (xs (n + 1)) (xs (n + 2))
  exact lc_9 (v := v) (h1 := (sh, i', lo, rv)) (h2 := (sh, j', lo, rv)) hX hn h5 h6 ⟨_, by decide, okX11_move hG e1, b1, b2⟩ ⟨_, by decide, okX12_move hG e2, b1, b2⟩ hl (sh_0 hG) (sh_50 hG) (by omega) (by omega) (kk _ _ _ _ _ _ _ _ (lS_nx hS hG hI2))
theorem ls_10 (hX : lX p s m args c D cA ad0 b Ln xs) (hn : n + 5 < Ln) (hk : k < 512) (kk : lNx p l e s m args below meth c Q D cA ad0 1684 n (k + 1)) : lNx p l e s m args below meth c Q D cA ad0 601 n k := by
  intro sh i lo rv x9 y9 y5 y6 hS
  obtain ⟨hG, hI, hl, hz1, hz2, hx, hy, h5, h6⟩ := id hS
  have b1 : sh.length ≤ 600000 := by omega
  have b2 : aSn sh ≤ 7280000 := by omega
  obtain ⟨v, i', j', e1, e2, hI2⟩ := Q_say hI hk (xs (n + 1)) (xs (n + 2))
  exact lc_10 (v := v) (h1 := (sh, i', lo, rv)) (h2 := (sh, j', lo, rv)) hX hn h5 h6 ⟨_, by decide, okX11_say hG e1, b1, b2⟩ ⟨_, by decide, okX12_say hG e2, b1, b2⟩ hl (sh_0 hG) (sh_50 hG) (by omega) (by omega) (kk _ _ _ _ _ _ _ _ (lS_nx hS hG hI2))
theorem ls_11 (hX : lX p s m args c D cA ad0 b Ln xs) (hn : n + 5 < Ln) (hk : k < 512) (kk : lNx p l e s m args below meth c Q D cA ad0 1684 n (k + 1)) : lNx p l e s m args below meth c Q D cA ad0 638 n k := by
  intro sh i lo rv x9 y9 y5 y6 hS
  obtain ⟨hG, hI, hl, hz1, hz2, hx, hy, h5, h6⟩ := id hS
  have b1 : sh.length ≤ 600000 := by omega
  have b2 : aSn sh ≤ 7280000 := by omega
  obtain ⟨v, i', j', rv2, e1, e2, hr, hI2⟩ := Q_wake hI hk (xs (n + 1))
  exact lc_11 (v := v) (h1 := (sh, i', lo, rv)) (h2 := (sh, j', lo, rv2)) hX hn h5 h6 ⟨_, by decide, okX11_wake hG e1, b1, b2⟩ ⟨_, by decide, okX12_wake hG e2, b1, b2⟩ hl (sh_0 hG) (sh_50 hG) (by omega) (by omega) (kk _ _ _ _ _ _ _ _ (lS_nx hS (gd_M hG hr) hI2))
theorem ls_12 (hX : lX p s m args c D cA ad0 b Ln xs) (hn : n + 5 < Ln) (hk : k < 512) (kk : lNx p l e s m args below meth c Q D cA ad0 1684 n (k + 1)) : lNx p l e s m args below meth c Q D cA ad0 663 n k := by
  intro sh i lo rv x9 y9 y5 y6 hS
  obtain ⟨hG, hI, hl, hz1, hz2, hx, hy, h5, h6⟩ := id hS
  have b1 : sh.length ≤ 600000 := by omega
  have b2 : aSn sh ≤ 7280000 := by omega
  obtain ⟨v, i', j', e1, e2, hI2⟩ := Q_lie hI hk (xs (n + 1))
  exact lc_12 (v := v) (h1 := (sh, i', lo, rv)) (h2 := (sh, j', lo, rv)) hX hn h5 h6 ⟨_, by decide, okX11_lie hG e1, b1, b2⟩ ⟨_, by decide, okX12_lie hG e2, b1, b2⟩ hl (sh_0 hG) (sh_50 hG) (by omega) (by omega) (kk _ _ _ _ _ _ _ _ (lS_nx hS hG hI2))
theorem ls_13 (hX : lX p s m args c D cA ad0 b Ln xs) (hn : n + 5 < Ln) (hk : k < 512) (kk : lNx p l e s m args below meth c Q D cA ad0 1684 n (k + 1)) : lNx p l e s m args below meth c Q D cA ad0 688 n k := by
  intro sh i lo rv x9 y9 y5 y6 hS
  obtain ⟨hG, hI, hl, hz1, hz2, hx, hy, h5, h6⟩ := id hS
  have b1 : sh.length ≤ 600000 := by omega
  have b2 : aSn sh ≤ 7280000 := by omega
  obtain ⟨v, i', j', e1, e2, hI2⟩ := Q_swap hI hk (xs (n + 1)) (xs (n + 2))
  exact lc_13 (v := v) (h1 := (sh, i', lo, rv)) (h2 := (sh, j', lo, rv)) hX hn h5 h6 ⟨_, by decide, okX11_swap hG e1, b1, b2⟩ ⟨_, by decide, okX12_swap hG e2, b1, b2⟩ hl (sh_0 hG) (sh_50 hG) (by omega) (by omega) (kk _ _ _ _ _ _ _ _ (lS_nx hS hG hI2))
theorem ls_14 (hX : lX p s m args c D cA ad0 b Ln xs) (hn : n + 5 < Ln) (hk : k < 512) (kk : lNx p l e s m args below meth c Q D cA ad0 1684 n (k + 1)) : lNx p l e s m args below meth c Q D cA ad0 725 n k := by
  intro sh i lo rv x9 y9 y5 y6 hS
  obtain ⟨hG, hI, hl, hz1, hz2, hx, hy, h5, h6⟩ := id hS
  have b1 : sh.length ≤ 600000 := by omega
  have b2 : aSn sh ≤ 7280000 := by omega
  obtain ⟨v, i', j', rv2, e1, e2, hr, hI2⟩ := Q_border hI hk (xs (n + 1))
  exact lc_14 (v := v) (h1 := (sh, i', lo, rv)) (h2 := (sh, j', lo, rv2)) hX hn h5 h6 ⟨_, by decide, okX11_border hG e1, b1, b2⟩ ⟨_, by decide, okX12_border hG e2, b1, b2⟩ hl (sh_0 hG) (sh_50 hG) (by omega) (by omega) (kk _ _ _ _ _ _ _ _ (lS_nx hS (gd_M hG hr) hI2))
theorem ls_15 (hX : lX p s m args c D cA ad0 b Ln xs) (hn : n + 5 < Ln) (hk : k < 512) (kk : lNx p l e s m args below meth c Q D cA ad0 1684 n (k + 1)) : lNx p l e s m args below meth c Q D cA ad0 750 n k := by
  intro sh i lo rv x9 y9 y5 y6 hS
  obtain ⟨hG, hI, hl, hz1, hz2, hx, hy, h5, h6⟩ := id hS
  have b1 : sh.length ≤ 600000 := by omega
  have b2 : aSn sh ≤ 7280000 := by omega
  obtain ⟨v, i', L, e1, j', L', rv2, e2, hr, hI2⟩ := Q_nights hI hk (xs (n + 1)) ((((xs (n + 2)).toInt64 <<< ((32 : Int32).toInt64 &&& 63)) ||| ((xs (n + 3)).toInt64 &&& 4294967295))) lo
  exact lc_15 (v := v) (h1 := (sh, i', L, rv)) (h2 := (sh, j', L', rv2)) hX hn h5 h6 ⟨_, by decide, okX11_nights hG e1, b1, b2⟩ ⟨_, by decide, okX12_nights hG e2, b1, b2⟩ hl (sh_0 hG) (sh_50 hG) (by omega) (by omega) (kk _ _ _ _ _ _ _ _ (lS_nx hS (gd_M hG hr) hI2))
theorem ls_16 (hX : lX p s m args c D cA ad0 b Ln xs) (hn : n + 5 < Ln) (hk : k < 512) (kk : lNx p l e s m args below meth c Q D cA ad0 1684 n (k + 1)) : lNx p l e s m args below meth c Q D cA ad0 819 n k := by
  intro sh i lo rv x9 y9 y5 y6 hS
  obtain ⟨hG, hI, hl, hz1, hz2, hx, hy, h5, h6⟩ := id hS
  have b1 : sh.length ≤ 600000 := by omega
  have b2 : aSn sh ≤ 7280000 := by omega
  obtain ⟨v, i', j', e1, e2, hI2⟩ := Q_undo hI hk 
  exact lc_16 (v := v) (h1 := (sh, i', lo, rv)) (h2 := (sh, j', lo, rv)) hX hn h5 h6 ⟨_, by decide, okX11_undo hG e1, b1, b2⟩ ⟨_, by decide, okX12_undo hG e2, b1, b2⟩ hl (sh_0 hG) (sh_50 hG) (by omega) (by omega) (kk _ _ _ _ _ _ _ _ (lS_nx hS hG hI2))
theorem ls_17 (hX : lX p s m args c D cA ad0 b Ln xs) (hn : n + 5 < Ln) (hk : k < 512) (kk : lNx p l e s m args below meth c Q D cA ad0 1684 n (k + 1)) : lNx p l e s m args below meth c Q D cA ad0 832 n k := by
  intro sh i lo rv x9 y9 y5 y6 hS
  obtain ⟨hG, hI, hl, hz1, hz2, hx, hy, h5, h6⟩ := id hS
  have b1 : sh.length ≤ 600000 := by omega
  have b2 : aSn sh ≤ 7280000 := by omega
  obtain ⟨v, j', e1, e2, hI2⟩ := Q_log hI hk (xs (n + 1)) (xs (n + 2))
  exact lc_17 (v := v) (h1 := (sh, i, lo, rv)) (h2 := (sh, j', lo, rv)) hX hn h5 h6 ⟨_, by decide, okX11_log hG e1, b1, b2⟩ ⟨_, by decide, okX12_log hG e2, b1, b2⟩ hl (sh_0 hG) (sh_50 hG) (by omega) (by omega) (kk _ _ _ _ _ _ _ _ (lS_nx hS hG hI2))
theorem ls_18 (hX : lX p s m args c D cA ad0 b Ln xs) (hn : n + 5 < Ln) (hk : k < 512) (kk : lNx p l e s m args below meth c Q D cA ad0 1684 n (k + 1)) : lNx p l e s m args below meth c Q D cA ad0 869 n k := by
  intro sh i lo rv x9 y9 y5 y6 hS
  obtain ⟨hG, hI, hl, hz1, hz2, hx, hy, h5, h6⟩ := id hS
  have b1 : sh.length ≤ 600000 := by omega
  have b2 : aSn sh ≤ 7280000 := by omega
  obtain ⟨v, j', e1, e2, hI2⟩ := Q_step hI hk (xs (n + 1)) (xs (n + 2)) (xs (n + 3))
  exact lc_18 (v := v) (h1 := (sh, i, lo, rv)) (h2 := (sh, j', lo, rv)) hX hn h5 h6 ⟨_, by decide, okX11_step hG e1, b1, b2⟩ ⟨_, by decide, okX12_step hG e2, b1, b2⟩ hl (sh_0 hG) (sh_50 hG) (by omega) (by omega) (kk _ _ _ _ _ _ _ _ (lS_nx hS hG hI2))
theorem ls_19 (hX : lX p s m args c D cA ad0 b Ln xs) (hn : n + 5 < Ln) (hk : k < 512) (kk : lNx p l e s m args below meth c Q D cA ad0 1684 n (k + 1)) : lNx p l e s m args below meth c Q D cA ad0 918 n k := by
  intro sh i lo rv x9 y9 y5 y6 hS
  obtain ⟨hG, hI, hl, hz1, hz2, hx, hy, h5, h6⟩ := id hS
  have b1 : sh.length ≤ 600000 := by omega
  have b2 : aSn sh ≤ 7280000 := by omega
  obtain ⟨v, i', j', rv2, e1, e2, hr, hI2⟩ := Q_run hI hk (xs (n + 1)) (xs (n + 2))
  exact lc_19 (v := v) (h1 := (sh, i', lo, rv)) (h2 := (sh, j', lo, rv2)) hX hn h5 h6 ⟨_, by decide, okX11_run hG e1, b1, b2⟩ ⟨_, by decide, okX12_run hG e2, b1, b2⟩ hl (sh_0 hG) (sh_50 hG) (by omega) (by omega) (kk _ _ _ _ _ _ _ _ (lS_nx hS (gd_M hG hr) hI2))
theorem ls_20 (hX : lX p s m args c D cA ad0 b Ln xs) (hn : n + 5 < Ln) (hk : k < 512) (kk : lNx p l e s m args below meth c Q D cA ad0 1684 n (k + 1)) : lNx p l e s m args below meth c Q D cA ad0 955 n k := by
  intro sh i lo rv x9 y9 y5 y6 hS
  obtain ⟨hG, hI, hl, hz1, hz2, hx, hy, h5, h6⟩ := id hS
  have b1 : sh.length ≤ 600000 := by omega
  have b2 : aSn sh ≤ 7280000 := by omega
  obtain ⟨v, i', j', rv2, e1, e2, hr, hI2⟩ := Q_perform hI hk (xs (n + 1))
  exact lc_20 (v := v) (h1 := (sh, i', lo, rv)) (h2 := (sh, j', lo, rv2)) hX hn h5 h6 ⟨_, by decide, okX11_perform hG e1, b1, b2⟩ ⟨_, by decide, okX12_perform hG e2, b1, b2⟩ hl (sh_0 hG) (sh_50 hG) (by omega) (by omega) (kk _ _ _ _ _ _ _ _ (lS_nx hS (gd_M hG hr) hI2))
theorem ls_21 (hX : lX p s m args c D cA ad0 b Ln xs) (hn : n + 5 < Ln) (hk : k < 512) (kk : lNx p l e s m args below meth c Q D cA ad0 1684 n (k + 1)) : lNx p l e s m args below meth c Q D cA ad0 980 n k := by
  intro sh i lo rv x9 y9 y5 y6 hS
  obtain ⟨hG, hI, hl, hz1, hz2, hx, hy, h5, h6⟩ := id hS
  have b1 : sh.length ≤ 600000 := by omega
  have b2 : aSn sh ≤ 7280000 := by omega
  obtain ⟨v, i', j', rv2, e1, e2, hr, hI2⟩ := Q_time hI hk (xs (n + 1)) (xs (n + 2))
  exact lc_21 (v := v) (h1 := (sh, i', lo, rv)) (h2 := (sh, j', lo, rv2)) hX hn h5 h6 ⟨_, by decide, okX11_time hG e1, b1, b2⟩ ⟨_, by decide, okX12_time hG e2, b1, b2⟩ hl (sh_0 hG) (sh_50 hG) (by omega) (by omega) (kk _ _ _ _ _ _ _ _ (lS_nx hS (gd_M hG hr) hI2))
theorem ls_22 (hX : lX p s m args c D cA ad0 b Ln xs) (hn : n + 5 < Ln) (hk : k < 512) (kk : lNx p l e s m args below meth c Q D cA ad0 1684 n (k + 1)) : lNx p l e s m args below meth c Q D cA ad0 1017 n k := by
  intro sh i lo rv x9 y9 y5 y6 hS
  obtain ⟨hG, hI, hl, hz1, hz2, hx, hy, h5, h6⟩ := id hS
  have b1 : sh.length ≤ 600000 := by omega
  have b2 : aSn sh ≤ 7280000 := by omega
  obtain ⟨v, i', j', e1, e2, hI2⟩ := Q_order hI hk (xs (n + 1)) (xs (n + 2))
  exact lc_22 (v := v) (h1 := (sh, i', lo, rv)) (h2 := (sh, j', lo, rv)) hX hn h5 h6 ⟨_, by decide, okX11_order hG e1, b1, b2⟩ ⟨_, by decide, okX12_order hG e2, b1, b2⟩ hl (sh_0 hG) (sh_50 hG) (by omega) (by omega) (kk _ _ _ _ _ _ _ _ (lS_nx hS hG hI2))
theorem ls_23 (hX : lX p s m args c D cA ad0 b Ln xs) (hn : n + 5 < Ln) (hk : k < 512) (kk : lNx p l e s m args below meth c Q D cA ad0 1684 n (k + 1)) : lNx p l e s m args below meth c Q D cA ad0 1054 n k := by
  intro sh i lo rv x9 y9 y5 y6 hS
  obtain ⟨hG, hI, hl, hz1, hz2, hx, hy, h5, h6⟩ := id hS
  have b1 : sh.length ≤ 600000 := by omega
  have b2 : aSn sh ≤ 7280000 := by omega
  obtain ⟨v, j', e1, e2, hI2⟩ := Q_bound hI hk (xs (n + 1))
  exact lc_23 (v := v) (h1 := (sh, i, lo, rv)) (h2 := (sh, j', lo, rv)) hX hn h5 h6 ⟨_, by decide, okX11_bound hG e1, b1, b2⟩ ⟨_, by decide, okX12_bound hG e2, b1, b2⟩ hl (sh_0 hG) (sh_50 hG) (by omega) (by omega) (kk _ _ _ _ _ _ _ _ (lS_nx hS hG hI2))
theorem ls_24 (hX : lX p s m args c D cA ad0 b Ln xs) (hn : n + 5 < Ln) (hk : k < 512) (kk : lNx p l e s m args below meth c Q D cA ad0 1684 n (k + 1)) : lNx p l e s m args below meth c Q D cA ad0 1079 n k := by
  intro sh i lo rv x9 y9 y5 y6 hS
  obtain ⟨hG, hI, hl, hz1, hz2, hx, hy, h5, h6⟩ := id hS
  have b1 : sh.length ≤ 600000 := by omega
  have b2 : aSn sh ≤ 7280000 := by omega
  obtain ⟨v, i', j', rv2, e1, e2, hr, hI2⟩ := Q_before hI hk (xs (n + 1))
  exact lc_24 (v := v) (h1 := (sh, i', lo, rv)) (h2 := (sh, j', lo, rv2)) hX hn h5 h6 ⟨_, by decide, okX11_before hG e1, b1, b2⟩ ⟨_, by decide, okX12_before hG e2, b1, b2⟩ hl (sh_0 hG) (sh_50 hG) (by omega) (by omega) (kk _ _ _ _ _ _ _ _ (lS_nx hS (gd_M hG hr) hI2))
theorem ls_25 (hX : lX p s m args c D cA ad0 b Ln xs) (hn : n + 5 < Ln) (hk : k < 512) (kk : lNx p l e s m args below meth c Q D cA ad0 1684 n (k + 1)) : lNx p l e s m args below meth c Q D cA ad0 1104 n k := by
  intro sh i lo rv x9 y9 y5 y6 hS
  obtain ⟨hG, hI, hl, hz1, hz2, hx, hy, h5, h6⟩ := id hS
  have b1 : sh.length ≤ 600000 := by omega
  have b2 : aSn sh ≤ 7280000 := by omega
  obtain ⟨v, i', j', e1, e2, hI2⟩ := Q_words hI hk (xs (n + 1))
  exact lc_25 (v := v) (h1 := (sh, i', lo, rv)) (h2 := (sh, j', lo, rv)) hX hn h5 h6 ⟨_, by decide, okX11_words hG e1, b1, b2⟩ ⟨_, by decide, okX12_words hG e2, b1, b2⟩ hl (sh_0 hG) (sh_50 hG) (by omega) (by omega) (kk _ _ _ _ _ _ _ _ (lS_nx hS hG hI2))
theorem ls_26 (hX : lX p s m args c D cA ad0 b Ln xs) (hn : n + 5 < Ln) (hk : k < 512) (kk : lNx p l e s m args below meth c Q D cA ad0 1684 n (k + 1)) : lNx p l e s m args below meth c Q D cA ad0 1129 n k := by
  intro sh i lo rv x9 y9 y5 y6 hS
  obtain ⟨hG, hI, hl, hz1, hz2, hx, hy, h5, h6⟩ := id hS
  have b1 : sh.length ≤ 600000 := by omega
  have b2 : aSn sh ≤ 7280000 := by omega
  obtain ⟨v, i', j', rv2, e1, e2, hr, hI2⟩ := Q_tonight hI hk (xs (n + 1))
  exact lc_26 (v := v) (h1 := (sh, i', lo, rv)) (h2 := (sh, j', lo, rv2)) hX hn h5 h6 ⟨_, by decide, okX11_tonight hG e1, b1, b2⟩ ⟨_, by decide, okX12_tonight hG e2, b1, b2⟩ hl (sh_0 hG) (sh_50 hG) (by omega) (by omega) (kk _ _ _ _ _ _ _ _ (lS_nx hS (gd_M hG hr) hI2))
theorem ls_27 (hX : lX p s m args c D cA ad0 b Ln xs) (hn : n + 5 < Ln) (hk : k < 512) (kk : lNx p l e s m args below meth c Q D cA ad0 1684 n (k + 1)) : lNx p l e s m args below meth c Q D cA ad0 1154 n k := by
  intro sh i lo rv x9 y9 y5 y6 hS
  obtain ⟨hG, hI, hl, hz1, hz2, hx, hy, h5, h6⟩ := id hS
  have b1 : sh.length ≤ 600000 := by omega
  have b2 : aSn sh ≤ 7280000 := by omega
  obtain ⟨v, i', j', e1, e2, hI2⟩ := Q_hear hI hk (bI (xs (n + 1))) (xs (n + 2)) (bI_01 _)
  exact lc_27 (v := v) (h1 := (sh, i', lo, rv)) (h2 := (sh, j', lo, rv)) hX hn h5 h6 ⟨_, by decide, okX11_hear hG e1, b1, b2⟩ ⟨_, by decide, okX12_hear hG e2, b1, b2⟩ hl (sh_0 hG) (sh_50 hG) (by omega) (by omega) (kk _ _ _ _ _ _ _ _ (lS_nx hS hG hI2))
theorem ls_28 (hX : lX p s m args c D cA ad0 b Ln xs) (hn : n + 5 < Ln) (hk : k < 512) (kk : lNx p l e s m args below meth c Q D cA ad0 1684 n (k + 1)) : lNx p l e s m args below meth c Q D cA ad0 1207 n k := by
  intro sh i lo rv x9 y9 y5 y6 hS
  obtain ⟨hG, hI, hl, hz1, hz2, hx, hy, h5, h6⟩ := id hS
  have b1 : sh.length ≤ 600000 := by omega
  have b2 : aSn sh ≤ 7280000 := by omega
  obtain ⟨v, i', j', e1, e2, hI2⟩ := Q_lookAt hI hk (xs (n + 1)) (bI (xs (n + 2))) (bI_01 _)
  exact lc_28 (v := v) (h1 := (sh, i', lo, rv)) (h2 := (sh, j', lo, rv)) hX hn h5 h6 ⟨_, by decide, okX11_lookAt hG e1, b1, b2⟩ ⟨_, by decide, okX12_lookAt hG e2, b1, b2⟩ hl (sh_0 hG) (sh_50 hG) (by omega) (by omega) (kk _ _ _ _ _ _ _ _ (lS_nx hS hG hI2))
theorem ls_29 (hX : lX p s m args c D cA ad0 b Ln xs) (hn : n + 5 < Ln) (hk : k < 512) (kk : lNx p l e s m args below meth c Q D cA ad0 1684 n (k + 1)) : lNx p l e s m args below meth c Q D cA ad0 1260 n k := by
  intro sh i lo rv x9 y9 y5 y6 hS
  obtain ⟨hG, hI, hl, hz1, hz2, hx, hy, h5, h6⟩ := id hS
  have b1 : sh.length ≤ 600000 := by omega
  have b2 : aSn sh ≤ 7280000 := by omega
  obtain ⟨v, j', e1, e2, hI2⟩ := Q_fit hI hk (xs (n + 1))
  exact lc_29 (v := v) (h1 := (sh, i, lo, rv)) (h2 := (sh, j', lo, rv)) hX hn h5 h6 ⟨_, by decide, okX11_fit hG e1, b1, b2⟩ ⟨_, by decide, okX12_fit hG e2, b1, b2⟩ hl (sh_0 hG) (sh_50 hG) (by omega) (by omega) (kk _ _ _ _ _ _ _ _ (lS_nx hS hG hI2))
theorem ls_30 (hX : lX p s m args c D cA ad0 b Ln xs) (hn : n + 5 < Ln) (hk : k < 512) (kk : lNx p l e s m args below meth c Q D cA ad0 1684 n (k + 1)) : lNx p l e s m args below meth c Q D cA ad0 1285 n k := by
  intro sh i lo rv x9 y9 y5 y6 hS
  obtain ⟨hG, hI, hl, hz1, hz2, hx, hy, h5, h6⟩ := id hS
  have b1 : sh.length ≤ 600000 := by omega
  have b2 : aSn sh ≤ 7280000 := by omega
  obtain ⟨v, j', e1, e2, hI2⟩ := Q_best hI hk 
  exact lc_30 (v := v) (h1 := (sh, i, lo, rv)) (h2 := (sh, j', lo, rv)) hX hn h5 h6 ⟨_, by decide, okX11_best hG e1, b1, b2⟩ ⟨_, by decide, okX12_best hG e2, b1, b2⟩ hl (sh_0 hG) (sh_50 hG) (by omega) (by omega) (kk _ _ _ _ _ _ _ _ (lS_nx hS hG hI2))
theorem ls_31 (hX : lX p s m args c D cA ad0 b Ln xs) (hn : n + 5 < Ln) (hk : k < 512) (kk : lNx p l e s m args below meth c Q D cA ad0 1684 n (k + 1)) : lNx p l e s m args below meth c Q D cA ad0 1298 n k := by
  intro sh i lo rv x9 y9 y5 y6 hS
  obtain ⟨hG, hI, hl, hz1, hz2, hx, hy, h5, h6⟩ := id hS
  have b1 : sh.length ≤ 600000 := by omega
  have b2 : aSn sh ≤ 7280000 := by omega
  obtain ⟨v, j', e1, e2, hI2⟩ := Q_heads hI hk (xs (n + 1)) (xs (n + 2))
  exact lc_31 (v := v) (h1 := (sh, i, lo, rv)) (h2 := (sh, j', lo, rv)) hX hn h5 h6 ⟨_, by decide, okX11_heads hG e1, b1, b2⟩ ⟨_, by decide, okX12_heads hG e2, b1, b2⟩ hl (sh_0 hG) (sh_50 hG) (by omega) (by omega) (kk _ _ _ _ _ _ _ _ (lS_nx hS hG hI2))
theorem ls_32 (hX : lX p s m args c D cA ad0 b Ln xs) (hn : n + 5 < Ln) (hk : k < 512) (kk : lNx p l e s m args below meth c Q D cA ad0 1684 n (k + 1)) : lNx p l e s m args below meth c Q D cA ad0 1335 n k := by
  intro sh i lo rv x9 y9 y5 y6 hS
  obtain ⟨hG, hI, hl, hz1, hz2, hx, hy, h5, h6⟩ := id hS
  have b1 : sh.length ≤ 600000 := by omega
  have b2 : aSn sh ≤ 7280000 := by omega
  obtain ⟨v, i', j', e1, e2, hI2⟩ := Q_give hI hk (xs (n + 1))
  exact lc_32 (v := v) (h1 := (sh, i', lo, rv)) (h2 := (sh, j', lo, rv)) hX hn h5 h6 ⟨_, by decide, okX11_give hG e1, b1, b2⟩ ⟨_, by decide, okX12_give hG e2, b1, b2⟩ hl (sh_0 hG) (sh_50 hG) (by omega) (by omega) (kk _ _ _ _ _ _ _ _ (lS_nx hS hG hI2))
theorem ls_33 (hX : lX p s m args c D cA ad0 b Ln xs) (hn : n + 5 < Ln) (hk : k < 512) (kk : lNx p l e s m args below meth c Q D cA ad0 1684 n (k + 1)) : lNx p l e s m args below meth c Q D cA ad0 1360 n k := by
  intro sh i lo rv x9 y9 y5 y6 hS
  obtain ⟨hG, hI, hl, hz1, hz2, hx, hy, h5, h6⟩ := id hS
  have b1 : sh.length ≤ 600000 := by omega
  have b2 : aSn sh ≤ 7280000 := by omega
  obtain ⟨v, i', j', rv2, e1, e2, hr, hI2⟩ := Q_between hI hk 
  exact lc_33 (v := v) (h1 := (sh, i', lo, rv)) (h2 := (sh, j', lo, rv2)) hX hn h5 h6 ⟨_, by decide, okX11_between hG e1, b1, b2⟩ ⟨_, by decide, okX12_between hG e2, b1, b2⟩ hl (sh_0 hG) (sh_50 hG) (by omega) (by omega) (kk _ _ _ _ _ _ _ _ (lS_nx hS (gd_M hG hr) hI2))
theorem ls_34 (hX : lX p s m args c D cA ad0 b Ln xs) (hn : n + 5 < Ln) (hk : k < 512) (kk : lNx p l e s m args below meth c Q D cA ad0 1684 n (k + 1)) : lNx p l e s m args below meth c Q D cA ad0 1373 n k := by
  intro sh i lo rv x9 y9 y5 y6 hS
  obtain ⟨hG, hI, hl, hz1, hz2, hx, hy, h5, h6⟩ := id hS
  have b1 : sh.length ≤ 600000 := by omega
  have b2 : aSn sh ≤ 7280000 := by omega
  obtain ⟨v, i', j', rv2, e1, e2, hr, hI2⟩ := Q_favour hI hk (xs (n + 1)) (xs (n + 2)) (xs (n + 3)) (xs (n + 4)) (xs (n + 5))
  exact lc_34 (v := v) (h1 := (sh, i', lo, rv)) (h2 := (sh, j', lo, rv2)) hX hn h5 h6 ⟨_, by decide, okX11_favour hG e1, b1, b2⟩ ⟨_, by decide, okX12_favour hG e2, b1, b2⟩ hl (sh_0 hG) (sh_50 hG) (by omega) (by omega) (kk _ _ _ _ _ _ _ _ (lS_nx hS (gd_M hG hr) hI2))
theorem ls_35 (hX : lX p s m args c D cA ad0 b Ln xs) (hn : n + 5 < Ln) (hk : k < 512) (kk : lNx p l e s m args below meth c Q D cA ad0 1684 n (k + 1)) : lNx p l e s m args below meth c Q D cA ad0 1446 n k := by
  intro sh i lo rv x9 y9 y5 y6 hS
  obtain ⟨hG, hI, hl, hz1, hz2, hx, hy, h5, h6⟩ := id hS
  have b1 : sh.length ≤ 600000 := by omega
  have b2 : aSn sh ≤ 7280000 := by omega
  obtain ⟨v, i', j', rv2, e1, e2, hr, hI2⟩ := Q_rests hI hk (xs (n + 1)) (xs (n + 2)) (xs (n + 3))
  exact lc_35 (v := v) (h1 := (sh, i', lo, rv)) (h2 := (sh, j', lo, rv2)) hX hn h5 h6 ⟨_, by decide, okX11_rests hG e1, b1, b2⟩ ⟨_, by decide, okX12_rests hG e2, b1, b2⟩ hl (sh_0 hG) (sh_50 hG) (by omega) (by omega) (kk _ _ _ _ _ _ _ _ (lS_nx hS (gd_M hG hr) hI2))
theorem ls_36 (hX : lX p s m args c D cA ad0 b Ln xs) (hn : n + 5 < Ln) (hk : k < 512) (kk : lNx p l e s m args below meth c Q D cA ad0 1684 n (k + 1)) : lNx p l e s m args below meth c Q D cA ad0 1495 n k := by
  intro sh i lo rv x9 y9 y5 y6 hS
  obtain ⟨hG, hI, hl, hz1, hz2, hx, hy, h5, h6⟩ := id hS
  have b1 : sh.length ≤ 600000 := by omega
  have b2 : aSn sh ≤ 7280000 := by omega
  obtain ⟨v, j', e1, e2, hI2⟩ := Q_which hI hk (xs (n + 1))
  exact lc_36 (v := v) (h1 := (sh, i, lo, rv)) (h2 := (sh, j', lo, rv)) hX hn h5 h6 ⟨_, by decide, okX11_which hG e1, b1, b2⟩ ⟨_, by decide, okX12_which hG e2, b1, b2⟩ hl (sh_0 hG) (sh_50 hG) (by omega) (by omega) (kk _ _ _ _ _ _ _ _ (lS_nx hS hG hI2))
theorem ls_37 (hX : lX p s m args c D cA ad0 b Ln xs) (hn : n + 5 < Ln) (hk : k < 512) (kk : lNx p l e s m args below meth c Q D cA ad0 1684 n (k + 1)) : lNx p l e s m args below meth c Q D cA ad0 1520 n k := by
  intro sh i lo rv x9 y9 y5 y6 hS
  obtain ⟨hG, hI, hl, hz1, hz2, hx, hy, h5, h6⟩ := id hS
  have b1 : sh.length ≤ 600000 := by omega
  have b2 : aSn sh ≤ 7280000 := by omega
  obtain ⟨v, j', e1, e2, hI2⟩ := Q_woken hI hk (xs (n + 1))
  exact lc_37 (v := v) (h1 := (sh, i, lo, rv)) (h2 := (sh, j', lo, rv)) hX hn h5 h6 ⟨_, by decide, okX11_woken hG e1, b1, b2⟩ ⟨_, by decide, okX12_woken hG e2, b1, b2⟩ hl (sh_0 hG) (sh_50 hG) (by omega) (by omega) (kk _ _ _ _ _ _ _ _ (lS_nx hS hG hI2))
theorem ls_38 (hX : lX p s m args c D cA ad0 b Ln xs) (hn : n + 5 < Ln) (hk : k < 512) (kk : lNx p l e s m args below meth c Q D cA ad0 1684 n (k + 1)) : lNx p l e s m args below meth c Q D cA ad0 1545 n k := by
  intro sh i lo rv x9 y9 y5 y6 hS
  obtain ⟨hG, hI, hl, hz1, hz2, hx, hy, h5, h6⟩ := id hS
  have b1 : sh.length ≤ 600000 := by omega
  have b2 : aSn sh ≤ 7280000 := by omega
  obtain ⟨v, j', e1, e2, hI2⟩ := Q_tired hI hk 
  exact lc_38 (v := v) (h1 := (sh, i, lo, rv)) (h2 := (sh, j', lo, rv)) hX hn h5 h6 ⟨_, by decide, okX11_tired hG e1, b1, b2⟩ ⟨_, by decide, okX12_tired hG e2, b1, b2⟩ hl (sh_0 hG) (sh_50 hG) (by omega) (by omega) (kk _ _ _ _ _ _ _ _ (lS_nx hS hG hI2))
theorem ls_39 (hX : lX p s m args c D cA ad0 b Ln xs) (hn : n + 5 < Ln) (hk : k < 512) (kk : lNx p l e s m args below meth c Q D cA ad0 1684 n (k + 1)) : lNx p l e s m args below meth c Q D cA ad0 1558 n k := by
  intro sh i lo rv x9 y9 y5 y6 hS
  obtain ⟨hG, hI, hl, hz1, hz2, hx, hy, h5, h6⟩ := id hS
  have b1 : sh.length ≤ 600000 := by omega
  have b2 : aSn sh ≤ 7280000 := by omega
  obtain ⟨v, j', e1, e2, hI2⟩ := Q_beside hI hk (xs (n + 1))
  exact lc_39 (v := v) (h1 := (sh, i, lo, rv)) (h2 := (sh, j', lo, rv)) hX hn h5 h6 ⟨_, by decide, okX11_beside hG e1, b1, b2⟩ ⟨_, by decide, okX12_beside hG e2, b1, b2⟩ hl (sh_0 hG) (sh_50 hG) (by omega) (by omega) (kk _ _ _ _ _ _ _ _ (lS_nx hS hG hI2))
theorem ls_40 (hX : lX p s m args c D cA ad0 b Ln xs) (hn : n + 5 < Ln) (hk : k < 512) (kk : lNx p l e s m args below meth c Q D cA ad0 1684 n (k + 1)) : lNx p l e s m args below meth c Q D cA ad0 1583 n k := by
  intro sh i lo rv x9 y9 y5 y6 hS
  obtain ⟨hG, hI, hl, hz1, hz2, hx, hy, h5, h6⟩ := id hS
  have b1 : sh.length ≤ 600000 := by omega
  have b2 : aSn sh ≤ 7280000 := by omega
  obtain ⟨v, i', j', rv2, e1, e2, hr, hI2⟩ := Q_slack hI hk (xs (n + 1))
  exact lc_40 (v := v) (h1 := (sh, i', lo, rv)) (h2 := (sh, j', lo, rv2)) hX hn h5 h6 ⟨_, by decide, okX11_slack hG e1, b1, b2⟩ ⟨_, by decide, okX12_slack hG e2, b1, b2⟩ hl (sh_0 hG) (sh_50 hG) (by omega) (by omega) (kk _ _ _ _ _ _ _ _ (lS_nx hS (gd_M hG hr) hI2))
theorem ls_41 (hX : lX p s m args c D cA ad0 b Ln xs) (hn : n + 5 < Ln) (hk : k < 512) (kk : lNx p l e s m args below meth c Q D cA ad0 1684 n (k + 1)) : lNx p l e s m args below meth c Q D cA ad0 1608 n k := by
  intro sh i lo rv x9 y9 y5 y6 hS
  obtain ⟨hG, hI, hl, hz1, hz2, hx, hy, h5, h6⟩ := id hS
  have b1 : sh.length ≤ 600000 := by omega
  have b2 : aSn sh ≤ 7280000 := by omega
  obtain ⟨v, i', j', rv2, e1, e2, hr, hI2⟩ := Q_longest hI hk (xs (n + 1))
  exact lc_41 (v := v) (h1 := (sh, i', lo, rv)) (h2 := (sh, j', lo, rv2)) hX hn h5 h6 ⟨_, by decide, okX11_longest hG e1, b1, b2⟩ ⟨_, by decide, okX12_longest hG e2, b1, b2⟩ hl (sh_0 hG) (sh_50 hG) (by omega) (by omega) (kk _ _ _ _ _ _ _ _ (lS_nx hS (gd_M hG hr) hI2))
theorem ls_42 (hX : lX p s m args c D cA ad0 b Ln xs) (hn : n + 5 < Ln) (hk : k < 512) (kk : lNx p l e s m args below meth c Q D cA ad0 1684 n (k + 1)) : lNx p l e s m args below meth c Q D cA ad0 1633 n k := by
  intro sh i lo rv x9 y9 y5 y6 hS
  obtain ⟨hG, hI, hl, hz1, hz2, hx, hy, h5, h6⟩ := id hS
  have b1 : sh.length ≤ 600000 := by omega
  have b2 : aSn sh ≤ 7280000 := by omega
  obtain ⟨v, i', j', e1, e2, hI2⟩ := Q_image hI hk 
  exact lc_42 (v := v) (h1 := (sh, i', lo, rv)) (h2 := (sh, j', lo, rv)) hX hn h5 h6 ⟨_, by decide, okX11_image hG e1, b1, b2⟩ ⟨_, by decide, okX12_image hG e2, b1, b2⟩ hl (sh_0 hG) (sh_50 hG) (by omega) (by omega) (kk _ _ _ _ _ _ _ _ (lS_nx hS hG hI2))
theorem ls_43 (hX : lX p s m args c D cA ad0 b Ln xs) (hn : n + 5 < Ln) (hk : k < 512) (kk : lNx p l e s m args below meth c Q D cA ad0 1684 n (k + 1)) : lNx p l e s m args below meth c Q D cA ad0 1646 n k := by
  intro sh i lo rv x9 y9 y5 y6 hS
  obtain ⟨hG, hI, hl, hz1, hz2, hx, hy, h5, h6⟩ := id hS
  have b1 : sh.length ≤ 600000 := by omega
  have b2 : aSn sh ≤ 7280000 := by omega
  obtain ⟨v, i', j', e1, e2, hI2⟩ := Q_back hI hk 
  exact lc_43 (v := v) (h1 := (sh, i', lo, rv)) (h2 := (sh, j', lo, rv)) hX hn h5 h6 ⟨_, by decide, okX11_back hG e1, b1, b2⟩ ⟨_, by decide, okX12_back hG e2, b1, b2⟩ hl (sh_0 hG) (sh_50 hG) (by omega) (by omega) (kk _ _ _ _ _ _ _ _ (lS_nx hS hG hI2))
theorem ls_44 (hX : lX p s m args c D cA ad0 b Ln xs) (hn : n + 5 < Ln) (hk : k < 512) (kk : lNx p l e s m args below meth c Q D cA ad0 1684 n (k + 1)) : lNx p l e s m args below meth c Q D cA ad0 1659 n k := by
  intro sh i lo rv x9 y9 y5 y6 hS
  obtain ⟨hG, hI, hl, hz1, hz2, hx, hy, h5, h6⟩ := id hS
  have b1 : sh.length ≤ 600000 := by omega
  have b2 : aSn sh ≤ 7280000 := by omega
  obtain ⟨v, j', e1, e2, hI2⟩ := Q_count hI hk (xs (n + 1))
  exact lc_44 (v := v) (h1 := (sh, i, lo, rv)) (h2 := (sh, j', lo, rv)) hX hn h5 h6 ⟨_, by decide, okX11_count hG e1, b1, b2⟩ ⟨_, by decide, okX12_count hG e2, b1, b2⟩ hl (sh_0 hG) (sh_50 hG) (by omega) (by omega) (kk _ _ _ _ _ _ _ _ (lS_nx hS hG hI2))
theorem ls_5 (hlt : l.stackTraces = false) (hz : zS (fun q => s.heap.size ≤ q) s) (hX : lX p s m args c D cA ad0 b Ln xs) (hn : n + 5 < Ln) (hk : k < 512) (kk : lNx p l e s m args below meth c Q D cA ad0 1684 n (k + 1)) : lNx p l e s m args below meth c Q D cA ad0 409 n k := by
  intro sh i lo rv x9 y9 y5 y6 hS
  obtain ⟨hG, hI, hl, hz1, hz2, hx, hy, h5, h6⟩ := id hS
  have b1 : sh.length ≤ 600000 := by omega
  have b2 : aSn sh ≤ 7280000 := by omega
  rcases Q_sleeper hI (xs (n + 1)) (xs (n + 2)) with ⟨v, e1, e2, hI2⟩ | ⟨v, e1, hc, e2, hI2⟩
  · have ht : fX12_thrown (u2 i 50 0 0) = some 0 := by
      unfold fX12_thrown
      rw [u2_same]
    have hS3 : lS (k + 1) sh (u2 i 50 0 0) rv x9 y9 (some (.int 0)) (some (.int v)) := lS_mk hG hI2 hl (by omega) (s5_0 hz2) (by omega) (by omega) (bl_i _) (bl_i _)
    exact lc_5a (d := 1) (v := v) (i2 := u2 i 50 0 0) hX hn h6 hG (by decide) (okX11_sleeper hG e1) ⟨_, by decide, okX12_sleeper hG e2, b1, b2⟩ ⟨_, by decide, okX12_thrown hG ht, b1, b2⟩ hl b1 b2 (by omega) (by omega) (kk _ _ _ _ _ _ _ _ hS3)
  · have ht : fX12_thrown (u2 i 50 0 1) = some 1 := by
      unfold fX12_thrown
      rw [u2_same]
    have hS3 : lS (k + 1) sh (u2 i 50 0 1) rv (x9 + 1) (y9 + 6) (some (.int 1)) (some (.int 0)) := lS_mk hG hI2 hl (by omega) (s5_0 hz2) (by omega) (by omega) (bl_i _) (bl_i _)
    exact lc_5t (v1 := v) (i2 := u2 i 50 0 1) hX hn h6 hG hlt hz (okX1_hasSleeper hG (cr_15 hG) e1) hc ⟨_, by decide, okX12_sleeper hG e2, b1, b2⟩ ⟨_, by decide, okX12_thrown hG ht, b1, b2⟩ hl b1 b2 (by omega) (by omega) (kk _ _ _ _ _ _ _ _ hS3)
/-- a code that stands for no call -/
theorem ls_no (kk : lNx p l e s m args below meth c Q D cA ad0 1684 n (k + 1)) : lNx p l e s m args below meth c Q D cA ad0 1684 n k := by
  intro sh i lo rv x9 y9 y5 y6 hS
  exact kk _ _ _ _ _ _ _ _ (lS_nx hS hS.1 (Inv_up hS.2.1))
end LQ
theorem t6_i (x : Int32) : 0 ≤ (x &&& 63).toInt ∧ (x &&& 63).toInt ≤ 63 := by
  have h1 : (x &&& 63).toBitVec.toNat ≤ 63 := by
    show (x.toBitVec &&& (63 : Int32).toBitVec).toNat ≤ 63
    rw [BitVec.toNat_and]
    exact Nat.and_le_right
  have h2 : (x &&& 63).toInt = ((x &&& 63).toBitVec.toNat : Int) := BitVec.toInt_eq_toNat_of_lt (by omega)
  omega
theorem s6_lt {Ln n : Nat} (h : Ln ≤ 3072) (hn : n ≤ 4000) : (nI Ln - 6 < nI n) = (Ln < n + 6) := by
  have e6 : (6 : Int32) = zI 6 := by decide +kernel
  rw [e6, zI_n Ln, zI_n n, zI_sub, zI_lt (by omega) (by omega) (by omega) (by omega)]
  apply propext
  omega
section LZ
variable {p : Program} {l : Launch} {e : Env} {s : State} {m : MethodId} {below : List Frame} {meth : Method} {c : Code} {D : va_G} {cA : FieldType → ClassId} {ad0 : Nat → Nat}
variable {b Ln : Nat} {xs : Nat → Int32}
/-- the law's end -/
theorem lz_end {x9 y9 : Nat} {L : List (Option Value)} {h : aHp} (hX : lX p s m #[Value.ref b] c D cA ad0 b Ln xs) (hr : meth.sig.returnType = ret) (hlk : meth.locks = false) (h1 : h.1.length + x9 ≤ 601024) (h2 : aSn h.1 + y9 ≤ 7293034) :
    aK x9 y9 p l e room_1 s m #[Value.ref b] below meth c (lw_Z below #[Value.ref b] s) D cA (fun q => s.heap.size ≤ q) ad0 7 0 0 1690 L [] h := by
  refine k_iconst hX.1 dL_law_1690 ic_1 ?_
  intro adr H ls locs cells slots hR
  have hc1 := hR.2.2.2.2.2.2.1
  have hc2 := hR.2.2.2.2.2.2.2.1
  refine W.widen (k := 601024) (n := 7293034) (by omega) (by omega) ?_
  intro T hT X
  exact lw_ret hX.1.1 hX.1.2.1 hr hlk dL_law_1691 T hT { X with same := X.same.weaken (fun y hy hlt => absurd hlt (Nat.not_lt.mpr (hR.2.2.1.2.2 y hy))) (Nat.le_refl _) (Nat.le_refl _) }
/-- one turn of the loop -/
theorem lz_turn (hlt : l.stackTraces = false) (hz : zS (fun q => s.heap.size ≤ q) s) (hX : lX p s m #[Value.ref b] c D cA ad0 b Ln xs) (hr : meth.sig.returnType = ret) (hlk : meth.locks = false) {k : Nat} (hk5 : k ≤ 512)
    (kk : k < 512 → lNx p l e s m #[Value.ref b] below meth c (lw_Z below #[Value.ref b] s) D cA ad0 23 (6 * (k + 1)) (k + 1)) : lNx p l e s m #[Value.ref b] below meth c (lw_Z below #[Value.ref b] s) D cA ad0 23 (6 * k) k := by
  have h3 := hX.2.2.2.2
  -- behind the call
  have k2 : k < 512 → lNx p l e s m #[Value.ref b] below meth c (lw_Z below #[Value.ref b] s) D cA ad0 1684 (6 * k) (k + 1) := by
    intro hk sh i lo rv x9 y9 y5 y6 hS
    refine k_iinc hX.1 dL_law_1684 rfl (show nI (6 * k) + nI 6 = nI (6 * (k + 1)) from nI_add (6 * k) 6) (by decide) rfl ?_
    refine kpc (b := 1687) rfl ?_
    exact k_goto (tgt := 23) hX.1 dL_law_1687 (by decide) (kk hk sh i lo rv x9 y9 y5 y6 hS)
  intro sh i lo rv x9 y9 y5 y6 hS
  refine k_iload hX.1 dL_law_23 rfl ?_
  refine kpc (b := 25) rfl ?_
  refine k_aload_n hX.1 dL_law_25 rfl ?_
  refine kpc (b := 26) rfl ?_
  refine k_sln hX dL_law_26 ?_
  refine kpc (b := 27) rfl ?_
  refine k_bipush hX.1 dL_law_27 bp_6 ?_
  refine kpc (b := 29) rfl ?_
  refine k_isub hX.1 dL_law_29 ?_
  refine kpc (b := 30) rfl ?_
  refine k_icmp_gt (tgt := 1690) hX.1 dL_law_30 (by decide) (fun hc => ?_) (fun hc => ?_)
  · obtain ⟨hG, hI, hl, hz1, hz2, hx, hy, h5, h6⟩ := hS
    exact lz_end hX hr hlk (show sh.length + x9 ≤ 601024 by omega) (show aSn sh + y9 ≤ 7293034 by omega)
  · have hn : 6 * k + 5 < Ln := by
      rw [s6_lt h3 (by omega)] at hc
      omega
    have hk : k < 512 := by omega
    have k2 := k2 hk
    refine kpc (b := 33) rfl ?_
    refine k_aload_n hX.1 dL_law_33 rfl ?_
    refine kpc (b := 34) rfl ?_
    refine k_iload hX.1 dL_law_34 rfl ?_
    refine kpc (b := 36) rfl ?_
    refine k_sld (n := 6 * k) hX rfl (by omega) dL_law_36 ?_
    refine kpc (b := 37) rfl ?_
    refine k_bipush hX.1 dL_law_37 bp_63 ?_
    refine kpc (b := 39) rfl ?_
    refine k_iand hX.1 dL_law_39 ?_
    refine kpc (b := 40) rfl ?_
    obtain ⟨t1, t2⟩ := t6_i (xs (6 * k))
    by_cases h44 : 44 < (xs (6 * k) &&& 63).toInt
    · exact k_tabOut (tgt := 1684) hX.1 dL_law_40 (Or.inr h44) (by decide) (ls_no k2 sh i lo rv x9 y9 y5 y6 hS)
    · have hj : (xs (6 * k) &&& 63).toInt = 0 ∨ (xs (6 * k) &&& 63).toInt = 1 ∨ (xs (6 * k) &&& 63).toInt = 2 ∨ (xs (6 * k) &&& 63).toInt = 3 ∨ (xs (6 * k) &&& 63).toInt = 4 ∨ (xs (6 * k) &&& 63).toInt = 5 ∨ (xs (6 * k) &&& 63).toInt = 6 ∨ (xs (6 * k) &&& 63).toInt = 7 ∨ (xs (6 * k) &&& 63).toInt = 8 ∨ (xs (6 * k) &&& 63).toInt = 9 ∨ (xs (6 * k) &&& 63).toInt = 10 ∨ (xs (6 * k) &&& 63).toInt = 11 ∨ (xs (6 * k) &&& 63).toInt = 12 ∨ (xs (6 * k) &&& 63).toInt = 13 ∨ (xs (6 * k) &&& 63).toInt = 14 ∨ (xs (6 * k) &&& 63).toInt = 15 ∨ (xs (6 * k) &&& 63).toInt = 16 ∨ (xs (6 * k) &&& 63).toInt = 17 ∨ (xs (6 * k) &&& 63).toInt = 18 ∨ (xs (6 * k) &&& 63).toInt = 19 ∨ (xs (6 * k) &&& 63).toInt = 20 ∨ (xs (6 * k) &&& 63).toInt = 21 ∨ (xs (6 * k) &&& 63).toInt = 22 ∨ (xs (6 * k) &&& 63).toInt = 23 ∨ (xs (6 * k) &&& 63).toInt = 24 ∨ (xs (6 * k) &&& 63).toInt = 25 ∨ (xs (6 * k) &&& 63).toInt = 26 ∨ (xs (6 * k) &&& 63).toInt = 27 ∨ (xs (6 * k) &&& 63).toInt = 28 ∨ (xs (6 * k) &&& 63).toInt = 29 ∨ (xs (6 * k) &&& 63).toInt = 30 ∨ (xs (6 * k) &&& 63).toInt = 31 ∨ (xs (6 * k) &&& 63).toInt = 32 ∨ (xs (6 * k) &&& 63).toInt = 33 ∨ (xs (6 * k) &&& 63).toInt = 34 ∨ (xs (6 * k) &&& 63).toInt = 35 ∨ (xs (6 * k) &&& 63).toInt = 36 ∨ (xs (6 * k) &&& 63).toInt = 37 ∨ (xs (6 * k) &&& 63).toInt = 38 ∨ (xs (6 * k) &&& 63).toInt = 39 ∨ (xs (6 * k) &&& 63).toInt = 40 ∨ (xs (6 * k) &&& 63).toInt = 41 ∨ (xs (6 * k) &&& 63).toInt = 42 ∨ (xs (6 * k) &&& 63).toInt = 43 ∨ (xs (6 * k) &&& 63).toInt = 44 := by omega
      rcases hj with hj | hj | hj | hj | hj | hj | hj | hj | hj | hj | hj | hj | hj | hj | hj | hj | hj | hj | hj | hj | hj | hj | hj | hj | hj | hj | hj | hj | hj | hj | hj | hj | hj | hj | hj | hj | hj | hj | hj | hj | hj | hj | hj | hj | hj
      · exact k_tabIn (tgt := 236) hX.1 dL_law_40 (by omega) h44 (by rw [hj]; rfl) (by decide) (ls_0 hX hn hk k2 sh i lo rv x9 y9 y5 y6 hS)
      · exact k_tabIn (tgt := 309) hX.1 dL_law_40 (by omega) h44 (by rw [hj]; rfl) (by decide) (ls_1 hX hn hk k2 sh i lo rv x9 y9 y5 y6 hS)
      · exact k_tabIn (tgt := 334) hX.1 dL_law_40 (by omega) h44 (by rw [hj]; rfl) (by decide) (ls_2 hX hn hk k2 sh i lo rv x9 y9 y5 y6 hS)
      · exact k_tabIn (tgt := 359) hX.1 dL_law_40 (by omega) h44 (by rw [hj]; rfl) (by decide) (ls_3 hX hn hk k2 sh i lo rv x9 y9 y5 y6 hS)
      · exact k_tabIn (tgt := 384) hX.1 dL_law_40 (by omega) h44 (by rw [hj]; rfl) (by decide) (ls_4 hX hn hk k2 sh i lo rv x9 y9 y5 y6 hS)
      · exact k_tabIn (tgt := 409) hX.1 dL_law_40 (by omega) h44 (by rw [hj]; rfl) (by decide) (ls_5 hlt hz hX hn hk k2 sh i lo rv x9 y9 y5 y6 hS)
      · exact k_tabIn (tgt := 477) hX.1 dL_law_40 (by omega) h44 (by rw [hj]; rfl) (by decide) (ls_6 hX hn hk k2 sh i lo rv x9 y9 y5 y6 hS)
      · exact k_tabIn (tgt := 514) hX.1 dL_law_40 (by omega) h44 (by rw [hj]; rfl) (by decide) (ls_7 hX hn hk k2 sh i lo rv x9 y9 y5 y6 hS)
      · exact k_tabIn (tgt := 539) hX.1 dL_law_40 (by omega) h44 (by rw [hj]; rfl) (by decide) (ls_8 hX hn hk k2 sh i lo rv x9 y9 y5 y6 hS)
      · exact k_tabIn (tgt := 564) hX.1 dL_law_40 (by omega) h44 (by rw [hj]; rfl) (by decide) (ls_9 hX hn hk k2 sh i lo rv x9 y9 y5 y6 hS)
      · exact k_tabIn (tgt := 601) hX.1 dL_law_40 (by omega) h44 (by rw [hj]; rfl) (by decide) (ls_10 hX hn hk k2 sh i lo rv x9 y9 y5 y6 hS)
      · exact k_tabIn (tgt := 638) hX.1 dL_law_40 (by omega) h44 (by rw [hj]; rfl) (by decide) (ls_11 hX hn hk k2 sh i lo rv x9 y9 y5 y6 hS)
      · exact k_tabIn (tgt := 663) hX.1 dL_law_40 (by omega) h44 (by rw [hj]; rfl) (by decide) (ls_12 hX hn hk k2 sh i lo rv x9 y9 y5 y6 hS)
      · exact k_tabIn (tgt := 688) hX.1 dL_law_40 (by omega) h44 (by rw [hj]; rfl) (by decide) (ls_13 hX hn hk k2 sh i lo rv x9 y9 y5 y6 hS)
      · exact k_tabIn (tgt := 725) hX.1 dL_law_40 (by omega) h44 (by rw [hj]; rfl) (by decide) (ls_14 hX hn hk k2 sh i lo rv x9 y9 y5 y6 hS)
      · exact k_tabIn (tgt := 750) hX.1 dL_law_40 (by omega) h44 (by rw [hj]; rfl) (by decide) (ls_15 hX hn hk k2 sh i lo rv x9 y9 y5 y6 hS)
      · exact k_tabIn (tgt := 819) hX.1 dL_law_40 (by omega) h44 (by rw [hj]; rfl) (by decide) (ls_16 hX hn hk k2 sh i lo rv x9 y9 y5 y6 hS)
      · exact k_tabIn (tgt := 832) hX.1 dL_law_40 (by omega) h44 (by rw [hj]; rfl) (by decide) (ls_17 hX hn hk k2 sh i lo rv x9 y9 y5 y6 hS)
      · exact k_tabIn (tgt := 869) hX.1 dL_law_40 (by omega) h44 (by rw [hj]; rfl) (by decide) (ls_18 hX hn hk k2 sh i lo rv x9 y9 y5 y6 hS)
      · exact k_tabIn (tgt := 918) hX.1 dL_law_40 (by omega) h44 (by rw [hj]; rfl) (by decide) (ls_19 hX hn hk k2 sh i lo rv x9 y9 y5 y6 hS)
      · exact k_tabIn (tgt := 955) hX.1 dL_law_40 (by omega) h44 (by rw [hj]; rfl) (by decide) (ls_20 hX hn hk k2 sh i lo rv x9 y9 y5 y6 hS)
      · exact k_tabIn (tgt := 980) hX.1 dL_law_40 (by omega) h44 (by rw [hj]; rfl) (by decide) (ls_21 hX hn hk k2 sh i lo rv x9 y9 y5 y6 hS)
      · exact k_tabIn (tgt := 1017) hX.1 dL_law_40 (by omega) h44 (by rw [hj]; rfl) (by decide) (ls_22 hX hn hk k2 sh i lo rv x9 y9 y5 y6 hS)
      · exact k_tabIn (tgt := 1054) hX.1 dL_law_40 (by omega) h44 (by rw [hj]; rfl) (by decide) (ls_23 hX hn hk k2 sh i lo rv x9 y9 y5 y6 hS)
      · exact k_tabIn (tgt := 1079) hX.1 dL_law_40 (by omega) h44 (by rw [hj]; rfl) (by decide) (ls_24 hX hn hk k2 sh i lo rv x9 y9 y5 y6 hS)
      · exact k_tabIn (tgt := 1104) hX.1 dL_law_40 (by omega) h44 (by rw [hj]; rfl) (by decide) (ls_25 hX hn hk k2 sh i lo rv x9 y9 y5 y6 hS)
      · exact k_tabIn (tgt := 1129) hX.1 dL_law_40 (by omega) h44 (by rw [hj]; rfl) (by decide) (ls_26 hX hn hk k2 sh i lo rv x9 y9 y5 y6 hS)
      · exact k_tabIn (tgt := 1154) hX.1 dL_law_40 (by omega) h44 (by rw [hj]; rfl) (by decide) (ls_27 hX hn hk k2 sh i lo rv x9 y9 y5 y6 hS)
      · exact k_tabIn (tgt := 1207) hX.1 dL_law_40 (by omega) h44 (by rw [hj]; rfl) (by decide) (ls_28 hX hn hk k2 sh i lo rv x9 y9 y5 y6 hS)
      · exact k_tabIn (tgt := 1260) hX.1 dL_law_40 (by omega) h44 (by rw [hj]; rfl) (by decide) (ls_29 hX hn hk k2 sh i lo rv x9 y9 y5 y6 hS)
      · exact k_tabIn (tgt := 1285) hX.1 dL_law_40 (by omega) h44 (by rw [hj]; rfl) (by decide) (ls_30 hX hn hk k2 sh i lo rv x9 y9 y5 y6 hS)
      · exact k_tabIn (tgt := 1298) hX.1 dL_law_40 (by omega) h44 (by rw [hj]; rfl) (by decide) (ls_31 hX hn hk k2 sh i lo rv x9 y9 y5 y6 hS)
      · exact k_tabIn (tgt := 1335) hX.1 dL_law_40 (by omega) h44 (by rw [hj]; rfl) (by decide) (ls_32 hX hn hk k2 sh i lo rv x9 y9 y5 y6 hS)
      · exact k_tabIn (tgt := 1360) hX.1 dL_law_40 (by omega) h44 (by rw [hj]; rfl) (by decide) (ls_33 hX hn hk k2 sh i lo rv x9 y9 y5 y6 hS)
      · exact k_tabIn (tgt := 1373) hX.1 dL_law_40 (by omega) h44 (by rw [hj]; rfl) (by decide) (ls_34 hX hn hk k2 sh i lo rv x9 y9 y5 y6 hS)
      · exact k_tabIn (tgt := 1446) hX.1 dL_law_40 (by omega) h44 (by rw [hj]; rfl) (by decide) (ls_35 hX hn hk k2 sh i lo rv x9 y9 y5 y6 hS)
      · exact k_tabIn (tgt := 1495) hX.1 dL_law_40 (by omega) h44 (by rw [hj]; rfl) (by decide) (ls_36 hX hn hk k2 sh i lo rv x9 y9 y5 y6 hS)
      · exact k_tabIn (tgt := 1520) hX.1 dL_law_40 (by omega) h44 (by rw [hj]; rfl) (by decide) (ls_37 hX hn hk k2 sh i lo rv x9 y9 y5 y6 hS)
      · exact k_tabIn (tgt := 1545) hX.1 dL_law_40 (by omega) h44 (by rw [hj]; rfl) (by decide) (ls_38 hX hn hk k2 sh i lo rv x9 y9 y5 y6 hS)
      · exact k_tabIn (tgt := 1558) hX.1 dL_law_40 (by omega) h44 (by rw [hj]; rfl) (by decide) (ls_39 hX hn hk k2 sh i lo rv x9 y9 y5 y6 hS)
      · exact k_tabIn (tgt := 1583) hX.1 dL_law_40 (by omega) h44 (by rw [hj]; rfl) (by decide) (ls_40 hX hn hk k2 sh i lo rv x9 y9 y5 y6 hS)
      · exact k_tabIn (tgt := 1608) hX.1 dL_law_40 (by omega) h44 (by rw [hj]; rfl) (by decide) (ls_41 hX hn hk k2 sh i lo rv x9 y9 y5 y6 hS)
      · exact k_tabIn (tgt := 1633) hX.1 dL_law_40 (by omega) h44 (by rw [hj]; rfl) (by decide) (ls_42 hX hn hk k2 sh i lo rv x9 y9 y5 y6 hS)
      · exact k_tabIn (tgt := 1646) hX.1 dL_law_40 (by omega) h44 (by rw [hj]; rfl) (by decide) (ls_43 hX hn hk k2 sh i lo rv x9 y9 y5 y6 hS)
      · exact k_tabIn (tgt := 1659) hX.1 dL_law_40 (by omega) h44 (by rw [hj]; rfl) (by decide) (ls_44 hX hn hk k2 sh i lo rv x9 y9 y5 y6 hS)
/-- the loop -/
theorem lz_loop (hlt : l.stackTraces = false) (hz : zS (fun q => s.heap.size ≤ q) s) (hX : lX p s m #[Value.ref b] c D cA ad0 b Ln xs) (hr : meth.sig.returnType = ret) (hlk : meth.locks = false) : ∀ r k, k + r = 512 → lNx p l e s m #[Value.ref b] below meth c (lw_Z below #[Value.ref b] s) D cA ad0 23 (6 * k) k := by
  intro r
  induction r with
  | zero =>
    intro k hk
    exact lz_turn hlt hz hX hr hlk (by omega) (fun h => absurd h (by omega))
  | succ r ih =>
    intro k hk
    exact lz_turn hlt hz hX hr hlk (by omega) (fun _ => ih (k + 1) (by omega))
end LZ
