/-! hold, law, text: what changes references, what makes cells -/
section GX
variable {sh sh' : List aSh} {rv rv' : Nat → Nat → Option Nat}
theorem isLaw_ext {q : Nat} (hG : aGood sh rv) (hs : ∀ q, q < sh.length → sh'[q]? = sh[q]?) (hr : ∀ q k, q < sh.length → q ≠ 3 → q ≠ 4 → q ≠ 5 → q ≠ 23 → rv' q k = rv q k) (h : isLaw sh rv q) : isLaw sh' rv' q := by
  have n3 := isLaw_ne (sh_3 hG) (by decide) h
  have n4 := isLaw_ne (sh_4 hG) (by decide) h
  have n5 := isLaw_ne (sh_5 hG) (by decide) h
  have n23 := isLaw_ne (sh_23 hG) (by decide) h
  obtain ⟨h1, h2, h3, h4, h5⟩ := h
  have l1 := aLt (h := (sh, fun _ _ => 0, fun _ _ => 0, rv)) h1
  have l2 := aLt (h := (sh, fun _ _ => 0, fun _ _ => 0, rv)) h2
  have l3 := aLt (h := (sh, fun _ _ => 0, fun _ _ => 0, rv)) h3
  exact ⟨by rw [hs _ l1]; exact h1, by rw [hs _ l2]; exact h2, by rw [hs _ l3]; exact h3, by rw [hr _ _ l1 n3.symm n4.symm n5.symm n23.symm]; exact h4, by rw [hr _ _ l1 n3.symm n4.symm n5.symm n23.symm]; exact h5⟩
theorem isLin_ext {q : Nat} (hG : aGood sh rv) (hs : ∀ q, q < sh.length → sh'[q]? = sh[q]?) (hr : ∀ q k, q < sh.length → q ≠ 3 → q ≠ 4 → q ≠ 5 → q ≠ 23 → rv' q k = rv q k) (h : isLin sh rv q) : isLin sh' rv' q := by
  have n3 := isLin_ne (sh_3 hG) (by decide) h
  have n4 := isLin_ne (sh_4 hG) (by decide) h
  have n5 := isLin_ne (sh_5 hG) (by decide) h
  have n23 := isLin_ne (sh_23 hG) (by decide) h
  obtain ⟨h1, h2, h3⟩ := h
  have l1 := aLt (h := (sh, fun _ _ => 0, fun _ _ => 0, rv)) h1
  have l2 := aLt (h := (sh, fun _ _ => 0, fun _ _ => 0, rv)) h2
  exact ⟨by rw [hs _ l1]; exact h1, by rw [hs _ l2]; exact h2, by rw [hr _ _ l1 n3.symm n4.symm n5.symm n23.symm]; exact h3⟩
/-- a larger world that keeps what lay there, but for the shelf's rows and the law held -/
theorem aGood_ext (hG : aGood sh rv) (hs : ∀ q, q < sh.length → sh'[q]? = sh[q]?) (hr : ∀ q k, q < sh.length → q ≠ 3 → q ≠ 4 → q ≠ 5 → q ≠ 23 → rv' q k = rv q k)
    (h3 : ∀ k, k ≠ 2 → k ≠ 3 → rv' 3 k = rv 3 k) (h23 : ∀ k, k ≠ 2 → rv' 23 k = rv 23 k) (hH : ∀ r, rv' 23 2 = some r → r = 100 + (r - 100) ∧ isLaw sh' rv' (r - 100)) (hD : rv' 3 2 = some (100 + plc (rv' 3 2)) ∧ isLaw sh' rv' (plc (rv' 3 2))) (hE : rv' 3 3 = some (100 + plc (rv' 3 3)) ∧ isLin sh' rv' (plc (rv' 3 3)))
    (hL : ∀ j r, rv' 4 j = some r → r = 100 + (r - 100) ∧ isLaw sh' rv' (r - 100)) (hS : ∀ j r, rv' 5 j = some r → r = 100 + (r - 100) ∧ isLin sh' rv' (r - 100)) : aGood sh' rv' := by
  have h74 : 74 ≤ sh.length := (List.getElem?_eq_some_iff.mp (sh_73 hG)).1
  refine ⟨fun q hq => (hs q (by omega)).trans (hG.1 q hq), fun x hx => ?_, hH, hD, hE, hL, hS, ?_⟩
  · have hb : ∀ x ∈ RFL, x.1 < 74 ∧ x.1 ≠ 4 ∧ x.1 ≠ 5 ∧ ¬ (x.1 = 3 ∧ (x.2.1 = 2 ∨ x.2.1 = 3)) ∧ ¬ (x.1 = 23 ∧ x.2.1 = 2) := by decide
    obtain ⟨b1, b2, b3, b4, b5⟩ := hb x hx
    have e : rv' x.1 x.2.1 = rv x.1 x.2.1 := by
      by_cases e3 : x.1 = 3
      · rw [e3]; exact h3 _ (fun z => b4 ⟨e3, Or.inl z⟩) (fun z => b4 ⟨e3, Or.inr z⟩)
      · by_cases e23 : x.1 = 23
        · rw [e23]; exact h23 _ (fun z => b5 ⟨e23, z⟩)
        · exact hr _ _ (by omega) e3 b2 b3 e23
    rw [e]; exact hG.2.1 x hx
  · rw [hr 50 5 (by omega) (by decide) (by decide) (by decide) (by decide)]
    exact hG.2.2.2.2.2.2.2
theorem gP_23_2 {r : Nat} (h : aGood sh rv) (hr : isLaw sh rv r) : aGood sh (u2 rv 23 2 (some (100 + r))) := by
  have hr' : ∀ q k, q < sh.length → q ≠ 3 → q ≠ 4 → q ≠ 5 → q ≠ 23 → u2 rv 23 2 (some (100 + r)) q k = rv q k := fun q k _ _ _ _ hq => u2_ne _ _ (Or.inl hq)
  have lw : ∀ q, isLaw sh rv q → isLaw sh (u2 rv 23 2 (some (100 + r))) q := fun q hq => isLaw_ext h (fun _ _ => rfl) hr' hq
  have ln : ∀ q, isLin sh rv q → isLin sh (u2 rv 23 2 (some (100 + r))) q := fun q hq => isLin_ext h (fun _ _ => rfl) hr' hq
  have e3 : ∀ k, u2 rv 23 2 (some (100 + r)) 3 k = rv 3 k := fun k => u2_ne _ _ (Or.inl (by decide))
  refine aGood_ext h (fun _ _ => rfl) hr' (fun k _ _ => e3 k) (fun k hk => u2_ne _ _ (Or.inr hk)) (fun q hq => ?_) ?_ ?_ (fun j q hq => ?_) (fun j q hq => ?_)
  · rw [u2_same] at hq
    cases hq
    refine ⟨by omega, ?_⟩
    rw [show 100 + r - 100 = r by omega]
    exact lw _ hr
  · rw [e3]; exact ⟨h.2.2.2.1.1, lw _ h.2.2.2.1.2⟩
  · rw [e3]; exact ⟨h.2.2.2.2.1.1, ln _ h.2.2.2.2.1.2⟩
  · rw [u2_ne _ _ (Or.inl (by decide))] at hq
    exact ⟨(h.2.2.2.2.2.1 j q hq).1, lw _ (h.2.2.2.2.2.1 j q hq).2⟩
  · rw [u2_ne _ _ (Or.inl (by decide))] at hq
    exact ⟨(h.2.2.2.2.2.2.1 j q hq).1, ln _ (h.2.2.2.2.2.2.1 j q hq).2⟩
theorem gP_23_2N (h : aGood sh rv) : aGood sh (u2 rv 23 2 none) := by
  have hr' : ∀ q k, q < sh.length → q ≠ 3 → q ≠ 4 → q ≠ 5 → q ≠ 23 → u2 rv 23 2 none q k = rv q k := fun q k _ _ _ _ hq => u2_ne _ _ (Or.inl hq)
  have lw : ∀ q, isLaw sh rv q → isLaw sh (u2 rv 23 2 none) q := fun q hq => isLaw_ext h (fun _ _ => rfl) hr' hq
  have ln : ∀ q, isLin sh rv q → isLin sh (u2 rv 23 2 none) q := fun q hq => isLin_ext h (fun _ _ => rfl) hr' hq
  have e3 : ∀ k, u2 rv 23 2 none 3 k = rv 3 k := fun k => u2_ne _ _ (Or.inl (by decide))
  refine aGood_ext h (fun _ _ => rfl) hr' (fun k _ _ => e3 k) (fun k hk => u2_ne _ _ (Or.inr hk)) (fun q hq => ?_) ?_ ?_ (fun j q hq => ?_) (fun j q hq => ?_)
  · rw [u2_same] at hq
    cases hq
  · rw [e3]; exact ⟨h.2.2.2.1.1, lw _ h.2.2.2.1.2⟩
  · rw [e3]; exact ⟨h.2.2.2.2.1.1, ln _ h.2.2.2.2.1.2⟩
  · rw [u2_ne _ _ (Or.inl (by decide))] at hq
    exact ⟨(h.2.2.2.2.2.1 j q hq).1, lw _ (h.2.2.2.2.2.1 j q hq).2⟩
  · rw [u2_ne _ _ (Or.inl (by decide))] at hq
    exact ⟨(h.2.2.2.2.2.2.1 j q hq).1, ln _ (h.2.2.2.2.2.2.1 j q hq).2⟩
end GX
section GwKL
variable {sh : List aSh} {i : Nat → Nat → Int32} {lo : Nat → Nat → Int64} {rv : Nat → Nat → Option Nat}
theorem wKL_sh : (wKL (sh, i, lo, rv)).1 = sh ++ [.inr 4, .inl (.int, 240), .inl (.int, 32)] := by
  simp [wKL, wX4_init, wX4_init_1, wX4_init_2, wX4_init_3, wX4_init_4, pI, pR, aNew]
theorem wKL_i {p k : Nat} (hp : p < sh.length) : (wKL (sh, i, lo, rv)).2.1 p k = u2 i 3 4 (i 3 4 + 1) p k := by
  have n1 : p ≠ sh.length := by omega
  have n2 : p ≠ sh.length + 1 := by omega
  have n3 : p ≠ sh.length + 2 := by omega
  simp [wKL, wX4_init, wX4_init_1, wX4_init_2, wX4_init_3, wX4_init_4, pI, pR, aNew, u2, z2, n1, n2, n3]
theorem wKL_lo {p k : Nat} (hp : p < sh.length) : (wKL (sh, i, lo, rv)).2.2.1 p k = lo p k := by
  have n1 : p ≠ sh.length := by omega
  have n2 : p ≠ sh.length + 1 := by omega
  have n3 : p ≠ sh.length + 2 := by omega
  simp [wKL, wX4_init, wX4_init_1, wX4_init_2, wX4_init_3, wX4_init_4, pI, pR, aNew, z2, n1, n2, n3]
theorem wKL_rv {p k : Nat} (h3 : 3 < sh.length) (hp : p < sh.length) : (wKL (sh, i, lo, rv)).2.2.2 p k = u2 (u2 rv 4 (i 3 4).toNatClampNeg (some (100 + plc (rv 3 2)))) 3 2 (some (100 + sh.length)) p k := by
  have n1 : p ≠ sh.length := by omega
  have n2 : p ≠ sh.length + 1 := by omega
  have n3 : p ≠ sh.length + 2 := by omega
  simp [wKL, wX4_init, wX4_init_1, wX4_init_2, wX4_init_3, wX4_init_4, pI, pR, aNew, u2, z2, n1, n2, n3]
theorem wKL_r0 (h3 : 3 < sh.length) : (wKL (sh, i, lo, rv)).2.2.2 sh.length 0 = some (100 + (sh.length + 1)) := by
  have n1 : sh.length ≠ 3 := by omega
  simp [wKL, wX4_init, wX4_init_1, wX4_init_2, wX4_init_3, wX4_init_4, pI, pR, aNew, u2, z2, n1]
theorem wKL_r1 (h3 : 3 < sh.length) : (wKL (sh, i, lo, rv)).2.2.2 sh.length 1 = some (100 + (sh.length + 2)) := by
  have n1 : sh.length ≠ 3 := by omega
  simp [wKL, wX4_init, wX4_init_1, wX4_init_2, wX4_init_3, wX4_init_4, pI, pR, aNew, u2, z2, n1]
theorem wKL_good (hG : aGood sh rv) : aGood (wKL (sh, i, lo, rv)).1 (wKL (sh, i, lo, rv)).2.2.2 := by
  have h74 : 74 ≤ sh.length := (List.getElem?_eq_some_iff.mp (sh_73 hG)).1
  have h3 : 3 < sh.length := by omega
  have hs : ∀ q, q < sh.length → (wKL (sh, i, lo, rv)).1[q]? = sh[q]? := fun q hq => by
    rw [wKL_sh, List.getElem?_append_left hq]
  have hr : ∀ q k, q < sh.length → q ≠ 3 → q ≠ 4 → q ≠ 5 → q ≠ 23 → (wKL (sh, i, lo, rv)).2.2.2 q k = rv q k := fun q k hq n3 n4 n5 _ => by
    rw [wKL_rv h3 hq, u2_ne _ _ (Or.inl n3), u2_ne _ _ (Or.inl n4)]
  have lw : ∀ q, isLaw sh rv q → isLaw (wKL (sh, i, lo, rv)).1 (wKL (sh, i, lo, rv)).2.2.2 q := fun q hq => isLaw_ext hG hs hr hq
  have ln : ∀ q, isLin sh rv q → isLin (wKL (sh, i, lo, rv)).1 (wKL (sh, i, lo, rv)).2.2.2 q := fun q hq => isLin_ext hG hs hr hq
  have hn : isLaw (wKL (sh, i, lo, rv)).1 (wKL (sh, i, lo, rv)).2.2.2 sh.length := by
    refine ⟨?_, ?_, ?_, wKL_r0 h3, wKL_r1 h3⟩ <;> rw [wKL_sh] <;> simp
  have e2 : (wKL (sh, i, lo, rv)).2.2.2 3 2 = some (100 + sh.length) := by rw [wKL_rv h3 h3, u2_same]
  have e3 : ∀ k, k ≠ 2 → (wKL (sh, i, lo, rv)).2.2.2 3 k = rv 3 k := fun k hk => by rw [wKL_rv h3 h3, u2_ne _ _ (Or.inr hk), u2_ne _ _ (Or.inl (by decide))]
  have pe : plc (some (100 + sh.length)) = sh.length := by simp [plc]
  refine aGood_ext hG hs hr (fun k k2 k3 => e3 k k2) (fun k _ => by rw [wKL_rv h3 (by omega), u2_ne _ _ (Or.inl (by decide)), u2_ne _ _ (Or.inl (by decide))]) (fun q hq => ?_) ?_ ?_ (fun j q hq => ?_) (fun j q hq => ?_)
  · rw [wKL_rv h3 (by omega), u2_ne _ _ (Or.inl (by decide)), u2_ne _ _ (Or.inl (by decide))] at hq
    exact ⟨(hG.2.2.1 q hq).1, lw _ (hG.2.2.1 q hq).2⟩
  · rw [e2, pe]
    exact ⟨rfl, hn⟩
  · rw [e3 3 (by decide)]; exact ⟨hG.2.2.2.2.1.1, ln _ hG.2.2.2.2.1.2⟩
  · rw [wKL_rv h3 (by omega), u2_ne _ _ (Or.inl (by decide))] at hq
    by_cases hj : j = (i 3 4).toNatClampNeg
    · rw [hj, u2_same] at hq
      cases hq
      refine ⟨by omega, ?_⟩
      rw [show 100 + plc (rv 3 2) - 100 = plc (rv 3 2) by omega]
      exact lw _ hG.2.2.2.1.2
    · rw [u2_ne _ _ (Or.inr hj)] at hq
      exact ⟨(hG.2.2.2.2.2.1 j q hq).1, lw _ (hG.2.2.2.2.2.1 j q hq).2⟩
  · rw [wKL_rv h3 (by omega), u2_ne _ _ (Or.inl (by decide)), u2_ne _ _ (Or.inl (by decide))] at hq
    exact ⟨(hG.2.2.2.2.2.2.1 j q hq).1, ln _ (hG.2.2.2.2.2.2.1 j q hq).2⟩
end GwKL
section GwKS
variable {sh : List aSh} {i : Nat → Nat → Int32} {lo : Nat → Nat → Int64} {rv : Nat → Nat → Option Nat}
theorem wKS_sh : (wKS (sh, i, lo, rv)).1 = sh ++ [.inr 5, .inl (.int, 48)] := by
  simp [wKS, wX5_init, wX5_init_1, wX5_init_2, pI, pR, aNew]
theorem wKS_i {p k : Nat} (hp : p < sh.length) : (wKS (sh, i, lo, rv)).2.1 p k = u2 i 3 5 (i 3 5 + 1) p k := by
  have n1 : p ≠ sh.length := by omega
  have n2 : p ≠ sh.length + 1 := by omega
  have n3 : p ≠ sh.length + 2 := by omega
  simp [wKS, wX5_init, wX5_init_1, wX5_init_2, pI, pR, aNew, u2, z2, n1, n2]
theorem wKS_lo {p k : Nat} (hp : p < sh.length) : (wKS (sh, i, lo, rv)).2.2.1 p k = lo p k := by
  have n1 : p ≠ sh.length := by omega
  have n2 : p ≠ sh.length + 1 := by omega
  have n3 : p ≠ sh.length + 2 := by omega
  simp [wKS, wX5_init, wX5_init_1, wX5_init_2, pI, pR, aNew, z2, n1, n2]
theorem wKS_rv {p k : Nat} (h3 : 3 < sh.length) (hp : p < sh.length) : (wKS (sh, i, lo, rv)).2.2.2 p k = u2 (u2 rv 5 (i 3 5).toNatClampNeg (some (100 + plc (rv 3 3)))) 3 3 (some (100 + sh.length)) p k := by
  have n1 : p ≠ sh.length := by omega
  have n2 : p ≠ sh.length + 1 := by omega
  have n3 : p ≠ sh.length + 2 := by omega
  simp [wKS, wX5_init, wX5_init_1, wX5_init_2, pI, pR, aNew, u2, z2, n1, n2]
theorem wKS_r0 (h3 : 3 < sh.length) : (wKS (sh, i, lo, rv)).2.2.2 sh.length 0 = some (100 + (sh.length + 1)) := by
  have n1 : sh.length ≠ 3 := by omega
  simp [wKS, wX5_init, wX5_init_1, wX5_init_2, pI, pR, aNew, u2, z2, n1]
theorem wKS_good (hG : aGood sh rv) : aGood (wKS (sh, i, lo, rv)).1 (wKS (sh, i, lo, rv)).2.2.2 := by
  have h74 : 74 ≤ sh.length := (List.getElem?_eq_some_iff.mp (sh_73 hG)).1
  have h3 : 3 < sh.length := by omega
  have hs : ∀ q, q < sh.length → (wKS (sh, i, lo, rv)).1[q]? = sh[q]? := fun q hq => by
    rw [wKS_sh, List.getElem?_append_left hq]
  have hr : ∀ q k, q < sh.length → q ≠ 3 → q ≠ 4 → q ≠ 5 → q ≠ 23 → (wKS (sh, i, lo, rv)).2.2.2 q k = rv q k := fun q k hq n3 n4 n5 _ => by
    rw [wKS_rv h3 hq, u2_ne _ _ (Or.inl n3), u2_ne _ _ (Or.inl n5)]
  have lw : ∀ q, isLaw sh rv q → isLaw (wKS (sh, i, lo, rv)).1 (wKS (sh, i, lo, rv)).2.2.2 q := fun q hq => isLaw_ext hG hs hr hq
  have ln : ∀ q, isLin sh rv q → isLin (wKS (sh, i, lo, rv)).1 (wKS (sh, i, lo, rv)).2.2.2 q := fun q hq => isLin_ext hG hs hr hq
  have hn : isLin (wKS (sh, i, lo, rv)).1 (wKS (sh, i, lo, rv)).2.2.2 sh.length := by
    refine ⟨?_, ?_, wKS_r0 h3⟩ <;> rw [wKS_sh] <;> simp
  have e2 : (wKS (sh, i, lo, rv)).2.2.2 3 3 = some (100 + sh.length) := by rw [wKS_rv h3 h3, u2_same]
  have e3 : ∀ k, k ≠ 3 → (wKS (sh, i, lo, rv)).2.2.2 3 k = rv 3 k := fun k hk => by rw [wKS_rv h3 h3, u2_ne _ _ (Or.inr hk), u2_ne _ _ (Or.inl (by decide))]
  have pe : plc (some (100 + sh.length)) = sh.length := by simp [plc]
  refine aGood_ext hG hs hr (fun k k2 k3 => e3 k k3) (fun k _ => by rw [wKS_rv h3 (by omega), u2_ne _ _ (Or.inl (by decide)), u2_ne _ _ (Or.inl (by decide))]) (fun q hq => ?_) ?_ ?_ (fun j q hq => ?_) (fun j q hq => ?_)
  · rw [wKS_rv h3 (by omega), u2_ne _ _ (Or.inl (by decide)), u2_ne _ _ (Or.inl (by decide))] at hq
    exact ⟨(hG.2.2.1 q hq).1, lw _ (hG.2.2.1 q hq).2⟩
  · rw [e3 2 (by decide)]; exact ⟨hG.2.2.2.1.1, lw _ hG.2.2.2.1.2⟩
  · rw [e2, pe]
    exact ⟨rfl, hn⟩
  · rw [wKS_rv h3 (by omega), u2_ne _ _ (Or.inl (by decide)), u2_ne _ _ (Or.inl (by decide))] at hq
    exact ⟨(hG.2.2.2.2.2.1 j q hq).1, lw _ (hG.2.2.2.2.2.1 j q hq).2⟩
  · rw [wKS_rv h3 (by omega), u2_ne _ _ (Or.inl (by decide))] at hq
    by_cases hj : j = (i 3 5).toNatClampNeg
    · rw [hj, u2_same] at hq
      cases hq
      refine ⟨by omega, ?_⟩
      rw [show 100 + plc (rv 3 3) - 100 = plc (rv 3 3) by omega]
      exact ln _ hG.2.2.2.2.1.2
    · rw [u2_ne _ _ (Or.inr hj)] at hq
      exact ⟨(hG.2.2.2.2.2.2.1 j q hq).1, ln _ (hG.2.2.2.2.2.2.1 j q hq).2⟩
end GwKS
section CL
variable {l : Launch} {sh : List aSh} {i : Nat → Nat → Int32} {lo : Nat → Nat → Int64} {rv : Nat → Nat → Option Nat}
theorem okX3_hold {r : Option Nat} (hG : aGood sh rv) (hr : ∀ q, r = some q → q < 100 + sh.length) : aM l yX3_hold cX3_hold 2 none 0 [.ref (100 + 23), va_rf r] (sh, i, lo, rv) none (sh, i, lo, u2 rv 23 2 r) := by
  cases r with
  | none =>
    refine aM_of (by decide) (Nat.le_of_ble_eq_true rfl) (Nat.le_refl _) (Nat.le_refl _) (fun p e s m args below meth c D cA A ad0 hX hr hlk hnm => ?_)
    refine j_aload_n hX dX3_hold_0 rfl ?_
    refine j_aload_nN hX dX3_hold_1 rfl ?_
    refine j_putN (k := 2) hX kX3 (by decide) fk_X3_21 dX3_hold_2 (sh_23 hG) rfl rfl ?_
    exact j_vret hX hr hlk dX3_hold_5
  | some q =>
    refine aM_of (by decide) (Nat.le_of_ble_eq_true rfl) (Nat.le_refl _) (Nat.le_refl _) (fun p e s m args below meth c D cA A ad0 hX hr1 hlk hnm => ?_)
    refine j_aload_n hX dX3_hold_0 rfl ?_
    refine j_aload_n hX dX3_hold_1 rfl ?_
    refine j_putR (k := 2) hX kX3 (by decide) fk_X3_21 (hr q rfl) dX3_hold_2 (sh_23 hG) rfl rfl ?_
    exact j_vret hX hr1 hlk dX3_hold_5
/-- WokenBorder.law -/
def fX11_law (a1 : Int32) (i : Nat → Nat → Int32) (rv : Nat → Nat → Option Nat) : Option (Int32 × (Nat → Nat → Int32) × (Nat → Nat → Option Nat)) :=
  if a1 < -1 then some (0, i, rv) else if (i 3 4) ≤ a1 then some (0, i, rv) else bn1 (fX9_lawAt a1 (u2 i 0 12 a1) rv) fun r => some (1, u2 i 0 12 a1, u2 rv 23 2 r)
theorem okX11_law {a1 vR : Int32} {iR : Nat → Nat → Int32} {rvR : Nat → Nat → Option Nat} (hG : aGood sh rv) (hf : fX11_law a1 i rv = some (vR, iR, rvR)) : aM l yX11_law cX11_law 2 (some .boolean) 1 [.ref (100 + 0), .int a1] (sh, i, lo, rv) (some (.int vR)) (sh, iR, lo, rvR) := by
  refine aM_of (by decide) (Nat.le_of_ble_eq_true rfl) (Nat.le_refl _) (Nat.le_refl _) (fun p e s m args below meth c D cA A ad0 hX hr hlk hnm => ?_)
  generalize hRe : (Room.mk 1 _ _ _) = R
  have hRf : 1 ≤ R.frames := by rw [← hRe]; exact Nat.le_refl _
  have hRl : 64 * 1 ≤ R.locals := by rw [← hRe]; exact Nat.le_refl _
  unfold fX11_law at hf
  refine j_iload_n hX dX11_law_0 rfl ?_
  refine j_iconst hX dX11_law_1 ic_m1 ?_
  refine j_icmp_lt (tgt := 16) hX dX11_law_2 (by decide) (fun hc => ?_) (fun hc => ?_)
  · have hf := ifp hc hf
    refine j_iconst hX dX11_law_16 ic_0 ?_
    cases hf
    exact j_ret hX hr hlk rfl dX11_law_17
  · have hf := ifn hc hf
    refine j_iload_n hX dX11_law_5 rfl ?_
    refine j_aload_n hX dX11_law_6 rfl ?_
    refine j_getR (k := 1) hX kX11 (by decide) fk_X11_19 (rf_0_1 hG) dX11_law_7 (sh_0 hG) rfl ?_
    refine j_cV0i (v := i 3 4) hX lk_X11_168 kX9 dX11_law_10 (sh_3 hG) (okX9_lawCount hG rfl) rfl rfl (rmm (by omega) hRf hRl (by decide)) (Nat.le_of_ble_eq_true rfl) (Nat.le_add_right _ _) (Nat.le_add_right _ _) ?_
    refine j_icmp_lt (tgt := 18) hX dX11_law_13 (by decide) (fun hc => ?_) (fun hc => ?_)
    · have hf := ifn (Int32.not_le.mpr hc) hf
      obtain ⟨r, hr1, hf⟩ := bd1 hf
      refine j_aload_n hX dX11_law_18 rfl ?_
      refine j_iload_n hX dX11_law_19 rfl ?_
      refine j_putI (k := 12) hX kX11 (by decide) fk_X11_86 dX11_law_20 (sh_0 hG) rfl rfl rfl rfl ?_
      refine j_aload_n hX dX11_law_23 rfl ?_
      refine j_getR (k := 6) hX kX11 (by decide) fk_X11_48 (rf_0_6 hG) dX11_law_24 (sh_0 hG) rfl ?_
      refine j_aload_n hX dX11_law_27 rfl ?_
      refine j_getR (k := 1) hX kX11 (by decide) fk_X11_19 (rf_0_1 hG) dX11_law_28 (sh_0 hG) rfl ?_
      refine j_iload_n hX dX11_law_31 rfl ?_
      refine j_cV1r (v := r) hX lk_X11_171 kX9 dX11_law_32 (sh_3 hG) (okX9_lawAt hG hr1) rfl rfl (rmm (by omega) hRf hRl (by decide)) (Nat.le_of_ble_eq_true rfl) (Nat.le_add_right _ _) (Nat.le_add_right _ _) ?_
      have hq : ∀ q, r = some q → q < 100 + sh.length := fun q hq => by
        subst hq
        have h9 := vrX9_lawAt hG hr1
        have h8 := (List.getElem?_eq_some_iff.mp h9.2.1).1
        omega
      refine j_cV1v hX lk_X11_175 kX3 dX11_law_35 (sh_23 hG) (okX3_hold hG hq) rfl rfl (rmm (by omega) hRf hRl (by decide)) (Nat.le_of_ble_eq_true rfl) (Nat.le_add_right _ _) (Nat.le_add_right _ _) ?_
      refine j_iconst hX dX11_law_38 ic_1 ?_
      cases hf
      exact j_ret hX hr hlk rfl dX11_law_39
    · have hf := ifp (Int32.not_lt.mp hc) hf
      refine j_iconst hX dX11_law_16 ic_0 ?_
      cases hf
      exact j_ret hX hr hlk rfl dX11_law_17
theorem gdX11_law {a1 vR : Int32} {iR : Nat → Nat → Int32} {rvR : Nat → Nat → Option Nat} (hG : aGood sh rv) (hf : fX11_law a1 i rv = some (vR, iR, rvR)) : aGood sh rvR := by
  unfold fX11_law at hf
  refine ifs hf (fun _ hf => ?_) (fun _ hf => ?_)
  · cases hf; exact hG
  refine ifs hf (fun _ hf => ?_) (fun _ hf => ?_)
  · cases hf; exact hG
  obtain ⟨r, hr1, hf⟩ := bd1 hf
  cases r with
  | none => cases hf; exact gP_23_2N hG
  | some q =>
    have h9 := vrX9_lawAt hG hr1
    cases hf
    rw [h9.1]
    exact gP_23_2 hG h9.2
end CL
