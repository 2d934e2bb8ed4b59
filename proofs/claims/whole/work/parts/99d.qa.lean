/-! one call keeps what holds: questions and acts -/
def w3 (x : Option (Int32 × Tb)) (rv : Nat → Nat → Option Nat) : Option (Int32 × Tb × (Nat → Nat → Option Nat)) := match x with
  | none => none
  | some (v, j) => some (v, j, rv)
def w2 {α : Type} (x : Option (Int32 × Tb × α)) : Option (Int32 × Tb) := match x with
  | none => none
  | some (v, j, _) => some (v, j)
section QA
variable {i i' i1 i2 j j' j1 : Tb} {rv rv' rv2 : Nat → Nat → Option Nat} {W : Option ((Nat → Nat) → Int)} {K g : Nat → Nat → Nat} {σ σ' T la li : Nat → Nat} {c n b b' L dr m m' q k x a : Nat} {lo lo' : Nat → Nat → Int64}
theorem w3_s {x : Option (Int32 × Tb)} {v : Int32} (h : w3 x rv = some (v, j, rv2)) : x = some (v, j) ∧ rv2 = rv := by
  cases x with
  | none => simp [w3] at h
  | some y =>
    obtain ⟨v', j'⟩ := y
    have e := Option.some.inj h
    obtain ⟨rfl, e2⟩ := Prod.mk.inj e
    obtain ⟨rfl, rfl⟩ := Prod.mk.inj e2
    exact ⟨rfl, rfl⟩
theorem w2_s {α : Type} {x : Option (Int32 × Tb × α)} {v : Int32} (h : w2 x = some (v, j)) : ∃ L, x = some (v, j, L) := by
  cases x with
  | none => simp [w2] at h
  | some y =>
    obtain ⟨v', j', L⟩ := y
    have e := Option.some.inj h
    obtain ⟨rfl, rfl⟩ := Prod.mk.inj e
    exact ⟨L, rfl⟩
theorem Inv_up (h : Inv c n i rv) : Inv (c + 1) n i rv := by
  obtain ⟨K, W, b, σ, g, T, L, dr, m, m', la, li, h1, h2, h3, h4⟩ := h
  exact ⟨K, W, b, σ, g, T, L, dr, m, m', la, li, h1, h2, by omega, h4⟩
theorem Inv_0 {v : Int32} (h : Inv c n i rv) : Inv c n (u2 i 50 0 v) rv := by
  obtain ⟨K, W, b, σ, g, T, L, dr, m, m', la, li, h1, h2, h3, h4⟩ := h
  obtain ⟨v', i', j', rv2, e1, e2, _, e3⟩ := ask (Fc := some (0, i)) (Fm := fun j rv => some (0, u2 j 50 0 v, rv)) (lc := []) (lm := [50]) (l5 := [0]) h1 h2 h4 h3 (fun j _ _ => ⟨0, i, u2 j 50 0 v, rv, rfl, rfl, FrL_f (Fr_r _ _), Fr_u, F5_u, Or.inl rfl⟩) (fun q hq => by simp at hq) (fun q hq => by simp at hq; omega) (fun k hk => by simp at hk; simp [hk])
  have e4 := Option.some.inj e1
  obtain ⟨rfl, rfl⟩ := Prod.mk.inj e4
  have e5 := Option.some.inj e2
  obtain ⟨_, e6⟩ := Prod.mk.inj e5
  obtain ⟨rfl, rfl⟩ := Prod.mk.inj e6
  exact e3

theorem Q_officer (h : Inv c n i rv) (hc : c < 512) (a1 a2 : Int32) : ∃ v j', fX11_officer a1 a2 i = some v ∧ fX12_officer a1 a2 i = some (v, j') ∧ Inv (c + 1) n j' rv := by
  obtain ⟨K, W, b, σ, g, T, L, dr, m, m', la, li, h1, h2, h3, h4⟩ := id h
  obtain ⟨v, e1, e2⟩ := R_officer h2.1.1 h2.2.2.1 h1 a1 a2
  exact ⟨v, _, e1, e2, Inv_up (Inv_0 h)⟩
theorem Q_rule (h : Inv c n i rv) (hc : c < 512) (a1 : Int32) : ∃ v j', fX11_rule a1 i = some v ∧ fX12_rule a1 i = some (v, j') ∧ Inv (c + 1) n j' rv := by
  obtain ⟨K, W, b, σ, g, T, L, dr, m, m', la, li, h1, h2, h3, h4⟩ := id h
  obtain ⟨v, e1, e2⟩ := R_rule h2.1.1 h2.2.2.1 h1 h2.1.2.1 h2.2.2.2.1 a1
  exact ⟨v, _, e1, e2, Inv_up (Inv_0 h)⟩
theorem Q_woken (h : Inv c n i rv) (hc : c < 512) (a1 : Int32) : ∃ v j', fX11_woken a1 i = some v ∧ fX12_woken a1 i = some (v, j') ∧ Inv (c + 1) n j' rv := by
  obtain ⟨K, W, b, σ, g, T, L, dr, m, m', la, li, h1, h2, h3, h4⟩ := id h
  obtain ⟨v, e1, e2⟩ := R_woken h2.1.1 h2.2.2.1 h1 h2.1.2.1 h2.2.2.2.1 a1
  exact ⟨v, _, e1, e2, Inv_up (Inv_0 h)⟩
theorem Q_tired (h : Inv c n i rv) (hc : c < 512) : ∃ v j', fX11_tired i = some v ∧ fX12_tired i = some (v, j') ∧ Inv (c + 1) n j' rv := by
  obtain ⟨K, W, b, σ, g, T, L, dr, m, m', la, li, h1, h2, h3, h4⟩ := id h
  obtain ⟨v, e1, e2⟩ := R_tired h2.1.1 h2.2.2.1 h1 h2.2.1 (by omega) h2.1.2.1 h2.2.2.2.1
  exact ⟨v, _, e1, e2, Inv_up (Inv_0 h)⟩
theorem Q_beside (h : Inv c n i rv) (hc : c < 512) (a1 : Int32) : ∃ v j', fX11_beside a1 i = some v ∧ fX12_beside a1 i = some (v, j') ∧ Inv (c + 1) n j' rv := by
  obtain ⟨K, W, b, σ, g, T, L, dr, m, m', la, li, h1, h2, h3, h4⟩ := id h
  obtain ⟨v, e1, e2⟩ := R_beside h2.1.1 h2.2.2.1 h1 h2.2.1 h2.1.2.1 h2.2.2.2.1 a1
  exact ⟨v, _, e1, e2, Inv_up (Inv_0 h)⟩
theorem Q_log (h : Inv c n i rv) (hc : c < 512) (a1 a2 : Int32) : ∃ v j', fX11_log a1 a2 i = some v ∧ fX12_log a1 a2 i = some (v, j') ∧ Inv (c + 1) n j' rv := by
  obtain ⟨K, W, b, σ, g, T, L, dr, m, m', la, li, h1, h2, h3, h4⟩ := id h
  obtain ⟨v, e1, e2⟩ := R_log h1 h2.2.1 (by omega) h2.1.2.1 h2.2.2.2.2.2.1 a1 a2
  exact ⟨v, _, e1, e2, Inv_up (Inv_0 h)⟩
theorem Q_bound (h : Inv c n i rv) (hc : c < 512) (a1 : Int32) : ∃ v j', fX11_bound a1 i = some v ∧ fX12_bound a1 i = some (v, j') ∧ Inv (c + 1) n j' rv := by
  obtain ⟨K, W, b, σ, g, T, L, dr, m, m', la, li, h1, h2, h3, h4⟩ := id h
  obtain ⟨v, e1, e2⟩ := R_bound h2.1.1 h2.2.2.1 h1 h2.2.1 h2.1.2.1 h2.2.2.2.1 a1
  exact ⟨v, _, e1, e2, Inv_up (Inv_0 h)⟩
theorem Q_which (h : Inv c n i rv) (hc : c < 512) (a1 : Int32) : ∃ v j', fX11_which a1 i = some v ∧ fX12_which a1 i = some (v, j') ∧ Inv (c + 1) n j' rv := by
  obtain ⟨K, W, b, σ, g, T, L, dr, m, m', la, li, h1, h2, h3, h4⟩ := id h
  obtain ⟨v, e1, e2⟩ := R_which h1 h2.2.1 h2.1.1 h2.1.2.1 h2.2.2.1 h2.2.2.2.1 a1
  exact ⟨v, _, e1, e2, Inv_up (Inv_0 h)⟩
theorem Q_fit (h : Inv c n i rv) (hc : c < 512) (a1 : Int32) : ∃ v j', fX11_fit a1 i = some v ∧ fX12_fit a1 i = some (v, j') ∧ Inv (c + 1) n j' rv := by
  obtain ⟨K, W, b, σ, g, T, L, dr, m, m', la, li, h1, h2, h3, h4⟩ := id h
  obtain ⟨v, e1, e2⟩ := R_fit h2.1.1 h2.2.2.1 h4.1 h4.2.1 h4.2.2.1 h1 a1
  exact ⟨v, _, e1, e2, Inv_up (Inv_0 h)⟩
theorem Q_heads (h : Inv c n i rv) (hc : c < 512) (a1 a2 : Int32) : ∃ v j', fX11_heads a1 a2 i = some v ∧ fX12_heads a1 a2 i = some (v, j') ∧ Inv (c + 1) n j' rv := by
  obtain ⟨K, W, b, σ, g, T, L, dr, m, m', la, li, h1, h2, h3, h4⟩ := id h
  obtain ⟨v, e1, e2⟩ := R_heads h2.1.1 h2.2.2.1 h1 a1 a2
  exact ⟨v, _, e1, e2, Inv_up (Inv_0 h)⟩
theorem Q_step (h : Inv c n i rv) (hc : c < 512) (a1 a2 a3 : Int32) : ∃ v j', fX11_step a1 a2 a3 i rv = some v ∧ fX12_step a1 a2 a3 i = some (v, j') ∧ Inv (c + 1) n j' rv := by
  obtain ⟨K, W, b, σ, g, T, L, dr, m, m', la, li, h1, h2, h3, h4⟩ := id h
  obtain ⟨v, e1, e2⟩ := R_step (ShB_LnS h4.2.2.2.2.2.2.2.1 h4.2.2.2.2.2.2.2.2 (fun _ _ _ _ => rfl)) a1 a2 a3
  exact ⟨v, _, e1, e2, Inv_up (Inv_0 h)⟩
theorem Q_count (h : Inv c n i rv) (hc : c < 512) (a1 : Int32) : ∃ v j', fX11_count a1 i = some v ∧ fX12_count a1 i = some (v, j') ∧ Inv (c + 1) n j' rv := by
  obtain ⟨K, W, b, σ, g, T, L, dr, m, m', la, li, h1, h2, h3, h4⟩ := id h
  obtain ⟨g1, g2, g3, t1, t2, t3, ⟨d1, d2, d3⟩, hA, b1, b2, b3, b4, b5, b6, b7⟩ := id h4
  obtain ⟨ac, nx, us, u1, u2', u3, u4, u5, _⟩ := h2.2.2.2.2.2.2.1
  have e4 : i 0 12 = i 50 35 := by
    rcases b7 with ⟨_, e2, e3, _⟩ | ⟨x, f, _, _, e2, e3, _⟩
    · rw [e2, e3]
    · rw [e2, e3]
  obtain ⟨v, e1, e2⟩ := R_count h2.1.1 h2.2.2.1 h1 h2.2.1 (by omega) h2.1.2.1 h2.2.2.2.1 h2.2.2.2.2.2.1 g1 g2 (by rw [b1, b2]) (by rw [b3, b4]) (by rw [t1.1, t2.1]) e4 (by rw [d1, d2]) (by rw [u3, u5]) a1
  exact ⟨v, _, e1, e2, Inv_up (Inv_0 h)⟩
theorem Q_best (h : Inv c n i rv) (hc : c < 512) : ∃ v j', fX11_best i = some v ∧ fX12_best i = some (v, j') ∧ Inv (c + 1) n j' rv := by
  obtain ⟨K, W, b, σ, g, T, L, dr, m, m', la, li, h1, h2, h3, h4⟩ := id h
  obtain ⟨v, e0, j', e1, f1, f2⟩ := R_best h2.1.1 h2.2.2.1 h4.1 h4.2.1 h4.2.2.1 h1
  refine ⟨v, j', e0, e1, ?_⟩
  obtain ⟨v', i', j2, rv2, d1, d2, _, d3⟩ := ask (c := c + 1) (Fc := some (v, i)) (Fm := fun j rv => some (v, u2 j 50 0 (j' 50 0), rv)) (lc := []) (lm := [50]) (l5 := [0]) h1 h2 h4 (by omega) (fun j _ _ => ⟨v, i, u2 j 50 0 (j' 50 0), rv, rfl, rfl, FrL_f (Fr_r _ _), Fr_u, F5_u, Or.inl rfl⟩) (fun q hq => by simp at hq) (fun q hq => by simp at hq; omega) (fun k hk => by simp at hk; simp [hk])
  have ej : j' = u2 i 50 0 (j' 50 0) := by
    funext q k
    by_cases e : q = 50
    · rw [e]
      by_cases e2 : k = 0
      · rw [e2, u2e]
      · rw [u2n _ _ _ _ _ e2, f2 k (by simp [e2])]
    · rw [u2r _ _ _ _ _ e, f1 q (by simp [e])]
  have e4 := Option.some.inj d1
  obtain ⟨_, rfl⟩ := Prod.mk.inj e4
  have e5 := Option.some.inj d2
  obtain ⟨_, e6⟩ := Prod.mk.inj e5
  obtain ⟨e7, rfl⟩ := Prod.mk.inj e6
  rw [ej, e7]
  exact d3
theorem GuM_e (h : GuM g i) (e : ∀ q k, 50 ≤ q → q < 73 → j q k = i q k) : GuM g j := by
  have r' : ∀ q, 50 ≤ q → q < 73 → j q = i q := fun q h1 h2 => funext (fun k => e q k h1 h2)
  unfold GuM at h ⊢
  rw [r' 50 (by omega) (by omega), r' 67 (by omega) (by omega), r' 68 (by omega) (by omega), r' 69 (by omega) (by omega), r' 70 (by omega) (by omega)]
  exact h
theorem Q_time (h : Inv c n i rv) (hc : c < 512) (a1 a2 : Int32) : ∃ v i' j' rv2, fX11_time a1 a2 i rv = some (v, i') ∧ fX12_time a1 a2 i' rv = some (v, j', rv2) ∧ RvM rv rv2 ∧ Inv (c + 1) n j' rv2 := by
  obtain ⟨K, W, b, σ, g, T, L, dr, m, m', la, li, h1, h2, h3, h4⟩ := id h
  exact ask (Fc := fX11_time a1 a2 i rv) (Fm := fun j rv => fX12_time a1 a2 j rv) (lc := [23, 24]) (lm := [50, 54, 64]) (l5 := (0 :: l41)) h1 h2 h4 (by omega) (fun j hj hjm => by
    obtain ⟨v, i', j', rv2, e1, e2, e3, e4, e5, e6⟩ := R_time (rv' := rv) hj.1 (SI_WM hj) h1 hj.2.1 (by omega) a1 a2
    exact ⟨v, i', j', rv2, e1, e2, e3, e4, e5, e6⟩) (fun q hq => by simp at hq; omega) (fun q hq => by simp at hq; omega) (by decide)
theorem Q_slack (h : Inv c n i rv) (hc : c < 512) (a1 : Int32) : ∃ v i' j' rv2, fX11_slack a1 i rv = some (v, i') ∧ fX12_slack a1 i' rv = some (v, j', rv2) ∧ RvM rv rv2 ∧ Inv (c + 1) n j' rv2 := by
  obtain ⟨K, W, b, σ, g, T, L, dr, m, m', la, li, h1, h2, h3, h4⟩ := id h
  exact ask (Fc := fX11_slack a1 i rv) (Fm := fun j rv => fX12_slack a1 j rv) (lc := [23, 24]) (lm := [50, 54, 64]) (l5 := (0 :: l41)) h1 h2 h4 (by omega) (fun j hj hjm => by
    obtain ⟨v, i', j', rv2, e1, e2, e3, e4, e5, e6⟩ := R_slack (rv' := rv) hj.1 (SI_WM hj) h1 hj.2.1 (by omega) a1
    exact ⟨v, i', j', rv2, e1, e2, e3, e4, e5, e6⟩) (fun q hq => by simp at hq; omega) (fun q hq => by simp at hq; omega) (by decide)
theorem Q_longest (h : Inv c n i rv) (hc : c < 512) (a1 : Int32) : ∃ v i' j' rv2, fX11_longest a1 i rv = some (v, i') ∧ fX12_longest a1 i' rv = some (v, j', rv2) ∧ RvM rv rv2 ∧ Inv (c + 1) n j' rv2 := by
  obtain ⟨K, W, b, σ, g, T, L, dr, m, m', la, li, h1, h2, h3, h4⟩ := id h
  exact ask (Fc := fX11_longest a1 i rv) (Fm := fun j rv => fX12_longest a1 j rv) (lc := [23, 24]) (lm := [50, 54, 64]) (l5 := (0 :: l41)) h1 h2 h4 (by omega) (fun j hj hjm => by
    obtain ⟨v, i', j', rv2, e1, e2, e3, e4, e5, e6⟩ := R_longest (rv' := rv) hj.1 (SI_WM hj) h1 hj.2.1 (by omega) a1
    exact ⟨v, i', j', rv2, e1, e2, e3, e4, e5, e6⟩) (fun q hq => by simp at hq; omega) (fun q hq => by simp at hq; omega) (by decide)
theorem Q_tonight (h : Inv c n i rv) (hc : c < 512) (a1 : Int32) : ∃ v i' j' rv2, fX11_tonight a1 i rv = some (v, i') ∧ fX12_tonight a1 i' rv = some (v, j', rv2) ∧ RvM rv rv2 ∧ Inv (c + 1) n j' rv2 := by
  obtain ⟨K, W, b, σ, g, T, L, dr, m, m', la, li, h1, h2, h3, h4⟩ := id h
  exact ask (Fc := fX11_tonight a1 i rv) (Fm := fun j rv => fX12_tonight a1 j rv) (lc := [23, 24]) (lm := [50, 54, 64]) (l5 := (0 :: l41)) h1 h2 h4 (by omega) (fun j hj hjm => by
    obtain ⟨v, i', j', rv2, e1, e2, e3, e4, e5, e6⟩ := R_tonight (rv' := rv) hj.1 (SI_WM hj) h1 hj.2.1 (by omega) h4.1 (GuM_e h4.2.1 hjm) h4.2.2.1 a1
    exact ⟨v, i', j', rv2, e1, e2, e3, e4, e5, e6⟩) (fun q hq => by simp at hq; omega) (fun q hq => by simp at hq; omega) (by decide)
theorem Q_run (h : Inv c n i rv) (hc : c < 512) (a1 a2 : Int32) : ∃ v i' j' rv2, fX11_run a1 a2 i rv = some (v, i') ∧ fX12_run a1 a2 i' rv = some (v, j', rv2) ∧ RvM rv rv2 ∧ Inv (c + 1) n j' rv2 := by
  obtain ⟨K, W, b, σ, g, T, L, dr, m, m', la, li, h1, h2, h3, h4⟩ := id h
  exact ask (Fc := fX11_run a1 a2 i rv) (Fm := fun j rv => fX12_run a1 a2 j rv) (lc := [22, 23, 24]) (lm := [50, 54, 64]) (l5 := (0 :: l41)) h1 h2 h4 (by omega) (fun j hj hjm => by
    obtain ⟨v, i', j', rv2, e1, e2, e3, e4, e5, e6⟩ := R_run (rv' := rv) h1 hj (by omega) (ShB_LnS h4.2.2.2.2.2.2.2.1 h4.2.2.2.2.2.2.2.2 hjm) a1 a2
    exact ⟨v, i', j', rv2, e1, e2, e3, e4, e5, e6⟩) (fun q hq => by simp at hq; omega) (fun q hq => by simp at hq; omega) (by decide)
theorem Q_before (h : Inv c n i rv) (hc : c < 512) (a1 : Int32) : ∃ v i' j' rv2, fX11_before a1 i rv = some (v, i') ∧ fX12_before a1 i' rv = some (v, j', rv2) ∧ RvM rv rv2 ∧ Inv (c + 1) n j' rv2 := by
  obtain ⟨K, W, b, σ, g, T, L, dr, m, m', la, li, h1, h2, h3, h4⟩ := id h
  exact ask (Fc := fX11_before a1 i rv) (Fm := fun j rv => fX12_before a1 j rv) (lc := [24, 35, 36, 37, 38, 39, 40]) (lm := [50, 54, 64]) (l5 := (0 :: l41)) h1 h2 h4 (by omega) (fun j hj hjm => by
    obtain ⟨v, i', j', rv2, e1, e2, e3, e4, e5, e6⟩ := R_before (rv' := rv) h1 hj.2.1 (by omega) hj.1 (SI_WM hj) a1
    exact ⟨v, i', j', rv2, e1, e2, e3, e4, e5, e6⟩) (fun q hq => by simp at hq; omega) (fun q hq => by simp at hq; omega) (by decide)
theorem Q_between (h : Inv c n i rv) (hc : c < 512) : ∃ v i' j' rv2, fX11_between i rv = some (v, i') ∧ fX12_between i' rv = some (v, j', rv2) ∧ RvM rv rv2 ∧ Inv (c + 1) n j' rv2 := by
  obtain ⟨K, W, b, σ, g, T, L, dr, m, m', la, li, h1, h2, h3, h4⟩ := id h
  exact ask (Fc := fX11_between i rv) (Fm := fun j rv => fX12_between j rv) (lc := [24]) (lm := [50, 54]) (l5 := (0 :: l17)) h1 h2 h4 (by omega) (fun j hj hjm => by
    obtain ⟨v, i', j', rv2, e1, e2, e3, e4, e5, e6⟩ := R_between (rv' := rv) h1 hj.2.1 (by omega) hj.1 (SI_WM hj)
    exact ⟨v, i', j', rv2, e1, e2, e3, e4, e5, e6⟩) (fun q hq => by simp at hq; omega) (fun q hq => by simp at hq; omega) (by decide)
theorem Q_favour (h : Inv c n i rv) (hc : c < 512) (a1 a2 a3 a4 a5 : Int32) : ∃ v i' j' rv2, fX11_favour a1 a2 a3 a4 a5 i rv = some (v, i') ∧ fX12_favour a1 a2 a3 a4 a5 i' rv = some (v, j', rv2) ∧ RvM rv rv2 ∧ Inv (c + 1) n j' rv2 := by
  obtain ⟨K, W, b, σ, g, T, L, dr, m, m', la, li, h1, h2, h3, h4⟩ := id h
  exact ask (Fc := fX11_favour a1 a2 a3 a4 a5 i rv) (Fm := fun j rv => fX12_favour a1 a2 a3 a4 a5 j rv) (lc := [24]) (lm := [50, 54]) (l5 := (0 :: l17)) h1 h2 h4 (by omega) (fun j hj hjm => by
    obtain ⟨v, i', j', rv2, e1, e2, e3, e4, e5, e6⟩ := R_favour (rv' := rv) h1 hj.2.1 (by omega) hj.1 (SI_WM hj) a1 a2 a3 a4 a5
    exact ⟨v, i', j', rv2, e1, e2, e3, e4, e5, e6⟩) (fun q hq => by simp at hq; omega) (fun q hq => by simp at hq; omega) (by decide)
theorem Q_rests (h : Inv c n i rv) (hc : c < 512) (a1 a2 a3 : Int32) : ∃ v i' j' rv2, fX11_rests a1 a2 a3 i rv = some (v, i') ∧ fX12_rests a1 a2 a3 i' rv = some (v, j', rv2) ∧ RvM rv rv2 ∧ Inv (c + 1) n j' rv2 := by
  obtain ⟨K, W, b, σ, g, T, L, dr, m, m', la, li, h1, h2, h3, h4⟩ := id h
  exact ask (Fc := fX11_rests a1 a2 a3 i rv) (Fm := fun j rv => fX12_rests a1 a2 a3 j rv) (lc := [24]) (lm := [50, 54]) (l5 := (0 :: l17)) h1 h2 h4 (by omega) (fun j hj hjm => by
    obtain ⟨v, i', j', rv2, e1, e2, e3, e4, e5, e6⟩ := R_rests (rv' := rv) h1 hj.2.1 (by omega) hj.1 (SI_WM hj) a1 a2 a3
    exact ⟨v, i', j', rv2, e1, e2, e3, e4, e5, e6⟩) (fun q hq => by simp at hq; omega) (fun q hq => by simp at hq; omega) (by decide)
theorem Q_order (h : Inv c n i rv) (hc : c < 512) (a1 a2 : Int32) : ∃ v i' j', fX11_order a1 a2 i = some (v, i') ∧ fX12_order a1 a2 i' = some (v, j') ∧ Inv (c + 1) n j' rv := by
  obtain ⟨K, W, b, σ, g, T, L, dr, m, m', la, li, h1, h2, h3, h4⟩ := id h
  obtain ⟨v, i', j', rv2, e1, e2, _, e3⟩ := ask (c := c + 1) (Fc := fX11_order a1 a2 i) (Fm := fun j rv => w3 (fX12_order a1 a2 j) rv) (lc := [30, 31, 32, 33, 34]) (lm := [50, 66]) (l5 := [0, 44, 45]) h1 h2 h4 (by omega) (fun j hj hjm => by
    obtain ⟨v, i', j', e1, e2, e3, e4, e5⟩ := R_order h1 hj.2.1 hj.1.1 hj.1.2.1 hj.2.2.1 hj.2.2.2.1 a1 a2
    exact ⟨v, i', j', rv, e1, by rw [e2]; rfl, FrL_f e3, e4, e5, Or.inl rfl⟩) (fun q hq => by simp at hq; omega) (fun q hq => by simp at hq; omega) (by decide)
  obtain ⟨d1, rfl⟩ := w3_s e2
  exact ⟨v, i', j', e1, d1, e3⟩
theorem Q_give (h : Inv c n i rv) (hc : c < 512) (a1 : Int32) : ∃ v i' j', fX11_give a1 i = some (v, i') ∧ fX12_give a1 i' = some (v, j') ∧ Inv (c + 1) n j' rv := by
  obtain ⟨K, W, b, σ, g, T, L, dr, m, m', la, li, h1, h2, h3, h4⟩ := id h
  obtain ⟨v, i', j', rv2, e1, e2, _, e3⟩ := ask (c := c + 1) (Fc := fX11_give a1 i) (Fm := fun j rv => w3 (fX12_give a1 j) rv) (lc := [30, 34]) (lm := [50, 71]) (l5 := [0, 53, 54]) h1 h2 h4 (by omega) (fun j hj hjm => by
    obtain ⟨v, i', j', e1, e2, e3, e4, e5⟩ := R_give h1 hj.1.1 hj.2.2.1 a1
    exact ⟨v, i', j', rv, e1, by rw [e2]; rfl, FrL_f e3, e4, e5, Or.inl rfl⟩) (fun q hq => by simp at hq; omega) (fun q hq => by simp at hq; omega) (by decide)
  obtain ⟨d1, rfl⟩ := w3_s e2
  exact ⟨v, i', j', e1, d1, e3⟩
theorem Q_move (h : Inv c n i rv) (hc : c < 512) (a1 a2 : Int32) : ∃ v i' j', fX11_move a1 a2 i rv = some (v, i') ∧ fX12_move a1 a2 i' = some (v, j') ∧ Inv (c + 1) n j' rv := by
  obtain ⟨K, W, b, σ, g, T, L, dr, m, m', la, li, h1, h2, h3, h4⟩ := id h
  obtain ⟨v, i', j', rv2, e1, e2, _, e3⟩ := one (c := c + 1) (b' := b + 1) (Fc := fX11_move a1 a2 i rv) (Fm := fun j rv => w3 (fX12_move a1 a2 j) rv) (lc := [20, 23, 24, 25, 26, 27]) (lm := [50, 54, 63, 65]) (l5 := (0 :: 42 :: l41)) h1 h2 h4 (by omega) (fun j hj hjm => by
    obtain ⟨v, i', j', σ', e1, e2, e3, e4, e5, e6⟩ := R_move h1 hj (by omega) a1 a2
    exact ⟨v, i', j', σ', rv, e1, by rw [e2]; rfl, e3, e4, e5, e6, Or.inl rfl⟩) (fun q hq => by simp at hq; omega) (fun q hq => by simp at hq; omega) (fun k hk => by simp at hk; omega)
  obtain ⟨d1, rfl⟩ := w3_s e2
  exact ⟨v, i', j', e1, d1, e3⟩
theorem Q_say (h : Inv c n i rv) (hc : c < 512) (a1 a2 : Int32) : ∃ v i' j', fX11_say a1 a2 i rv = some (v, i') ∧ fX12_say a1 a2 i' = some (v, j') ∧ Inv (c + 1) n j' rv := by
  obtain ⟨K, W, b, σ, g, T, L, dr, m, m', la, li, h1, h2, h3, h4⟩ := id h
  obtain ⟨v, i', j', rv2, e1, e2, _, e3⟩ := one (c := c + 1) (b' := b + 1) (Fc := fX11_say a1 a2 i rv) (Fm := fun j rv => w3 (fX12_say a1 a2 j) rv) (lc := [20, 23, 24, 25, 26, 27]) (lm := [50, 54, 63, 65]) (l5 := (0 :: 42 :: l41)) h1 h2 h4 (by omega) (fun j hj hjm => by
    obtain ⟨v, i', j', σ', e1, e2, e3, e4, e5, e6⟩ := R_say h1 hj (by omega) a1 a2
    exact ⟨v, i', j', σ', rv, e1, by rw [e2]; rfl, e3, e4, e5, e6, Or.inl rfl⟩) (fun q hq => by simp at hq; omega) (fun q hq => by simp at hq; omega) (fun k hk => by simp at hk; omega)
  obtain ⟨d1, rfl⟩ := w3_s e2
  exact ⟨v, i', j', e1, d1, e3⟩
theorem Q_lie (h : Inv c n i rv) (hc : c < 512) (a1 : Int32) : ∃ v i' j', fX11_lie a1 i rv = some (v, i') ∧ fX12_lie a1 i' = some (v, j') ∧ Inv (c + 1) n j' rv := by
  obtain ⟨K, W, b, σ, g, T, L, dr, m, m', la, li, h1, h2, h3, h4⟩ := id h
  obtain ⟨v, i', j', rv2, e1, e2, _, e3⟩ := one (c := c + 1) (b' := b + 1) (Fc := fX11_lie a1 i rv) (Fm := fun j rv => w3 (fX12_lie a1 j) rv) (lc := [20, 23, 24, 25, 26, 27]) (lm := [50, 54, 63, 65]) (l5 := (0 :: 42 :: l41)) h1 h2 h4 (by omega) (fun j hj hjm => by
    obtain ⟨v, i', j', σ', e1, e2, e3, e4, e5, e6⟩ := R_lie h1 hj (by omega) a1
    exact ⟨v, i', j', σ', rv, e1, by rw [e2]; rfl, e3, e4, e5, e6, Or.inl rfl⟩) (fun q hq => by simp at hq; omega) (fun q hq => by simp at hq; omega) (fun k hk => by simp at hk; omega)
  obtain ⟨d1, rfl⟩ := w3_s e2
  exact ⟨v, i', j', e1, d1, e3⟩
theorem Q_swap (h : Inv c n i rv) (hc : c < 512) (a1 a2 : Int32) : ∃ v i' j', fX11_swap a1 a2 i rv = some (v, i') ∧ fX12_swap a1 a2 i' = some (v, j') ∧ Inv (c + 1) n j' rv := by
  obtain ⟨K, W, b, σ, g, T, L, dr, m, m', la, li, h1, h2, h3, h4⟩ := id h
  obtain ⟨v, i', j', rv2, e1, e2, _, e3⟩ := one (c := c + 1) (b' := b + 1) (Fc := fX11_swap a1 a2 i rv) (Fm := fun j rv => w3 (fX12_swap a1 a2 j) rv) (lc := [20, 23, 24, 25, 26, 27]) (lm := [50, 54, 63, 65]) (l5 := (0 :: 42 :: l41)) h1 h2 h4 (by omega) (fun j hj hjm => by
    obtain ⟨v, i', j', σ', e1, e2, e3, e4, e5, e6⟩ := R_swap h1 hj (by omega) a1 a2
    exact ⟨v, i', j', σ', rv, e1, by rw [e2]; rfl, e3, e4, e5, e6, Or.inl rfl⟩) (fun q hq => by simp at hq; omega) (fun q hq => by simp at hq; omega) (fun k hk => by simp at hk; omega)
  obtain ⟨d1, rfl⟩ := w3_s e2
  exact ⟨v, i', j', e1, d1, e3⟩
theorem Q_wake (h : Inv c n i rv) (hc : c < 512) (a1 : Int32) : ∃ v i' j' rv2, fX11_wake a1 i rv = some (v, i') ∧ fX12_wake a1 i' rv = some (v, j', rv2) ∧ RvM rv rv2 ∧ Inv (c + 1) n j' rv2 := by
  obtain ⟨K, W, b, σ, g, T, L, dr, m, m', la, li, h1, h2, h3, h4⟩ := id h
  exact one (b' := b + 1) (Fc := fX11_wake a1 i rv) (Fm := fun j rv => fX12_wake a1 j rv) (lc := [20, 23, 24, 25, 26, 27]) (lm := [50, 54, 63, 65]) (l5 := (0 :: 42 :: l41)) h1 h2 h4 (by omega) (fun j hj hjm => R_wake (rv' := rv) h1 hj (by omega) a1) (fun q hq => by simp at hq; omega) (fun q hq => by simp at hq; omega) (fun k hk => by simp at hk; omega)
theorem Q_border (h : Inv c n i rv) (hc : c < 512) (a1 : Int32) : ∃ v i' j' rv2, fX11_border a1 i rv = some (v, i') ∧ fX12_border a1 i' rv = some (v, j', rv2) ∧ RvM rv rv2 ∧ Inv (c + 1) n j' rv2 := by
  obtain ⟨K, W, b, σ, g, T, L, dr, m, m', la, li, h1, h2, h3, h4⟩ := id h
  exact one (b' := b + 1) (Fc := fX11_border a1 i rv) (Fm := fun j rv => fX12_border a1 j rv) (lc := [20, 23, 24, 25, 26, 27]) (lm := [50, 54, 63, 65]) (l5 := (0 :: 42 :: l41)) h1 h2 h4 (by omega) (fun j hj hjm => R_border (rv' := rv) h1 hj (by omega) a1) (fun q hq => by simp at hq; omega) (fun q hq => by simp at hq; omega) (fun k hk => by simp at hk; omega)
theorem Q_perform (h : Inv c n i rv) (hc : c < 512) (a1 : Int32) : ∃ v i' j' rv2, fX11_perform a1 i rv = some (v, i') ∧ fX12_perform a1 i' rv = some (v, j', rv2) ∧ RvM rv rv2 ∧ Inv (c + 1) n j' rv2 := by
  obtain ⟨K, W, b, σ, g, T, L, dr, m, m', la, li, h1, h2, h3, h4⟩ := id h
  exact one (b' := b + 16) (Fc := fX11_perform a1 i rv) (Fm := fun j rv => fX12_perform a1 j rv) (lc := [20, 23, 24, 25, 26, 27]) (lm := [50, 54, 63, 65]) (l5 := (0 :: 42 :: l41)) h1 h2 h4 (by omega) (fun j hj hjm => R_perform (rv' := rv) h1 hj (by omega) (ShB_LnS h4.2.2.2.2.2.2.2.1 h4.2.2.2.2.2.2.2.2 hjm) a1) (fun q hq => by simp at hq; omega) (fun q hq => by simp at hq; omega) (fun k hk => by simp at hk; omega)
theorem Q_undo (h : Inv c n i rv) (hc : c < 512) : ∃ v i' j', fX11_undo i = some (v, i') ∧ fX12_undo i' = some (v, j') ∧ Inv (c + 1) n j' rv := by
  obtain ⟨K, W, b, σ, g, T, L, dr, m, m', la, li, h1, h2, h3, h4⟩ := id h
  obtain ⟨v, i', j', rv2, e1, e2, _, e3⟩ := one (c := c + 1) (b' := b) (Fc := fX11_undo i) (Fm := fun j rv => w3 (fX12_undo j) rv) (lc := [20, 23, 24, 25, 26, 27]) (lm := [50, 54, 63, 65]) (l5 := (0 :: 42 :: l41)) h1 h2 h4 (by omega) (fun j hj hjm => by
    obtain ⟨v, i', j', σ', e1, e2, e3, e4, e5, e6⟩ := R_undo h1 hj
    exact ⟨v, i', j', σ', rv, e1, by rw [e2]; rfl, e3, e4, e5, e6, Or.inl rfl⟩) (fun q hq => by simp at hq; omega) (fun q hq => by simp at hq; omega) (fun k hk => by simp at hk; omega)
  obtain ⟨d1, rfl⟩ := w3_s e2
  exact ⟨v, i', j', e1, d1, e3⟩
theorem Q_image (h : Inv c n i rv) (hc : c < 512) : ∃ v i' j', fX11_image i = some (v, i') ∧ fX12_image i' = some (v, j') ∧ Inv (c + 1) n j' rv := by
  obtain ⟨K, W, b, σ, g, T, L, dr, m, m', la, li, h1, h2, h3, h4⟩ := id h
  obtain ⟨v, i', j', rv2, e1, e2, _, e3⟩ := one (c := c + 1) (b' := b) (Fc := fX11_image i) (Fm := fun j rv => w3 (fX12_image j) rv) (lc := [25, 28, 29]) (lm := [50, 72]) (l5 := [0, 57]) h1 h2 h4 (by omega) (fun j hj hjm => by
    obtain ⟨v, i', j', e1, e2, e3, e4, e5, e6⟩ := R_image h1 hj
    exact ⟨v, i', j', σ, rv, e1, by rw [e2]; rfl, e3, FrL_f e4, e5, e6, Or.inl rfl⟩) (fun q hq => by simp at hq; omega) (fun q hq => by simp at hq; omega) (fun k hk => by simp at hk; omega)
  obtain ⟨d1, rfl⟩ := w3_s e2
  exact ⟨v, i', j', e1, d1, e3⟩
theorem Q_back (h : Inv c n i rv) (hc : c < 512) : ∃ v i' j', fX11_back i = some (v, i') ∧ fX12_back i' = some (v, j') ∧ Inv (c + 1) n j' rv := by
  obtain ⟨K, W, b, σ, g, T, L, dr, m, m', la, li, h1, h2, h3, h4⟩ := id h
  obtain ⟨v, i', j', rv2, e1, e2, _, e3⟩ := one (c := c + 1) (b' := b) (Fc := fX11_back i) (Fm := fun j rv => w3 (fX12_back j) rv) (lc := [20, 25, 27]) (lm := [50, 63]) (l5 := [0, 42]) h1 h2 h4 (by omega) (fun j hj hjm => by
    obtain ⟨v, i', j', σ', e1, e2, e3, e4, e5, e6⟩ := R_back h1 hj
    exact ⟨v, i', j', σ', rv, e1, by rw [e2]; rfl, e3, FrL_f e4, e5, e6, Or.inl rfl⟩) (fun q hq => by simp at hq; omega) (fun q hq => by simp at hq; omega) (fun k hk => by simp at hk; omega)
  obtain ⟨d1, rfl⟩ := w3_s e2
  exact ⟨v, i', j', e1, d1, e3⟩
def wN (x : Option (Int32 × Tb × (Nat → Nat → Int64) × (Nat → Nat → Option Nat))) : Option (Int32 × Tb × (Nat → Nat → Option Nat)) := match x with
  | none => none
  | some (v, j, _, rv) => some (v, j, rv)
theorem wN_s {x : Option (Int32 × Tb × (Nat → Nat → Int64) × (Nat → Nat → Option Nat))} {v : Int32} (h : wN x = some (v, j, rv)) : ∃ L, x = some (v, j, L, rv) := by
  cases x with
  | none => simp [wN] at h
  | some y =>
    obtain ⟨v', j', L, r⟩ := y
    have e := Option.some.inj h
    obtain ⟨rfl, e2⟩ := Prod.mk.inj e
    obtain ⟨rfl, rfl⟩ := Prod.mk.inj e2
    exact ⟨L, rfl⟩
theorem Q_nights (h : Inv c n i rv) (hc : c < 512) (a1 : Int32) (a2 : Int64) (lo : Nat → Nat → Int64) : ∃ v i' L, fX11_nights a1 a2 i lo rv = some (v, i', L) ∧ ∃ j' L' rv2, fX12_nights a1 a2 i' L rv = some (v, j', L', rv2) ∧ RvM rv rv2 ∧ Inv (c + 1) n j' rv2 := by
  obtain ⟨K, W, b, σ, g, T, L, dr, m, m', la, li, h1, h2, h3, h4⟩ := id h
  obtain ⟨v0, i0, L0, _, _, _, _, e0, _⟩ := R_nights (rv' := rv) (lo := lo) (lo' := lo) h1 h2 (by omega) h4.2.2.2.2.2.2.1.1 h4.2.2.2.2.2.2.1.2.1 h4.2.2.2.2.2.2.1.2.2 a1 a2
  refine ⟨v0, i0, L0, e0, ?_⟩
  obtain ⟨v, i', j', rv2, e1, e2, e4, e3⟩ := one (c := c + 1) (b' := b + 20) (Fc := w2 (fX11_nights a1 a2 i lo rv)) (Fm := fun j rv => wN (fX12_nights a1 a2 j L0 rv)) (lc := [20, 23, 24, 25, 26, 27]) (lm := [50, 54, 63, 65]) (l5 := (0 :: 42 :: l41)) h1 h2 h4 (by omega) (fun j hj hjm => by
    obtain ⟨v, i', L, j', L', σ', rv2, e1, e2, e3, e4, e5, e6, e7⟩ := R_nights (rv' := rv) (lo := lo) (lo' := L0) h1 hj (by omega) h4.2.2.2.2.2.2.1.1 (by rw [hjm 50 36 (by omega) (by omega)]; exact h4.2.2.2.2.2.2.1.2.1) h4.2.2.2.2.2.2.1.2.2 a1 a2
    exact ⟨v, i', j', σ', rv2, by rw [e1]; rfl, by rw [e2]; rfl, e3, e4, e5, e6, e7⟩) (fun q hq => by simp at hq; omega) (fun q hq => by simp at hq; omega) (fun k hk => by simp at hk; omega)
  obtain ⟨L1, d1⟩ := w2_s e1
  rw [e0] at d1
  have d2 := Option.some.inj d1
  obtain ⟨rfl, d3⟩ := Prod.mk.inj d2
  obtain ⟨rfl, _⟩ := Prod.mk.inj d3
  obtain ⟨L2, d4⟩ := wN_s e2
  exact ⟨j', L2, rv2, d4, e4, e3⟩
theorem SI_w {lc : List Nat} (h : SI K W b σ i j rv) (hf : FrL lc rv i i') (hl : ∀ x, x ∈ lc → x ≠ 20 ∧ x ≠ 25 ∧ x ≠ 26 ∧ x ≠ 27 ∧ x ≠ 28 ∧ x ≠ 29 ∧ 18 < x ∧ x < 74) (hf' : Fr [50, 63, 64, 66] j j') (h5 : F5 [0] j j') (hs : ScM K σ (j' 63)) (h54 : ∀ k, 54 ≤ k → j' 63 k = j 63 k) : SI K W b σ i' j' rv := by
  have hi := SI_f (j' := fun q => if q = 63 then j 63 else j' q) (l5 := [50, 64, 66]) h hf hl (fun q hq => by
    show (if q = 63 then j 63 else j' q) = j q
    by_cases e : q = 63
    · rw [if_pos e, e]
    · rw [if_neg e, hf' q (by simp at hq ⊢; omega)]) (fun k hk => by
    show (if 50 = 63 then j 63 else j' 50) k = j 50 k
    rw [if_neg (by omega), h5 k (fun e => hk (by simp at e; simp [e]))]) (by decide)
  obtain ⟨w1, h1, h2, h3, h4, h6, h7, h8⟩ := hi
  exact ⟨w1, h1, h2, hs, h4, LgM_e h6 (fun k hk _ => by show j' 63 k = (if 63 = 63 then j 63 else j' 63) k; rw [if_pos rfl]; exact h54 k (by omega)), h7, h8⟩
theorem Q_words (h : Inv c n i rv) (hc : c < 512) (a1 : Int32) : ∃ v i' j', fX11_words a1 i = some (v, i') ∧ fX12_words a1 i' = some (v, j') ∧ Inv (c + 1) n j' rv := by
  obtain ⟨K, W, b, σ, g, T, L, dr, m, m', la, li, h1, h2, h3, h4⟩ := id h
  obtain ⟨v, i', j', rv2, e1, e2, _, e3⟩ := one (c := c + 1) (b' := b) (Fc := fX11_words a1 i) (Fm := fun j rv => w3 (fX12_words a1 j) rv) (lc := [35, 41, 42, 43, 44]) (lm := [50, 63, 64, 66]) (l5 := [0]) h1 h2 h4 (by omega) (fun j hj hjm => by
    obtain ⟨v, i', j', e1, e2, e3, e4, e5, e6, e7⟩ := R_words h1 hj.2.1 hj.1 (SI_WM hj) a1
    exact ⟨v, i', j', σ, rv, e1, by rw [e2]; rfl, SI_w hj (FrL_f e3) (by decide) e4 e5 e6 e7, FrL_f e3, e4, e5, Or.inl rfl⟩) (fun q hq => by simp at hq; omega) (fun q hq => by simp at hq; omega) (fun k hk => by simp at hk; omega)
  obtain ⟨d1, rfl⟩ := w3_s e2
  exact ⟨v, i', j', e1, d1, e3⟩
end QA
