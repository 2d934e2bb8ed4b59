/-! laws: the model's conditions, clauses, and a whole law -/
section LU
variable {Y Y' Y'' : Tb} {rv : Nat → Nat → Option Nat} {T : Nat → Nat} {L B w p q r n d e m k c z : Nat} {g : Nat → PR} {x y : VL} {v : Int32} {l : Nat → Int} {gs : (Nat → Nat → Int32) → (Nat → Nat → Option Nat) → Option ((Int32) × (Nat → Nat → Int32))} {cl : CL} {cls : List CL}
theorem nar01 {u : Int32} (h : u = 0 ∨ u = 1) : narrow .boolean (.int u) = .int u := by
  rcases h with rfl | rfl <;> decide +kernel
theorem zI01 {a : Int} (h : a = 0 ∨ a = 1) : zI a = 0 ∨ zI a = 1 := by
  rcases h with rfl | rfl
  · exact Or.inl (by decide +kernel)
  · exact Or.inr (by decide +kernel)
theorem zI_0 {a : Int} (h : a = 0 ∨ a = 1) : (zI a = 0) = (a = 0) := by
  rcases h with rfl | rfl
  · exact propext ⟨fun _ => rfl, fun _ => by decide +kernel⟩
  · exact propext ⟨fun e => absurd e (by decide +kernel), fun e => absurd e (by decide)⟩
theorem j38 {a b : Int} (ha : a = 0 ∨ a = 1) (hb : b = 0 ∨ b = 1) {kh : Int32 → (Nat → Nat → Int32) → (Nat → Nat → Option Nat) → Option ((Int32) × (Nat → Nat → Int32))} {Z : Tb} : (if zI a = 0 then (fX12_part_64 gs kh Z rv) else (if zI b = 0 then (fX12_part_64 gs kh Z rv) else (fX12_part_65 gs kh 1 Z rv))) = kh (zI (jn 38 a b)) Z rv := by
  unfold fX12_part_64 fX12_part_65
  rcases ha with rfl | rfl <;> rcases hb with rfl | rfl
  · rw [if_pos (by decide +kernel)]; rfl
  · rw [if_pos (by decide +kernel)]; rfl
  · rw [if_neg (by decide +kernel), if_pos (by decide +kernel)]; rfl
  · rw [if_neg (by decide +kernel), if_neg (by decide +kernel)]; rfl
theorem j124 {a b : Int} (ha : a = 0 ∨ a = 1) (hb : b = 0 ∨ b = 1) {kh : Int32 → (Nat → Nat → Int32) → (Nat → Nat → Option Nat) → Option ((Int32) × (Nat → Nat → Int32))} {Z : Tb} : (if zI a = 0 then (if zI b = 0 then (fX12_condition_56 gs kh 0 Z rv) else (fX12_condition_51 gs kh Z rv)) else (fX12_condition_51 gs kh Z rv)) = kh (zI (jn 124 a b)) Z rv := by
  unfold fX12_condition_51 fX12_condition_56
  rcases ha with rfl | rfl <;> rcases hb with rfl | rfl
  · rw [if_pos (by decide +kernel), if_pos (by decide +kernel)]; rfl
  · rw [if_pos (by decide +kernel), if_neg (by decide +kernel)]; rfl
  · rw [if_neg (by decide +kernel)]; rfl
  · rw [if_neg (by decide +kernel)]; rfl
theorem m_part_l (hT : OkT T L) (hG : MGb T L B w l d rv g (gs)) (hS : SpO L g) (hE : ∀ p r y, p ≤ L → g p = (r, some y) → BoO y) (hM : MS T L B w l d Y rv) : ∀ n m x p, p ≤ L → L - p + 1 < n → L - p < m → BoO x → MRb l Y (lpS T L o4 g m x p) (fX12_part_18 gs n (zI (x.2 l)) (mP Y p) rv) := by
  have hL := hT.1
  obtain ⟨hX, h11, h12, hl⟩ := id hM
  intro n
  induction n with
  | zero => intro m x p h1 h2; omega
  | succ n ih =>
    intro m x p h1 h2 h3 h5
    obtain ⟨m, rfl⟩ : ∃ m', m = m' + 1 := ⟨m - 1, by omega⟩
    have s1 := sk_ge (T := T) h1
    have s2 := sk_le (T := T) h1
    rw [fX12_part_18, mP_n (by omega), h11, if_pos qN1.symm, m_look hT hX h1, mz_b2]
    by_cases h : skp T L p < L ∧ o4 (T (skp T L p)) = true
    · have hc : T (skp T L p) = 38 := of_decide_eq_true h.2
      have hcn : ch T L (skp T L p) = 38 := by rw [ch_in h.1, hc]; rfl
      have k := hG Y (skp T L p + 1) hM (by omega)
      rw [if_pos hcn, mz_lt, mP_at, show nI (skp T L p) + 1 = nI (skp T L p + 1) from nI_1 _, mP_2]
      rcases hr : g (skp T L p + 1) with ⟨r0, _ | y0⟩
      · obtain ⟨v0, Y', e1, e01, e2⟩ := k.2 _ hr
        have hr0 := (hS (skp T L p + 1) (by omega)).1 _ hr
        have hn := FlM_11 e2 (by omega)
        have e1' : gs (mP Y (skp T L p + 1)) rv = some (v0, Y') := e1
        have key : ∀ u, u = 0 ∨ u = 1 → fX12_part_18 gs n u Y' rv = some (u, Y') := by
          intro u hu
          obtain ⟨n2, rfl⟩ : ∃ n2, n = n2 + 1 := ⟨n - 1, by omega⟩
          rw [fX12_part_18, if_neg (by rw [qN1]; exact hn), if_pos (nar01 hu)]
        rw [lpS_n h hr, e1', mz_b2]
        unfold fX12_part_64 fX12_part_65
        rw [key 0 (Or.inl rfl), key 1 (Or.inr rfl)]
        refine MRb_n ?_
        (repeat' split) <;> first | exact ⟨_, _, rfl, Or.inl rfl, e2⟩ | exact ⟨_, _, rfl, Or.inr rfl, e2⟩
      · have e1 := k.1 _ _ hr
        obtain ⟨b1, b2, b3⟩ := (hS (skp T L p + 1) (by omega)).2 _ _ hr
        have hy := hE _ _ _ (by omega) hr
        have e1' : gs (mP Y (skp T L p + 1)) rv = some (zI (y0.2 l), mP Y r0) := e1
        rw [lpS_s h hr, e1', mz_b2, j38 (h5 l) (hy l), hc]
        exact ih m _ r0 b2 (by omega) (by omega) (fun l => jn_bo (c := 38) (by omega) (x.2 l) (y0.2 l))
    · have hA : ¬ ch T L (skp T L p) = 38 := fun e => by
        have e2 := ch_skl (c := 38) (by omega) e
        rw [ch_in e2] at e
        have := (nI_eq (by have := (hT.2 _ e2).2; omega) (by omega)).mp (show nI (T (skp T L p)) = nI 38 from e)
        exact h ⟨e2, decide_eq_true (by omega)⟩
      rw [lpS_e h, if_neg hA, if_pos (nar01 (zI01 (h5 l)))]
      exact MRb_s rfl
theorem m_part (hT : OkT T L) (hG : MGb T L B w l d rv g (gs)) (hS : SpO L g) (hE : ∀ p r y, p ≤ L → g p = (r, some y) → BoO y) : MGb T L B w l d rv (seS T L o4 g) (fX12_part gs 0 0) := by
  intro Y p hM hp
  have hL := hT.1
  obtain ⟨fu, hfu, hfu2⟩ := fuel_g
  have k := hG Y p hM hp
  unfold fX12_part fX12_part_17
  rw [hfu, if_pos rfl]
  rcases hr : g p with ⟨r0, _ | x0⟩
  · obtain ⟨v0, Y', e1, e01, e2⟩ := k.2 _ hr
    have hr0 := (hS p hp).1 _ hr
    have hn := FlM_11 e2 (by omega)
    have e1' : gs (mP Y p) rv = some (v0, Y') := e1
    obtain ⟨n2, rfl⟩ : ∃ n2, fu = n2 + 1 := ⟨fu - 1, by omega⟩
    rw [seS_n hr, e1', mz_b2, fX12_part_18, if_neg (by rw [qN1]; exact hn), if_pos (nar01 e01)]
    exact MRb_n ⟨_, _, rfl, e01, e2⟩
  · have e1 := k.1 _ _ hr
    obtain ⟨b1, b2, b3⟩ := (hS p hp).2 _ _ hr
    have e1' : gs (mP Y p) rv = some (zI (x0.2 l), mP Y r0) := e1
    rw [seS_s hr, e1', mz_b2]
    exact m_part_l hT hG hS hE hM fu 300 x0 r0 b2 (by omega) (by omega) (hE _ _ _ hp hr)
theorem m_cond_l (hT : OkT T L) (hG : MGb T L B w l d rv g (fX12_part gs 0 0)) (hS : SpO L g) (hE : ∀ p r y, p ≤ L → g p = (r, some y) → BoO y) (hM : MS T L B w l d Y rv) : ∀ n m x p, p ≤ L → L - p + 1 < n → L - p < m → BoO x → MRb l Y (lpS T L o5 g m x p) (fX12_condition_7 gs n (zI (x.2 l)) (mP Y p) rv) := by
  have hL := hT.1
  obtain ⟨hX, h11, h12, hl⟩ := id hM
  intro n
  induction n with
  | zero => intro m x p h1 h2; omega
  | succ n ih =>
    intro m x p h1 h2 h3 h5
    obtain ⟨m, rfl⟩ : ∃ m', m = m' + 1 := ⟨m - 1, by omega⟩
    have s1 := sk_ge (T := T) h1
    have s2 := sk_le (T := T) h1
    rw [fX12_condition_7, mP_n (by omega), h11, if_pos qN1.symm, m_look hT hX h1, mz_b2]
    by_cases h : skp T L p < L ∧ o5 (T (skp T L p)) = true
    · have hc : T (skp T L p) = 124 := of_decide_eq_true h.2
      have hcn : ch T L (skp T L p) = 124 := by rw [ch_in h.1, hc]; rfl
      have k := hG Y (skp T L p + 1) hM (by omega)
      rw [if_pos hcn, mz_lt, mP_at, show nI (skp T L p) + 1 = nI (skp T L p + 1) from nI_1 _, mP_2]
      rcases hr : g (skp T L p + 1) with ⟨r0, _ | y0⟩
      · obtain ⟨v0, Y', e1, e01, e2⟩ := k.2 _ hr
        have hr0 := (hS (skp T L p + 1) (by omega)).1 _ hr
        have hn := FlM_11 e2 (by omega)
        have e1' : fX12_part gs 0 0 (mP Y (skp T L p + 1)) rv = some (v0, Y') := e1
        have key : ∀ u, u = 0 ∨ u = 1 → fX12_condition_7 gs n u Y' rv = some (u, Y') := by
          intro u hu
          obtain ⟨n2, rfl⟩ : ∃ n2, n = n2 + 1 := ⟨n - 1, by omega⟩
          rw [fX12_condition_7, if_neg (by rw [qN1]; exact hn), if_pos (nar01 hu)]
        rw [lpS_n h hr, e1', mz_b2]
        unfold fX12_condition_51 fX12_condition_56
        rw [key 0 (Or.inl rfl), key 1 (Or.inr rfl)]
        refine MRb_n ?_
        (repeat' split) <;> first | exact ⟨_, _, rfl, Or.inl rfl, e2⟩ | exact ⟨_, _, rfl, Or.inr rfl, e2⟩
      · have e1 := k.1 _ _ hr
        obtain ⟨b1, b2, b3⟩ := (hS (skp T L p + 1) (by omega)).2 _ _ hr
        have hy := hE _ _ _ (by omega) hr
        have e1' : fX12_part gs 0 0 (mP Y (skp T L p + 1)) rv = some (zI (y0.2 l), mP Y r0) := e1
        rw [lpS_s h hr, e1', mz_b2, j124 (h5 l) (hy l), hc]
        exact ih m _ r0 b2 (by omega) (by omega) (fun l => jn_bo (c := 124) (by omega) (x.2 l) (y0.2 l))
    · have hA : ¬ ch T L (skp T L p) = 124 := fun e => by
        have e2 := ch_skl (c := 124) (by omega) e
        rw [ch_in e2] at e
        have := (nI_eq (by have := (hT.2 _ e2).2; omega) (by omega)).mp (show nI (T (skp T L p)) = nI 124 from e)
        exact h ⟨e2, decide_eq_true (by omega)⟩
      rw [lpS_e h, if_neg hA, if_pos (nar01 (zI01 (h5 l)))]
      exact MRb_s rfl
theorem m_cond (hT : OkT T L) (hG : MGb T L B w l d rv g (fX12_part gs 0 0)) (hS : SpO L g) (hE : ∀ p r y, p ≤ L → g p = (r, some y) → BoO y) : MGb T L B w l d rv (seS T L o5 g) (fX12_condition gs 0 0) := by
  intro Y p hM hp
  have hL := hT.1
  obtain ⟨fu, hfu, hfu2⟩ := fuel_g
  have k := hG Y p hM hp
  unfold fX12_condition
  rw [hfu]
  rcases hr : g p with ⟨r0, _ | x0⟩
  · obtain ⟨v0, Y', e1, e01, e2⟩ := k.2 _ hr
    have hr0 := (hS p hp).1 _ hr
    have hn := FlM_11 e2 (by omega)
    have e1' : fX12_part gs 0 0 (mP Y p) rv = some (v0, Y') := e1
    obtain ⟨n2, rfl⟩ : ∃ n2, fu = n2 + 1 := ⟨fu - 1, by omega⟩
    rw [seS_n hr, e1', mz_b2, fX12_condition_7, if_neg (by rw [qN1]; exact hn), if_pos (nar01 e01)]
    exact MRb_n ⟨_, _, rfl, e01, e2⟩
  · have e1 := k.1 _ _ hr
    obtain ⟨b1, b2, b3⟩ := (hS p hp).2 _ _ hr
    have e1' : fX12_part gs 0 0 (mP Y p) rv = some (zI (x0.2 l), mP Y r0) := e1
    rw [seS_s hr, e1', mz_b2]
    exact m_cond_l hT hG hS hE hM fu 300 x0 r0 b2 (by omega) (by omega) (hE _ _ _ hp hr)
theorem lp_none {o : Nat → Bool} (h : lpS T L o g n x p = (r, none)) (hg : SpO L g) (hp : p ≤ L) : r ≤ L := by
  induction n generalizing x p with
  | zero => rw [lpS] at h; have := (Prod.mk.inj h).2; simp at this
  | succ n ih =>
    by_cases h0 : skp T L p < L ∧ o (T (skp T L p)) = true
    · rcases hr : g (skp T L p + 1) with ⟨r0, _ | y0⟩
      · rw [lpS_n h0 hr] at h
        have := (hg (skp T L p + 1) (by omega)).1 _ hr
        have := (Prod.mk.inj h).1
        omega
      · rw [lpS_s h0 hr] at h
        exact ih h ((hg (skp T L p + 1) (by omega)).2 _ _ hr).2.1
    · rw [lpS_e h0] at h
      have := (Prod.mk.inj h).2
      simp at this
theorem lp_some {o : Nat → Bool} (h : lpS T L o g n x p = (r, some y)) (hg : SpO L g) (hp : p ≤ L) : r ≤ L := by
  induction n generalizing x p with
  | zero =>
    rw [lpS] at h
    have := (Prod.mk.inj h).1
    omega
  | succ n ih =>
    by_cases h0 : skp T L p < L ∧ o (T (skp T L p)) = true
    · rcases hr : g (skp T L p + 1) with ⟨r0, _ | y0⟩
      · rw [lpS_n h0 hr] at h
        have := (Prod.mk.inj h).2
        simp at this
      · rw [lpS_s h0 hr] at h
        exact ih h ((hg (skp T L p + 1) (by omega)).2 _ _ hr).2.1
    · rw [lpS_e h0] at h
      have := (Prod.mk.inj h).1
      have := sk_le (T := T) hp
      omega
/-- a unit -/
theorem m_unit (hT : OkT T L) (hi : i32 l) : ∀ e d n, d + e = 6 → e < n → MGb T L B w l d rv (unS T L e) (fX12_unit n) := by
  have hL := hT.1
  intro e
  induction e with
  | zero =>
    intro d n h1 h2 Y p hM hp
    obtain ⟨hX, h11, h12, hl⟩ := id hM
    have s1 := sk_ge (T := T) hp
    have s2 := sk_le (T := T) hp
    obtain ⟨n, rfl⟩ : ∃ n', n = n' + 1 := ⟨n - 1, by omega⟩
    have hd : d = 6 := by omega
    rw [hd] at h12
    rw [fX12_unit]
    unfold fX12_unitb
    rw [m_look hT hX hp, mz_b2, m_goes6 h11 h12, mz_b2, mz_b2]
    by_cases h3 : ch T L (skp T L p) = 33
    · rw [if_pos h3, unS_0 (Or.inl h3), if_pos rfl]
      exact MRb_n ⟨_, _, rfl, Or.inl rfl, FlM_F⟩
    · by_cases h4 : ch T L (skp T L p) = 40
      · rw [if_neg h3, if_pos h4, unS_0 (Or.inr h4), if_pos rfl]
        exact MRb_n ⟨_, _, rfl, Or.inl rfl, FlM_F⟩
      · have k := m_cm (rv := rv) (B := B) (w := w) hT hi h1 Y (skp T L p) hM s2
        rw [if_neg h3, if_neg h4, unS_1 h3 h4]
        rcases hr : cmS T L 0 (skp T L p) with ⟨r0, _ | x0⟩
        · obtain ⟨v0, Y', e1, e01, e2⟩ := k.2 _ hr
          rw [e1, mz_b2, if_pos (nar01 e01)]
          exact MRb_n ⟨_, _, rfl, e01, e2⟩
        · rw [k.1 _ _ hr, mz_b2, if_pos (nar01 (zI01 ((cmS_ev s2 hr).2 l)))]
          exact MRb_s rfl
  | succ e ih =>
    intro d n h1 h2 Y p hM hp
    obtain ⟨hX, h11, h12, hl⟩ := id hM
    have s1 := sk_ge (T := T) hp
    have s2 := sk_le (T := T) hp
    obtain ⟨n, rfl⟩ : ∃ n', n = n' + 1 := ⟨n - 1, by omega⟩
    have hU := ih (d + 1) n (by omega) (by omega)
    have hM1 : MS T L B w l (d + 1) (u2 Y 50 12 (nI (d + 1))) rv := MS_d hM
    rw [fX12_unit]
    unfold fX12_unitb
    rw [m_look hT hX hp, mz_b2, m_goes h11 h12 (by omega) (by omega), mz_b2, mz_b2, if_neg (show ¬ (1 : Int32) = 0 by decide), if_neg (show ¬ (1 : Int32) = 0 by decide)]
    by_cases h3 : ch T L (skp T L p) = 33
    · have hlt := ch_skl (c := 33) (by omega) h3
      have k := hU _ (skp T L p + 1) hM1 (by omega)
      rw [if_pos h3]
      rcases hr : unS T L e (skp T L p + 1) with ⟨r0, _ | x0⟩
      · obtain ⟨v0, Y', e1, e01, e2⟩ := k.2 _ hr
        rw [unS_2 h3 hr, e1, mz_b2, mz_lt]
        refine MRb_n ?_
        split
        · exact ⟨_, _, rfl, Or.inr rfl, FlM_u (FlM_d e2)⟩
        · exact ⟨_, _, rfl, Or.inl rfl, FlM_u (FlM_d e2)⟩
      · have hbo := (unS_ev (T := T) (L := L) e _ _ _ (by omega) hr).2 l
        rw [unS_3 h3 hr, k.1 _ _ hr, mz_b2, mz_lt, m_out h12 (by omega)]
        refine MRb_s ?_
        show _ = some (zI (1 - x0.2 l), mP Y r0)
        rcases hbo with hbo | hbo
        · rw [if_pos (by rw [hbo]; decide +kernel), hbo]; congr 2
        · rw [if_neg (by rw [hbo]; decide +kernel), hbo]; congr 2
    · by_cases h4 : ch T L (skp T L p) = 40
      · have hlt := ch_skl (c := 40) (by omega) h4
        have hE1 : ∀ p r y, p ≤ L → unS T L e p = (r, some y) → BoO y := fun p r y hp h => (unS_ev e p r y hp h).2
        have hE2 : ∀ p r y, p ≤ L → trS T L (unS T L e) p = (r, some y) → BoO y := fun p r y hp h => (seS_bo (m := 6 + 2 * e) (m1 := 5 + 2 * e) (fun c h => Or.inl (o4_s c h)) (unS_ev e) (by omega) (by omega) p r y hp h).2
        have hE3 : ∀ p r y, p ≤ L → coS T L (unS T L e) p = (r, some y) → BoO y := fun p r y hp h => (seS_bo (m := 7 + 2 * e) (m1 := 6 + 2 * e) (fun c h => Or.inr (o5_s c h)) (seS_bo (m1 := 5 + 2 * e) (fun c h => Or.inl (o4_s c h)) (unS_ev e) (by omega) (by omega)) (by omega) (by omega) p r y hp h).2
        have k := m_cond hT (m_part hT hU (unS_ok e) hE1) (trS_ok e) hE2 _ (skp T L p + 1) hM1 (by omega)
        rw [if_neg h3, if_pos h4]
        rcases hr : coS T L (unS T L e) (skp T L p + 1) with ⟨r0, _ | x0⟩
        · obtain ⟨v0, Y', e1, e01, e2⟩ := k.2 _ hr
          have hr0 := (coS_ok (T := T) (L := L) e (skp T L p + 1) (by omega)).1 _ hr
          rw [unS_4 h4 hr, e1, mz_b2, m_takes2 (FlM_11 e2 (by omega)), mz_b2, if_pos rfl]
          exact MRb_n ⟨_, _, rfl, Or.inl rfl, FlM_d e2⟩
        · have e1 := k.1 _ _ hr
          obtain ⟨b1, b2, b3⟩ := (coS_ok (T := T) (L := L) e (skp T L p + 1) (by omega)).2 _ _ hr
          rw [unS_5 h4 hr, e1, mz_b2, show (41 : Int32) = nI 41 from rfl, m_takes hT hM1.1 hM1.2.1 b2 (by omega)]
          by_cases h5 : ch T L (skp T L r0) = nI 41
          · rw [if_pos h5, if_pos h5, mz_b2, if_neg (show ¬ (1 : Int32) = 0 by decide), mz_lt, m_out h12 (by omega), if_pos (nar01 (zI01 (hE3 _ _ _ (by omega) hr l)))]
            exact MRb_s rfl
          · rw [if_neg h5, if_neg h5, mz_b2, if_pos rfl]
            exact MRb_n ⟨_, _, rfl, Or.inl rfl, FlM_d FlM_F⟩
      · have k := m_cm (rv := rv) (B := B) (w := w) hT hi h1 Y (skp T L p) hM s2
        rw [if_neg h3, if_neg h4, unS_1 h3 h4]
        rcases hr : cmS T L (e + 1) (skp T L p) with ⟨r0, _ | x0⟩
        · obtain ⟨v0, Y', e1, e01, e2⟩ := k.2 _ hr
          rw [e1, mz_b2, if_pos (nar01 e01)]
          exact MRb_n ⟨_, _, rfl, e01, e2⟩
        · rw [k.1 _ _ hr, mz_b2, if_pos (nar01 (zI01 ((cmS_ev s2 hr).2 l)))]
          exact MRb_s rfl
theorem un6 : ∀ p r y, p ≤ L → unS T L 6 p = (r, some y) → BoO y := fun p r y hp h => (unS_ev 6 p r y hp h).2
theorem tr6 : ∀ p r y, p ≤ L → trS T L (unS T L 6) p = (r, some y) → BoO y := fun p r y hp h => (trS_ev p r y hp h).2
theorem m_con6 (hT : OkT T L) (hi : i32 l) : MGb T L B w l 0 rv (coS T L (unS T L 6)) (fX12_condition (fX12_unit 12) 0 0) :=
  m_cond hT (m_part hT (m_unit hT hi 6 0 12 (by omega) (by omega)) (unS_ok 6) un6) (trS_ok 6) tr6
/-- a condition whose first sum has been read -/
theorem m_conb (hT : OkT T L) (hi : i32 l) (hM : MS T L B w l 0 Y rv) (hp : p ≤ L) (hpp : 0 < p) (hx : R32 (x.2 l)) (hx2 : EvO 16 x) : MRb l Y (cbS T L x p) (fX12_condition (fX12_unit 12) 1 (zI (x.2 l)) (mP Y p) rv) := by
  have hL := hT.1
  obtain ⟨fu, hfu, hfu2⟩ := fuel_g
  have hU := m_unit (rv := rv) (B := B) (w := w) hT hi 6 0 12 (by omega) (by omega)
  have k := m_cmp (e := 6) (x := x) hT hi (by omega) hM hp hx
  unfold fX12_condition fX12_part fX12_part_17 fX12_compares
  rw [hfu, if_neg (show ¬ (1 : Int32) = 0 by decide), if_neg (show ¬ (1 : Int32) = 0 by decide)]
  have hr0 : ∀ r o, cpS T L 6 x p = (r, o) → r ≤ L := by
    intro r o he
    by_cases h0 : skp T L p < L ∧ o3 (T (skp T L p)) = true
    · rcases hs : suS T L 6 (skp T L p + 1) with ⟨r9, _ | x9⟩
      · rw [cpS_n h0 hs] at he
        have := (suS_ok (T := T) (L := L) 6 (skp T L p + 1) (by omega)).1 _ hs
        have := (Prod.mk.inj he).1
        omega
      · rw [cpS_s h0 hs] at he
        have := (suS_ok (T := T) (L := L) 6 (skp T L p + 1) (by omega)).2 _ _ hs
        have := (Prod.mk.inj he).1
        omega
    · rw [cpS_e h0] at he
      have := (Prod.mk.inj he).1
      have s1 := sk_ge (T := T) hp
      have s2 := sk_le (T := T) hp
      omega
  rcases h1 : cpS T L 6 x p with ⟨r0, _ | x0⟩
  · obtain ⟨v0, Y', e1, e01, e2⟩ := k.2 _ h1
    have hn := FlM_11 e2 (by have := hr0 _ _ h1; omega)
    obtain ⟨n2, rfl⟩ : ∃ n2, fu = n2 + 1 := ⟨fu - 1, by omega⟩
    rw [cbS_1 h1, e1, mz_b2, fX12_part_18, if_neg (by rw [qN1]; exact hn), if_pos (nar01 e01), mz_b2, fX12_condition_7, if_neg (by rw [qN1]; exact hn), if_pos (nar01 e01)]
    exact MRb_n ⟨_, _, rfl, e01, e2⟩
  · have e1 := k.1 _ _ h1
    have hb := hr0 _ _ h1
    have ev := cpS_ev (n := 17) hx2 h1 (by omega) (by omega)
    have kt := m_part_l hT hU (unS_ok 6) un6 hM fu 300 x0 r0 hb (by omega) (by omega) ev.2
    rw [e1, mz_b2]
    rcases h2 : lpS T L o4 (unS T L 6) 300 x0 r0 with ⟨r2, _ | x2⟩
    · obtain ⟨v0, Y', f1, f01, f2⟩ := kt.2 _ h2
      have hle : r2 ≤ L := lp_none h2 (unS_ok 6) hb
      have hn := FlM_11 f2 (by omega)
      obtain ⟨n2, hn2⟩ : ∃ n2, fu = n2 + 1 := ⟨fu - 1, by omega⟩
      rw [cbS_2 h1 h2, f1, mz_b2, hn2, fX12_condition_7, if_neg (by rw [qN1]; exact hn), if_pos (nar01 f01)]
      exact MRb_n ⟨_, _, rfl, f01, f2⟩
    · have f1 := kt.1 _ _ h2
      have hle : r2 ≤ L := lp_some h2 (unS_ok 6) hb
      have ev2 := lpS_bo (m := 18) (m1 := 17) (fun c h => Or.inl (o4_s c h)) (unS_ev 6) (by omega) (by omega) ⟨EvO_up ev.1 (by omega), ev.2⟩ h2
      rw [cbS_3 h1 h2, f1, mz_b2]
      exact m_cond_l hT (m_part hT hU (unS_ok 6) un6) (trS_ok 6) tr6 hM fu 300 x2 r2 hle (by omega) (by omega) ev2.2
end LU
