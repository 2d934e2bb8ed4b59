/-! laws: the model's clauses, and a whole law -/
def tru (c : CL) (l : Nat → Int) : Prop := match c with
  | (none, _) => True
  | (some y, _) => y.2 l ≠ 0
noncomputable def fdM (l : Nat → Int) (Y : Tb) (c : CL) : Tb := match c with
  | (none, x) => if Y 50 17 = 0 then u2 (u2 Y 50 17 1) 50 14 (zI (x.2 l)) else Y
  | (some y, x) => if Y 50 17 = 0 then (if y.2 l = 0 then Y else u2 (u2 Y 50 17 1) 50 14 (zI (x.2 l))) else Y
noncomputable def fdL (l : Nat → Int) : Tb → List CL → Tb
  | Y, [] => Y
  | Y, c :: cs => fdL l (fdM l Y c) cs
/-- a fault, with what was found before it -/
def FlN (Y : Tb) (r : Nat) (Y' : Tb) : Prop := Y' 50 11 = nI r ∧ Fr [50] Y Y' ∧ F5 [10, 11, 12, 14, 17] Y Y'
def MC (l : Nat → Int) (Y : Tb) (res : Nat × Option CL) (out : Option Tb) : Prop := (∀ r c, res = (r, some c) → out = some (mP (fdM l Y c) r)) ∧ (∀ r, res = (r, none) → ∃ Y', out = some Y' ∧ FlN Y r Y')
section LV
variable {Y Y' Y'' j : Tb} {rv : Nat → Nat → Option Nat} {T : Nat → Nat} {L B w p q r n d e m k c z : Nat} {x y : VL} {v : Int32} {l : Nat → Int} {cl : CL} {cls : List CL}
theorem FlN_m (h : FlM Y r Y') : FlN Y r Y' := ⟨h.1, h.2.1, F5_w (by decide) h.2.2⟩
theorem MC_n {out : Option Tb} (h : ∃ Y', out = some Y' ∧ FlN Y r Y') : MC l Y (r, none) out := ⟨fun r x e => by have := (Prod.mk.inj e).2; simp at this, fun r' e => by rw [← (Prod.mk.inj e).1]; exact h⟩
theorem MC_s {out : Option Tb} (h : out = some (mP (fdM l Y cl) r)) : MC l Y (r, some cl) out := ⟨fun r' x' e => by rw [← (Prod.mk.inj e).1, ← Option.some.inj (Prod.mk.inj e).2]; exact h, fun r' e => by have := (Prod.mk.inj e).2; simp at this⟩
theorem fd_fr : Fr [50] Y (fdM l Y cl) ∧ F5 [14, 17] Y (fdM l Y cl) := by
  have key : ∀ x : VL, Fr [50] Y (u2 (u2 Y 50 17 1) 50 14 (zI (x.2 l))) ∧ F5 [14, 17] Y (u2 (u2 Y 50 17 1) 50 14 (zI (x.2 l))) := fun x => ⟨Fr_t Fr_u Fr_u, F5_t (F5_w (by decide) F5_u) (F5_w (by decide) F5_u)⟩
  rcases cl with ⟨_ | y, x⟩
  · show Fr [50] Y (if Y 50 17 = 0 then u2 (u2 Y 50 17 1) 50 14 (zI (x.2 l)) else Y) ∧ F5 [14, 17] Y (if Y 50 17 = 0 then u2 (u2 Y 50 17 1) 50 14 (zI (x.2 l)) else Y)
    split
    · exact key x
    · exact ⟨Fr_r _ _, F5_r _ _⟩
  · show Fr [50] Y (if Y 50 17 = 0 then (if y.2 l = 0 then Y else u2 (u2 Y 50 17 1) 50 14 (zI (x.2 l))) else Y) ∧ F5 [14, 17] Y (if Y 50 17 = 0 then (if y.2 l = 0 then Y else u2 (u2 Y 50 17 1) 50 14 (zI (x.2 l))) else Y)
    split
    · split
      · exact ⟨Fr_r _ _, F5_r _ _⟩
      · exact key x
    · exact ⟨Fr_r _ _, F5_r _ _⟩
theorem MS_fd (h : MS T L B w l d Y rv) : MS T L B w l d (fdM l Y cl) rv := by
  obtain ⟨⟨h1, h2, h3, h4, h5, h6⟩, g1, g2, g3⟩ := h
  obtain ⟨f1, f2⟩ := fd_fr (Y := Y) (l := l) (cl := cl)
  refine ⟨⟨by rw [f2 8 (by decide)]; exact h1, by rw [f2 9 (by decide)]; exact h2, h3, h4, h5, ?_⟩, by rw [f2 11 (by decide)]; exact g1, by rw [f2 12 (by decide)]; exact g2, fun z hz => by rw [f1 54 (by decide)]; exact g3 z hz⟩
  rw [f1 w (by simp; omega)]
  exact h6
theorem FlN_fd (h : FlN (fdM l Y cl) r Y') : FlN Y r Y' := by
  obtain ⟨f1, f2⟩ := fd_fr (Y := Y) (l := l) (cl := cl)
  exact ⟨h.1, Fr_t f1 h.2.1, F5_t (F5_w (by decide) f2) h.2.2⟩
theorem m_134 (h11 : Y 50 11 = NN) (h13 : Y 50 13 = nI 121) (hx : (cl.1 = none ∧ v = 1) ∨ ∃ y, cl.1 = some y ∧ v = zI (y.2 l) ∧ (y.2 l = 0 ∨ y.2 l = 1)) : fX12_clause_134 121 v (zI (cl.2.2 l)) (mP Y r) rv = some (mP (fdM l Y cl) r) := by
  unfold fX12_clause_134
  rw [mP_n (by omega), h11, if_pos qN1.symm, mP_n (by omega), mP_n (by omega), h13, if_pos (show (121 : Int32) = nI 121 from rfl)]
  rcases cl with ⟨_ | y, x⟩
  · rcases hx with ⟨_, rfl⟩ | ⟨y, h, _⟩
    · show _ = some (mP (if Y 50 17 = 0 then u2 (u2 Y 50 17 1) 50 14 (zI (x.2 l)) else Y) r)
      by_cases h : Y 50 17 = 0
      · rw [if_pos h, if_pos h, if_neg (show ¬ (1 : Int32) = 0 by decide), mz_lt, mz_lt, mP_c (by omega), mP_c (by omega)]
      · rw [if_neg h, if_neg h]
    · simp at h
  · rcases hx with ⟨h, _⟩ | ⟨y', h, rfl, hb⟩
    · simp at h
    · have := Option.some.inj h
      subst this
      show _ = some (mP (if Y 50 17 = 0 then (if y.2 l = 0 then Y else u2 (u2 Y 50 17 1) 50 14 (zI (x.2 l))) else Y) r)
      by_cases h : Y 50 17 = 0
      · rw [if_pos h, if_pos h]
        by_cases h0 : y.2 l = 0
        · rw [if_pos ((zI_0 hb).mpr h0), if_pos h0]
        · rw [if_neg (fun e => h0 ((zI_0 hb).mp e)), if_neg h0, mz_lt, mz_lt, mP_c (by omega), mP_c (by omega)]
      · rw [if_neg h, if_neg h]
theorem among5 : ∀ t, t < 256 → (fnC (fun z => aCh 5 (nI z)) (nI t) 1 0).isSome = decide (t = 121) := by decide +kernel
theorem among5N : (fnC (fun z => aCh 5 (nI z)) NN 1 0).isSome = false := by decide +kernel
theorem len5 : aLen.getD 5 0 = 1 := by decide +kernel
theorem m_y (hT : OkT T L) : fX12_isAmong 5 (ch T L p) = some (if ch T L p = 121 then 1 else 0) := by
  rw [m_isAmong (by omega), len5]
  by_cases h : p < L
  · have ht := (hT.2 p h).2
    rw [ch_in h, among5 _ ht]
    by_cases h2 : T p = 121
    · rw [if_pos (decide_eq_true h2), if_pos (show nI (T p) = 121 by rw [h2]; rfl)]
    · rw [if_neg (by simp [h2]), if_neg (show ¬ nI (T p) = 121 from fun e => h2 ((nI_eq (by omega) (by omega)).mp (show nI (T p) = nI 121 from e)))]
  · rw [ch_out (by omega), among5N, if_neg (by decide), if_neg (by decide)]
theorem m_guard (hT : OkT T L) (hi : i32 l) (hM : MS T L B w l 0 Y rv) (h13 : Y 50 13 = nI 121) (hr : r ≤ L) (hy : y.2 l = 0 ∨ y.2 l = 1) : MC l Y (guS T L y r) (bn2 (fX12_takes 63 (mP Y r) rv) fun v36 i37 => if v36 = 0 then (some (i37)) else (bn2 (fX12_sum 12 i37 rv) fun v39 i40 => fX12_clause_134 121 (zI (y.2 l)) v39 i40 rv)) := by
  have hL := hT.1
  obtain ⟨hX, h11, h12, hl⟩ := id hM
  have s1 := sk_ge (T := T) hr
  have s2 := sk_le (T := T) hr
  rw [show (63 : Int32) = nI 63 from rfl, m_takes hT hX h11 hr (by omega)]
  by_cases h : ch T L (skp T L r) = nI 63
  · have hlt := ch_skl (c := 63) (by omega) h
    have k := m_sum (rv := rv) (B := B) (w := w) hT hi 6 0 12 (by omega) (by omega) Y (skp T L r + 1) hM (by omega)
    rw [if_pos h, mz_b2, if_neg (show ¬ (1 : Int32) = 0 by decide)]
    rcases h2 : suS T L 6 (skp T L r + 1) with ⟨q, _ | x⟩
    · obtain ⟨v0, Y', e1, e2⟩ := k.2 _ h2
      have hq := (suS_ok (T := T) (L := L) 6 (skp T L r + 1) (by omega)).1 _ h2
      rw [guS_n h h2, e1, mz_b2]
      unfold fX12_clause_134
      rw [if_neg (by rw [qN1]; exact FlM_11 e2 (by omega))]
      exact MC_n ⟨_, rfl, FlN_m e2⟩
    · rw [guS_s h h2, k.1 _ _ h2, mz_b2]
      exact MC_s (m_134 (cl := (some y, x)) h11 h13 (Or.inr ⟨y, rfl, rfl, hy⟩))
  · rw [if_neg h, mz_b2, if_pos rfl, guS_e h]
    exact MC_n ⟨_, rfl, FlN_m FlM_F⟩
theorem m_clause (hT : OkT T L) (hi : i32 l) (hM : MS T L B w l 0 Y rv) (h13 : Y 50 13 = nI 121) (hp : p ≤ L) : MC l Y (clS T L p) (fX12_clause (mP Y p) rv) := by
  have hL := hT.1
  obtain ⟨hX, h11, h12, hl⟩ := id hM
  have s1 := sk_ge (T := T) hp
  have s2 := sk_le (T := T) hp
  unfold fX12_clause clS
  rw [m_look hT hX hp, mz_b2, m_y hT, mz_b1]
  by_cases h : ch T L (skp T L p) = 121
  · have hlt := ch_skl (c := 121) (by omega) h
    have s3 := sk_ge (T := T) (L := L) (p := skp T L p + 1) (by omega)
    have s4 := sk_le (T := T) (L := L) (p := skp T L p + 1) (by omega)
    rw [if_pos h, if_pos h, if_neg (show ¬ (1 : Int32) = 0 by decide), mz_lt, mP_at, show nI (skp T L p) + 1 = nI (skp T L p + 1) from nI_1 _, mP_2, show (58 : Int32) = nI 58 from rfl, m_takes hT hX h11 (by omega) (by omega), h]
    by_cases h2 : ch T L (skp T L (skp T L p + 1)) = nI 58
    · have hlt2 := ch_skl (c := 58) (by omega) h2
      have s5 := sk_ge (T := T) (L := L) (p := skp T L (skp T L p + 1) + 1) (by omega)
      have s6 := sk_le (T := T) (L := L) (p := skp T L (skp T L p + 1) + 1) (by omega)
      rw [if_pos h2, if_pos h2, mz_b2, if_neg (show ¬ (1 : Int32) = 0 by decide), m_look hT hX (by omega), mz_b2]
      generalize hq : skp T L (skp T L (skp T L p + 1) + 1) = Q at *
      by_cases h3 : ch T L Q = 33 ∨ ch T L Q = 40
      · have k := m_con6 (rv := rv) (B := B) (w := w) hT hi Y Q hM s6
        have key : MC l Y (c3S T L Q) (fX12_clause_64 121 (mP Y Q) rv) := by
          unfold fX12_clause_64
          rcases h4 : coS T L (unS T L 6) Q with ⟨r, _ | y⟩
          · obtain ⟨v0, Y', e1, e01, e2⟩ := k.2 _ h4
            have hr := (coS_ok (T := T) (L := L) 6 Q s6).1 _ h4
            rw [c3S_1 h3 h4, e1, mz_b2, m_takes2 (FlM_11 e2 (by omega)), mz_b2, if_pos rfl]
            exact MC_n ⟨_, rfl, FlN_m e2⟩
          · rw [c3S_2 h3 h4, k.1 _ _ h4, mz_b2]
            exact m_guard hT hi hM h13 ((coS_ok (T := T) (L := L) 6 Q s6).2 _ _ h4).2.1 ((coS_ev s6 h4).2 l)
        rcases h3 with h3 | h3
        · rw [if_pos h3]
          exact key
        · rw [if_neg (show ¬ ch T L Q = 33 by rw [h3]; decide), if_pos h3]
          exact key
      · have k := m_sum (rv := rv) (B := B) (w := w) hT hi 6 0 12 (by omega) (by omega) Y Q hM s6
        rw [if_neg (fun e => h3 (Or.inl e)), if_neg (fun e => h3 (Or.inr e))]
        rcases h4 : suS T L 6 Q with ⟨r, _ | x⟩
        · obtain ⟨v0, Y', e1, e2⟩ := k.2 _ h4
          have hr := (suS_ok (T := T) (L := L) 6 Q s6).1 _ h4
          have hn := FlM_11 e2 (by omega)
          rw [c3S_3 h3 h4, e1, mz_b2, if_neg (by rw [qN1]; exact hn)]
          unfold fX12_clause_134
          rw [if_neg (by rw [qN1]; exact hn)]
          exact MC_n ⟨_, rfl, FlN_m e2⟩
        · obtain ⟨b1, b2, b3⟩ := (suS_ok (T := T) (L := L) 6 Q s6).2 _ _ h4
          have ev := suS_ev (T := T) (L := L) 6 _ _ _ s6 h4
          have t1 := sk_ge (T := T) b2
          have t2 := sk_le (T := T) b2
          rw [k.1 _ _ h4, mz_b2, mP_n (by omega), h11, if_pos qN1.symm, m_look hT hX b2, mz_b2, m_isS hT, mz_b1]
          by_cases h6 : skp T L r < L ∧ o3 (T (skp T L r)) = true
          · have kc := m_conb (x := x) hT hi hM t2 (by omega) (ev.1 l hi) ev
            rw [if_pos h6, if_neg (show ¬ (1 : Int32) = 0 by decide)]
            rcases h7 : cbS T L x (skp T L r) with ⟨r2, _ | y⟩
            · obtain ⟨v0, Y', e1, e01, e2⟩ := kc.2 _ h7
              have hr := (cbS_ok (T := T) (x := x) (p0 := Q) t2 (by omega) (by omega)).1 _ h7
              rw [c3S_5 h3 h4 h6 h7, e1, mz_b2, m_takes2 (FlM_11 e2 (by omega)), mz_b2, if_pos rfl]
              exact MC_n ⟨_, rfl, FlN_m e2⟩
            · rw [c3S_6 h3 h4 h6 h7, kc.1 _ _ h7, mz_b2]
              exact m_guard hT hi hM h13 ((cbS_ok (T := T) (x := x) (p0 := Q) t2 (by omega) (by omega)).2 _ _ h7).2.1 ((cbS_ev ev h7).2 l)
          · rw [if_neg h6, if_pos rfl, c3S_4 h3 h4 h6]
            exact MC_s (m_134 (cl := (none, x)) h11 h13 (Or.inl ⟨rfl, rfl⟩))
    · rw [if_neg h2, if_neg h2, mz_b2, if_pos rfl]
      exact MC_n ⟨_, rfl, FlN_m FlM_F⟩
  · rw [if_neg h, if_neg h, if_pos rfl, m_fails h11, mz_b2]
    exact MC_n ⟨_, rfl, FlN_m FlM_F⟩
/-- the clauses of a law, one behind the other -/
theorem m_lw (hT : OkT T L) (hi : i32 l) {w1 : Nat} : ∀ m n Y p, MS T L B w l 0 Y rv → Y 50 13 = nI 121 → p ≤ L → L - p < m → L - p + 1 < n →
    (∀ r cs, lwS T L m p = (r, some cs) → (bn1 (fX12_clause (mP Y p) rv) fun i8 => fX12_goThrough_32 w1 n i8 rv) = some (mP (fdL l Y cs) r, rv)) ∧ (∀ r, lwS T L m p = (r, none) → ∃ Y', (bn1 (fX12_clause (mP Y p) rv) fun i8 => fX12_goThrough_32 w1 n i8 rv) = some (Y', rv) ∧ FlN Y r Y') := by
  have hL := hT.1
  intro m
  induction m with
  | zero => intro n Y p _ _ _ h; omega
  | succ m ih =>
    intro n Y p hM h13 hp h1 h2
    obtain ⟨n, rfl⟩ : ∃ n', n = n' + 1 := ⟨n - 1, by omega⟩
    have k := m_clause (p := p) hT hi hM h13 hp
    have ko := clS_ok (T := T) hp
    rcases hc : clS T L p with ⟨r0, _ | cl⟩
    · obtain ⟨Y', e1, e2⟩ := k.2 _ hc
      have hr0 := ko.1 _ hc
      have hn : ¬ Y' 50 11 = NN := by rw [e2.1, mz_nm (by omega)]; exact fun e => e
      rw [lwS_1 hc, e1, mz_b1, fX12_goThrough_32, if_neg (by rw [qN1]; exact hn)]
      unfold fX12_goThrough_66
      rw [if_neg (by rw [qN1]; exact hn)]
      refine ⟨fun r y e => by have := (Prod.mk.inj e).2; simp at this, fun r e => ?_⟩
      rw [← (Prod.mk.inj e).1]
      exact ⟨Y', rfl, e2⟩
    · obtain ⟨b1, b2, b3⟩ := ko.2 _ _ hc
      have t1 := sk_ge (T := T) b2
      have t2 := sk_le (T := T) b2
      have hM1 : MS T L B w l 0 (fdM l Y cl) rv := MS_fd hM
      obtain ⟨hX, h11, h12, hl⟩ := id hM1
      have h13' : fdM l Y cl 50 13 = nI 121 := by rw [(fd_fr (Y := Y) (l := l) (cl := cl)).2 13 (by decide)]; exact h13
      rw [k.1 _ _ hc, mz_b1, fX12_goThrough_32, mP_n (by omega), h11, if_pos qN1.symm, m_look hT hX b2, mz_b2]
      by_cases h7 : ch T L (skp T L r0) = 59
      · have hlt := ch_skl (c := 59) (by omega) h7
        have kk := ih n (fdM l Y cl) (skp T L r0 + 1) hM1 h13' (by omega) (by omega) (by omega)
        rw [if_pos h7, mz_lt, mP_at, show nI (skp T L r0) + 1 = nI (skp T L r0 + 1) from nI_1 _, mP_2]
        rcases h8 : lwS T L m (skp T L r0 + 1) with ⟨q, _ | cls⟩
        · rw [lwS_4 hc (by omega) h7 h8]
          refine ⟨fun r y e => by have := (Prod.mk.inj e).2; simp at this, fun r e => ?_⟩
          rw [← (Prod.mk.inj e).1]
          obtain ⟨Y', f1, f2⟩ := kk.2 _ h8
          exact ⟨Y', f1, FlN_fd f2⟩
        · rw [lwS_5 hc (by omega) h7 h8]
          refine ⟨fun r y e => ?_, fun r e => by have := (Prod.mk.inj e).2; simp at this⟩
          rw [← (Prod.mk.inj e).1, ← Option.some.inj (Prod.mk.inj e).2]
          exact kk.1 _ _ h8
      · rw [if_neg h7]
        unfold fX12_goThrough_66
        rw [mP_n (by omega), h11, if_pos qN1.symm, m_look hT hX t2, sk_id b2, mz_b2, qN1]
        by_cases h6 : L ≤ skp T L r0
        · rw [if_pos ((ch_N hT).mpr h6), lwS_2 hc h6]
          refine ⟨fun r y e => ?_, fun r e => by have := (Prod.mk.inj e).2; simp at this⟩
          rw [← (Prod.mk.inj e).1, ← Option.some.inj (Prod.mk.inj e).2]
          rfl
        · rw [if_neg (fun e => h6 ((ch_N hT).mp e)), m_fails h11, mz_b2, lwS_3 hc h6 h7]
          refine ⟨fun r y e => by have := (Prod.mk.inj e).2; simp at this, fun r e => ?_⟩
          rw [← (Prod.mk.inj e).1]
          exact ⟨_, rfl, FlN_fd (FlN_m FlM_F)⟩
theorem fdL_fr : ∀ cs Y, Fr [50] Y (fdL l Y cs) ∧ F5 [14, 17] Y (fdL l Y cs) := by
  intro cs
  induction cs with
  | nil => intro Y; exact ⟨Fr_r _ _, F5_r _ _⟩
  | cons c cs ih =>
    intro Y
    have k := ih (fdM l Y c)
    have f := fd_fr (Y := Y) (l := l) (cl := c)
    exact ⟨Fr_t f.1 k.1, F5_t f.2 k.2⟩
theorem fdL_1 : ∀ cs Y, Y 50 17 = 1 → fdL l Y cs 50 14 = Y 50 14 := by
  intro cs
  induction cs with
  | nil => intro Y _; rfl
  | cons c cs ih =>
    intro Y h
    have e : fdM l Y c = Y := by
      have hn : ¬ Y 50 17 = 0 := by rw [h]; decide
      rcases c with ⟨_ | y, x⟩
      · exact if_neg hn
      · exact if_neg hn
    show fdL l (fdM l Y c) cs 50 14 = _
    rw [e]
    exact ih Y h
theorem fdL_0 : ∀ cs Y, Y 50 17 = 0 → Y 50 14 = 0 → fdL l Y cs 50 14 = zI (lwV l cs) := by
  intro cs
  induction cs with
  | nil => intro Y _ h; rw [show fdL l Y [] = Y from rfl, h]; show (0 : Int32) = zI 0; decide +kernel
  | cons c cs ih =>
    intro Y h h'
    show fdL l (fdM l Y c) cs 50 14 = _
    have key : ∀ x : VL, fdL l (u2 (u2 Y 50 17 1) 50 14 (zI (x.2 l))) cs 50 14 = zI (x.2 l) := fun x => by
      rw [fdL_1 cs _ (by rw [u2n _ _ _ _ _ (by omega), u2e]), u2e]
    rcases c with ⟨_ | y, x⟩
    · rw [show fdM l Y (none, x) = u2 (u2 Y 50 17 1) 50 14 (zI (x.2 l)) from if_pos h, key x]
      rfl
    · by_cases h0 : y.2 l = 0
      · rw [show fdM l Y (some y, x) = Y by show (if Y 50 17 = 0 then (if y.2 l = 0 then Y else _) else Y) = Y; rw [if_pos h, if_pos h0], ih Y h h']
        show _ = zI (if y.2 l = 0 then lwV l cs else x.2 l)
        rw [if_pos h0]
      · rw [show fdM l Y (some y, x) = u2 (u2 Y 50 17 1) 50 14 (zI (x.2 l)) by show (if Y 50 17 = 0 then (if y.2 l = 0 then Y else _) else Y) = _; rw [if_pos h, if_neg h0], key x]
        show _ = zI (if y.2 l = 0 then lwV l cs else x.2 l)
        rw [if_neg h0]
/-- the state in which the model begins to read -/
def stM (j : Tb) (B L : Nat) : Tb := u2 (u2 (u2 (u2 j 50 8 (nI B)) 50 9 (nI L)) 50 10 0) 50 11 (-1)
def stL (j : Tb) (B L : Nat) : Tb := u2 (u2 (u2 (u2 (stM j B L) 50 13 121) 50 12 0) 50 17 0) 50 14 0
theorem m_starts : fX12_starts w (nI B) (nI L) j rv = some (stM j B L, u2 rv 50 5 (some (100 + w))) := rfl
theorem stM_fr : Fr [50] j (stM j B L) ∧ F5 [8, 9, 10, 11] j (stM j B L) := ⟨Fr_t Fr_u (Fr_t Fr_u (Fr_t Fr_u Fr_u)), F5_t (F5_w (by decide) F5_u) (F5_t (F5_w (by decide) F5_u) (F5_t (F5_w (by decide) F5_u) (F5_w (by decide) F5_u)))⟩
theorem stL_fr : Fr [50] j (stL j B L) ∧ F5 [8, 9, 10, 11, 12, 13, 14, 17] j (stL j B L) := ⟨Fr_t stM_fr.1 (Fr_t Fr_u (Fr_t Fr_u (Fr_t Fr_u Fr_u))), F5_t (F5_w (by decide) stM_fr.2) (F5_t (F5_w (by decide) F5_u) (F5_t (F5_w (by decide) F5_u) (F5_t (F5_w (by decide) F5_u) (F5_w (by decide) F5_u))))⟩
theorem TxM_st (hw : w = 51 ∨ w = 52) (hb : B + L ≤ bLen w) (h : ∀ k, k < L → j w (B + k) = bS (T k)) : TxM T L B w (stM j B L) (u2 rv 50 5 (some (100 + w))) := by
  refine ⟨rfl, rfl, ?_, hw, hb, fun k hk => ?_⟩
  · rw [u2e]
    show 100 + w - 100 = w
    omega
  · rw [stM_fr.1 w (by simp; omega)]
    exact h k hk
theorem M_law (hT : OkT T L) (hi : i32 l) (hw : w = 51 ∨ w = 52) (hb : B + L ≤ bLen w) (h : ∀ k, k < L → j w (B + k) = bS (T k)) (hl : LtM l j) :
    (∀ r cs, lwS T L 300 0 = (r, some cs) → ∃ j', fX12_goThrough w (nI B) (nI L) j rv = some (j', u2 rv 50 5 (some (100 + w))) ∧ j' 50 11 = NN ∧ j' 50 14 = zI (lwV l cs) ∧ Fr [50] j j' ∧ F5 [8, 9, 10, 11, 12, 13, 14, 17] j j') ∧ (∀ r, lwS T L 300 0 = (r, none) → ∃ j', fX12_goThrough w (nI B) (nI L) j rv = some (j', u2 rv 50 5 (some (100 + w))) ∧ j' 50 11 = nI r ∧ Fr [50] j j' ∧ F5 [8, 9, 10, 11, 12, 13, 14, 17] j j') := by
  have hL := hT.1
  obtain ⟨fu, hfu, hfu2⟩ := fuel_g
  have hX := TxM_st (rv := rv) hw hb h
  have hX2 : TxM T L B w (stL j B L) (u2 rv 50 5 (some (100 + w))) := TxM_u (TxM_u (TxM_u (TxM_u hX (by omega)) (by omega)) (by omega)) (by omega)
  have hM : MS T L B w l 0 (stL j B L) (u2 rv 50 5 (some (100 + w))) := ⟨hX2, rfl, rfl, fun z hz => by rw [stL_fr.1 54 (by decide)]; exact hl z hz⟩
  have k := m_lw (w1 := w) (rv := u2 rv 50 5 (some (100 + w))) hT hi 300 fu (stL j B L) 0 hM rfl (by omega) (by omega) (by omega)
  have e0 : mP (stL j B L) 0 = stL j B L := mP_i rfl
  rw [e0] at k
  have eg : fX12_goThrough w (nI B) (nI L) j rv = (bn1 (fX12_clause (stL j B L) (u2 rv 50 5 (some (100 + w)))) fun i8 => fX12_goThrough_32 w fu i8 (u2 rv 50 5 (some (100 + w)))) := by
    unfold fX12_goThrough
    rw [m_starts, mz_b2, hfu]
    rfl
  rw [eg]
  refine ⟨fun r cs e => ⟨_, k.1 r cs e, ?_, ?_, ?_, ?_⟩, fun r e => ?_⟩
  · rw [mP_n (by omega), (fdL_fr cs _).2 11 (by decide)]; rfl
  · rw [mP_n (by omega)]
    exact fdL_0 cs _ rfl rfl
  · exact Fr_t stL_fr.1 (Fr_t (fdL_fr cs _).1 Fr_u)
  · exact F5_t stL_fr.2 (F5_t (F5_w (by decide) (fdL_fr cs _).2) (F5_w (by decide) F5_u))
  · obtain ⟨Y', f1, f2⟩ := k.2 r e
    exact ⟨Y', f1, f2.1, Fr_t stL_fr.1 f2.2.1, F5_t stL_fr.2 (F5_w (by decide) f2.2.2)⟩
end LV
