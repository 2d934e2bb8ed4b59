/-! what an act does to a scene -/
def up (σ : Nat → Nat) (k v : Nat) : Nat → Nat := fun z => if z = k then v else σ z
theorem upe (σ : Nat → Nat) (k v : Nat) : up σ k v k = v := if_pos rfl
theorem upn (σ : Nat → Nat) (k v z : Nat) (h : z ≠ k) : up σ k v z = σ z := if_neg h
section AC
variable {i i' j : Tb} {K g : Nat → Nat → Nat} {σ : Nat → Nat} {q p o k b d t w v n : Nat}
theorem ScC_u {x : Int32} (h : ScC σ (i q)) (hx : x = nI v) : ScC (up σ k v) (u2 i q k x q) := by
  intro z hz
  by_cases e : z = k
  · subst e
    rw [u2e, upe, hx]
  · rw [u2n _ _ _ _ _ e, upn _ _ _ _ e]
    exact h z hz
theorem LgM_u {x : Int32} {dd : Nat → Int32} (h : LgM dd n (j w)) (hk : k < 55) : LgM dd n (u2 j w k x w) := by
  refine ⟨?_, fun a c ha hc => ?_⟩
  · rw [u2n _ _ _ _ _ (by omega)]
    exact h.1
  · rw [u2n _ _ _ _ _ (by omega)]
    exact h.2 a c ha hc
theorem OkS_dr (hb : OkS K b σ) (q : Nat) (hq : q < K 0 5) : σ (9 + q) < K 0 3 := (hb.2.2.1 q hq).1
/-- said -/
theorem OkS_say (hK : OkK K) (hb : OkS K b σ) (hp : p < K 0 3) (hc : sv K p 5 = 0) (hl : 0 < sv K p 1) (hv : v ≤ 2) : OkS K b (up σ (18 + p) v) := by
  have hm := hK.1
  have h5 := hK.2.2.1
  obtain ⟨a1, a2, a3, a4, a5, a6, a7, a8, a9, a10⟩ := hb
  refine ⟨fun x hx => ?_, fun x y hx hy => ?_, fun x hx => ?_, fun x y hx hy => ?_, fun x hx hx2 => ?_, fun x hx => ?_, fun x hx => ?_, fun x hx hx2 => ?_, ?_, ?_⟩
  · simp (disch := omega) only [upn]; exact a1 x hx
  · simp (disch := omega) only [upn]; exact a2 x y hx hy
  · simp (disch := omega) only [upn]; exact a3 x hx
  · simp (disch := omega) only [upn]; exact a4 x y hx hy
  · obtain ⟨y, hy, e⟩ := a5 x hx hx2
    exact ⟨y, hy, by simp (disch := omega) only [upn]; exact e⟩
  · by_cases e : x = p
    · subst e
      rw [upe]
      exact ⟨hv, fun _ => ⟨hc, hl⟩⟩
    · simp (disch := omega) only [upn]; exact a6 x hx
  · simp (disch := omega) only [upn]; exact a7 x hx
  · simp (disch := omega) only [upn]; exact a8 x hx hx2
  · simp (disch := omega) only [upn]; exact a9
  · simp (disch := omega) only [upn]; exact a10
theorem OkS_lie (hK : OkK K) (hb : OkS K b σ) (hp : p < K 0 3) (hv : v ≤ 1) : OkS K b (up σ (27 + p) v) := by
  have hm := hK.1
  have h5 := hK.2.2.1
  obtain ⟨a1, a2, a3, a4, a5, a6, a7, a8, a9, a10⟩ := hb
  refine ⟨fun x hx => ?_, fun x y hx hy => ?_, fun x hx => ?_, fun x y hx hy => ?_, fun x hx hx2 => ?_, fun x hx => ?_, fun x hx => ?_, fun x hx hx2 => ?_, ?_, ?_⟩
  · simp (disch := omega) only [upn]; exact a1 x hx
  · simp (disch := omega) only [upn]; exact a2 x y hx hy
  · simp (disch := omega) only [upn]; exact a3 x hx
  · simp (disch := omega) only [upn]; exact a4 x y hx hy
  · obtain ⟨y, hy, e⟩ := a5 x hx hx2
    exact ⟨y, hy, by simp (disch := omega) only [upn]; exact e⟩
  · simp (disch := omega) only [upn]; exact a6 x hx
  · by_cases e : x = p
    · subst e
      simp (disch := omega) only [upn, upe]
      exact ⟨hv, (a7 x hx).2⟩
    · simp (disch := omega) only [upn]; exact a7 x hx
  · simp (disch := omega) only [upn]; exact a8 x hx hx2
  · simp (disch := omega) only [upn]; exact a9
  · simp (disch := omega) only [upn]; exact a10
/-- woken, losing v -/
def rsS (σ : Nat → Nat) (p v : Nat) : Nat → Nat := up (up (up σ (27 + p) 0) (36 + p) (σ (36 + p) + 1)) (45 + p) (σ (45 + p) + v)
theorem OkS_rs (hK : OkK K) (hb : OkS K b σ) (hp : p < K 0 3) (hw : σ (36 + p) < b) (hv : v ≤ 99) : OkS K b (rsS σ p v) := by
  have hm := hK.1
  have h5 := hK.2.2.1
  obtain ⟨a1, a2, a3, a4, a5, a6, a7, a8, a9, a10⟩ := hb
  unfold rsS
  refine ⟨fun x hx => ?_, fun x y hx hy => ?_, fun x hx => ?_, fun x y hx hy => ?_, fun x hx hx2 => ?_, fun x hx => ?_, fun x hx => ?_, fun x hx hx2 => ?_, ?_, ?_⟩
  · simp (disch := omega) only [upn]; exact a1 x hx
  · simp (disch := omega) only [upn]; exact a2 x y hx hy
  · simp (disch := omega) only [upn]; exact a3 x hx
  · simp (disch := omega) only [upn]; exact a4 x y hx hy
  · obtain ⟨y, hy, e⟩ := a5 x hx hx2
    exact ⟨y, hy, by simp (disch := omega) only [upn]; exact e⟩
  · simp (disch := omega) only [upn]; exact a6 x hx
  · by_cases e : x = p
    · subst e
      simp (disch := omega) only [upn, upe]
      have := a7 x hx
      omega
    · simp (disch := omega) only [upn]; exact a7 x hx
  · simp (disch := omega) only [upn]; exact a8 x hx hx2
  · simp (disch := omega) only [upn]; exact a9
  · simp (disch := omega) only [upn]; exact a10
def swS (σ : Nat → Nat) (p o : Nat) : Nat → Nat := up (up σ p (σ o)) o (σ p)
theorem OkS_sw (hK : OkK K) (hb : OkS K b σ) (hp : p < K 0 3) (ho : o < K 0 3) : OkS K b (swS σ p o) := by
  have hm := hK.1
  have h5 := hK.2.2.1
  obtain ⟨a1, a2, a3, a4, a5, a6, a7, a8, a9, a10⟩ := hb
  unfold swS
  have key : ∀ x, x < K 0 3 → (up (up σ p (σ o)) o (σ p)) x = σ (if x = o then p else if x = p then o else x) := by
    intro x hx
    by_cases e : x = o
    · subst e
      rw [upe, if_pos rfl]
    · rw [upn _ _ _ _ e, if_neg e]
      by_cases e2 : x = p
      · subst e2
        rw [upe, if_pos rfl]
      · rw [upn _ _ _ _ e2, if_neg e2]
  refine ⟨fun x hx => ?_, fun x y hx hy => ?_, fun x hx => ?_, fun x y hx hy => ?_, fun x hx hx2 => ?_, fun x hx => ?_, fun x hx => ?_, fun x hx hx2 => ?_, ?_, ?_⟩
  · rw [key x hx]
    exact a1 _ (by split <;> (try split) <;> omega)
  · rw [key x hx, key y hy]
    intro e
    have := a2 _ _ (by split <;> (try split) <;> omega) (by split <;> (try split) <;> omega) e
    split at this <;> split at this <;> (try split at this) <;> (try split at this) <;> omega
  · simp (disch := omega) only [upn]; exact a3 x hx
  · simp (disch := omega) only [upn]; exact a4 x y hx hy
  · obtain ⟨y, hy, e⟩ := a5 x hx hx2
    exact ⟨y, hy, by simp (disch := omega) only [upn]; exact e⟩
  · simp (disch := omega) only [upn]; exact a6 x hx
  · simp (disch := omega) only [upn]; exact a7 x hx
  · simp (disch := omega) only [upn]; exact a8 x hx hx2
  · simp (disch := omega) only [upn]; exact a9
  · simp (disch := omega) only [upn]; exact a10
/-! the reference's rows -/
theorem ScM_said (hK : OkK K) (hb : OkS K b σ) (h : ScM K σ (j w)) (hp : p < K 0 3) : ScM K (up σ (18 + p) v) (u2 j w (6 * p + 2) (nI v) w) := by
  have hm := hK.1
  have h5 := hK.2.2.1
  refine ⟨fun x hx => ?_, fun x hx hc => ?_, fun x hx => ?_, ?_⟩
  · by_cases e : x = p
    · subst e
      simp (disch := omega) only [upn, upe, u2n, u2e]
      have := h.1 x hx
      exact ⟨this.1, trivial, this.2.2⟩
    · simp (disch := omega) only [upn, u2n]
      exact h.1 x hx
  · simp (disch := omega) only [u2n]
    exact h.2.1 x hx hc
  · have := OkS_dr hb x hx
    simp (disch := omega) only [upn, u2n]
    exact h.2.2.1 x hx
  · simp (disch := omega) only [upn, u2n]
    exact h.2.2.2
theorem ScM_asl (hK : OkK K) (hb : OkS K b σ) (h : ScM K σ (j w)) (hp : p < K 0 3) : ScM K (up σ (27 + p) v) (u2 j w (6 * p + 3) (nI v) w) := by
  have hm := hK.1
  have h5 := hK.2.2.1
  refine ⟨fun x hx => ?_, fun x hx hc => ?_, fun x hx => ?_, ?_⟩
  · by_cases e : x = p
    · subst e
      simp (disch := omega) only [upn, upe, u2n, u2e]
      have := h.1 x hx
      exact ⟨this.1, this.2.1, trivial, this.2.2.2⟩
    · simp (disch := omega) only [upn, u2n]
      exact h.1 x hx
  · simp (disch := omega) only [u2n]
    exact h.2.1 x hx hc
  · have := OkS_dr hb x hx
    simp (disch := omega) only [upn, u2n]
    exact h.2.2.1 x hx
  · simp (disch := omega) only [upn, u2n]
    exact h.2.2.2
theorem ScM_rs (hK : OkK K) (hb : OkS K b σ) (h : ScM K σ (j w)) (hp : p < K 0 3) : ScM K (rsS σ p v) (u2 (u2 (u2 j w (6 * p + 3) (nI 0)) w (6 * p + 4) (nI (σ (36 + p) + 1))) w (6 * p + 5) (nI (σ (45 + p) + v)) w) := by
  have hm := hK.1
  have h5 := hK.2.2.1
  unfold rsS
  refine ⟨fun x hx => ?_, fun x hx hc => ?_, fun x hx => ?_, ?_⟩
  · by_cases e : x = p
    · subst e
      simp (disch := omega) only [upn, upe, u2n, u2e]
      have := h.1 x hx
      exact ⟨this.1, this.2.1, trivial, trivial, trivial⟩
    · simp (disch := omega) only [upn, u2n]
      exact h.1 x hx
  · simp (disch := omega) only [u2n]
    exact h.2.1 x hx hc
  · have := OkS_dr hb x hx
    simp (disch := omega) only [upn, u2n]
    exact h.2.2.1 x hx
  · simp (disch := omega) only [upn, u2n]
    exact h.2.2.2
theorem ScM_sw (hK : OkK K) (hb : OkS K b σ) (h : ScM K σ (j w)) (hp : p < K 0 3) (ho : o < K 0 3) : ScM K (swS σ p o) (u2 (u2 j w (6 * p) (nI (σ o))) w (6 * o) (nI (σ p)) w) := by
  have hm := hK.1
  have h5 := hK.2.2.1
  unfold swS
  refine ⟨fun x hx => ?_, fun x hx hc => ?_, fun x hx => ?_, ?_⟩
  · have := h.1 x hx
    by_cases e : x = o
    · subst e
      simp (disch := omega) only [upn, upe, u2n, u2e]
      exact ⟨trivial, this.2⟩
    · by_cases e2 : x = p
      · subst e2
        simp (disch := omega) only [upn, upe, u2n, u2e]
        exact ⟨trivial, this.2⟩
      · simp (disch := omega) only [upn, u2n]
        exact this
  · simp (disch := omega) only [u2n]
    exact h.2.1 x hx hc
  · have := OkS_dr hb x hx
    simp (disch := omega) only [upn, u2n]
    exact h.2.2.1 x hx
  · simp (disch := omega) only [upn, u2n]
    exact h.2.2.2
theorem ScM_cof (hK : OkK K) (hb : OkS K b σ) (h : ScM K σ (j w)) : ScM K (up σ 54 v) (u2 j w 54 (nI v) w) := by
  have hm := hK.1
  have h5 := hK.2.2.1
  refine ⟨fun x hx => ?_, fun x hx hc => ?_, fun x hx => ?_, ?_⟩
  · simp (disch := omega) only [upn, u2n]
    exact h.1 x hx
  · simp (disch := omega) only [u2n]
    exact h.2.1 x hx hc
  · have := OkS_dr hb x hx
    simp (disch := omega) only [upn, u2n]
    exact h.2.2.1 x hx
  · rw [upe, u2e]
theorem OkS_cof (hK : OkK K) (hb : OkS K b σ) (hv : v ≤ 9) : OkS K b (up σ 54 v) := by
  have hm := hK.1
  have h5 := hK.2.2.1
  obtain ⟨a1, a2, a3, a4, a5, a6, a7, a8, a9, a10⟩ := hb
  refine ⟨fun x hx => ?_, fun x y hx hy => ?_, fun x hx => ?_, fun x y hx hy => ?_, fun x hx hx2 => ?_, fun x hx => ?_, fun x hx => ?_, fun x hx hx2 => ?_, ?_, ?_⟩
  · simp (disch := omega) only [upn]; exact a1 x hx
  · simp (disch := omega) only [upn]; exact a2 x y hx hy
  · simp (disch := omega) only [upn]; exact a3 x hx
  · simp (disch := omega) only [upn]; exact a4 x y hx hy
  · obtain ⟨y, hy, e⟩ := a5 x hx hx2
    exact ⟨y, hy, by simp (disch := omega) only [upn]; exact e⟩
  · simp (disch := omega) only [upn]; exact a6 x hx
  · simp (disch := omega) only [upn]; exact a7 x hx
  · simp (disch := omega) only [upn]; exact a8 x hx hx2
  · rw [upe]; exact hv
  · simp (disch := omega) only [upn]; exact a10
theorem OkS_bd (hK : OkK K) (hb : OkS K b σ) (hv : v ≤ b) : OkS K b (up σ 55 v) := by
  have hm := hK.1
  have h5 := hK.2.2.1
  obtain ⟨a1, a2, a3, a4, a5, a6, a7, a8, a9, a10⟩ := hb
  refine ⟨fun x hx => ?_, fun x y hx hy => ?_, fun x hx => ?_, fun x y hx hy => ?_, fun x hx hx2 => ?_, fun x hx => ?_, fun x hx => ?_, fun x hx hx2 => ?_, ?_, ?_⟩
  · simp (disch := omega) only [upn]; exact a1 x hx
  · simp (disch := omega) only [upn]; exact a2 x y hx hy
  · simp (disch := omega) only [upn]; exact a3 x hx
  · simp (disch := omega) only [upn]; exact a4 x y hx hy
  · obtain ⟨y, hy, e⟩ := a5 x hx hx2
    exact ⟨y, hy, by simp (disch := omega) only [upn]; exact e⟩
  · simp (disch := omega) only [upn]; exact a6 x hx
  · simp (disch := omega) only [upn]; exact a7 x hx
  · simp (disch := omega) only [upn]; exact a8 x hx hx2
  · simp (disch := omega) only [upn]; exact a9
  · rw [upe]; exact hv
theorem OkS_up (hb : OkS K b σ) {b' : Nat} (h : b ≤ b') : OkS K b' σ := by
  obtain ⟨a1, a2, a3, a4, a5, a6, a7, a8, a9, a10⟩ := hb
  exact ⟨a1, a2, a3, a4, a5, a6, fun x hx => ⟨(a7 x hx).1, Nat.le_trans (a7 x hx).2.1 h, (a7 x hx).2.2⟩, a8, a9, Nat.le_trans a10 h⟩
theorem ScM_bd (hK : OkK K) (h : ScM K σ (j w)) : ScM K (up σ 55 v) (j w) := by
  have hm := hK.1
  have h5 := hK.2.2.1
  refine ⟨fun x hx => ?_, h.2.1, fun x hx => ?_, ?_⟩
  · simp (disch := omega) only [upn]
    exact h.1 x hx
  · simp (disch := omega) only [upn]
    exact h.2.2.1 x hx
  · simp (disch := omega) only [upn]
    exact h.2.2.2
end AC
