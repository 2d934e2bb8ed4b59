/-! laws: what a text says: codes, and a worth -/
abbrev VL : Type := List Int × ((Nat → Int) → Int)
abbrev PR : Type := Nat × Option VL
def wi (v : Int) : Int := max (-1000000) (min 1000000 v)
def jn (c : Nat) (a b : Int) : Int := if c = 38 then (if a = 0 then 0 else if b = 0 then 0 else 1) else if c = 42 then wi (a * b) else if c = 47 then wi (if b = 0 then 0 else Int.tdiv a b) else if c = 60 then (if a < b then 1 else 0) else if c = 61 then (if a = b then 1 else 0) else if c = 62 then (if b < a then 1 else 0) else if c = 124 then (if a = 0 then (if b = 0 then 0 else 1) else 1) else if c = 43 then wi (a + b) else wi (a - b)
def jV (c : Nat) (x y : VL) : VL := (x.1 ++ y.1 ++ [-(c : Int)], fun l => jn c (x.2 l) (y.2 l))
def atS (T : Nat → Nat) (L : Nat) (g : Option (Nat → PR)) (p : Nat) : PR :=
  if ch T L (skp T L p) = 91 then (match g with
    | none => (skp T L p, none)
    | some g => (match g (skp T L p + 1) with
      | (r, none) => (r, none)
      | (r, some x) => if ch T L (skp T L r) = 93 then (skp T L r + 1, some x) else (skp T L r, none)))
  else (match fnC (fun z => aCh 2 (nI z)) (ch T L (skp T L p)) 6 0 with
    | some z => (skp T L p + 1, some ([-1 - (z : Int)], fun l => l z))
    | none => (match nmT T L 4 (skp T L p) with
      | (r, none) => (r, none)
      | (r, some v) => (r, some ([(v : Int)], fun _ => (v : Int)))))
def lpS (T : Nat → Nat) (L : Nat) (o : Nat → Bool) (g : Nat → PR) : Nat → VL → Nat → PR
  | 0, x, p => (p, some x)
  | n + 1, x, p => if skp T L p < L ∧ o (T (skp T L p)) = true then (match g (skp T L p + 1) with
      | (r, none) => (r, none)
      | (r, some y) => lpS T L o g n (jV (T (skp T L p)) x y) r)
    else (skp T L p, some x)
def seS (T : Nat → Nat) (L : Nat) (o : Nat → Bool) (g : Nat → PR) (p : Nat) : PR := match g p with
  | (r, none) => (r, none)
  | (r, some x) => lpS T L o g 300 x r
def o1 (c : Nat) : Bool := decide (c = 42 ∨ c = 47)
def o2 (c : Nat) : Bool := decide (c = 43 ∨ c = 45)
def o3 (c : Nat) : Bool := decide (c = 61 ∨ c = 60 ∨ c = 62)
def o4 (c : Nat) : Bool := decide (c = 38)
def o5 (c : Nat) : Bool := decide (c = 124)
def tmS (T : Nat → Nat) (L : Nat) (g : Option (Nat → PR)) : Nat → PR := seS T L o1 (atS T L g)
def s1S (T : Nat → Nat) (L : Nat) (g : Option (Nat → PR)) : Nat → PR := seS T L o2 (tmS T L g)
def suS (T : Nat → Nat) (L : Nat) : Nat → Nat → PR
  | 0 => s1S T L none
  | e + 1 => s1S T L (some (suS T L e))
def cpS (T : Nat → Nat) (L e : Nat) (x : VL) (p : Nat) : PR := if skp T L p < L ∧ o3 (T (skp T L p)) = true then (match suS T L e (skp T L p + 1) with
    | (r, none) => (r, none)
    | (r, some y) => (r, some (jV (T (skp T L p)) x y)))
  else (skp T L p, none)
def cmS (T : Nat → Nat) (L e p : Nat) : PR := match suS T L e p with
  | (r, none) => (r, none)
  | (r, some x) => cpS T L e x r
def trS (T : Nat → Nat) (L : Nat) (u : Nat → PR) : Nat → PR := seS T L o4 u
def coS (T : Nat → Nat) (L : Nat) (u : Nat → PR) : Nat → PR := seS T L o5 (trS T L u)
def ntV (x : VL) : VL := (x.1 ++ [-33], fun l => 1 - x.2 l)
def unS (T : Nat → Nat) (L : Nat) : Nat → Nat → PR
  | 0, p => if ch T L (skp T L p) = 33 ∨ ch T L (skp T L p) = 40 then (skp T L p, none) else cmS T L 0 (skp T L p)
  | e + 1, p => if ch T L (skp T L p) = 33 then (match unS T L e (skp T L p + 1) with
      | (r, none) => (r, none)
      | (r, some x) => (r, some (ntV x)))
    else if ch T L (skp T L p) = 40 then (match coS T L (unS T L e) (skp T L p + 1) with
      | (r, none) => (r, none)
      | (r, some x) => if ch T L (skp T L r) = 41 then (skp T L r + 1, some x) else (skp T L r, none))
    else cmS T L (e + 1) (skp T L p)
/-- a condition whose first sum has been read -/
def cbS (T : Nat → Nat) (L : Nat) (x : VL) (p : Nat) : PR := match cpS T L 6 x p with
  | (r, none) => (r, none)
  | (r, some y) => (match lpS T L o4 (unS T L 6) 300 y r with
    | (r, none) => (r, none)
    | (r, some z) => lpS T L o5 (trS T L (unS T L 6)) 300 z r)
/-- how codes run on a stack -/
def st1 (l : Nat → Int) (c : Int) (s s' : List Int) : Prop := (0 ≤ c ∧ c ≤ 9999 ∧ s' = c :: s) ∨ (∃ z : Nat, z < 6 ∧ c = -1 - (z : Int) ∧ s' = l z :: s) ∨ (c = -33 ∧ ∃ a t, s = a :: t ∧ (a = 0 ∨ a = 1) ∧ s' = (1 - a) :: t) ∨ (∃ (k : Nat) (a b : Int) (t : List Int), (k = 38 ∨ k = 42 ∨ k = 47 ∨ k = 60 ∨ k = 61 ∨ k = 62 ∨ k = 124 ∨ k = 43 ∨ k = 45) ∧ c = -(k : Int) ∧ s = b :: a :: t ∧ (-1000000 ≤ a ∧ a ≤ 1000000) ∧ (-1000000 ≤ b ∧ b ≤ 1000000) ∧ ((k = 38 ∨ k = 124) → (a = 0 ∨ a = 1) ∧ (b = 0 ∨ b = 1)) ∧ s' = jn k a b :: t)
def Rn (l : Nat → Int) : List Int → List Int → List Int → Prop
  | [], s, s' => s' = s
  | c :: cs, s, s' => s.length < 32 ∧ ∃ s1, st1 l c s s1 ∧ Rn l cs s1 s'
/-- what is true of a reader: where it ends, how many codes, what they are worth -/
def SpO (L : Nat) (g : Nat → PR) : Prop := ∀ p, p ≤ L → (∀ r, g p = (r, none) → r ≤ L) ∧ (∀ r x, g p = (r, some x) → p < r ∧ r ≤ L ∧ p + x.1.length ≤ r)
def i32 (l : Nat → Int) : Prop := ∀ z, -2147483648 ≤ l z ∧ l z < 2147483648
def mil (l : Nat → Int) : Prop := ∀ z, -1000000 ≤ l z ∧ l z ≤ 1000000
def EvO (m : Nat) (x : VL) : Prop := (∀ l, i32 l → -2147483648 ≤ x.2 l ∧ x.2 l < 2147483648) ∧ (∀ l, mil l → (-1000000 ≤ x.2 l ∧ x.2 l ≤ 1000000) ∧ ∀ s, s.length + m ≤ 32 → Rn l x.1 s (x.2 l :: s))
def BoO (x : VL) : Prop := ∀ l, x.2 l = 0 ∨ x.2 l = 1
section LP
variable {T : Nat → Nat} {L p r n e m k c z : Nat} {g : Nat → PR} {o : Nat → Bool} {x y x' : VL} {l : Nat → Int} {cs cs' s s' s'' : List Int}
theorem seS_n (h : g p = (r, none)) : seS T L o g p = (r, none) := by unfold seS; rw [h]
theorem seS_s (h : g p = (r, some x)) : seS T L o g p = lpS T L o g 300 x r := by unfold seS; rw [h]
theorem lpS_e (h : ¬ (skp T L p < L ∧ o (T (skp T L p)) = true)) : lpS T L o g (n + 1) x p = (skp T L p, some x) := by rw [lpS, if_neg h]
theorem lpS_n (h : skp T L p < L ∧ o (T (skp T L p)) = true) (hg : g (skp T L p + 1) = (r, none)) : lpS T L o g (n + 1) x p = (r, none) := by rw [lpS, if_pos h, hg]
theorem lpS_s (h : skp T L p < L ∧ o (T (skp T L p)) = true) (hg : g (skp T L p + 1) = (r, some y)) : lpS T L o g (n + 1) x p = lpS T L o g n (jV (T (skp T L p)) x y) r := by rw [lpS, if_pos h, hg]
theorem cpS_e (h : ¬ (skp T L p < L ∧ o3 (T (skp T L p)) = true)) : cpS T L e x p = (skp T L p, none) := by rw [cpS, if_neg h]
theorem cpS_n (h : skp T L p < L ∧ o3 (T (skp T L p)) = true) (hg : suS T L e (skp T L p + 1) = (r, none)) : cpS T L e x p = (r, none) := by rw [cpS, if_pos h, hg]
theorem cpS_s (h : skp T L p < L ∧ o3 (T (skp T L p)) = true) (hg : suS T L e (skp T L p + 1) = (r, some y)) : cpS T L e x p = (r, some (jV (T (skp T L p)) x y)) := by rw [cpS, if_pos h, hg]
theorem cmS_n (hg : suS T L e p = (r, none)) : cmS T L e p = (r, none) := by rw [cmS, hg]
theorem cmS_s (hg : suS T L e p = (r, some x)) : cmS T L e p = cpS T L e x r := by rw [cmS, hg]
theorem atS_0 (h : ch T L (skp T L p) = 91) : atS T L none p = (skp T L p, none) := by rw [atS, if_pos h]
theorem atS_1 (h : ch T L (skp T L p) = 91) (hg : g (skp T L p + 1) = (r, none)) : atS T L (some g) p = (r, none) := by
  rw [atS, if_pos h]
  show (match g (skp T L p + 1) with
      | (r, none) => (r, none)
      | (r, some x) => if ch T L (skp T L r) = 93 then (skp T L r + 1, some x) else (skp T L r, none)) = _
  rw [hg]
theorem atS_2 (h : ch T L (skp T L p) = 91) (hg : g (skp T L p + 1) = (r, some x)) : atS T L (some g) p = if ch T L (skp T L r) = 93 then (skp T L r + 1, some x) else (skp T L r, none) := by
  rw [atS, if_pos h]
  show (match g (skp T L p + 1) with
      | (r, none) => (r, none)
      | (r, some x) => if ch T L (skp T L r) = 93 then (skp T L r + 1, some x) else (skp T L r, none)) = _
  rw [hg]
theorem atS_3 {g : Option (Nat → PR)} (h : ¬ ch T L (skp T L p) = 91) (hz : fnC (fun z => aCh 2 (nI z)) (ch T L (skp T L p)) 6 0 = some z) : atS T L g p = (skp T L p + 1, some ([-1 - (z : Int)], fun l => l z)) := by unfold atS; rw [if_neg h, hz]
theorem atS_4 {g : Option (Nat → PR)} (h : ¬ ch T L (skp T L p) = 91) (hz : fnC (fun z => aCh 2 (nI z)) (ch T L (skp T L p)) 6 0 = none) (hn : nmT T L 4 (skp T L p) = (r, none)) : atS T L g p = (r, none) := by unfold atS; rw [if_neg h, hz]; dsimp only; rw [hn]
theorem atS_5 {g : Option (Nat → PR)} {v : Nat} (h : ¬ ch T L (skp T L p) = 91) (hz : fnC (fun z => aCh 2 (nI z)) (ch T L (skp T L p)) 6 0 = none) (hn : nmT T L 4 (skp T L p) = (r, some v)) : atS T L g p = (r, some ([(v : Int)], fun _ => (v : Int))) := by unfold atS; rw [if_neg h, hz]; dsimp only; rw [hn]
theorem ch91 : (91 : Int32) = nI 91 := rfl
theorem ch_skl (hc : c < 2 ^ 31) (h : ch T L (skp T L p) = nI c) : skp T L p < L := ch_lt hc h
theorem lt_let (h : fnC (fun z => aCh 2 (nI z)) (ch T L (skp T L p)) 6 0 = some z) : skp T L p < L ∧ z < 6 := by
  obtain ⟨_, e2, e3⟩ := fnC_lt 6 0 h
  refine ⟨?_, by omega⟩
  by_cases h1 : skp T L p < L
  · exact h1
  · rw [ch_out (by omega)] at e3
    exact absurd e3 ((by decide +kernel : ∀ z, z < 6 → ¬ aCh 2 (nI z) = NN) z (by omega))
theorem atS_ok {g : Option (Nat → PR)} (hg : ∀ g', g = some g' → SpO L g') : SpO L (atS T L g) := by
  intro p hp
  have s1 := sk_ge (T := T) hp
  have s2 := sk_le (T := T) hp
  by_cases h : ch T L (skp T L p) = 91
  · have hlt := ch_skl (c := 91) (by omega) h
    cases g with
    | none =>
      rw [atS_0 h]
      exact ⟨fun r e => by have := (Prod.mk.inj e).1; omega, fun r x e => by have := (Prod.mk.inj e).2; simp at this⟩
    | some g =>
      have hG := hg g rfl (skp T L p + 1) (by omega)
      rcases hr : g (skp T L p + 1) with ⟨r0, _ | x0⟩
      · rw [atS_1 h hr]
        exact ⟨fun r e => by have := (Prod.mk.inj e).1; have := hG.1 _ hr; omega, fun r x e => by have := (Prod.mk.inj e).2; simp at this⟩
      · rw [atS_2 h hr]
        obtain ⟨a1, a2, a3⟩ := hG.2 _ _ hr
        have s3 := sk_ge (T := T) a2
        have s4 := sk_le (T := T) a2
        by_cases h2 : ch T L (skp T L r0) = 93
        · have hl2 := ch_skl (c := 93) (by omega) h2
          rw [if_pos h2]
          refine ⟨fun r e => by have := (Prod.mk.inj e).2; simp at this, fun r x e => ?_⟩
          obtain ⟨e1, e2⟩ := Prod.mk.inj e
          have e3 := Option.some.inj e2
          subst e3
          omega
        · rw [if_neg h2]
          exact ⟨fun r e => by have := (Prod.mk.inj e).1; omega, fun r x e => by have := (Prod.mk.inj e).2; simp at this⟩
  · cases hz : fnC (fun z => aCh 2 (nI z)) (ch T L (skp T L p)) 6 0 with
    | some z =>
      have hlt := lt_let hz
      rw [atS_3 h hz]
      refine ⟨fun r e => by have := (Prod.mk.inj e).2; simp at this, fun r x e => ?_⟩
      obtain ⟨e1, e2⟩ := Prod.mk.inj e
      have e3 := Option.some.inj e2
      subst e3
      show p < r ∧ r ≤ L ∧ p + 1 ≤ r
      omega
    | none =>
      have hn := nmT_ok (T := T) (m := 4) s2
      rcases hr : nmT T L 4 (skp T L p) with ⟨r0, _ | v⟩
      · rw [atS_4 h hz hr]
        rw [hr] at hn
        exact ⟨fun r e => by have := (Prod.mk.inj e).1; have := hn.2.1; omega, fun r x e => by have := (Prod.mk.inj e).2; simp at this⟩
      · have hl := nmT_lt (T := T) (m := 4) (v := v) s2 (by omega) (by rw [hr])
        rw [atS_5 h hz hr]
        rw [hr] at hn hl
        refine ⟨fun r e => by have := (Prod.mk.inj e).2; simp at this, fun r x e => ?_⟩
        obtain ⟨e1, e2⟩ := Prod.mk.inj e
        have e3 := Option.some.inj e2
        subst e3
        have hn1 : r0 ≤ L := hn.2.1
        have hl1 : skp T L p < r0 := hl
        show p < r ∧ r ≤ L ∧ p + 1 ≤ r
        omega
theorem jV_len : (jV c x y).1.length = x.1.length + y.1.length + 1 := by
  show (x.1 ++ y.1 ++ [-(c : Int)]).length = _
  rw [List.length_append, List.length_append]
  rfl
theorem lpS_ok {p0 : Nat} (hg : SpO L g) : ∀ n x p, p ≤ L → p0 < p → p0 + x.1.length ≤ p → (∀ r, lpS T L o g n x p = (r, none) → r ≤ L) ∧ (∀ r y, lpS T L o g n x p = (r, some y) → p0 < r ∧ r ≤ L ∧ p0 + y.1.length ≤ r) := by
  intro n
  induction n with
  | zero =>
    intro x p hp h0 h1
    rw [lpS]
    refine ⟨fun r e => by have := (Prod.mk.inj e).2; simp at this, fun r y e => ?_⟩
    obtain ⟨e1, e2⟩ := Prod.mk.inj e
    have e3 := Option.some.inj e2
    subst e3
    omega
  | succ n ih =>
    intro x p hp h0 h1
    have s1 := sk_ge (T := T) hp
    have s2 := sk_le (T := T) hp
    by_cases h : skp T L p < L ∧ o (T (skp T L p)) = true
    · have hG := hg (skp T L p + 1) (by omega)
      rcases hr : g (skp T L p + 1) with ⟨r0, _ | x0⟩
      · rw [lpS_n h hr]
        exact ⟨fun r e => by have := (Prod.mk.inj e).1; have := hG.1 _ hr; omega, fun r x e => by have := (Prod.mk.inj e).2; simp at this⟩
      · rw [lpS_s h hr]
        obtain ⟨a1, a2, a3⟩ := hG.2 _ _ hr
        exact ih _ r0 a2 (by omega) (by rw [jV_len]; omega)
    · rw [lpS_e h]
      refine ⟨fun r e => by have := (Prod.mk.inj e).2; simp at this, fun r y e => ?_⟩
      obtain ⟨e1, e2⟩ := Prod.mk.inj e
      have e3 := Option.some.inj e2
      subst e3
      omega
theorem seS_ok (hg : SpO L g) : SpO L (seS T L o g) := by
  intro p hp
  have hG := hg p hp
  rcases hr : g p with ⟨r0, _ | x0⟩
  · rw [seS_n hr]
    exact ⟨fun r e => by have := (Prod.mk.inj e).1; have := hG.1 _ hr; omega, fun r x e => by have := (Prod.mk.inj e).2; simp at this⟩
  · rw [seS_s hr]
    obtain ⟨a1, a2, a3⟩ := hG.2 _ _ hr
    exact lpS_ok hg 300 x0 r0 a2 a1 a3
theorem suS_ok : ∀ e, SpO L (suS T L e) := by
  intro e
  induction e with
  | zero => exact seS_ok (seS_ok (atS_ok (fun g' h => by simp at h)))
  | succ e ih => exact seS_ok (seS_ok (atS_ok (fun g' h => by have := Option.some.inj h; rw [← this]; exact ih)))
theorem cpS_ok {p0 : Nat} (hp : p ≤ L) (h0 : p0 < p) (h1 : p0 + x.1.length ≤ p) : (∀ r, cpS T L e x p = (r, none) → r ≤ L) ∧ (∀ r y, cpS T L e x p = (r, some y) → p0 < r ∧ r ≤ L ∧ p0 + y.1.length ≤ r) := by
  have s1 := sk_ge (T := T) hp
  have s2 := sk_le (T := T) hp
  by_cases h : skp T L p < L ∧ o3 (T (skp T L p)) = true
  · have hG := suS_ok (T := T) (L := L) e (skp T L p + 1) (by omega)
    rcases hr : suS T L e (skp T L p + 1) with ⟨r0, _ | x0⟩
    · rw [cpS_n h hr]
      exact ⟨fun r e => by have := (Prod.mk.inj e).1; have := hG.1 _ hr; omega, fun r x e => by have := (Prod.mk.inj e).2; simp at this⟩
    · rw [cpS_s h hr]
      obtain ⟨a1, a2, a3⟩ := hG.2 _ _ hr
      refine ⟨fun r e => by have := (Prod.mk.inj e).2; simp at this, fun r y e => ?_⟩
      obtain ⟨e1, e2⟩ := Prod.mk.inj e
      have e3 := Option.some.inj e2
      subst e3
      rw [jV_len]
      omega
  · rw [cpS_e h]
    exact ⟨fun r e => by have := (Prod.mk.inj e).1; omega, fun r x e => by have := (Prod.mk.inj e).2; simp at this⟩
theorem cmS_ok : SpO L (cmS T L e) := by
  intro p hp
  have hG := suS_ok (T := T) (L := L) e p hp
  rcases hr : suS T L e p with ⟨r0, _ | x0⟩
  · rw [cmS_n hr]
    exact ⟨fun r e => by have := (Prod.mk.inj e).1; have := hG.1 _ hr; omega, fun r x e => by have := (Prod.mk.inj e).2; simp at this⟩
  · rw [cmS_s hr]
    obtain ⟨a1, a2, a3⟩ := hG.2 _ _ hr
    exact cpS_ok a2 a1 a3
theorem unS_0 (h : ch T L (skp T L p) = 33 ∨ ch T L (skp T L p) = 40) : unS T L 0 p = (skp T L p, none) := by rw [unS, if_pos h]
theorem unS_1 (h : ¬ ch T L (skp T L p) = 33) (h' : ¬ ch T L (skp T L p) = 40) : unS T L e p = cmS T L e (skp T L p) := by
  cases e with
  | zero => rw [unS, if_neg (fun e => e.elim h h')]
  | succ e => rw [unS, if_neg h, if_neg h']
theorem unS_2 (h : ch T L (skp T L p) = 33) (hg : unS T L e (skp T L p + 1) = (r, none)) : unS T L (e + 1) p = (r, none) := by rw [unS, if_pos h, hg]
theorem unS_3 (h : ch T L (skp T L p) = 33) (hg : unS T L e (skp T L p + 1) = (r, some x)) : unS T L (e + 1) p = (r, some (ntV x)) := by rw [unS, if_pos h, hg]
theorem n40 (h : ch T L (skp T L p) = 40) : ¬ ch T L (skp T L p) = 33 := by rw [h]; decide
theorem unS_4 (h : ch T L (skp T L p) = 40) (hg : coS T L (unS T L e) (skp T L p + 1) = (r, none)) : unS T L (e + 1) p = (r, none) := by rw [unS, if_neg (n40 h), if_pos h, hg]
theorem unS_5 (h : ch T L (skp T L p) = 40) (hg : coS T L (unS T L e) (skp T L p + 1) = (r, some x)) : unS T L (e + 1) p = if ch T L (skp T L r) = 41 then (skp T L r + 1, some x) else (skp T L r, none) := by rw [unS, if_neg (n40 h), if_pos h, hg]
theorem SpO_sk (hg : SpO L g) (hp : p ≤ L) : (∀ r, g (skp T L p) = (r, none) → r ≤ L) ∧ (∀ r x, g (skp T L p) = (r, some x) → p < r ∧ r ≤ L ∧ p + x.1.length ≤ r) := by
  have s1 := sk_ge (T := T) hp
  have h := hg (skp T L p) (sk_le hp)
  exact ⟨h.1, fun r x e => by have := h.2 r x e; omega⟩
theorem unS_ok : ∀ e, SpO L (unS T L e) := by
  intro e
  induction e with
  | zero =>
    intro p hp
    have s2 := sk_le (T := T) hp
    by_cases h : ch T L (skp T L p) = 33 ∨ ch T L (skp T L p) = 40
    · rw [unS_0 h]
      exact ⟨fun r e => by have := (Prod.mk.inj e).1; omega, fun r x e => by have := (Prod.mk.inj e).2; simp at this⟩
    · rw [unS_1 (fun e => h (Or.inl e)) (fun e => h (Or.inr e))]
      exact SpO_sk cmS_ok hp
  | succ e ih =>
    intro p hp
    have s1 := sk_ge (T := T) hp
    have s2 := sk_le (T := T) hp
    by_cases h : ch T L (skp T L p) = 33
    · have hlt := ch_skl (c := 33) (by omega) h
      have hG := ih (skp T L p + 1) (by omega)
      rcases hr : unS T L e (skp T L p + 1) with ⟨r0, _ | x0⟩
      · rw [unS_2 h hr]
        exact ⟨fun r e => by have := (Prod.mk.inj e).1; have := hG.1 _ hr; omega, fun r x e => by have := (Prod.mk.inj e).2; simp at this⟩
      · rw [unS_3 h hr]
        obtain ⟨a1, a2, a3⟩ := hG.2 _ _ hr
        refine ⟨fun r e => by have := (Prod.mk.inj e).2; simp at this, fun r y e => ?_⟩
        obtain ⟨e1, e2⟩ := Prod.mk.inj e
        have e3 := Option.some.inj e2
        subst e3
        have e4 : (ntV x0).1.length = x0.1.length + 1 := by
          show (x0.1 ++ [-33]).length = _
          rw [List.length_append]
          rfl
        omega
    · by_cases h2 : ch T L (skp T L p) = 40
      · have hlt := ch_skl (c := 40) (by omega) h2
        have hG := seS_ok (T := T) (o := o5) (seS_ok (T := T) (o := o4) ih) (skp T L p + 1) (by omega)
        rcases hr : coS T L (unS T L e) (skp T L p + 1) with ⟨r0, _ | x0⟩
        · rw [unS_4 h2 hr]
          exact ⟨fun r e => by have := (Prod.mk.inj e).1; have := hG.1 _ hr; omega, fun r x e => by have := (Prod.mk.inj e).2; simp at this⟩
        · rw [unS_5 h2 hr]
          obtain ⟨a1, a2, a3⟩ := hG.2 _ _ hr
          have s3 := sk_ge (T := T) a2
          have s4 := sk_le (T := T) a2
          by_cases h3 : ch T L (skp T L r0) = 41
          · have hl2 := ch_skl (c := 41) (by omega) h3
            rw [if_pos h3]
            refine ⟨fun r e => by have := (Prod.mk.inj e).2; simp at this, fun r x e => ?_⟩
            obtain ⟨e1, e2⟩ := Prod.mk.inj e
            have e3 := Option.some.inj e2
            subst e3
            omega
          · rw [if_neg h3]
            exact ⟨fun r e => by have := (Prod.mk.inj e).1; omega, fun r x e => by have := (Prod.mk.inj e).2; simp at this⟩
      · rw [unS_1 h h2]
        exact SpO_sk cmS_ok hp
theorem trS_ok (e : Nat) : SpO L (trS T L (unS T L e)) := seS_ok (unS_ok e)
theorem coS_ok (e : Nat) : SpO L (coS T L (unS T L e)) := seS_ok (trS_ok e)
/-! codes run -/
theorem Rn_app : ∀ cs s, (∃ s1, Rn l cs s s1 ∧ Rn l cs' s1 s'') → Rn l (cs ++ cs') s s'' := by
  intro cs
  induction cs with
  | nil =>
    intro s h
    obtain ⟨s1, h1, h2⟩ := h
    have e : s1 = s := h1
    rw [e] at h2
    exact h2
  | cons c cs ih =>
    intro s h
    obtain ⟨s1, ⟨h1, s2, h2, h3⟩, h4⟩ := h
    exact ⟨h1, s2, h2, ih s2 ⟨s1, h3, h4⟩⟩
theorem Rn_1 {c : Int} (h1 : s.length < 32) (h2 : st1 l c s s') : Rn l [c] s s' := ⟨h1, s', h2, rfl⟩
theorem wi_b (v : Int) : -1000000 ≤ wi v ∧ wi v ≤ 1000000 := by unfold wi; omega
theorem jn_b (c : Nat) (a b : Int) : -1000000 ≤ jn c a b ∧ jn c a b ≤ 1000000 := by
  unfold jn
  have h1 := wi_b (a * b)
  have h2 := wi_b (if b = 0 then 0 else Int.tdiv a b)
  have h3 := wi_b (a + b)
  have h4 := wi_b (a - b)
  generalize wi (a * b) = w1 at *
  generalize wi (if b = 0 then 0 else Int.tdiv a b) = w2 at *
  generalize wi (a + b) = w3 at *
  generalize wi (a - b) = w4 at *
  (repeat' split) <;> omega
theorem jn_bo (h : c = 38 ∨ c = 124 ∨ c = 60 ∨ c = 61 ∨ c = 62) (a b : Int) : jn c a b = 0 ∨ jn c a b = 1 := by
  unfold jn
  rcases h with rfl | rfl | rfl | rfl | rfl
  · rw [if_pos rfl]
    (repeat' split) <;> simp
  · rw [if_neg (by omega), if_neg (by omega), if_neg (by omega), if_neg (by omega), if_neg (by omega), if_neg (by omega), if_pos rfl]
    (repeat' split) <;> simp
  · rw [if_neg (by omega), if_neg (by omega), if_neg (by omega), if_pos rfl]
    (repeat' split) <;> simp
  · rw [if_neg (by omega), if_neg (by omega), if_neg (by omega), if_neg (by omega), if_pos rfl]
    (repeat' split) <;> simp
  · rw [if_neg (by omega), if_neg (by omega), if_neg (by omega), if_neg (by omega), if_neg (by omega), if_pos rfl]
    (repeat' split) <;> simp
def oks (c : Nat) : Prop := c = 38 ∨ c = 42 ∨ c = 47 ∨ c = 60 ∨ c = 61 ∨ c = 62 ∨ c = 124 ∨ c = 43 ∨ c = 45
theorem jV_ev {m1 : Nat} (hx : EvO m x) (hy : EvO m1 y) (hc : oks c) (hb : c = 38 ∨ c = 124 → BoO x ∧ BoO y) (h1 : m ≤ n) (h2 : m1 + 1 ≤ n) (h3 : 3 ≤ n) : EvO n (jV c x y) := by
  refine ⟨fun l _ => ?_, fun l hl => ⟨jn_b _ _ _, fun s hs => ?_⟩⟩
  · have := jn_b c (x.2 l) (y.2 l)
    show -2147483648 ≤ jn c (x.2 l) (y.2 l) ∧ jn c (x.2 l) (y.2 l) < 2147483648
    omega
  · obtain ⟨b1, r1⟩ := hx.2 l hl
    obtain ⟨b2, r2⟩ := hy.2 l hl
    show Rn l (x.1 ++ y.1 ++ [-(c : Int)]) s (jn c (x.2 l) (y.2 l) :: s)
    refine Rn_app _ _ ⟨y.2 l :: x.2 l :: s, Rn_app _ _ ⟨x.2 l :: s, r1 s (by omega), r2 _ (by rw [List.length_cons]; omega)⟩, Rn_1 (by rw [List.length_cons, List.length_cons]; omega) ?_⟩
    refine Or.inr (Or.inr (Or.inr ⟨c, x.2 l, y.2 l, s, hc, rfl, rfl, b1, b2, fun e => ?_, rfl⟩))
    obtain ⟨h5, h6⟩ := hb e
    exact ⟨h5 l, h6 l⟩
/-- a loop's worth -/
theorem lpS_ev {m1 : Nat} (ho : ∀ c, o c = true → oks c) (hb : (∀ c, o c = true → c ≠ 38 ∧ c ≠ 124) ∨ ((∀ c, o c = true → c = 38 ∨ c = 124) ∧ ∀ p r y, p ≤ L → g p = (r, some y) → BoO y)) (hg : ∀ p r y, p ≤ L → g p = (r, some y) → EvO m1 y) (h2 : m1 + 1 ≤ m) (h3 : 3 ≤ m) : ∀ n x p, EvO m x → ((∀ c, o c = true → c ≠ 38 ∧ c ≠ 124) ∨ BoO x) → ∀ r y, lpS T L o g n x p = (r, some y) → EvO m y ∧ ((∀ c, o c = true → c ≠ 38 ∧ c ≠ 124) ∨ BoO y) := by
  intro n
  induction n with
  | zero =>
    intro x p hx hx2 r y e
    rw [lpS] at e
    have e3 := Option.some.inj (Prod.mk.inj e).2
    subst e3
    exact ⟨hx, hx2⟩
  | succ n ih =>
    intro x p hx hx2 r y e
    by_cases h : skp T L p < L ∧ o (T (skp T L p)) = true
    · rcases hr : g (skp T L p + 1) with ⟨r0, _ | y0⟩
      · rw [lpS_n h hr] at e
        have := (Prod.mk.inj e).2
        simp at this
      · rw [lpS_s h hr] at e
        have hy := hg _ _ _ (by omega) hr
        refine ih _ r0 (jV_ev hx hy (ho _ h.2) (fun e38 => ?_) (Nat.le_refl _) h2 h3) ?_ r y e
        · rcases hb with hb | hb
          · have := hb _ h.2
            omega
          · rcases hx2 with hx2 | hx2
            · have := hx2 _ h.2
              omega
            · exact ⟨hx2, hb.2 _ _ _ (by omega) hr⟩
        · rcases hb with hb | hb
          · exact Or.inl hb
          · refine Or.inr (fun l => jn_bo ?_ _ _)
            have := hb.1 _ h.2
            omega
    · rw [lpS_e h] at e
      have e3 := Option.some.inj (Prod.mk.inj e).2
      subst e3
      exact ⟨hx, hx2⟩
theorem EvO_up (h : EvO m x) (hm : m ≤ n) : EvO n x := ⟨h.1, fun l hl => ⟨(h.2 l hl).1, fun s hs => (h.2 l hl).2 s (by omega)⟩⟩
theorem o1_s : ∀ c, o1 c = true → oks c ∧ c ≠ 38 ∧ c ≠ 124 := fun c h => by have := of_decide_eq_true h; unfold oks; omega
theorem o2_s : ∀ c, o2 c = true → oks c ∧ c ≠ 38 ∧ c ≠ 124 := fun c h => by have := of_decide_eq_true h; unfold oks; omega
theorem o3_s : ∀ c, o3 c = true → oks c ∧ (c = 60 ∨ c = 61 ∨ c = 62) := fun c h => by have := of_decide_eq_true h; unfold oks; omega
theorem o4_s : ∀ c, o4 c = true → c = 38 := fun c h => of_decide_eq_true h
theorem o5_s : ∀ c, o5 c = true → c = 124 := fun c h => of_decide_eq_true h
theorem seS_ev {m1 : Nat} (ho : ∀ c, o c = true → oks c ∧ c ≠ 38 ∧ c ≠ 124) (hg : ∀ p r y, p ≤ L → g p = (r, some y) → EvO m1 y) (h2 : m1 + 1 ≤ m) (h3 : 3 ≤ m) : ∀ p r y, p ≤ L → seS T L o g p = (r, some y) → EvO m y := by
  intro p r y hp e
  rcases hr : g p with ⟨r0, _ | x0⟩
  · rw [seS_n hr] at e
    have := (Prod.mk.inj e).2
    simp at this
  · rw [seS_s hr] at e
    exact (lpS_ev (fun c h => (ho c h).1) (Or.inl (fun c h => (ho c h).2)) hg h2 h3 300 x0 r0 (EvO_up (hg _ _ _ hp hr) (by omega)) (Or.inl (fun c h => (ho c h).2)) r y e).1
theorem lpS_bo {m1 : Nat} (ho : ∀ c, o c = true → c = 38 ∨ c = 124) (hg : ∀ p r y, p ≤ L → g p = (r, some y) → EvO m1 y ∧ BoO y) (h2 : m1 + 1 ≤ m) (h3 : 3 ≤ m) (hx : EvO m x ∧ BoO x) (h : lpS T L o g n x p = (r, some y)) : EvO m y ∧ BoO y := by
  have k := lpS_ev (T := T) (L := L) (o := o) (g := g) (m := m) (m1 := m1) (fun c h => by have := ho c h; unfold oks; omega) (Or.inr ⟨ho, fun p r y hp e => (hg p r y hp e).2⟩) (fun p r y hp e => (hg p r y hp e).1) h2 h3 n x p hx.1 (Or.inr hx.2) r y h
  refine ⟨k.1, ?_⟩
  rcases k.2 with k2 | k2
  · by_cases hz : ∃ c, o c = true
    · obtain ⟨c, hc⟩ := hz
      have := k2 c hc
      have := ho c hc
      omega
    · cases n with
      | zero =>
        rw [lpS] at h
        have e3 := Option.some.inj (Prod.mk.inj h).2
        subst e3
        exact hx.2
      | succ n =>
        rw [lpS_e (fun e => hz ⟨_, e.2⟩)] at h
        have e3 := Option.some.inj (Prod.mk.inj h).2
        subst e3
        exact hx.2
  · exact k2
theorem seS_bo {m1 : Nat} (ho : ∀ c, o c = true → c = 38 ∨ c = 124) (hg : ∀ p r y, p ≤ L → g p = (r, some y) → EvO m1 y ∧ BoO y) (h2 : m1 + 1 ≤ m) (h3 : 3 ≤ m) : ∀ p r y, p ≤ L → seS T L o g p = (r, some y) → EvO m y ∧ BoO y := by
  intro p r y hp e
  rcases hr : g p with ⟨r0, _ | x0⟩
  · rw [seS_n hr] at e
    have := (Prod.mk.inj e).2
    simp at this
  · rw [seS_s hr] at e
    have := hg _ _ _ hp hr
    exact lpS_bo ho hg h2 h3 ⟨EvO_up this.1 (by omega), this.2⟩ e
theorem atS_ev {g : Option (Nat → PR)} (hg : ∀ g', g = some g' → ∀ p r y, p ≤ L → g' p = (r, some y) → EvO m y) (hm : 1 ≤ m) : ∀ p r y, p ≤ L → atS T L g p = (r, some y) → EvO m y := by
  intro p r y hp e
  by_cases h : ch T L (skp T L p) = 91
  · cases g with
    | none =>
      rw [atS_0 h] at e
      have := (Prod.mk.inj e).2
      simp at this
    | some g =>
      rcases hr : g (skp T L p + 1) with ⟨r0, _ | x0⟩
      · rw [atS_1 h hr] at e
        have := (Prod.mk.inj e).2
        simp at this
      · rw [atS_2 h hr] at e
        by_cases h2 : ch T L (skp T L r0) = 93
        · rw [if_pos h2] at e
          have e3 := Option.some.inj (Prod.mk.inj e).2
          subst e3
          exact hg g rfl _ _ _ (by have := ch_skl (T := T) (L := L) (p := p) (c := 91) (by omega) h; omega) hr
        · rw [if_neg h2] at e
          have := (Prod.mk.inj e).2
          simp at this
  · cases hz : fnC (fun z => aCh 2 (nI z)) (ch T L (skp T L p)) 6 0 with
    | some z =>
      rw [atS_3 h hz] at e
      have e3 := Option.some.inj (Prod.mk.inj e).2
      subst e3
      exact ⟨fun l hl => hl z, fun l hl => ⟨hl z, fun s hs => Rn_1 (by omega) (Or.inr (Or.inl ⟨z, (lt_let hz).2, rfl, rfl⟩))⟩⟩
    | none =>
      rcases hr : nmT T L 4 (skp T L p) with ⟨r0, _ | v⟩
      · rw [atS_4 h hz hr] at e
        have := (Prod.mk.inj e).2
        simp at this
      · rw [atS_5 h hz hr] at e
        have e3 := Option.some.inj (Prod.mk.inj e).2
        subst e3
        have hn := (nmT_ok (T := T) (m := 4) (sk_le (T := T) hp)).2.2 v (by rw [hr])
        refine ⟨fun l _ => ?_, fun l _ => ⟨?_, fun s hs => Rn_1 (by omega) (Or.inl ⟨?_, ?_, rfl⟩)⟩⟩
        · show -2147483648 ≤ (v : Int) ∧ (v : Int) < 2147483648
          omega
        · show -1000000 ≤ (v : Int) ∧ (v : Int) ≤ 1000000
          omega
        · show (0 : Int) ≤ (v : Int)
          omega
        · show (v : Int) ≤ 9999
          omega
theorem suS_ev : ∀ e p r y, p ≤ L → suS T L e p = (r, some y) → EvO (4 + 2 * e) y := by
  intro e
  induction e with
  | zero => exact seS_ev (m1 := 3) o2_s (seS_ev (m1 := 1) o1_s (fun p r y hp => atS_ev (fun g' h => by simp at h) (by omega) p r y hp) (by omega) (by omega)) (by omega) (by omega)
  | succ e ih => exact seS_ev (m1 := 5 + 2 * e) o2_s (seS_ev (m1 := 4 + 2 * e) o1_s (fun p r y hp => atS_ev (fun g' h => by have := Option.some.inj h; rw [← this]; exact ih) (by omega) p r y hp) (by omega) (by omega)) (by omega) (by omega)
theorem cpS_ev (hx : EvO m x) (h : cpS T L e x p = (r, some y)) (h1 : m ≤ n) (h2 : 5 + 2 * e ≤ n) : EvO n y ∧ BoO y := by
  by_cases h0 : skp T L p < L ∧ o3 (T (skp T L p)) = true
  · rcases hr : suS T L e (skp T L p + 1) with ⟨r0, _ | x0⟩
    · rw [cpS_n h0 hr] at h
      have := (Prod.mk.inj h).2
      simp at this
    · rw [cpS_s h0 hr] at h
      have e3 := Option.some.inj (Prod.mk.inj h).2
      subst e3
      have ho := o3_s _ h0.2
      refine ⟨jV_ev hx (suS_ev e _ _ _ (by omega) hr) ho.1 (fun e38 => by omega) h1 (by omega) (by omega), fun l => jn_bo (by omega) _ _⟩
  · rw [cpS_e h0] at h
    have := (Prod.mk.inj h).2
    simp at this
theorem cmS_ev (hp : p ≤ L) (h : cmS T L e p = (r, some y)) : EvO (5 + 2 * e) y ∧ BoO y := by
  rcases hr : suS T L e p with ⟨r0, _ | x0⟩
  · rw [cmS_n hr] at h
    have := (Prod.mk.inj h).2
    simp at this
  · rw [cmS_s hr] at h
    exact cpS_ev (suS_ev e _ _ _ hp hr) h (by omega) (by omega)
theorem ntV_ev (h : EvO m x ∧ BoO x) (hm : 2 ≤ m) : EvO m (ntV x) ∧ BoO (ntV x) := by
  refine ⟨⟨fun l hl => ?_, fun l hl => ⟨?_, fun s hs => ?_⟩⟩, fun l => ?_⟩
  · show -2147483648 ≤ 1 - x.2 l ∧ 1 - x.2 l < 2147483648
    have := h.2 l
    omega
  · show -1000000 ≤ 1 - x.2 l ∧ 1 - x.2 l ≤ 1000000
    have := h.2 l
    omega
  · refine Rn_app _ _ ⟨x.2 l :: s, (h.1.2 l hl).2 s hs, Rn_1 (by rw [List.length_cons]; omega) (Or.inr (Or.inr (Or.inl ⟨rfl, x.2 l, s, rfl, h.2 l, rfl⟩)))⟩
  · show 1 - x.2 l = 0 ∨ 1 - x.2 l = 1
    have := h.2 l
    omega
theorem unS_ev : ∀ e p r y, p ≤ L → unS T L e p = (r, some y) → EvO (5 + 2 * e) y ∧ BoO y := by
  intro e
  induction e with
  | zero =>
    intro p r y hp h
    by_cases h1 : ch T L (skp T L p) = 33 ∨ ch T L (skp T L p) = 40
    · rw [unS_0 h1] at h
      have := (Prod.mk.inj h).2
      simp at this
    · rw [unS_1 (fun e => h1 (Or.inl e)) (fun e => h1 (Or.inr e))] at h
      exact cmS_ev (sk_le hp) h
  | succ e ih =>
    intro p r y hp h
    by_cases h1 : ch T L (skp T L p) = 33
    · have hlt := ch_skl (c := 33) (by omega) h1
      rcases hr : unS T L e (skp T L p + 1) with ⟨r0, _ | x0⟩
      · rw [unS_2 h1 hr] at h
        have := (Prod.mk.inj h).2
        simp at this
      · rw [unS_3 h1 hr] at h
        have e3 := Option.some.inj (Prod.mk.inj h).2
        subst e3
        have k := ih _ _ _ (by omega) hr
        exact ntV_ev ⟨EvO_up k.1 (by omega), k.2⟩ (by omega)
    · by_cases h2 : ch T L (skp T L p) = 40
      · have hlt := ch_skl (c := 40) (by omega) h2
        have hG := seS_bo (T := T) (L := L) (o := o5) (m := 7 + 2 * e) (m1 := 6 + 2 * e) (fun c h => Or.inr (o5_s c h)) (seS_bo (T := T) (L := L) (o := o4) (m1 := 5 + 2 * e) (fun c h => Or.inl (o4_s c h)) ih (by omega) (by omega)) (by omega) (by omega) (skp T L p + 1)
        rcases hr : coS T L (unS T L e) (skp T L p + 1) with ⟨r0, _ | x0⟩
        · rw [unS_4 h2 hr] at h
          have := (Prod.mk.inj h).2
          simp at this
        · rw [unS_5 h2 hr] at h
          by_cases h3 : ch T L (skp T L r0) = 41
          · rw [if_pos h3] at h
            have e3 := Option.some.inj (Prod.mk.inj h).2
            subst e3
            have k := hG _ _ (by omega) hr
            exact ⟨EvO_up k.1 (by omega), k.2⟩
          · rw [if_neg h3] at h
            have := (Prod.mk.inj h).2
            simp at this
      · rw [unS_1 h1 h2] at h
        exact cmS_ev (sk_le hp) h
theorem trS_ev (p r : Nat) (y : VL) (hp : p ≤ L) (h : trS T L (unS T L 6) p = (r, some y)) : EvO 18 y ∧ BoO y := seS_bo (m1 := 17) (fun c h => Or.inl (o4_s c h)) (unS_ev 6) (by omega) (by omega) p r y hp h
theorem coS_ev (hp : p ≤ L) (h : coS T L (unS T L 6) p = (r, some y)) : EvO 19 y ∧ BoO y := seS_bo (m1 := 18) (fun c h => Or.inr (o5_s c h)) trS_ev (by omega) (by omega) p r y hp h
theorem cbS_1 (h : cpS T L 6 x p = (r, none)) : cbS T L x p = (r, none) := by rw [cbS, h]
theorem cbS_2 {r2 : Nat} (h : cpS T L 6 x p = (r, some y)) (h2 : lpS T L o4 (unS T L 6) 300 y r = (r2, none)) : cbS T L x p = (r2, none) := by rw [cbS, h]; dsimp only; rw [h2]
theorem cbS_3 {r2 : Nat} {w : VL} (h : cpS T L 6 x p = (r, some y)) (h2 : lpS T L o4 (unS T L 6) 300 y r = (r2, some w)) : cbS T L x p = lpS T L o5 (trS T L (unS T L 6)) 300 w r2 := by rw [cbS, h]; dsimp only; rw [h2]
theorem cbS_ev (hx : EvO 16 x) (h : cbS T L x p = (r, some y)) : EvO 19 y ∧ BoO y := by
  rcases h1 : cpS T L 6 x p with ⟨r0, _ | x0⟩
  · rw [cbS_1 h1] at h
    have := (Prod.mk.inj h).2
    simp at this
  · have k0 := cpS_ev (n := 17) hx h1 (by omega) (by omega)
    rcases h2 : lpS T L o4 (unS T L 6) 300 x0 r0 with ⟨r2, _ | x2⟩
    · rw [cbS_2 h1 h2] at h
      have := (Prod.mk.inj h).2
      simp at this
    · rw [cbS_3 h1 h2] at h
      have k1 := lpS_bo (m := 18) (m1 := 17) (fun c h => Or.inl (o4_s c h)) (unS_ev 6) (by omega) (by omega) ⟨EvO_up k0.1 (by omega), k0.2⟩ h2
      exact lpS_bo (m := 19) (m1 := 18) (fun c h => Or.inr (o5_s c h)) trS_ev (by omega) (by omega) ⟨EvO_up k1.1 (by omega), k1.2⟩ h
theorem cbS_ok {p0 : Nat} (hp : p ≤ L) (h0 : p0 < p) (h1 : p0 + x.1.length ≤ p) : (∀ r, cbS T L x p = (r, none) → r ≤ L) ∧ (∀ r y, cbS T L x p = (r, some y) → p0 < r ∧ r ≤ L ∧ p0 + y.1.length ≤ r) := by
  have k0 := cpS_ok (T := T) (e := 6) (x := x) hp h0 h1
  rcases g1 : cpS T L 6 x p with ⟨r0, _ | x0⟩
  · rw [cbS_1 g1]
    exact ⟨fun r e => by have := (Prod.mk.inj e).1; have := k0.1 _ g1; omega, fun r x e => by have := (Prod.mk.inj e).2; simp at this⟩
  · obtain ⟨a1, a2, a3⟩ := k0.2 _ _ g1
    have k1 := lpS_ok (T := T) (o := o4) (p0 := p0) (unS_ok (T := T) (L := L) 6) 300 x0 r0 a2 a1 a3
    rcases g2 : lpS T L o4 (unS T L 6) 300 x0 r0 with ⟨r2, _ | x2⟩
    · rw [cbS_2 g1 g2]
      exact ⟨fun r e => by have := (Prod.mk.inj e).1; have := k1.1 _ g2; omega, fun r x e => by have := (Prod.mk.inj e).2; simp at this⟩
    · rw [cbS_3 g1 g2]
      obtain ⟨b1, b2, b3⟩ := k1.2 _ _ g2
      exact lpS_ok (T := T) (o := o5) (p0 := p0) (trS_ok (T := T) (L := L) 6) 300 x2 r2 b2 b1 b3
end LP
