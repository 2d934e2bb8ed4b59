/-! the law's walk: the script's rows, the beginning, one lemma a case -/
def bI (x : Int32) : Int32 := if x = 0 then 0 else 1
/-- what the law stands in: the context, the script at 4 -/
def lX (p : Program) (s : State) (m : MethodId) (args : Array Value) (c : Code) (D : va_G) (cA : FieldType → ClassId) (ad0 : Nat → Nat) (b Ln : Nat) (xs : Nat → Int32) : Prop :=
  aX p s m args c RL cL_law 7 D cA (fun q => s.heap.size ≤ q) ad0 ∧ va_X b Ln xs s s.heap ∧ b < s.heap.size ∧ ad0 4 = b ∧ Ln ≤ 3072
section LR
variable {p : Program} {l : Launch} {e : Env} {R : Room} {s : State} {m : MethodId} {args : Array Value} {below : List Frame} {meth : Method} {c : Code} {Q : State → Prop} {D : va_G} {cA : FieldType → ClassId} {ad0 : Nat → Nat} {c0 s0 x9 y9 : Nat}
variable {pc b Ln : Nat} {xs : Nat → Int32} {L : List (Option Value)} {st : List Value} {h h' : aHp}
theorem k_sld (hX : lX p s m args c D cA ad0 b Ln xs) {x : Int32} {n : Nat} (hx : x = nI n) (hn : n < Ln) (hd : decode cL_law pc = .ok (.iaload, 1)) (kk : aK x9 y9 p l e R s m args below meth c Q D cA (fun q => s.heap.size ≤ q) ad0 7 c0 s0 (pc + 1) L (.int (xs n) :: st) h) : aK x9 y9 p l e R s m args below meth c Q D cA (fun q => s.heap.size ≤ q) ad0 7 c0 s0 pc L (.int x :: .ref 4 :: st) h := by
  intro adr H ls locs cells slots hR
  have e4 : adr 4 = b := (hR.2.2.2.2.2.2.2.2.1 4 (by omega)).trans hX.2.2.2.1
  have h3 := hX.2.2.2.2
  subst hx
  have h9 := kk adr H ls locs cells slots hR
  show W p l e R s m args below meth c H locs (cells + x9) (slots + y9) Q (F0 m pc ls (.int (nI n) :: .ref (adr 4) :: st.map (aV adr)))
  rw [e4]
  refine va_sld hX.1.1 hX.1.2.1 hX.2.1 hX.2.2.1 (by have := hX.2.2.1; omega) hR.2.2.1 (vp_in_nI hn (by omega)) hd ?_
  rw [nI_clamp (by omega)]
  exact h9
theorem k_sln (hX : lX p s m args c D cA ad0 b Ln xs) (hd : decode cL_law pc = .ok (.arraylength, 1)) (kk : aK x9 y9 p l e R s m args below meth c Q D cA (fun q => s.heap.size ≤ q) ad0 7 c0 s0 (pc + 1) L (.int (nI Ln) :: st) h) : aK x9 y9 p l e R s m args below meth c Q D cA (fun q => s.heap.size ≤ q) ad0 7 c0 s0 pc L (.ref 4 :: st) h := by
  intro adr H ls locs cells slots hR
  have e4 : adr 4 = b := (hR.2.2.2.2.2.2.2.2.1 4 (by omega)).trans hX.2.2.2.1
  have h9 := kk adr H ls locs cells slots hR
  show W p l e R s m args below meth c H locs (cells + x9) (slots + y9) Q (F0 m pc ls (.ref (adr 4) :: st.map (aV adr)))
  rw [e4]
  exact va_slen hX.1.1 hX.1.2.1 hX.2.1 hX.2.2.1 (by have := hX.2.2.1; omega) hR.2.2.1 hd h9
/-- x != 0 as an argument -/
theorem k_b01 (hX : lX p s m args c D cA ad0 b Ln xs) {x : Int32} {o1 o2 : Int} {t1 t2 : Nat} (h1 : decode cL_law pc = .ok (.ifCond .eq o1, 3)) (ht1 : (pc : Int) + o1 = (t1 : Int)) (h2 : decode cL_law (pc + 3) = .ok (.iconst 1, 1)) (h3 : decode cL_law (pc + 3 + 1) = .ok (.goto o2, 3)) (ht2 : ((pc + 3 + 1 : Nat) : Int) + o2 = (t2 : Int)) (h4 : decode cL_law t1 = .ok (.iconst 0, 1)) (h5 : t1 + 1 = t2)
    (kk : aK x9 y9 p l e R s m args below meth c Q D cA (fun q => s.heap.size ≤ q) ad0 7 c0 s0 t2 L (.int (bI x) :: st) h) : aK x9 y9 p l e R s m args below meth c Q D cA (fun q => s.heap.size ≤ q) ad0 7 c0 s0 pc L (.int x :: st) h := by
  refine k_if_eq (tgt := t1) hX.1 h1 ht1 (fun hc => ?_) (fun hc => ?_)
  · refine k_iconst hX.1 h4 ic_0 ?_
    rw [h5]
    rw [show bI x = 0 from if_pos hc] at kk
    exact kk
  · refine k_iconst hX.1 h2 ic_1 ?_
    refine k_goto (tgt := t2) hX.1 h3 ht2 ?_
    rw [show bI x = 1 from if_neg hc] at kk
    exact kk
theorem bel7 {n : Nat} {x y z : Option Value} (h : 73 < n) (hx : ∀ v, x = some v → aBel (100 + n) v = true) (hy : ∀ v, y = some v → aBel (100 + n) v = true) (hz : ∀ v, z = some v → aBel (100 + n) v = true) : (([some (.ref 4), some (.ref (100 + 0)), some (.ref (100 + 50)), some (.ref (100 + 73)), x, y, z] : List (Option Value)).all (fun o => match o with | some v => aBel (100 + n) v | none => true)) = true := by
  have e1 : aBel (100 + n) (.ref 4) = true := decide_eq_true (show 4 < 100 + n by omega)
  have e2 : aBel (100 + n) (.ref (100 + 0)) = true := b_ref (by omega)
  have e3 : aBel (100 + n) (.ref (100 + 50)) = true := b_ref (by omega)
  have e4 : aBel (100 + n) (.ref (100 + 73)) = true := b_ref (by omega)
  simp only [List.all_cons, List.all_nil, e1, e2, e3, e4, Bool.true_and, Bool.and_true]
  cases x with
  | none => cases y with
    | none => cases z with
      | none => rfl
      | some v => simp [hz v rfl]
    | some u => cases z with
      | none => simp [hy u rfl]
      | some v => simp [hy u rfl, hz v rfl]
  | some w => cases y with
    | none => cases z with
      | none => simp [hx w rfl]
      | some v => simp [hx w rfl, hz v rfl]
    | some u => cases z with
      | none => simp [hx w rfl, hy u rfl]
      | some v => simp [hx w rfl, hy u rfl, hz v rfl]
end LR
/-- a method's contract at the law's place, with what the room asks -/
def lM (l : Launch) (y : MethodName) (bytes : ByteArray) (maxL : Nat) (ret : Option FieldType) (av : List Value) (h : aHp) (v : Value) (h' : aHp) : Prop := ∃ d, d ≤ 1200 ∧ aM l y bytes maxL ret d av h (some v) h' ∧ h'.1.length ≤ 600000 ∧ aSn h'.1 ≤ 7280000
theorem lRm {d maxL : Nat} (hd : d ≤ 1200) (hm : maxL ≤ 45) : d + 1 ≤ room_1.frames ∧ 8 + (maxL + 11) + 64 * d ≤ room_1.locals := by
  show d + 1 ≤ 2048 ∧ 8 + (maxL + 11) + 64 * d ≤ 84000
  omega
theorem lRx {a x : Nat} (h1 : a ≤ 600000) (h2 : x ≤ 1024) : a + x ≤ 0 + room_1.cells := by
  show a + x ≤ 0 + 601024
  omega
theorem lRy {a x : Nat} (h1 : a ≤ 7280000) (h2 : x ≤ 13034) : a + x ≤ 0 + room_1.slots := by
  show a + x ≤ 0 + 7293034
  omega
section LC
variable {p : Program} {l : Launch} {e : Env} {s : State} {m : MethodId} {args : Array Value} {below : List Frame} {meth : Method} {c : Code} {Q : State → Prop} {D : va_G} {cA : FieldType → ClassId} {ad0 : Nat → Nat}
variable {b Ln n x9 y9 : Nat} {xs : Nat → Int32} {h h1 h2 : aHp} {v : Int32} {y5 y6 : Option Value}
theorem aBel_up {n : Nat} {v : Value} (h : 73 < n) (hv : aBel 174 v = true) : aBel (100 + n) v = true := by
  cases v with
  | ref k =>
    have h1 : k < 174 := of_decide_eq_true hv
    have h3 : 174 ≤ 100 + n := by omega
    have h2 : k < 100 + n := Nat.lt_of_lt_of_le h1 h3
    exact decide_eq_true h2
  | _ => rfl
set_option maxRecDepth 100000 in
theorem lw_c88 : Cond.constantLong RL 88 4294967295 ∈ gtbl := gm 2234 rfl rfl
theorem lc_0 (hX : lX p s m args c D cA ad0 b Ln xs) (hn : n + 5 < Ln) (hb5 : ∀ v, y5 = some v → aBel 174 v = true) (hb6 : ∀ v, y6 = some v → aBel 174 v = true) (hM1 : lM l yX11_feed cX11_feed 7 (some .int) [.ref (100 + 0), .int (xs (n + 1)), .int (xs (n + 2)), .int (xs (n + 3)), .int (xs (n + 4)), .int (xs (n + 5))] h (.int v) h1) (hM2 : lM l yX12_feed cX12_feed 6 (some .int) [.ref (100 + 50), .int (xs (n + 1)), .int (xs (n + 2)), .int (xs (n + 3)), .int (xs (n + 4)), .int (xs (n + 5))] h1 (.int v) h2) (hl1 : 73 < h.1.length) (hs1 : h.1[0]? = some (.inr 11)) (hs2 : h1.1[50]? = some (.inr 12)) (hx9 : x9 ≤ 1024) (hy9 : y9 ≤ 13034)
    (kk : aK x9 y9 p l e room_1 s m args below meth c Q D cA (fun q => s.heap.size ≤ q) ad0 7 0 0 1684 [some (.ref 4), some (.ref (100 + 0)), some (.ref (100 + 50)), some (.ref (100 + 73)), some (.int (nI n)), y5, y6] [] h2) : aK x9 y9 p l e room_1 s m args below meth c Q D cA (fun q => s.heap.size ≤ q) ad0 7 0 0 236 [some (.ref 4), some (.ref (100 + 0)), some (.ref (100 + 50)), some (.ref (100 + 73)), some (.int (nI n)), y5, y6] [] h := by
  obtain ⟨d1, hM1⟩ := hM1
  obtain ⟨d2, hM2⟩ := hM2
  have hl2 : 73 < h1.1.length := Nat.lt_of_lt_of_le hl1 hM1.2.1.1
  refine k_aload_n hX.1 dL_law_236 rfl ?_
  refine kpc (b := 237) rfl ?_
  refine k_aload_n hX.1 dL_law_237 rfl ?_
  refine kpc (b := 238) rfl ?_
  refine k_iload hX.1 dL_law_238 rfl ?_
  refine kpc (b := 240) rfl ?_
  refine k_iconst hX.1 dL_law_240 ic_1 ?_
  refine kpc (b := 241) rfl ?_
  refine k_iadd hX.1 dL_law_241 ?_
  refine kpc (b := 242) rfl ?_
  refine k_sld (n := n + 1) hX (nI_add n 1) (by omega) dL_law_242 ?_
  refine kpc (b := 243) rfl ?_
  refine k_aload_n hX.1 dL_law_243 rfl ?_
  refine kpc (b := 244) rfl ?_
  refine k_iload hX.1 dL_law_244 rfl ?_
  refine kpc (b := 246) rfl ?_
  refine k_iconst hX.1 dL_law_246 ic_2 ?_
  refine kpc (b := 247) rfl ?_
  refine k_iadd hX.1 dL_law_247 ?_
  refine kpc (b := 248) rfl ?_
  refine k_sld (n := n + 2) hX (nI_add n 2) (by omega) dL_law_248 ?_
  refine kpc (b := 249) rfl ?_
  refine k_aload_n hX.1 dL_law_249 rfl ?_
  refine kpc (b := 250) rfl ?_
  refine k_iload hX.1 dL_law_250 rfl ?_
  refine kpc (b := 252) rfl ?_
  refine k_iconst hX.1 dL_law_252 ic_3 ?_
  refine kpc (b := 253) rfl ?_
  refine k_iadd hX.1 dL_law_253 ?_
  refine kpc (b := 254) rfl ?_
  refine k_sld (n := n + 3) hX (nI_add n 3) (by omega) dL_law_254 ?_
  refine kpc (b := 255) rfl ?_
  refine k_aload_n hX.1 dL_law_255 rfl ?_
  refine kpc (b := 256) rfl ?_
  refine k_iload hX.1 dL_law_256 rfl ?_
  refine kpc (b := 258) rfl ?_
  refine k_iconst hX.1 dL_law_258 ic_4 ?_
  refine kpc (b := 259) rfl ?_
  refine k_iadd hX.1 dL_law_259 ?_
  refine kpc (b := 260) rfl ?_
  refine k_sld (n := n + 4) hX (nI_add n 4) (by omega) dL_law_260 ?_
  refine kpc (b := 261) rfl ?_
  refine k_aload_n hX.1 dL_law_261 rfl ?_
  refine kpc (b := 262) rfl ?_
  refine k_iload hX.1 dL_law_262 rfl ?_
  refine kpc (b := 264) rfl ?_
  refine k_iconst hX.1 dL_law_264 ic_5 ?_
  refine kpc (b := 265) rfl ?_
  refine k_iadd hX.1 dL_law_265 ?_
  refine kpc (b := 266) rfl ?_
  refine k_sld (n := n + 5) hX (nI_add n 5) (by omega) dL_law_266 ?_
  refine kpc (b := 267) rfl ?_
  refine k_callVN (as := [.int (xs (n + 1)), .int (xs (n + 2)), .int (xs (n + 3)), .int (xs (n + 4)), .int (xs (n + 5))]) (r := some (.int v)) hX.1 lk_L_19 kX11 dL_law_267 hs1 hM1.2.1 rfl (lRm hM1.1 (by decide)) (Nat.le_of_ble_eq_true rfl) (lRx hM1.2.2.1 hx9) (lRy hM1.2.2.2 hy9) b_nil (bel7 hl1 (fun v hv => by cases hv; rfl) (fun v hv => aBel_up hl1 (hb5 v hv)) (fun v hv => aBel_up hl1 (hb6 v hv))) ?_
  show aK x9 y9 p l e room_1 s m args below meth c Q D cA _ ad0 7 0 0 _ _ [.int v] h1
  refine kpc (b := 270) rfl ?_
  refine k_aload_n hX.1 dL_law_270 rfl ?_
  refine kpc (b := 271) rfl ?_
  refine k_aload_n hX.1 dL_law_271 rfl ?_
  refine kpc (b := 272) rfl ?_
  refine k_iload hX.1 dL_law_272 rfl ?_
  refine kpc (b := 274) rfl ?_
  refine k_iconst hX.1 dL_law_274 ic_1 ?_
  refine kpc (b := 275) rfl ?_
  refine k_iadd hX.1 dL_law_275 ?_
  refine kpc (b := 276) rfl ?_
  refine k_sld (n := n + 1) hX (nI_add n 1) (by omega) dL_law_276 ?_
  refine kpc (b := 277) rfl ?_
  refine k_aload_n hX.1 dL_law_277 rfl ?_
  refine kpc (b := 278) rfl ?_
  refine k_iload hX.1 dL_law_278 rfl ?_
  refine kpc (b := 280) rfl ?_
  refine k_iconst hX.1 dL_law_280 ic_2 ?_
  refine kpc (b := 281) rfl ?_
  refine k_iadd hX.1 dL_law_281 ?_
  refine kpc (b := 282) rfl ?_
  refine k_sld (n := n + 2) hX (nI_add n 2) (by omega) dL_law_282 ?_
  refine kpc (b := 283) rfl ?_
  refine k_aload_n hX.1 dL_law_283 rfl ?_
  refine kpc (b := 284) rfl ?_
  refine k_iload hX.1 dL_law_284 rfl ?_
  refine kpc (b := 286) rfl ?_
  refine k_iconst hX.1 dL_law_286 ic_3 ?_
  refine kpc (b := 287) rfl ?_
  refine k_iadd hX.1 dL_law_287 ?_
  refine kpc (b := 288) rfl ?_
  refine k_sld (n := n + 3) hX (nI_add n 3) (by omega) dL_law_288 ?_
  refine kpc (b := 289) rfl ?_
  refine k_aload_n hX.1 dL_law_289 rfl ?_
  refine kpc (b := 290) rfl ?_
  refine k_iload hX.1 dL_law_290 rfl ?_
  refine kpc (b := 292) rfl ?_
  refine k_iconst hX.1 dL_law_292 ic_4 ?_
  refine kpc (b := 293) rfl ?_
  refine k_iadd hX.1 dL_law_293 ?_
  refine kpc (b := 294) rfl ?_
  refine k_sld (n := n + 4) hX (nI_add n 4) (by omega) dL_law_294 ?_
  refine kpc (b := 295) rfl ?_
  refine k_aload_n hX.1 dL_law_295 rfl ?_
  refine kpc (b := 296) rfl ?_
  refine k_iload hX.1 dL_law_296 rfl ?_
  refine kpc (b := 298) rfl ?_
  refine k_iconst hX.1 dL_law_298 ic_5 ?_
  refine kpc (b := 299) rfl ?_
  refine k_iadd hX.1 dL_law_299 ?_
  refine kpc (b := 300) rfl ?_
  refine k_sld (n := n + 5) hX (nI_add n 5) (by omega) dL_law_300 ?_
  refine kpc (b := 301) rfl ?_
  refine k_callVN (as := [.int (xs (n + 1)), .int (xs (n + 2)), .int (xs (n + 3)), .int (xs (n + 4)), .int (xs (n + 5))]) (r := some (.int v)) hX.1 lk_L_23 kX12 dL_law_301 hs2 hM2.2.1 rfl (lRm hM2.1 (by decide)) (Nat.le_of_ble_eq_true rfl) (lRx hM2.2.2.1 hx9) (lRy hM2.2.2.2 hy9) (b_cons b_int b_nil) (bel7 hl2 (fun v hv => by cases hv; rfl) (fun v hv => aBel_up hl2 (hb5 v hv)) (fun v hv => aBel_up hl2 (hb6 v hv))) ?_
  show aK x9 y9 p l e room_1 s m args below meth c Q D cA _ ad0 7 0 0 _ _ [.int v, .int v] h2
  refine kpc (b := 304) rfl ?_
  refine k_icmp_eq (tgt := 1684) hX.1 dL_law_304 (by decide) (fun hc => kk) (fun hc => absurd rfl hc)
theorem lc_1 (hX : lX p s m args c D cA ad0 b Ln xs) (hn : n + 5 < Ln) (hb5 : ∀ v, y5 = some v → aBel 174 v = true) (hb6 : ∀ v, y6 = some v → aBel 174 v = true) (hM1 : lM l yX11_end cX11_end 2 (some .boolean) [.ref (100 + 0), .int (xs (n + 1))] h (.int v) h1) (hM2 : lM l yX12_end cX12_end 2 (some .boolean) [.ref (100 + 50), .int (xs (n + 1))] h1 (.int v) h2) (hl1 : 73 < h.1.length) (hs1 : h.1[0]? = some (.inr 11)) (hs2 : h1.1[50]? = some (.inr 12)) (hx9 : x9 ≤ 1024) (hy9 : y9 ≤ 13034)
    (kk : aK x9 y9 p l e room_1 s m args below meth c Q D cA (fun q => s.heap.size ≤ q) ad0 7 0 0 1684 [some (.ref 4), some (.ref (100 + 0)), some (.ref (100 + 50)), some (.ref (100 + 73)), some (.int (nI n)), y5, y6] [] h2) : aK x9 y9 p l e room_1 s m args below meth c Q D cA (fun q => s.heap.size ≤ q) ad0 7 0 0 309 [some (.ref 4), some (.ref (100 + 0)), some (.ref (100 + 50)), some (.ref (100 + 73)), some (.int (nI n)), y5, y6] [] h := by
  obtain ⟨d1, hM1⟩ := hM1
  obtain ⟨d2, hM2⟩ := hM2
  have hl2 : 73 < h1.1.length := Nat.lt_of_lt_of_le hl1 hM1.2.1.1
  refine k_aload_n hX.1 dL_law_309 rfl ?_
  refine kpc (b := 310) rfl ?_
  refine k_aload_n hX.1 dL_law_310 rfl ?_
  refine kpc (b := 311) rfl ?_
  refine k_iload hX.1 dL_law_311 rfl ?_
  refine kpc (b := 313) rfl ?_
  refine k_iconst hX.1 dL_law_313 ic_1 ?_
  refine kpc (b := 314) rfl ?_
  refine k_iadd hX.1 dL_law_314 ?_
  refine kpc (b := 315) rfl ?_
  refine k_sld (n := n + 1) hX (nI_add n 1) (by omega) dL_law_315 ?_
  refine kpc (b := 316) rfl ?_
  refine k_callVN (as := [.int (xs (n + 1))]) (r := some (.int v)) hX.1 lk_L_24 kX11 dL_law_316 hs1 hM1.2.1 rfl (lRm hM1.1 (by decide)) (Nat.le_of_ble_eq_true rfl) (lRx hM1.2.2.1 hx9) (lRy hM1.2.2.2 hy9) b_nil (bel7 hl1 (fun v hv => by cases hv; rfl) (fun v hv => aBel_up hl1 (hb5 v hv)) (fun v hv => aBel_up hl1 (hb6 v hv))) ?_
  show aK x9 y9 p l e room_1 s m args below meth c Q D cA _ ad0 7 0 0 _ _ [.int v] h1
  refine kpc (b := 319) rfl ?_
  refine k_aload_n hX.1 dL_law_319 rfl ?_
  refine kpc (b := 320) rfl ?_
  refine k_aload_n hX.1 dL_law_320 rfl ?_
  refine kpc (b := 321) rfl ?_
  refine k_iload hX.1 dL_law_321 rfl ?_
  refine kpc (b := 323) rfl ?_
  refine k_iconst hX.1 dL_law_323 ic_1 ?_
  refine kpc (b := 324) rfl ?_
  refine k_iadd hX.1 dL_law_324 ?_
  refine kpc (b := 325) rfl ?_
  refine k_sld (n := n + 1) hX (nI_add n 1) (by omega) dL_law_325 ?_
  refine kpc (b := 326) rfl ?_
  refine k_callVN (as := [.int (xs (n + 1))]) (r := some (.int v)) hX.1 lk_L_28 kX12 dL_law_326 hs2 hM2.2.1 rfl (lRm hM2.1 (by decide)) (Nat.le_of_ble_eq_true rfl) (lRx hM2.2.2.1 hx9) (lRy hM2.2.2.2 hy9) (b_cons b_int b_nil) (bel7 hl2 (fun v hv => by cases hv; rfl) (fun v hv => aBel_up hl2 (hb5 v hv)) (fun v hv => aBel_up hl2 (hb6 v hv))) ?_
  show aK x9 y9 p l e room_1 s m args below meth c Q D cA _ ad0 7 0 0 _ _ [.int v, .int v] h2
  refine kpc (b := 329) rfl ?_
  refine k_icmp_eq (tgt := 1684) hX.1 dL_law_329 (by decide) (fun hc => kk) (fun hc => absurd rfl hc)
theorem lc_2 (hX : lX p s m args c D cA ad0 b Ln xs) (hn : n + 5 < Ln) (hb5 : ∀ v, y5 = some v → aBel 174 v = true) (hb6 : ∀ v, y6 = some v → aBel 174 v = true) (hM1 : lM l yX11_fault cX11_fault 2 (some .int) [.ref (100 + 0), .int (xs (n + 1))] h (.int v) h1) (hM2 : lM l yX12_fault cX12_fault 2 (some .int) [.ref (100 + 50), .int (xs (n + 1))] h1 (.int v) h2) (hl1 : 73 < h.1.length) (hs1 : h.1[0]? = some (.inr 11)) (hs2 : h1.1[50]? = some (.inr 12)) (hx9 : x9 ≤ 1024) (hy9 : y9 ≤ 13034)
    (kk : aK x9 y9 p l e room_1 s m args below meth c Q D cA (fun q => s.heap.size ≤ q) ad0 7 0 0 1684 [some (.ref 4), some (.ref (100 + 0)), some (.ref (100 + 50)), some (.ref (100 + 73)), some (.int (nI n)), y5, y6] [] h2) : aK x9 y9 p l e room_1 s m args below meth c Q D cA (fun q => s.heap.size ≤ q) ad0 7 0 0 334 [some (.ref 4), some (.ref (100 + 0)), some (.ref (100 + 50)), some (.ref (100 + 73)), some (.int (nI n)), y5, y6] [] h := by
  obtain ⟨d1, hM1⟩ := hM1
  obtain ⟨d2, hM2⟩ := hM2
  have hl2 : 73 < h1.1.length := Nat.lt_of_lt_of_le hl1 hM1.2.1.1
  refine k_aload_n hX.1 dL_law_334 rfl ?_
  refine kpc (b := 335) rfl ?_
  refine k_aload_n hX.1 dL_law_335 rfl ?_
  refine kpc (b := 336) rfl ?_
  refine k_iload hX.1 dL_law_336 rfl ?_
  refine kpc (b := 338) rfl ?_
  refine k_iconst hX.1 dL_law_338 ic_1 ?_
  refine kpc (b := 339) rfl ?_
  refine k_iadd hX.1 dL_law_339 ?_
  refine kpc (b := 340) rfl ?_
  refine k_sld (n := n + 1) hX (nI_add n 1) (by omega) dL_law_340 ?_
  refine kpc (b := 341) rfl ?_
  refine k_callVN (as := [.int (xs (n + 1))]) (r := some (.int v)) hX.1 lk_L_29 kX11 dL_law_341 hs1 hM1.2.1 rfl (lRm hM1.1 (by decide)) (Nat.le_of_ble_eq_true rfl) (lRx hM1.2.2.1 hx9) (lRy hM1.2.2.2 hy9) b_nil (bel7 hl1 (fun v hv => by cases hv; rfl) (fun v hv => aBel_up hl1 (hb5 v hv)) (fun v hv => aBel_up hl1 (hb6 v hv))) ?_
  show aK x9 y9 p l e room_1 s m args below meth c Q D cA _ ad0 7 0 0 _ _ [.int v] h1
  refine kpc (b := 344) rfl ?_
  refine k_aload_n hX.1 dL_law_344 rfl ?_
  refine kpc (b := 345) rfl ?_
  refine k_aload_n hX.1 dL_law_345 rfl ?_
  refine kpc (b := 346) rfl ?_
  refine k_iload hX.1 dL_law_346 rfl ?_
  refine kpc (b := 348) rfl ?_
  refine k_iconst hX.1 dL_law_348 ic_1 ?_
  refine kpc (b := 349) rfl ?_
  refine k_iadd hX.1 dL_law_349 ?_
  refine kpc (b := 350) rfl ?_
  refine k_sld (n := n + 1) hX (nI_add n 1) (by omega) dL_law_350 ?_
  refine kpc (b := 351) rfl ?_
  refine k_callVN (as := [.int (xs (n + 1))]) (r := some (.int v)) hX.1 lk_L_33 kX12 dL_law_351 hs2 hM2.2.1 rfl (lRm hM2.1 (by decide)) (Nat.le_of_ble_eq_true rfl) (lRx hM2.2.2.1 hx9) (lRy hM2.2.2.2 hy9) (b_cons b_int b_nil) (bel7 hl2 (fun v hv => by cases hv; rfl) (fun v hv => aBel_up hl2 (hb5 v hv)) (fun v hv => aBel_up hl2 (hb6 v hv))) ?_
  show aK x9 y9 p l e room_1 s m args below meth c Q D cA _ ad0 7 0 0 _ _ [.int v, .int v] h2
  refine kpc (b := 354) rfl ?_
  refine k_icmp_eq (tgt := 1684) hX.1 dL_law_354 (by decide) (fun hc => kk) (fun hc => absurd rfl hc)
theorem lc_3 (hX : lX p s m args c D cA ad0 b Ln xs) (hn : n + 5 < Ln) (hb5 : ∀ v, y5 = some v → aBel 174 v = true) (hb6 : ∀ v, y6 = some v → aBel 174 v = true) (hM1 : lM l yX11_text cX11_text 3 (some .int) [.ref (100 + 0), .int (xs (n + 1))] h (.int v) h1) (hM2 : lM l yX12_text cX12_text 4 (some .int) [.ref (100 + 50), .int (xs (n + 1))] h1 (.int v) h2) (hl1 : 73 < h.1.length) (hs1 : h.1[0]? = some (.inr 11)) (hs2 : h1.1[50]? = some (.inr 12)) (hx9 : x9 ≤ 1024) (hy9 : y9 ≤ 13034)
    (kk : aK x9 y9 p l e room_1 s m args below meth c Q D cA (fun q => s.heap.size ≤ q) ad0 7 0 0 1684 [some (.ref 4), some (.ref (100 + 0)), some (.ref (100 + 50)), some (.ref (100 + 73)), some (.int (nI n)), y5, y6] [] h2) : aK x9 y9 p l e room_1 s m args below meth c Q D cA (fun q => s.heap.size ≤ q) ad0 7 0 0 359 [some (.ref 4), some (.ref (100 + 0)), some (.ref (100 + 50)), some (.ref (100 + 73)), some (.int (nI n)), y5, y6] [] h := by
  obtain ⟨d1, hM1⟩ := hM1
  obtain ⟨d2, hM2⟩ := hM2
  have hl2 : 73 < h1.1.length := Nat.lt_of_lt_of_le hl1 hM1.2.1.1
  refine k_aload_n hX.1 dL_law_359 rfl ?_
  refine kpc (b := 360) rfl ?_
  refine k_aload_n hX.1 dL_law_360 rfl ?_
  refine kpc (b := 361) rfl ?_
  refine k_iload hX.1 dL_law_361 rfl ?_
  refine kpc (b := 363) rfl ?_
  refine k_iconst hX.1 dL_law_363 ic_1 ?_
  refine kpc (b := 364) rfl ?_
  refine k_iadd hX.1 dL_law_364 ?_
  refine kpc (b := 365) rfl ?_
  refine k_sld (n := n + 1) hX (nI_add n 1) (by omega) dL_law_365 ?_
  refine kpc (b := 366) rfl ?_
  refine k_callVN (as := [.int (xs (n + 1))]) (r := some (.int v)) hX.1 lk_L_34 kX11 dL_law_366 hs1 hM1.2.1 rfl (lRm hM1.1 (by decide)) (Nat.le_of_ble_eq_true rfl) (lRx hM1.2.2.1 hx9) (lRy hM1.2.2.2 hy9) b_nil (bel7 hl1 (fun v hv => by cases hv; rfl) (fun v hv => aBel_up hl1 (hb5 v hv)) (fun v hv => aBel_up hl1 (hb6 v hv))) ?_
  show aK x9 y9 p l e room_1 s m args below meth c Q D cA _ ad0 7 0 0 _ _ [.int v] h1
  refine kpc (b := 369) rfl ?_
  refine k_aload_n hX.1 dL_law_369 rfl ?_
  refine kpc (b := 370) rfl ?_
  refine k_aload_n hX.1 dL_law_370 rfl ?_
  refine kpc (b := 371) rfl ?_
  refine k_iload hX.1 dL_law_371 rfl ?_
  refine kpc (b := 373) rfl ?_
  refine k_iconst hX.1 dL_law_373 ic_1 ?_
  refine kpc (b := 374) rfl ?_
  refine k_iadd hX.1 dL_law_374 ?_
  refine kpc (b := 375) rfl ?_
  refine k_sld (n := n + 1) hX (nI_add n 1) (by omega) dL_law_375 ?_
  refine kpc (b := 376) rfl ?_
  refine k_callVN (as := [.int (xs (n + 1))]) (r := some (.int v)) hX.1 lk_L_37 kX12 dL_law_376 hs2 hM2.2.1 rfl (lRm hM2.1 (by decide)) (Nat.le_of_ble_eq_true rfl) (lRx hM2.2.2.1 hx9) (lRy hM2.2.2.2 hy9) (b_cons b_int b_nil) (bel7 hl2 (fun v hv => by cases hv; rfl) (fun v hv => aBel_up hl2 (hb5 v hv)) (fun v hv => aBel_up hl2 (hb6 v hv))) ?_
  show aK x9 y9 p l e room_1 s m args below meth c Q D cA _ ad0 7 0 0 _ _ [.int v, .int v] h2
  refine kpc (b := 379) rfl ?_
  refine k_icmp_eq (tgt := 1684) hX.1 dL_law_379 (by decide) (fun hc => kk) (fun hc => absurd rfl hc)
theorem lc_4 (hX : lX p s m args c D cA ad0 b Ln xs) (hn : n + 5 < Ln) (hb5 : ∀ v, y5 = some v → aBel 174 v = true) (hb6 : ∀ v, y6 = some v → aBel 174 v = true) (hM1 : lM l yX11_rule cX11_rule 2 (some .int) [.ref (100 + 0), .int (xs (n + 1))] h (.int v) h1) (hM2 : lM l yX12_rule cX12_rule 2 (some .int) [.ref (100 + 50), .int (xs (n + 1))] h1 (.int v) h2) (hl1 : 73 < h.1.length) (hs1 : h.1[0]? = some (.inr 11)) (hs2 : h1.1[50]? = some (.inr 12)) (hx9 : x9 ≤ 1024) (hy9 : y9 ≤ 13034)
    (kk : aK x9 y9 p l e room_1 s m args below meth c Q D cA (fun q => s.heap.size ≤ q) ad0 7 0 0 1684 [some (.ref 4), some (.ref (100 + 0)), some (.ref (100 + 50)), some (.ref (100 + 73)), some (.int (nI n)), y5, y6] [] h2) : aK x9 y9 p l e room_1 s m args below meth c Q D cA (fun q => s.heap.size ≤ q) ad0 7 0 0 384 [some (.ref 4), some (.ref (100 + 0)), some (.ref (100 + 50)), some (.ref (100 + 73)), some (.int (nI n)), y5, y6] [] h := by
  obtain ⟨d1, hM1⟩ := hM1
  obtain ⟨d2, hM2⟩ := hM2
  have hl2 : 73 < h1.1.length := Nat.lt_of_lt_of_le hl1 hM1.2.1.1
  refine k_aload_n hX.1 dL_law_384 rfl ?_
  refine kpc (b := 385) rfl ?_
  refine k_aload_n hX.1 dL_law_385 rfl ?_
  refine kpc (b := 386) rfl ?_
  refine k_iload hX.1 dL_law_386 rfl ?_
  refine kpc (b := 388) rfl ?_
  refine k_iconst hX.1 dL_law_388 ic_1 ?_
  refine kpc (b := 389) rfl ?_
  refine k_iadd hX.1 dL_law_389 ?_
  refine kpc (b := 390) rfl ?_
  refine k_sld (n := n + 1) hX (nI_add n 1) (by omega) dL_law_390 ?_
  refine kpc (b := 391) rfl ?_
  refine k_callVN (as := [.int (xs (n + 1))]) (r := some (.int v)) hX.1 lk_L_38 kX11 dL_law_391 hs1 hM1.2.1 rfl (lRm hM1.1 (by decide)) (Nat.le_of_ble_eq_true rfl) (lRx hM1.2.2.1 hx9) (lRy hM1.2.2.2 hy9) b_nil (bel7 hl1 (fun v hv => by cases hv; rfl) (fun v hv => aBel_up hl1 (hb5 v hv)) (fun v hv => aBel_up hl1 (hb6 v hv))) ?_
  show aK x9 y9 p l e room_1 s m args below meth c Q D cA _ ad0 7 0 0 _ _ [.int v] h1
  refine kpc (b := 394) rfl ?_
  refine k_aload_n hX.1 dL_law_394 rfl ?_
  refine kpc (b := 395) rfl ?_
  refine k_aload_n hX.1 dL_law_395 rfl ?_
  refine kpc (b := 396) rfl ?_
  refine k_iload hX.1 dL_law_396 rfl ?_
  refine kpc (b := 398) rfl ?_
  refine k_iconst hX.1 dL_law_398 ic_1 ?_
  refine kpc (b := 399) rfl ?_
  refine k_iadd hX.1 dL_law_399 ?_
  refine kpc (b := 400) rfl ?_
  refine k_sld (n := n + 1) hX (nI_add n 1) (by omega) dL_law_400 ?_
  refine kpc (b := 401) rfl ?_
  refine k_callVN (as := [.int (xs (n + 1))]) (r := some (.int v)) hX.1 lk_L_41 kX12 dL_law_401 hs2 hM2.2.1 rfl (lRm hM2.1 (by decide)) (Nat.le_of_ble_eq_true rfl) (lRx hM2.2.2.1 hx9) (lRy hM2.2.2.2 hy9) (b_cons b_int b_nil) (bel7 hl2 (fun v hv => by cases hv; rfl) (fun v hv => aBel_up hl2 (hb5 v hv)) (fun v hv => aBel_up hl2 (hb6 v hv))) ?_
  show aK x9 y9 p l e room_1 s m args below meth c Q D cA _ ad0 7 0 0 _ _ [.int v, .int v] h2
  refine kpc (b := 404) rfl ?_
  refine k_icmp_eq (tgt := 1684) hX.1 dL_law_404 (by decide) (fun hc => kk) (fun hc => absurd rfl hc)
theorem lc_6 (hX : lX p s m args c D cA ad0 b Ln xs) (hn : n + 5 < Ln) (hb5 : ∀ v, y5 = some v → aBel 174 v = true) (hb6 : ∀ v, y6 = some v → aBel 174 v = true) (hM1 : lM l yX11_officer cX11_officer 3 (some .int) [.ref (100 + 0), .int (xs (n + 1)), .int (xs (n + 2))] h (.int v) h1) (hM2 : lM l yX12_officer cX12_officer 3 (some .int) [.ref (100 + 50), .int (xs (n + 1)), .int (xs (n + 2))] h1 (.int v) h2) (hl1 : 73 < h.1.length) (hs1 : h.1[0]? = some (.inr 11)) (hs2 : h1.1[50]? = some (.inr 12)) (hx9 : x9 ≤ 1024) (hy9 : y9 ≤ 13034)
    (kk : aK x9 y9 p l e room_1 s m args below meth c Q D cA (fun q => s.heap.size ≤ q) ad0 7 0 0 1684 [some (.ref 4), some (.ref (100 + 0)), some (.ref (100 + 50)), some (.ref (100 + 73)), some (.int (nI n)), y5, y6] [] h2) : aK x9 y9 p l e room_1 s m args below meth c Q D cA (fun q => s.heap.size ≤ q) ad0 7 0 0 477 [some (.ref 4), some (.ref (100 + 0)), some (.ref (100 + 50)), some (.ref (100 + 73)), some (.int (nI n)), y5, y6] [] h := by
  obtain ⟨d1, hM1⟩ := hM1
  obtain ⟨d2, hM2⟩ := hM2
  have hl2 : 73 < h1.1.length := Nat.lt_of_lt_of_le hl1 hM1.2.1.1
  refine k_aload_n hX.1 dL_law_477 rfl ?_
  refine kpc (b := 478) rfl ?_
  refine k_aload_n hX.1 dL_law_478 rfl ?_
  refine kpc (b := 479) rfl ?_
  refine k_iload hX.1 dL_law_479 rfl ?_
  refine kpc (b := 481) rfl ?_
  refine k_iconst hX.1 dL_law_481 ic_1 ?_
  refine kpc (b := 482) rfl ?_
  refine k_iadd hX.1 dL_law_482 ?_
  refine kpc (b := 483) rfl ?_
  refine k_sld (n := n + 1) hX (nI_add n 1) (by omega) dL_law_483 ?_
  refine kpc (b := 484) rfl ?_
  refine k_aload_n hX.1 dL_law_484 rfl ?_
  refine kpc (b := 485) rfl ?_
  refine k_iload hX.1 dL_law_485 rfl ?_
  refine kpc (b := 487) rfl ?_
  refine k_iconst hX.1 dL_law_487 ic_2 ?_
  refine kpc (b := 488) rfl ?_
  refine k_iadd hX.1 dL_law_488 ?_
  refine kpc (b := 489) rfl ?_
  refine k_sld (n := n + 2) hX (nI_add n 2) (by omega) dL_law_489 ?_
  refine kpc (b := 490) rfl ?_
  refine k_callVN (as := [.int (xs (n + 1)), .int (xs (n + 2))]) (r := some (.int v)) hX.1 lk_L_52 kX11 dL_law_490 hs1 hM1.2.1 rfl (lRm hM1.1 (by decide)) (Nat.le_of_ble_eq_true rfl) (lRx hM1.2.2.1 hx9) (lRy hM1.2.2.2 hy9) b_nil (bel7 hl1 (fun v hv => by cases hv; rfl) (fun v hv => aBel_up hl1 (hb5 v hv)) (fun v hv => aBel_up hl1 (hb6 v hv))) ?_
  show aK x9 y9 p l e room_1 s m args below meth c Q D cA _ ad0 7 0 0 _ _ [.int v] h1
  refine kpc (b := 493) rfl ?_
  refine k_aload_n hX.1 dL_law_493 rfl ?_
  refine kpc (b := 494) rfl ?_
  refine k_aload_n hX.1 dL_law_494 rfl ?_
  refine kpc (b := 495) rfl ?_
  refine k_iload hX.1 dL_law_495 rfl ?_
  refine kpc (b := 497) rfl ?_
  refine k_iconst hX.1 dL_law_497 ic_1 ?_
  refine kpc (b := 498) rfl ?_
  refine k_iadd hX.1 dL_law_498 ?_
  refine kpc (b := 499) rfl ?_
  refine k_sld (n := n + 1) hX (nI_add n 1) (by omega) dL_law_499 ?_
  refine kpc (b := 500) rfl ?_
  refine k_aload_n hX.1 dL_law_500 rfl ?_
  refine kpc (b := 501) rfl ?_
  refine k_iload hX.1 dL_law_501 rfl ?_
  refine kpc (b := 503) rfl ?_
  refine k_iconst hX.1 dL_law_503 ic_2 ?_
  refine kpc (b := 504) rfl ?_
  refine k_iadd hX.1 dL_law_504 ?_
  refine kpc (b := 505) rfl ?_
  refine k_sld (n := n + 2) hX (nI_add n 2) (by omega) dL_law_505 ?_
  refine kpc (b := 506) rfl ?_
  refine k_callVN (as := [.int (xs (n + 1)), .int (xs (n + 2))]) (r := some (.int v)) hX.1 lk_L_55 kX12 dL_law_506 hs2 hM2.2.1 rfl (lRm hM2.1 (by decide)) (Nat.le_of_ble_eq_true rfl) (lRx hM2.2.2.1 hx9) (lRy hM2.2.2.2 hy9) (b_cons b_int b_nil) (bel7 hl2 (fun v hv => by cases hv; rfl) (fun v hv => aBel_up hl2 (hb5 v hv)) (fun v hv => aBel_up hl2 (hb6 v hv))) ?_
  show aK x9 y9 p l e room_1 s m args below meth c Q D cA _ ad0 7 0 0 _ _ [.int v, .int v] h2
  refine kpc (b := 509) rfl ?_
  refine k_icmp_eq (tgt := 1684) hX.1 dL_law_509 (by decide) (fun hc => kk) (fun hc => absurd rfl hc)
theorem lc_7 (hX : lX p s m args c D cA ad0 b Ln xs) (hn : n + 5 < Ln) (hb5 : ∀ v, y5 = some v → aBel 174 v = true) (hb6 : ∀ v, y6 = some v → aBel 174 v = true) (hM1 : lM l yX11_law cX11_law 2 (some .boolean) [.ref (100 + 0), .int (xs (n + 1))] h (.int v) h1) (hM2 : lM l yX12_law cX12_law 2 (some .boolean) [.ref (100 + 50), .int (xs (n + 1))] h1 (.int v) h2) (hl1 : 73 < h.1.length) (hs1 : h.1[0]? = some (.inr 11)) (hs2 : h1.1[50]? = some (.inr 12)) (hx9 : x9 ≤ 1024) (hy9 : y9 ≤ 13034)
    (kk : aK x9 y9 p l e room_1 s m args below meth c Q D cA (fun q => s.heap.size ≤ q) ad0 7 0 0 1684 [some (.ref 4), some (.ref (100 + 0)), some (.ref (100 + 50)), some (.ref (100 + 73)), some (.int (nI n)), y5, y6] [] h2) : aK x9 y9 p l e room_1 s m args below meth c Q D cA (fun q => s.heap.size ≤ q) ad0 7 0 0 514 [some (.ref 4), some (.ref (100 + 0)), some (.ref (100 + 50)), some (.ref (100 + 73)), some (.int (nI n)), y5, y6] [] h := by
  obtain ⟨d1, hM1⟩ := hM1
  obtain ⟨d2, hM2⟩ := hM2
  have hl2 : 73 < h1.1.length := Nat.lt_of_lt_of_le hl1 hM1.2.1.1
  refine k_aload_n hX.1 dL_law_514 rfl ?_
  refine kpc (b := 515) rfl ?_
  refine k_aload_n hX.1 dL_law_515 rfl ?_
  refine kpc (b := 516) rfl ?_
  refine k_iload hX.1 dL_law_516 rfl ?_
  refine kpc (b := 518) rfl ?_
  refine k_iconst hX.1 dL_law_518 ic_1 ?_
  refine kpc (b := 519) rfl ?_
  refine k_iadd hX.1 dL_law_519 ?_
  refine kpc (b := 520) rfl ?_
  refine k_sld (n := n + 1) hX (nI_add n 1) (by omega) dL_law_520 ?_
  refine kpc (b := 521) rfl ?_
  refine k_callVN (as := [.int (xs (n + 1))]) (r := some (.int v)) hX.1 lk_L_56 kX11 dL_law_521 hs1 hM1.2.1 rfl (lRm hM1.1 (by decide)) (Nat.le_of_ble_eq_true rfl) (lRx hM1.2.2.1 hx9) (lRy hM1.2.2.2 hy9) b_nil (bel7 hl1 (fun v hv => by cases hv; rfl) (fun v hv => aBel_up hl1 (hb5 v hv)) (fun v hv => aBel_up hl1 (hb6 v hv))) ?_
  show aK x9 y9 p l e room_1 s m args below meth c Q D cA _ ad0 7 0 0 _ _ [.int v] h1
  refine kpc (b := 524) rfl ?_
  refine k_aload_n hX.1 dL_law_524 rfl ?_
  refine kpc (b := 525) rfl ?_
  refine k_aload_n hX.1 dL_law_525 rfl ?_
  refine kpc (b := 526) rfl ?_
  refine k_iload hX.1 dL_law_526 rfl ?_
  refine kpc (b := 528) rfl ?_
  refine k_iconst hX.1 dL_law_528 ic_1 ?_
  refine kpc (b := 529) rfl ?_
  refine k_iadd hX.1 dL_law_529 ?_
  refine kpc (b := 530) rfl ?_
  refine k_sld (n := n + 1) hX (nI_add n 1) (by omega) dL_law_530 ?_
  refine kpc (b := 531) rfl ?_
  refine k_callVN (as := [.int (xs (n + 1))]) (r := some (.int v)) hX.1 lk_L_59 kX12 dL_law_531 hs2 hM2.2.1 rfl (lRm hM2.1 (by decide)) (Nat.le_of_ble_eq_true rfl) (lRx hM2.2.2.1 hx9) (lRy hM2.2.2.2 hy9) (b_cons b_int b_nil) (bel7 hl2 (fun v hv => by cases hv; rfl) (fun v hv => aBel_up hl2 (hb5 v hv)) (fun v hv => aBel_up hl2 (hb6 v hv))) ?_
  show aK x9 y9 p l e room_1 s m args below meth c Q D cA _ ad0 7 0 0 _ _ [.int v, .int v] h2
  refine kpc (b := 534) rfl ?_
  refine k_icmp_eq (tgt := 1684) hX.1 dL_law_534 (by decide) (fun hc => kk) (fun hc => absurd rfl hc)
theorem lc_8 (hX : lX p s m args c D cA ad0 b Ln xs) (hn : n + 5 < Ln) (hb5 : ∀ v, y5 = some v → aBel 174 v = true) (hb6 : ∀ v, y6 = some v → aBel 174 v = true) (hM1 : lM l yX11_drowsy cX11_drowsy 2 (some .boolean) [.ref (100 + 0), .int (xs (n + 1))] h (.int v) h1) (hM2 : lM l yX12_drowsy cX12_drowsy 2 (some .boolean) [.ref (100 + 50), .int (xs (n + 1))] h1 (.int v) h2) (hl1 : 73 < h.1.length) (hs1 : h.1[0]? = some (.inr 11)) (hs2 : h1.1[50]? = some (.inr 12)) (hx9 : x9 ≤ 1024) (hy9 : y9 ≤ 13034)
    (kk : aK x9 y9 p l e room_1 s m args below meth c Q D cA (fun q => s.heap.size ≤ q) ad0 7 0 0 1684 [some (.ref 4), some (.ref (100 + 0)), some (.ref (100 + 50)), some (.ref (100 + 73)), some (.int (nI n)), y5, y6] [] h2) : aK x9 y9 p l e room_1 s m args below meth c Q D cA (fun q => s.heap.size ≤ q) ad0 7 0 0 539 [some (.ref 4), some (.ref (100 + 0)), some (.ref (100 + 50)), some (.ref (100 + 73)), some (.int (nI n)), y5, y6] [] h := by
  obtain ⟨d1, hM1⟩ := hM1
  obtain ⟨d2, hM2⟩ := hM2
  have hl2 : 73 < h1.1.length := Nat.lt_of_lt_of_le hl1 hM1.2.1.1
  refine k_aload_n hX.1 dL_law_539 rfl ?_
  refine kpc (b := 540) rfl ?_
  refine k_aload_n hX.1 dL_law_540 rfl ?_
  refine kpc (b := 541) rfl ?_
  refine k_iload hX.1 dL_law_541 rfl ?_
  refine kpc (b := 543) rfl ?_
  refine k_iconst hX.1 dL_law_543 ic_1 ?_
  refine kpc (b := 544) rfl ?_
  refine k_iadd hX.1 dL_law_544 ?_
  refine kpc (b := 545) rfl ?_
  refine k_sld (n := n + 1) hX (nI_add n 1) (by omega) dL_law_545 ?_
  refine kpc (b := 546) rfl ?_
  refine k_callVN (as := [.int (xs (n + 1))]) (r := some (.int v)) hX.1 lk_L_60 kX11 dL_law_546 hs1 hM1.2.1 rfl (lRm hM1.1 (by decide)) (Nat.le_of_ble_eq_true rfl) (lRx hM1.2.2.1 hx9) (lRy hM1.2.2.2 hy9) b_nil (bel7 hl1 (fun v hv => by cases hv; rfl) (fun v hv => aBel_up hl1 (hb5 v hv)) (fun v hv => aBel_up hl1 (hb6 v hv))) ?_
  show aK x9 y9 p l e room_1 s m args below meth c Q D cA _ ad0 7 0 0 _ _ [.int v] h1
  refine kpc (b := 549) rfl ?_
  refine k_aload_n hX.1 dL_law_549 rfl ?_
  refine kpc (b := 550) rfl ?_
  refine k_aload_n hX.1 dL_law_550 rfl ?_
  refine kpc (b := 551) rfl ?_
  refine k_iload hX.1 dL_law_551 rfl ?_
  refine kpc (b := 553) rfl ?_
  refine k_iconst hX.1 dL_law_553 ic_1 ?_
  refine kpc (b := 554) rfl ?_
  refine k_iadd hX.1 dL_law_554 ?_
  refine kpc (b := 555) rfl ?_
  refine k_sld (n := n + 1) hX (nI_add n 1) (by omega) dL_law_555 ?_
  refine kpc (b := 556) rfl ?_
  refine k_callVN (as := [.int (xs (n + 1))]) (r := some (.int v)) hX.1 lk_L_63 kX12 dL_law_556 hs2 hM2.2.1 rfl (lRm hM2.1 (by decide)) (Nat.le_of_ble_eq_true rfl) (lRx hM2.2.2.1 hx9) (lRy hM2.2.2.2 hy9) (b_cons b_int b_nil) (bel7 hl2 (fun v hv => by cases hv; rfl) (fun v hv => aBel_up hl2 (hb5 v hv)) (fun v hv => aBel_up hl2 (hb6 v hv))) ?_
  show aK x9 y9 p l e room_1 s m args below meth c Q D cA _ ad0 7 0 0 _ _ [.int v, .int v] h2
  refine kpc (b := 559) rfl ?_
  refine k_icmp_eq (tgt := 1684) hX.1 dL_law_559 (by decide) (fun hc => kk) (fun hc => absurd rfl hc)
theorem lc_9 (hX : lX p s m args c D cA ad0 b Ln xs) (hn : n + 5 < Ln) (hb5 : ∀ v, y5 = some v → aBel 174 v = true) (hb6 : ∀ v, y6 = some v → aBel 174 v = true) (hM1 : lM l yX11_move cX11_move 3 (some .int) [.ref (100 + 0), .int (xs (n + 1)), .int (xs (n + 2))] h (.int v) h1) (hM2 : lM l yX12_move cX12_move 4 (some .int) [.ref (100 + 50), .int (xs (n + 1)), .int (xs (n + 2))] h1 (.int v) h2) (hl1 : 73 < h.1.length) (hs1 : h.1[0]? = some (.inr 11)) (hs2 : h1.1[50]? = some (.inr 12)) (hx9 : x9 ≤ 1024) (hy9 : y9 ≤ 13034)
    (kk : aK x9 y9 p l e room_1 s m args below meth c Q D cA (fun q => s.heap.size ≤ q) ad0 7 0 0 1684 [some (.ref 4), some (.ref (100 + 0)), some (.ref (100 + 50)), some (.ref (100 + 73)), some (.int (nI n)), y5, y6] [] h2) : aK x9 y9 p l e room_1 s m args below meth c Q D cA (fun q => s.heap.size ≤ q) ad0 7 0 0 564 [some (.ref 4), some (.ref (100 + 0)), some (.ref (100 + 50)), some (.ref (100 + 73)), some (.int (nI n)), y5, y6] [] h := by
  obtain ⟨d1, hM1⟩ := hM1
  obtain ⟨d2, hM2⟩ := hM2
  have hl2 : 73 < h1.1.length := Nat.lt_of_lt_of_le hl1 hM1.2.1.1
  refine k_aload_n hX.1 dL_law_564 rfl ?_
  refine kpc (b := 565) rfl ?_
  refine k_aload_n hX.1 dL_law_565 rfl ?_
  refine kpc (b := 566) rfl ?_
  refine k_iload hX.1 dL_law_566 rfl ?_
  refine kpc (b := 568) rfl ?_
  refine k_iconst hX.1 dL_law_568 ic_1 ?_
  refine kpc (b := 569) rfl ?_
  refine k_iadd hX.1 dL_law_569 ?_
  refine kpc (b := 570) rfl ?_
  refine k_sld (n := n + 1) hX (nI_add n 1) (by omega) dL_law_570 ?_
  refine kpc (b := 571) rfl ?_
  refine k_aload_n hX.1 dL_law_571 rfl ?_
  refine kpc (b := 572) rfl ?_
  refine k_iload hX.1 dL_law_572 rfl ?_
  refine kpc (b := 574) rfl ?_
  refine k_iconst hX.1 dL_law_574 ic_2 ?_
  refine kpc (b := 575) rfl ?_
  refine k_iadd hX.1 dL_law_575 ?_
  refine kpc (b := 576) rfl ?_
  refine k_sld (n := n + 2) hX (nI_add n 2) (by omega) dL_law_576 ?_
  refine kpc (b := 577) rfl ?_
  refine k_callVN (as := [.int (xs (n + 1)), .int (xs (n + 2))]) (r := some (.int v)) hX.1 lk_L_64 kX11 dL_law_577 hs1 hM1.2.1 rfl (lRm hM1.1 (by decide)) (Nat.le_of_ble_eq_true rfl) (lRx hM1.2.2.1 hx9) (lRy hM1.2.2.2 hy9) b_nil (bel7 hl1 (fun v hv => by cases hv; rfl) (fun v hv => aBel_up hl1 (hb5 v hv)) (fun v hv => aBel_up hl1 (hb6 v hv))) ?_
  show aK x9 y9 p l e room_1 s m args below meth c Q D cA _ ad0 7 0 0 _ _ [.int v] h1
  refine kpc (b := 580) rfl ?_
  refine k_aload_n hX.1 dL_law_580 rfl ?_
  refine kpc (b := 581) rfl ?_
  refine k_aload_n hX.1 dL_law_581 rfl ?_
  refine kpc (b := 582) rfl ?_
  refine k_iload hX.1 dL_law_582 rfl ?_
  refine kpc (b := 584) rfl ?_
  refine k_iconst hX.1 dL_law_584 ic_1 ?_
  refine kpc (b := 585) rfl ?_
  refine k_iadd hX.1 dL_law_585 ?_
  refine kpc (b := 586) rfl ?_
  refine k_sld (n := n + 1) hX (nI_add n 1) (by omega) dL_law_586 ?_
  refine kpc (b := 587) rfl ?_
  refine k_aload_n hX.1 dL_law_587 rfl ?_
  refine kpc (b := 588) rfl ?_
  refine k_iload hX.1 dL_law_588 rfl ?_
  refine kpc (b := 590) rfl ?_
  refine k_iconst hX.1 dL_law_590 ic_2 ?_
  refine kpc (b := 591) rfl ?_
  refine k_iadd hX.1 dL_law_591 ?_
  refine kpc (b := 592) rfl ?_
  refine k_sld (n := n + 2) hX (nI_add n 2) (by omega) dL_law_592 ?_
  refine kpc (b := 593) rfl ?_
  refine k_callVN (as := [.int (xs (n + 1)), .int (xs (n + 2))]) (r := some (.int v)) hX.1 lk_L_67 kX12 dL_law_593 hs2 hM2.2.1 rfl (lRm hM2.1 (by decide)) (Nat.le_of_ble_eq_true rfl) (lRx hM2.2.2.1 hx9) (lRy hM2.2.2.2 hy9) (b_cons b_int b_nil) (bel7 hl2 (fun v hv => by cases hv; rfl) (fun v hv => aBel_up hl2 (hb5 v hv)) (fun v hv => aBel_up hl2 (hb6 v hv))) ?_
  show aK x9 y9 p l e room_1 s m args below meth c Q D cA _ ad0 7 0 0 _ _ [.int v, .int v] h2
  refine kpc (b := 596) rfl ?_
  refine k_icmp_eq (tgt := 1684) hX.1 dL_law_596 (by decide) (fun hc => kk) (fun hc => absurd rfl hc)
theorem lc_10 (hX : lX p s m args c D cA ad0 b Ln xs) (hn : n + 5 < Ln) (hb5 : ∀ v, y5 = some v → aBel 174 v = true) (hb6 : ∀ v, y6 = some v → aBel 174 v = true) (hM1 : lM l yX11_say cX11_say 3 (some .int) [.ref (100 + 0), .int (xs (n + 1)), .int (xs (n + 2))] h (.int v) h1) (hM2 : lM l yX12_say cX12_say 4 (some .int) [.ref (100 + 50), .int (xs (n + 1)), .int (xs (n + 2))] h1 (.int v) h2) (hl1 : 73 < h.1.length) (hs1 : h.1[0]? = some (.inr 11)) (hs2 : h1.1[50]? = some (.inr 12)) (hx9 : x9 ≤ 1024) (hy9 : y9 ≤ 13034)
    (kk : aK x9 y9 p l e room_1 s m args below meth c Q D cA (fun q => s.heap.size ≤ q) ad0 7 0 0 1684 [some (.ref 4), some (.ref (100 + 0)), some (.ref (100 + 50)), some (.ref (100 + 73)), some (.int (nI n)), y5, y6] [] h2) : aK x9 y9 p l e room_1 s m args below meth c Q D cA (fun q => s.heap.size ≤ q) ad0 7 0 0 601 [some (.ref 4), some (.ref (100 + 0)), some (.ref (100 + 50)), some (.ref (100 + 73)), some (.int (nI n)), y5, y6] [] h := by
  obtain ⟨d1, hM1⟩ := hM1
  obtain ⟨d2, hM2⟩ := hM2
  have hl2 : 73 < h1.1.length := Nat.lt_of_lt_of_le hl1 hM1.2.1.1
  refine k_aload_n hX.1 dL_law_601 rfl ?_
  refine kpc (b := 602) rfl ?_
  refine k_aload_n hX.1 dL_law_602 rfl ?_
  refine kpc (b := 603) rfl ?_
  refine k_iload hX.1 dL_law_603 rfl ?_
  refine kpc (b := 605) rfl ?_
  refine k_iconst hX.1 dL_law_605 ic_1 ?_
  refine kpc (b := 606) rfl ?_
  refine k_iadd hX.1 dL_law_606 ?_
  refine kpc (b := 607) rfl ?_
  refine k_sld (n := n + 1) hX (nI_add n 1) (by omega) dL_law_607 ?_
  refine kpc (b := 608) rfl ?_
  refine k_aload_n hX.1 dL_law_608 rfl ?_
  refine kpc (b := 609) rfl ?_
  refine k_iload hX.1 dL_law_609 rfl ?_
  refine kpc (b := 611) rfl ?_
  refine k_iconst hX.1 dL_law_611 ic_2 ?_
  refine kpc (b := 612) rfl ?_
  refine k_iadd hX.1 dL_law_612 ?_
  refine kpc (b := 613) rfl ?_
  refine k_sld (n := n + 2) hX (nI_add n 2) (by omega) dL_law_613 ?_
  refine kpc (b := 614) rfl ?_
  refine k_callVN (as := [.int (xs (n + 1)), .int (xs (n + 2))]) (r := some (.int v)) hX.1 lk_L_68 kX11 dL_law_614 hs1 hM1.2.1 rfl (lRm hM1.1 (by decide)) (Nat.le_of_ble_eq_true rfl) (lRx hM1.2.2.1 hx9) (lRy hM1.2.2.2 hy9) b_nil (bel7 hl1 (fun v hv => by cases hv; rfl) (fun v hv => aBel_up hl1 (hb5 v hv)) (fun v hv => aBel_up hl1 (hb6 v hv))) ?_
  show aK x9 y9 p l e room_1 s m args below meth c Q D cA _ ad0 7 0 0 _ _ [.int v] h1
  refine kpc (b := 617) rfl ?_
  refine k_aload_n hX.1 dL_law_617 rfl ?_
  refine kpc (b := 618) rfl ?_
  refine k_aload_n hX.1 dL_law_618 rfl ?_
  refine kpc (b := 619) rfl ?_
  refine k_iload hX.1 dL_law_619 rfl ?_
  refine kpc (b := 621) rfl ?_
  refine k_iconst hX.1 dL_law_621 ic_1 ?_
  refine kpc (b := 622) rfl ?_
  refine k_iadd hX.1 dL_law_622 ?_
  refine kpc (b := 623) rfl ?_
  refine k_sld (n := n + 1) hX (nI_add n 1) (by omega) dL_law_623 ?_
  refine kpc (b := 624) rfl ?_
  refine k_aload_n hX.1 dL_law_624 rfl ?_
  refine kpc (b := 625) rfl ?_
  refine k_iload hX.1 dL_law_625 rfl ?_
  refine kpc (b := 627) rfl ?_
  refine k_iconst hX.1 dL_law_627 ic_2 ?_
  refine kpc (b := 628) rfl ?_
  refine k_iadd hX.1 dL_law_628 ?_
  refine kpc (b := 629) rfl ?_
  refine k_sld (n := n + 2) hX (nI_add n 2) (by omega) dL_law_629 ?_
  refine kpc (b := 630) rfl ?_
  refine k_callVN (as := [.int (xs (n + 1)), .int (xs (n + 2))]) (r := some (.int v)) hX.1 lk_L_71 kX12 dL_law_630 hs2 hM2.2.1 rfl (lRm hM2.1 (by decide)) (Nat.le_of_ble_eq_true rfl) (lRx hM2.2.2.1 hx9) (lRy hM2.2.2.2 hy9) (b_cons b_int b_nil) (bel7 hl2 (fun v hv => by cases hv; rfl) (fun v hv => aBel_up hl2 (hb5 v hv)) (fun v hv => aBel_up hl2 (hb6 v hv))) ?_
  show aK x9 y9 p l e room_1 s m args below meth c Q D cA _ ad0 7 0 0 _ _ [.int v, .int v] h2
  refine kpc (b := 633) rfl ?_
  refine k_icmp_eq (tgt := 1684) hX.1 dL_law_633 (by decide) (fun hc => kk) (fun hc => absurd rfl hc)
theorem lc_11 (hX : lX p s m args c D cA ad0 b Ln xs) (hn : n + 5 < Ln) (hb5 : ∀ v, y5 = some v → aBel 174 v = true) (hb6 : ∀ v, y6 = some v → aBel 174 v = true) (hM1 : lM l yX11_wake cX11_wake 2 (some .int) [.ref (100 + 0), .int (xs (n + 1))] h (.int v) h1) (hM2 : lM l yX12_wake cX12_wake 2 (some .int) [.ref (100 + 50), .int (xs (n + 1))] h1 (.int v) h2) (hl1 : 73 < h.1.length) (hs1 : h.1[0]? = some (.inr 11)) (hs2 : h1.1[50]? = some (.inr 12)) (hx9 : x9 ≤ 1024) (hy9 : y9 ≤ 13034)
    (kk : aK x9 y9 p l e room_1 s m args below meth c Q D cA (fun q => s.heap.size ≤ q) ad0 7 0 0 1684 [some (.ref 4), some (.ref (100 + 0)), some (.ref (100 + 50)), some (.ref (100 + 73)), some (.int (nI n)), y5, y6] [] h2) : aK x9 y9 p l e room_1 s m args below meth c Q D cA (fun q => s.heap.size ≤ q) ad0 7 0 0 638 [some (.ref 4), some (.ref (100 + 0)), some (.ref (100 + 50)), some (.ref (100 + 73)), some (.int (nI n)), y5, y6] [] h := by
  obtain ⟨d1, hM1⟩ := hM1
  obtain ⟨d2, hM2⟩ := hM2
  have hl2 : 73 < h1.1.length := Nat.lt_of_lt_of_le hl1 hM1.2.1.1
  refine k_aload_n hX.1 dL_law_638 rfl ?_
  refine kpc (b := 639) rfl ?_
  refine k_aload_n hX.1 dL_law_639 rfl ?_
  refine kpc (b := 640) rfl ?_
  refine k_iload hX.1 dL_law_640 rfl ?_
  refine kpc (b := 642) rfl ?_
  refine k_iconst hX.1 dL_law_642 ic_1 ?_
  refine kpc (b := 643) rfl ?_
  refine k_iadd hX.1 dL_law_643 ?_
  refine kpc (b := 644) rfl ?_
  refine k_sld (n := n + 1) hX (nI_add n 1) (by omega) dL_law_644 ?_
  refine kpc (b := 645) rfl ?_
  refine k_callVN (as := [.int (xs (n + 1))]) (r := some (.int v)) hX.1 lk_L_72 kX11 dL_law_645 hs1 hM1.2.1 rfl (lRm hM1.1 (by decide)) (Nat.le_of_ble_eq_true rfl) (lRx hM1.2.2.1 hx9) (lRy hM1.2.2.2 hy9) b_nil (bel7 hl1 (fun v hv => by cases hv; rfl) (fun v hv => aBel_up hl1 (hb5 v hv)) (fun v hv => aBel_up hl1 (hb6 v hv))) ?_
  show aK x9 y9 p l e room_1 s m args below meth c Q D cA _ ad0 7 0 0 _ _ [.int v] h1
  refine kpc (b := 648) rfl ?_
  refine k_aload_n hX.1 dL_law_648 rfl ?_
  refine kpc (b := 649) rfl ?_
  refine k_aload_n hX.1 dL_law_649 rfl ?_
  refine kpc (b := 650) rfl ?_
  refine k_iload hX.1 dL_law_650 rfl ?_
  refine kpc (b := 652) rfl ?_
  refine k_iconst hX.1 dL_law_652 ic_1 ?_
  refine kpc (b := 653) rfl ?_
  refine k_iadd hX.1 dL_law_653 ?_
  refine kpc (b := 654) rfl ?_
  refine k_sld (n := n + 1) hX (nI_add n 1) (by omega) dL_law_654 ?_
  refine kpc (b := 655) rfl ?_
  refine k_callVN (as := [.int (xs (n + 1))]) (r := some (.int v)) hX.1 lk_L_75 kX12 dL_law_655 hs2 hM2.2.1 rfl (lRm hM2.1 (by decide)) (Nat.le_of_ble_eq_true rfl) (lRx hM2.2.2.1 hx9) (lRy hM2.2.2.2 hy9) (b_cons b_int b_nil) (bel7 hl2 (fun v hv => by cases hv; rfl) (fun v hv => aBel_up hl2 (hb5 v hv)) (fun v hv => aBel_up hl2 (hb6 v hv))) ?_
  show aK x9 y9 p l e room_1 s m args below meth c Q D cA _ ad0 7 0 0 _ _ [.int v, .int v] h2
  refine kpc (b := 658) rfl ?_
  refine k_icmp_eq (tgt := 1684) hX.1 dL_law_658 (by decide) (fun hc => kk) (fun hc => absurd rfl hc)
theorem lc_12 (hX : lX p s m args c D cA ad0 b Ln xs) (hn : n + 5 < Ln) (hb5 : ∀ v, y5 = some v → aBel 174 v = true) (hb6 : ∀ v, y6 = some v → aBel 174 v = true) (hM1 : lM l yX11_lie cX11_lie 2 (some .int) [.ref (100 + 0), .int (xs (n + 1))] h (.int v) h1) (hM2 : lM l yX12_lie cX12_lie 2 (some .int) [.ref (100 + 50), .int (xs (n + 1))] h1 (.int v) h2) (hl1 : 73 < h.1.length) (hs1 : h.1[0]? = some (.inr 11)) (hs2 : h1.1[50]? = some (.inr 12)) (hx9 : x9 ≤ 1024) (hy9 : y9 ≤ 13034)
    (kk : aK x9 y9 p l e room_1 s m args below meth c Q D cA (fun q => s.heap.size ≤ q) ad0 7 0 0 1684 [some (.ref 4), some (.ref (100 + 0)), some (.ref (100 + 50)), some (.ref (100 + 73)), some (.int (nI n)), y5, y6] [] h2) : aK x9 y9 p l e room_1 s m args below meth c Q D cA (fun q => s.heap.size ≤ q) ad0 7 0 0 663 [some (.ref 4), some (.ref (100 + 0)), some (.ref (100 + 50)), some (.ref (100 + 73)), some (.int (nI n)), y5, y6] [] h := by
  obtain ⟨d1, hM1⟩ := hM1
  obtain ⟨d2, hM2⟩ := hM2
  have hl2 : 73 < h1.1.length := Nat.lt_of_lt_of_le hl1 hM1.2.1.1
  refine k_aload_n hX.1 dL_law_663 rfl ?_
  refine kpc (b := 664) rfl ?_
  refine k_aload_n hX.1 dL_law_664 rfl ?_
  refine kpc (b := 665) rfl ?_
  refine k_iload hX.1 dL_law_665 rfl ?_
  refine kpc (b := 667) rfl ?_
  refine k_iconst hX.1 dL_law_667 ic_1 ?_
  refine kpc (b := 668) rfl ?_
  refine k_iadd hX.1 dL_law_668 ?_
  refine kpc (b := 669) rfl ?_
  refine k_sld (n := n + 1) hX (nI_add n 1) (by omega) dL_law_669 ?_
  refine kpc (b := 670) rfl ?_
  refine k_callVN (as := [.int (xs (n + 1))]) (r := some (.int v)) hX.1 lk_L_76 kX11 dL_law_670 hs1 hM1.2.1 rfl (lRm hM1.1 (by decide)) (Nat.le_of_ble_eq_true rfl) (lRx hM1.2.2.1 hx9) (lRy hM1.2.2.2 hy9) b_nil (bel7 hl1 (fun v hv => by cases hv; rfl) (fun v hv => aBel_up hl1 (hb5 v hv)) (fun v hv => aBel_up hl1 (hb6 v hv))) ?_
  show aK x9 y9 p l e room_1 s m args below meth c Q D cA _ ad0 7 0 0 _ _ [.int v] h1
  refine kpc (b := 673) rfl ?_
  refine k_aload_n hX.1 dL_law_673 rfl ?_
  refine kpc (b := 674) rfl ?_
  refine k_aload_n hX.1 dL_law_674 rfl ?_
  refine kpc (b := 675) rfl ?_
  refine k_iload hX.1 dL_law_675 rfl ?_
  refine kpc (b := 677) rfl ?_
  refine k_iconst hX.1 dL_law_677 ic_1 ?_
  refine kpc (b := 678) rfl ?_
  refine k_iadd hX.1 dL_law_678 ?_
  refine kpc (b := 679) rfl ?_
  refine k_sld (n := n + 1) hX (nI_add n 1) (by omega) dL_law_679 ?_
  refine kpc (b := 680) rfl ?_
  refine k_callVN (as := [.int (xs (n + 1))]) (r := some (.int v)) hX.1 lk_L_79 kX12 dL_law_680 hs2 hM2.2.1 rfl (lRm hM2.1 (by decide)) (Nat.le_of_ble_eq_true rfl) (lRx hM2.2.2.1 hx9) (lRy hM2.2.2.2 hy9) (b_cons b_int b_nil) (bel7 hl2 (fun v hv => by cases hv; rfl) (fun v hv => aBel_up hl2 (hb5 v hv)) (fun v hv => aBel_up hl2 (hb6 v hv))) ?_
  show aK x9 y9 p l e room_1 s m args below meth c Q D cA _ ad0 7 0 0 _ _ [.int v, .int v] h2
  refine kpc (b := 683) rfl ?_
  refine k_icmp_eq (tgt := 1684) hX.1 dL_law_683 (by decide) (fun hc => kk) (fun hc => absurd rfl hc)
theorem lc_13 (hX : lX p s m args c D cA ad0 b Ln xs) (hn : n + 5 < Ln) (hb5 : ∀ v, y5 = some v → aBel 174 v = true) (hb6 : ∀ v, y6 = some v → aBel 174 v = true) (hM1 : lM l yX11_swap cX11_swap 3 (some .int) [.ref (100 + 0), .int (xs (n + 1)), .int (xs (n + 2))] h (.int v) h1) (hM2 : lM l yX12_swap cX12_swap 3 (some .int) [.ref (100 + 50), .int (xs (n + 1)), .int (xs (n + 2))] h1 (.int v) h2) (hl1 : 73 < h.1.length) (hs1 : h.1[0]? = some (.inr 11)) (hs2 : h1.1[50]? = some (.inr 12)) (hx9 : x9 ≤ 1024) (hy9 : y9 ≤ 13034)
    (kk : aK x9 y9 p l e room_1 s m args below meth c Q D cA (fun q => s.heap.size ≤ q) ad0 7 0 0 1684 [some (.ref 4), some (.ref (100 + 0)), some (.ref (100 + 50)), some (.ref (100 + 73)), some (.int (nI n)), y5, y6] [] h2) : aK x9 y9 p l e room_1 s m args below meth c Q D cA (fun q => s.heap.size ≤ q) ad0 7 0 0 688 [some (.ref 4), some (.ref (100 + 0)), some (.ref (100 + 50)), some (.ref (100 + 73)), some (.int (nI n)), y5, y6] [] h := by
  obtain ⟨d1, hM1⟩ := hM1
  obtain ⟨d2, hM2⟩ := hM2
  have hl2 : 73 < h1.1.length := Nat.lt_of_lt_of_le hl1 hM1.2.1.1
  refine k_aload_n hX.1 dL_law_688 rfl ?_
  refine kpc (b := 689) rfl ?_
  refine k_aload_n hX.1 dL_law_689 rfl ?_
  refine kpc (b := 690) rfl ?_
  refine k_iload hX.1 dL_law_690 rfl ?_
  refine kpc (b := 692) rfl ?_
  refine k_iconst hX.1 dL_law_692 ic_1 ?_
  refine kpc (b := 693) rfl ?_
  refine k_iadd hX.1 dL_law_693 ?_
  refine kpc (b := 694) rfl ?_
  refine k_sld (n := n + 1) hX (nI_add n 1) (by omega) dL_law_694 ?_
  refine kpc (b := 695) rfl ?_
  refine k_aload_n hX.1 dL_law_695 rfl ?_
  refine kpc (b := 696) rfl ?_
  refine k_iload hX.1 dL_law_696 rfl ?_
  refine kpc (b := 698) rfl ?_
  refine k_iconst hX.1 dL_law_698 ic_2 ?_
  refine kpc (b := 699) rfl ?_
  refine k_iadd hX.1 dL_law_699 ?_
  refine kpc (b := 700) rfl ?_
  refine k_sld (n := n + 2) hX (nI_add n 2) (by omega) dL_law_700 ?_
  refine kpc (b := 701) rfl ?_
  refine k_callVN (as := [.int (xs (n + 1)), .int (xs (n + 2))]) (r := some (.int v)) hX.1 lk_L_80 kX11 dL_law_701 hs1 hM1.2.1 rfl (lRm hM1.1 (by decide)) (Nat.le_of_ble_eq_true rfl) (lRx hM1.2.2.1 hx9) (lRy hM1.2.2.2 hy9) b_nil (bel7 hl1 (fun v hv => by cases hv; rfl) (fun v hv => aBel_up hl1 (hb5 v hv)) (fun v hv => aBel_up hl1 (hb6 v hv))) ?_
  show aK x9 y9 p l e room_1 s m args below meth c Q D cA _ ad0 7 0 0 _ _ [.int v] h1
  refine kpc (b := 704) rfl ?_
  refine k_aload_n hX.1 dL_law_704 rfl ?_
  refine kpc (b := 705) rfl ?_
  refine k_aload_n hX.1 dL_law_705 rfl ?_
  refine kpc (b := 706) rfl ?_
  refine k_iload hX.1 dL_law_706 rfl ?_
  refine kpc (b := 708) rfl ?_
  refine k_iconst hX.1 dL_law_708 ic_1 ?_
  refine kpc (b := 709) rfl ?_
  refine k_iadd hX.1 dL_law_709 ?_
  refine kpc (b := 710) rfl ?_
  refine k_sld (n := n + 1) hX (nI_add n 1) (by omega) dL_law_710 ?_
  refine kpc (b := 711) rfl ?_
  refine k_aload_n hX.1 dL_law_711 rfl ?_
  refine kpc (b := 712) rfl ?_
  refine k_iload hX.1 dL_law_712 rfl ?_
  refine kpc (b := 714) rfl ?_
  refine k_iconst hX.1 dL_law_714 ic_2 ?_
  refine kpc (b := 715) rfl ?_
  refine k_iadd hX.1 dL_law_715 ?_
  refine kpc (b := 716) rfl ?_
  refine k_sld (n := n + 2) hX (nI_add n 2) (by omega) dL_law_716 ?_
  refine kpc (b := 717) rfl ?_
  refine k_callVN (as := [.int (xs (n + 1)), .int (xs (n + 2))]) (r := some (.int v)) hX.1 lk_L_83 kX12 dL_law_717 hs2 hM2.2.1 rfl (lRm hM2.1 (by decide)) (Nat.le_of_ble_eq_true rfl) (lRx hM2.2.2.1 hx9) (lRy hM2.2.2.2 hy9) (b_cons b_int b_nil) (bel7 hl2 (fun v hv => by cases hv; rfl) (fun v hv => aBel_up hl2 (hb5 v hv)) (fun v hv => aBel_up hl2 (hb6 v hv))) ?_
  show aK x9 y9 p l e room_1 s m args below meth c Q D cA _ ad0 7 0 0 _ _ [.int v, .int v] h2
  refine kpc (b := 720) rfl ?_
  refine k_icmp_eq (tgt := 1684) hX.1 dL_law_720 (by decide) (fun hc => kk) (fun hc => absurd rfl hc)
theorem lc_14 (hX : lX p s m args c D cA ad0 b Ln xs) (hn : n + 5 < Ln) (hb5 : ∀ v, y5 = some v → aBel 174 v = true) (hb6 : ∀ v, y6 = some v → aBel 174 v = true) (hM1 : lM l yX11_border cX11_border 2 (some .int) [.ref (100 + 0), .int (xs (n + 1))] h (.int v) h1) (hM2 : lM l yX12_border cX12_border 2 (some .int) [.ref (100 + 50), .int (xs (n + 1))] h1 (.int v) h2) (hl1 : 73 < h.1.length) (hs1 : h.1[0]? = some (.inr 11)) (hs2 : h1.1[50]? = some (.inr 12)) (hx9 : x9 ≤ 1024) (hy9 : y9 ≤ 13034)
    (kk : aK x9 y9 p l e room_1 s m args below meth c Q D cA (fun q => s.heap.size ≤ q) ad0 7 0 0 1684 [some (.ref 4), some (.ref (100 + 0)), some (.ref (100 + 50)), some (.ref (100 + 73)), some (.int (nI n)), y5, y6] [] h2) : aK x9 y9 p l e room_1 s m args below meth c Q D cA (fun q => s.heap.size ≤ q) ad0 7 0 0 725 [some (.ref 4), some (.ref (100 + 0)), some (.ref (100 + 50)), some (.ref (100 + 73)), some (.int (nI n)), y5, y6] [] h := by
  obtain ⟨d1, hM1⟩ := hM1
  obtain ⟨d2, hM2⟩ := hM2
  have hl2 : 73 < h1.1.length := Nat.lt_of_lt_of_le hl1 hM1.2.1.1
  refine k_aload_n hX.1 dL_law_725 rfl ?_
  refine kpc (b := 726) rfl ?_
  refine k_aload_n hX.1 dL_law_726 rfl ?_
  refine kpc (b := 727) rfl ?_
  refine k_iload hX.1 dL_law_727 rfl ?_
  refine kpc (b := 729) rfl ?_
  refine k_iconst hX.1 dL_law_729 ic_1 ?_
  refine kpc (b := 730) rfl ?_
  refine k_iadd hX.1 dL_law_730 ?_
  refine kpc (b := 731) rfl ?_
  refine k_sld (n := n + 1) hX (nI_add n 1) (by omega) dL_law_731 ?_
  refine kpc (b := 732) rfl ?_
  refine k_callVN (as := [.int (xs (n + 1))]) (r := some (.int v)) hX.1 lk_L_84 kX11 dL_law_732 hs1 hM1.2.1 rfl (lRm hM1.1 (by decide)) (Nat.le_of_ble_eq_true rfl) (lRx hM1.2.2.1 hx9) (lRy hM1.2.2.2 hy9) b_nil (bel7 hl1 (fun v hv => by cases hv; rfl) (fun v hv => aBel_up hl1 (hb5 v hv)) (fun v hv => aBel_up hl1 (hb6 v hv))) ?_
  show aK x9 y9 p l e room_1 s m args below meth c Q D cA _ ad0 7 0 0 _ _ [.int v] h1
  refine kpc (b := 735) rfl ?_
  refine k_aload_n hX.1 dL_law_735 rfl ?_
  refine kpc (b := 736) rfl ?_
  refine k_aload_n hX.1 dL_law_736 rfl ?_
  refine kpc (b := 737) rfl ?_
  refine k_iload hX.1 dL_law_737 rfl ?_
  refine kpc (b := 739) rfl ?_
  refine k_iconst hX.1 dL_law_739 ic_1 ?_
  refine kpc (b := 740) rfl ?_
  refine k_iadd hX.1 dL_law_740 ?_
  refine kpc (b := 741) rfl ?_
  refine k_sld (n := n + 1) hX (nI_add n 1) (by omega) dL_law_741 ?_
  refine kpc (b := 742) rfl ?_
  refine k_callVN (as := [.int (xs (n + 1))]) (r := some (.int v)) hX.1 lk_L_87 kX12 dL_law_742 hs2 hM2.2.1 rfl (lRm hM2.1 (by decide)) (Nat.le_of_ble_eq_true rfl) (lRx hM2.2.2.1 hx9) (lRy hM2.2.2.2 hy9) (b_cons b_int b_nil) (bel7 hl2 (fun v hv => by cases hv; rfl) (fun v hv => aBel_up hl2 (hb5 v hv)) (fun v hv => aBel_up hl2 (hb6 v hv))) ?_
  show aK x9 y9 p l e room_1 s m args below meth c Q D cA _ ad0 7 0 0 _ _ [.int v, .int v] h2
  refine kpc (b := 745) rfl ?_
  refine k_icmp_eq (tgt := 1684) hX.1 dL_law_745 (by decide) (fun hc => kk) (fun hc => absurd rfl hc)
theorem lc_15 (hX : lX p s m args c D cA ad0 b Ln xs) (hn : n + 5 < Ln) (hb5 : ∀ v, y5 = some v → aBel 174 v = true) (hb6 : ∀ v, y6 = some v → aBel 174 v = true) (hM1 : lM l yX11_nights cX11_nights 5 (some .int) [.ref (100 + 0), .int (xs (n + 1)), .long ((((xs (n + 2)).toInt64 <<< ((32 : Int32).toInt64 &&& 63)) ||| ((xs (n + 3)).toInt64 &&& 4294967295)))] h (.int v) h1) (hM2 : lM l yX12_nights cX12_nights 6 (some .int) [.ref (100 + 50), .int (xs (n + 1)), .long ((((xs (n + 2)).toInt64 <<< ((32 : Int32).toInt64 &&& 63)) ||| ((xs (n + 3)).toInt64 &&& 4294967295)))] h1 (.int v) h2) (hl1 : 73 < h.1.length) (hs1 : h.1[0]? = some (.inr 11)) (hs2 : h1.1[50]? = some (.inr 12)) (hx9 : x9 ≤ 1024) (hy9 : y9 ≤ 13034)
    (kk : aK x9 y9 p l e room_1 s m args below meth c Q D cA (fun q => s.heap.size ≤ q) ad0 7 0 0 1684 [some (.ref 4), some (.ref (100 + 0)), some (.ref (100 + 50)), some (.ref (100 + 73)), some (.int (nI n)), y5, y6] [] h2) : aK x9 y9 p l e room_1 s m args below meth c Q D cA (fun q => s.heap.size ≤ q) ad0 7 0 0 750 [some (.ref 4), some (.ref (100 + 0)), some (.ref (100 + 50)), some (.ref (100 + 73)), some (.int (nI n)), y5, y6] [] h := by
  obtain ⟨d1, hM1⟩ := hM1
  obtain ⟨d2, hM2⟩ := hM2
  have hl2 : 73 < h1.1.length := Nat.lt_of_lt_of_le hl1 hM1.2.1.1
  refine k_aload_n hX.1 dL_law_750 rfl ?_
  refine kpc (b := 751) rfl ?_
  refine k_aload_n hX.1 dL_law_751 rfl ?_
  refine kpc (b := 752) rfl ?_
  refine k_iload hX.1 dL_law_752 rfl ?_
  refine kpc (b := 754) rfl ?_
  refine k_iconst hX.1 dL_law_754 ic_1 ?_
  refine kpc (b := 755) rfl ?_
  refine k_iadd hX.1 dL_law_755 ?_
  refine kpc (b := 756) rfl ?_
  refine k_sld (n := n + 1) hX (nI_add n 1) (by omega) dL_law_756 ?_
  refine kpc (b := 757) rfl ?_
  refine k_aload_n hX.1 dL_law_757 rfl ?_
  refine kpc (b := 758) rfl ?_
  refine k_iload hX.1 dL_law_758 rfl ?_
  refine kpc (b := 760) rfl ?_
  refine k_iconst hX.1 dL_law_760 ic_2 ?_
  refine kpc (b := 761) rfl ?_
  refine k_iadd hX.1 dL_law_761 ?_
  refine kpc (b := 762) rfl ?_
  refine k_sld (n := n + 2) hX (nI_add n 2) (by omega) dL_law_762 ?_
  refine kpc (b := 763) rfl ?_
  refine k_i2l hX.1 dL_law_763 ?_
  refine kpc (b := 764) rfl ?_
  refine k_bipush hX.1 dL_law_764 bp_32 ?_
  refine kpc (b := 766) rfl ?_
  refine k_lshl hX.1 dL_law_766 ?_
  refine kpc (b := 767) rfl ?_
  refine k_aload_n hX.1 dL_law_767 rfl ?_
  refine kpc (b := 768) rfl ?_
  refine k_iload hX.1 dL_law_768 rfl ?_
  refine kpc (b := 770) rfl ?_
  refine k_iconst hX.1 dL_law_770 ic_3 ?_
  refine kpc (b := 771) rfl ?_
  refine k_iadd hX.1 dL_law_771 ?_
  refine kpc (b := 772) rfl ?_
  refine k_sld (n := n + 3) hX (nI_add n 3) (by omega) dL_law_772 ?_
  refine kpc (b := 773) rfl ?_
  refine k_i2l hX.1 dL_law_773 ?_
  refine kpc (b := 774) rfl ?_
  refine k_ldc2_w (v := 4294967295) hX.1 lw_c88 dL_law_774 ?_
  refine kpc (b := 777) rfl ?_
  refine k_land hX.1 dL_law_777 ?_
  refine kpc (b := 778) rfl ?_
  refine k_lor hX.1 dL_law_778 ?_
  refine kpc (b := 779) rfl ?_
  refine k_callVN (as := [.int (xs (n + 1)), .long ((((xs (n + 2)).toInt64 <<< ((32 : Int32).toInt64 &&& 63)) ||| ((xs (n + 3)).toInt64 &&& 4294967295)))]) (r := some (.int v)) hX.1 lk_L_90 kX11 dL_law_779 hs1 hM1.2.1 rfl (lRm hM1.1 (by decide)) (Nat.le_of_ble_eq_true rfl) (lRx hM1.2.2.1 hx9) (lRy hM1.2.2.2 hy9) b_nil (bel7 hl1 (fun v hv => by cases hv; rfl) (fun v hv => aBel_up hl1 (hb5 v hv)) (fun v hv => aBel_up hl1 (hb6 v hv))) ?_
  show aK x9 y9 p l e room_1 s m args below meth c Q D cA _ ad0 7 0 0 _ _ [.int v] h1
  refine kpc (b := 782) rfl ?_
  refine k_aload_n hX.1 dL_law_782 rfl ?_
  refine kpc (b := 783) rfl ?_
  refine k_aload_n hX.1 dL_law_783 rfl ?_
  refine kpc (b := 784) rfl ?_
  refine k_iload hX.1 dL_law_784 rfl ?_
  refine kpc (b := 786) rfl ?_
  refine k_iconst hX.1 dL_law_786 ic_1 ?_
  refine kpc (b := 787) rfl ?_
  refine k_iadd hX.1 dL_law_787 ?_
  refine kpc (b := 788) rfl ?_
  refine k_sld (n := n + 1) hX (nI_add n 1) (by omega) dL_law_788 ?_
  refine kpc (b := 789) rfl ?_
  refine k_aload_n hX.1 dL_law_789 rfl ?_
  refine kpc (b := 790) rfl ?_
  refine k_iload hX.1 dL_law_790 rfl ?_
  refine kpc (b := 792) rfl ?_
  refine k_iconst hX.1 dL_law_792 ic_2 ?_
  refine kpc (b := 793) rfl ?_
  refine k_iadd hX.1 dL_law_793 ?_
  refine kpc (b := 794) rfl ?_
  refine k_sld (n := n + 2) hX (nI_add n 2) (by omega) dL_law_794 ?_
  refine kpc (b := 795) rfl ?_
  refine k_i2l hX.1 dL_law_795 ?_
  refine kpc (b := 796) rfl ?_
  refine k_bipush hX.1 dL_law_796 bp_32 ?_
  refine kpc (b := 798) rfl ?_
  refine k_lshl hX.1 dL_law_798 ?_
  refine kpc (b := 799) rfl ?_
  refine k_aload_n hX.1 dL_law_799 rfl ?_
  refine kpc (b := 800) rfl ?_
  refine k_iload hX.1 dL_law_800 rfl ?_
  refine kpc (b := 802) rfl ?_
  refine k_iconst hX.1 dL_law_802 ic_3 ?_
  refine kpc (b := 803) rfl ?_
  refine k_iadd hX.1 dL_law_803 ?_
  refine kpc (b := 804) rfl ?_
  refine k_sld (n := n + 3) hX (nI_add n 3) (by omega) dL_law_804 ?_
  refine kpc (b := 805) rfl ?_
  refine k_i2l hX.1 dL_law_805 ?_
  refine kpc (b := 806) rfl ?_
  refine k_ldc2_w (v := 4294967295) hX.1 lw_c88 dL_law_806 ?_
  refine kpc (b := 809) rfl ?_
  refine k_land hX.1 dL_law_809 ?_
  refine kpc (b := 810) rfl ?_
  refine k_lor hX.1 dL_law_810 ?_
  refine kpc (b := 811) rfl ?_
  refine k_callVN (as := [.int (xs (n + 1)), .long ((((xs (n + 2)).toInt64 <<< ((32 : Int32).toInt64 &&& 63)) ||| ((xs (n + 3)).toInt64 &&& 4294967295)))]) (r := some (.int v)) hX.1 lk_L_94 kX12 dL_law_811 hs2 hM2.2.1 rfl (lRm hM2.1 (by decide)) (Nat.le_of_ble_eq_true rfl) (lRx hM2.2.2.1 hx9) (lRy hM2.2.2.2 hy9) (b_cons b_int b_nil) (bel7 hl2 (fun v hv => by cases hv; rfl) (fun v hv => aBel_up hl2 (hb5 v hv)) (fun v hv => aBel_up hl2 (hb6 v hv))) ?_
  show aK x9 y9 p l e room_1 s m args below meth c Q D cA _ ad0 7 0 0 _ _ [.int v, .int v] h2
  refine kpc (b := 814) rfl ?_
  refine k_icmp_eq (tgt := 1684) hX.1 dL_law_814 (by decide) (fun hc => kk) (fun hc => absurd rfl hc)
theorem lc_16 (hX : lX p s m args c D cA ad0 b Ln xs) (hn : n + 5 < Ln) (hb5 : ∀ v, y5 = some v → aBel 174 v = true) (hb6 : ∀ v, y6 = some v → aBel 174 v = true) (hM1 : lM l yX11_undo cX11_undo 1 (some .int) [.ref (100 + 0)] h (.int v) h1) (hM2 : lM l yX12_undo cX12_undo 2 (some .int) [.ref (100 + 50)] h1 (.int v) h2) (hl1 : 73 < h.1.length) (hs1 : h.1[0]? = some (.inr 11)) (hs2 : h1.1[50]? = some (.inr 12)) (hx9 : x9 ≤ 1024) (hy9 : y9 ≤ 13034)
    (kk : aK x9 y9 p l e room_1 s m args below meth c Q D cA (fun q => s.heap.size ≤ q) ad0 7 0 0 1684 [some (.ref 4), some (.ref (100 + 0)), some (.ref (100 + 50)), some (.ref (100 + 73)), some (.int (nI n)), y5, y6] [] h2) : aK x9 y9 p l e room_1 s m args below meth c Q D cA (fun q => s.heap.size ≤ q) ad0 7 0 0 819 [some (.ref 4), some (.ref (100 + 0)), some (.ref (100 + 50)), some (.ref (100 + 73)), some (.int (nI n)), y5, y6] [] h := by
  obtain ⟨d1, hM1⟩ := hM1
  obtain ⟨d2, hM2⟩ := hM2
  have hl2 : 73 < h1.1.length := Nat.lt_of_lt_of_le hl1 hM1.2.1.1
  refine k_aload_n hX.1 dL_law_819 rfl ?_
  refine kpc (b := 820) rfl ?_
  refine k_callVN (as := []) (r := some (.int v)) hX.1 lk_L_95 kX11 dL_law_820 hs1 hM1.2.1 rfl (lRm hM1.1 (by decide)) (Nat.le_of_ble_eq_true rfl) (lRx hM1.2.2.1 hx9) (lRy hM1.2.2.2 hy9) b_nil (bel7 hl1 (fun v hv => by cases hv; rfl) (fun v hv => aBel_up hl1 (hb5 v hv)) (fun v hv => aBel_up hl1 (hb6 v hv))) ?_
  show aK x9 y9 p l e room_1 s m args below meth c Q D cA _ ad0 7 0 0 _ _ [.int v] h1
  refine kpc (b := 823) rfl ?_
  refine k_aload_n hX.1 dL_law_823 rfl ?_
  refine kpc (b := 824) rfl ?_
  refine k_callVN (as := []) (r := some (.int v)) hX.1 lk_L_98 kX12 dL_law_824 hs2 hM2.2.1 rfl (lRm hM2.1 (by decide)) (Nat.le_of_ble_eq_true rfl) (lRx hM2.2.2.1 hx9) (lRy hM2.2.2.2 hy9) (b_cons b_int b_nil) (bel7 hl2 (fun v hv => by cases hv; rfl) (fun v hv => aBel_up hl2 (hb5 v hv)) (fun v hv => aBel_up hl2 (hb6 v hv))) ?_
  show aK x9 y9 p l e room_1 s m args below meth c Q D cA _ ad0 7 0 0 _ _ [.int v, .int v] h2
  refine kpc (b := 827) rfl ?_
  refine k_icmp_eq (tgt := 1684) hX.1 dL_law_827 (by decide) (fun hc => kk) (fun hc => absurd rfl hc)
theorem lc_17 (hX : lX p s m args c D cA ad0 b Ln xs) (hn : n + 5 < Ln) (hb5 : ∀ v, y5 = some v → aBel 174 v = true) (hb6 : ∀ v, y6 = some v → aBel 174 v = true) (hM1 : lM l yX11_log cX11_log 3 (some .int) [.ref (100 + 0), .int (xs (n + 1)), .int (xs (n + 2))] h (.int v) h1) (hM2 : lM l yX12_log cX12_log 3 (some .int) [.ref (100 + 50), .int (xs (n + 1)), .int (xs (n + 2))] h1 (.int v) h2) (hl1 : 73 < h.1.length) (hs1 : h.1[0]? = some (.inr 11)) (hs2 : h1.1[50]? = some (.inr 12)) (hx9 : x9 ≤ 1024) (hy9 : y9 ≤ 13034)
    (kk : aK x9 y9 p l e room_1 s m args below meth c Q D cA (fun q => s.heap.size ≤ q) ad0 7 0 0 1684 [some (.ref 4), some (.ref (100 + 0)), some (.ref (100 + 50)), some (.ref (100 + 73)), some (.int (nI n)), y5, y6] [] h2) : aK x9 y9 p l e room_1 s m args below meth c Q D cA (fun q => s.heap.size ≤ q) ad0 7 0 0 832 [some (.ref 4), some (.ref (100 + 0)), some (.ref (100 + 50)), some (.ref (100 + 73)), some (.int (nI n)), y5, y6] [] h := by
  obtain ⟨d1, hM1⟩ := hM1
  obtain ⟨d2, hM2⟩ := hM2
  have hl2 : 73 < h1.1.length := Nat.lt_of_lt_of_le hl1 hM1.2.1.1
  refine k_aload_n hX.1 dL_law_832 rfl ?_
  refine kpc (b := 833) rfl ?_
  refine k_aload_n hX.1 dL_law_833 rfl ?_
  refine kpc (b := 834) rfl ?_
  refine k_iload hX.1 dL_law_834 rfl ?_
  refine kpc (b := 836) rfl ?_
  refine k_iconst hX.1 dL_law_836 ic_1 ?_
  refine kpc (b := 837) rfl ?_
  refine k_iadd hX.1 dL_law_837 ?_
  refine kpc (b := 838) rfl ?_
  refine k_sld (n := n + 1) hX (nI_add n 1) (by omega) dL_law_838 ?_
  refine kpc (b := 839) rfl ?_
  refine k_aload_n hX.1 dL_law_839 rfl ?_
  refine kpc (b := 840) rfl ?_
  refine k_iload hX.1 dL_law_840 rfl ?_
  refine kpc (b := 842) rfl ?_
  refine k_iconst hX.1 dL_law_842 ic_2 ?_
  refine kpc (b := 843) rfl ?_
  refine k_iadd hX.1 dL_law_843 ?_
  refine kpc (b := 844) rfl ?_
  refine k_sld (n := n + 2) hX (nI_add n 2) (by omega) dL_law_844 ?_
  refine kpc (b := 845) rfl ?_
  refine k_callVN (as := [.int (xs (n + 1)), .int (xs (n + 2))]) (r := some (.int v)) hX.1 lk_L_99 kX11 dL_law_845 hs1 hM1.2.1 rfl (lRm hM1.1 (by decide)) (Nat.le_of_ble_eq_true rfl) (lRx hM1.2.2.1 hx9) (lRy hM1.2.2.2 hy9) b_nil (bel7 hl1 (fun v hv => by cases hv; rfl) (fun v hv => aBel_up hl1 (hb5 v hv)) (fun v hv => aBel_up hl1 (hb6 v hv))) ?_
  show aK x9 y9 p l e room_1 s m args below meth c Q D cA _ ad0 7 0 0 _ _ [.int v] h1
  refine kpc (b := 848) rfl ?_
  refine k_aload_n hX.1 dL_law_848 rfl ?_
  refine kpc (b := 849) rfl ?_
  refine k_aload_n hX.1 dL_law_849 rfl ?_
  refine kpc (b := 850) rfl ?_
  refine k_iload hX.1 dL_law_850 rfl ?_
  refine kpc (b := 852) rfl ?_
  refine k_iconst hX.1 dL_law_852 ic_1 ?_
  refine kpc (b := 853) rfl ?_
  refine k_iadd hX.1 dL_law_853 ?_
  refine kpc (b := 854) rfl ?_
  refine k_sld (n := n + 1) hX (nI_add n 1) (by omega) dL_law_854 ?_
  refine kpc (b := 855) rfl ?_
  refine k_aload_n hX.1 dL_law_855 rfl ?_
  refine kpc (b := 856) rfl ?_
  refine k_iload hX.1 dL_law_856 rfl ?_
  refine kpc (b := 858) rfl ?_
  refine k_iconst hX.1 dL_law_858 ic_2 ?_
  refine kpc (b := 859) rfl ?_
  refine k_iadd hX.1 dL_law_859 ?_
  refine kpc (b := 860) rfl ?_
  refine k_sld (n := n + 2) hX (nI_add n 2) (by omega) dL_law_860 ?_
  refine kpc (b := 861) rfl ?_
  refine k_callVN (as := [.int (xs (n + 1)), .int (xs (n + 2))]) (r := some (.int v)) hX.1 lk_L_102 kX12 dL_law_861 hs2 hM2.2.1 rfl (lRm hM2.1 (by decide)) (Nat.le_of_ble_eq_true rfl) (lRx hM2.2.2.1 hx9) (lRy hM2.2.2.2 hy9) (b_cons b_int b_nil) (bel7 hl2 (fun v hv => by cases hv; rfl) (fun v hv => aBel_up hl2 (hb5 v hv)) (fun v hv => aBel_up hl2 (hb6 v hv))) ?_
  show aK x9 y9 p l e room_1 s m args below meth c Q D cA _ ad0 7 0 0 _ _ [.int v, .int v] h2
  refine kpc (b := 864) rfl ?_
  refine k_icmp_eq (tgt := 1684) hX.1 dL_law_864 (by decide) (fun hc => kk) (fun hc => absurd rfl hc)
theorem lc_18 (hX : lX p s m args c D cA ad0 b Ln xs) (hn : n + 5 < Ln) (hb5 : ∀ v, y5 = some v → aBel 174 v = true) (hb6 : ∀ v, y6 = some v → aBel 174 v = true) (hM1 : lM l yX11_step cX11_step 5 (some .int) [.ref (100 + 0), .int (xs (n + 1)), .int (xs (n + 2)), .int (xs (n + 3))] h (.int v) h1) (hM2 : lM l yX12_step cX12_step 4 (some .int) [.ref (100 + 50), .int (xs (n + 1)), .int (xs (n + 2)), .int (xs (n + 3))] h1 (.int v) h2) (hl1 : 73 < h.1.length) (hs1 : h.1[0]? = some (.inr 11)) (hs2 : h1.1[50]? = some (.inr 12)) (hx9 : x9 ≤ 1024) (hy9 : y9 ≤ 13034)
    (kk : aK x9 y9 p l e room_1 s m args below meth c Q D cA (fun q => s.heap.size ≤ q) ad0 7 0 0 1684 [some (.ref 4), some (.ref (100 + 0)), some (.ref (100 + 50)), some (.ref (100 + 73)), some (.int (nI n)), y5, y6] [] h2) : aK x9 y9 p l e room_1 s m args below meth c Q D cA (fun q => s.heap.size ≤ q) ad0 7 0 0 869 [some (.ref 4), some (.ref (100 + 0)), some (.ref (100 + 50)), some (.ref (100 + 73)), some (.int (nI n)), y5, y6] [] h := by
  obtain ⟨d1, hM1⟩ := hM1
  obtain ⟨d2, hM2⟩ := hM2
  have hl2 : 73 < h1.1.length := Nat.lt_of_lt_of_le hl1 hM1.2.1.1
  refine k_aload_n hX.1 dL_law_869 rfl ?_
  refine kpc (b := 870) rfl ?_
  refine k_aload_n hX.1 dL_law_870 rfl ?_
  refine kpc (b := 871) rfl ?_
  refine k_iload hX.1 dL_law_871 rfl ?_
  refine kpc (b := 873) rfl ?_
  refine k_iconst hX.1 dL_law_873 ic_1 ?_
  refine kpc (b := 874) rfl ?_
  refine k_iadd hX.1 dL_law_874 ?_
  refine kpc (b := 875) rfl ?_
  refine k_sld (n := n + 1) hX (nI_add n 1) (by omega) dL_law_875 ?_
  refine kpc (b := 876) rfl ?_
  refine k_aload_n hX.1 dL_law_876 rfl ?_
  refine kpc (b := 877) rfl ?_
  refine k_iload hX.1 dL_law_877 rfl ?_
  refine kpc (b := 879) rfl ?_
  refine k_iconst hX.1 dL_law_879 ic_2 ?_
  refine kpc (b := 880) rfl ?_
  refine k_iadd hX.1 dL_law_880 ?_
  refine kpc (b := 881) rfl ?_
  refine k_sld (n := n + 2) hX (nI_add n 2) (by omega) dL_law_881 ?_
  refine kpc (b := 882) rfl ?_
  refine k_aload_n hX.1 dL_law_882 rfl ?_
  refine kpc (b := 883) rfl ?_
  refine k_iload hX.1 dL_law_883 rfl ?_
  refine kpc (b := 885) rfl ?_
  refine k_iconst hX.1 dL_law_885 ic_3 ?_
  refine kpc (b := 886) rfl ?_
  refine k_iadd hX.1 dL_law_886 ?_
  refine kpc (b := 887) rfl ?_
  refine k_sld (n := n + 3) hX (nI_add n 3) (by omega) dL_law_887 ?_
  refine kpc (b := 888) rfl ?_
  refine k_callVN (as := [.int (xs (n + 1)), .int (xs (n + 2)), .int (xs (n + 3))]) (r := some (.int v)) hX.1 lk_L_103 kX11 dL_law_888 hs1 hM1.2.1 rfl (lRm hM1.1 (by decide)) (Nat.le_of_ble_eq_true rfl) (lRx hM1.2.2.1 hx9) (lRy hM1.2.2.2 hy9) b_nil (bel7 hl1 (fun v hv => by cases hv; rfl) (fun v hv => aBel_up hl1 (hb5 v hv)) (fun v hv => aBel_up hl1 (hb6 v hv))) ?_
  show aK x9 y9 p l e room_1 s m args below meth c Q D cA _ ad0 7 0 0 _ _ [.int v] h1
  refine kpc (b := 891) rfl ?_
  refine k_aload_n hX.1 dL_law_891 rfl ?_
  refine kpc (b := 892) rfl ?_
  refine k_aload_n hX.1 dL_law_892 rfl ?_
  refine kpc (b := 893) rfl ?_
  refine k_iload hX.1 dL_law_893 rfl ?_
  refine kpc (b := 895) rfl ?_
  refine k_iconst hX.1 dL_law_895 ic_1 ?_
  refine kpc (b := 896) rfl ?_
  refine k_iadd hX.1 dL_law_896 ?_
  refine kpc (b := 897) rfl ?_
  refine k_sld (n := n + 1) hX (nI_add n 1) (by omega) dL_law_897 ?_
  refine kpc (b := 898) rfl ?_
  refine k_aload_n hX.1 dL_law_898 rfl ?_
  refine kpc (b := 899) rfl ?_
  refine k_iload hX.1 dL_law_899 rfl ?_
  refine kpc (b := 901) rfl ?_
  refine k_iconst hX.1 dL_law_901 ic_2 ?_
  refine kpc (b := 902) rfl ?_
  refine k_iadd hX.1 dL_law_902 ?_
  refine kpc (b := 903) rfl ?_
  refine k_sld (n := n + 2) hX (nI_add n 2) (by omega) dL_law_903 ?_
  refine kpc (b := 904) rfl ?_
  refine k_aload_n hX.1 dL_law_904 rfl ?_
  refine kpc (b := 905) rfl ?_
  refine k_iload hX.1 dL_law_905 rfl ?_
  refine kpc (b := 907) rfl ?_
  refine k_iconst hX.1 dL_law_907 ic_3 ?_
  refine kpc (b := 908) rfl ?_
  refine k_iadd hX.1 dL_law_908 ?_
  refine kpc (b := 909) rfl ?_
  refine k_sld (n := n + 3) hX (nI_add n 3) (by omega) dL_law_909 ?_
  refine kpc (b := 910) rfl ?_
  refine k_callVN (as := [.int (xs (n + 1)), .int (xs (n + 2)), .int (xs (n + 3))]) (r := some (.int v)) hX.1 lk_L_107 kX12 dL_law_910 hs2 hM2.2.1 rfl (lRm hM2.1 (by decide)) (Nat.le_of_ble_eq_true rfl) (lRx hM2.2.2.1 hx9) (lRy hM2.2.2.2 hy9) (b_cons b_int b_nil) (bel7 hl2 (fun v hv => by cases hv; rfl) (fun v hv => aBel_up hl2 (hb5 v hv)) (fun v hv => aBel_up hl2 (hb6 v hv))) ?_
  show aK x9 y9 p l e room_1 s m args below meth c Q D cA _ ad0 7 0 0 _ _ [.int v, .int v] h2
  refine kpc (b := 913) rfl ?_
  refine k_icmp_eq (tgt := 1684) hX.1 dL_law_913 (by decide) (fun hc => kk) (fun hc => absurd rfl hc)
theorem lc_19 (hX : lX p s m args c D cA ad0 b Ln xs) (hn : n + 5 < Ln) (hb5 : ∀ v, y5 = some v → aBel 174 v = true) (hb6 : ∀ v, y6 = some v → aBel 174 v = true) (hM1 : lM l yX11_run cX11_run 5 (some .int) [.ref (100 + 0), .int (xs (n + 1)), .int (xs (n + 2))] h (.int v) h1) (hM2 : lM l yX12_run cX12_run 4 (some .int) [.ref (100 + 50), .int (xs (n + 1)), .int (xs (n + 2))] h1 (.int v) h2) (hl1 : 73 < h.1.length) (hs1 : h.1[0]? = some (.inr 11)) (hs2 : h1.1[50]? = some (.inr 12)) (hx9 : x9 ≤ 1024) (hy9 : y9 ≤ 13034)
    (kk : aK x9 y9 p l e room_1 s m args below meth c Q D cA (fun q => s.heap.size ≤ q) ad0 7 0 0 1684 [some (.ref 4), some (.ref (100 + 0)), some (.ref (100 + 50)), some (.ref (100 + 73)), some (.int (nI n)), y5, y6] [] h2) : aK x9 y9 p l e room_1 s m args below meth c Q D cA (fun q => s.heap.size ≤ q) ad0 7 0 0 918 [some (.ref 4), some (.ref (100 + 0)), some (.ref (100 + 50)), some (.ref (100 + 73)), some (.int (nI n)), y5, y6] [] h := by
  obtain ⟨d1, hM1⟩ := hM1
  obtain ⟨d2, hM2⟩ := hM2
  have hl2 : 73 < h1.1.length := Nat.lt_of_lt_of_le hl1 hM1.2.1.1
  refine k_aload_n hX.1 dL_law_918 rfl ?_
  refine kpc (b := 919) rfl ?_
  refine k_aload_n hX.1 dL_law_919 rfl ?_
  refine kpc (b := 920) rfl ?_
  refine k_iload hX.1 dL_law_920 rfl ?_
  refine kpc (b := 922) rfl ?_
  refine k_iconst hX.1 dL_law_922 ic_1 ?_
  refine kpc (b := 923) rfl ?_
  refine k_iadd hX.1 dL_law_923 ?_
  refine kpc (b := 924) rfl ?_
  refine k_sld (n := n + 1) hX (nI_add n 1) (by omega) dL_law_924 ?_
  refine kpc (b := 925) rfl ?_
  refine k_aload_n hX.1 dL_law_925 rfl ?_
  refine kpc (b := 926) rfl ?_
  refine k_iload hX.1 dL_law_926 rfl ?_
  refine kpc (b := 928) rfl ?_
  refine k_iconst hX.1 dL_law_928 ic_2 ?_
  refine kpc (b := 929) rfl ?_
  refine k_iadd hX.1 dL_law_929 ?_
  refine kpc (b := 930) rfl ?_
  refine k_sld (n := n + 2) hX (nI_add n 2) (by omega) dL_law_930 ?_
  refine kpc (b := 931) rfl ?_
  refine k_callVN (as := [.int (xs (n + 1)), .int (xs (n + 2))]) (r := some (.int v)) hX.1 lk_L_108 kX11 dL_law_931 hs1 hM1.2.1 rfl (lRm hM1.1 (by decide)) (Nat.le_of_ble_eq_true rfl) (lRx hM1.2.2.1 hx9) (lRy hM1.2.2.2 hy9) b_nil (bel7 hl1 (fun v hv => by cases hv; rfl) (fun v hv => aBel_up hl1 (hb5 v hv)) (fun v hv => aBel_up hl1 (hb6 v hv))) ?_
  show aK x9 y9 p l e room_1 s m args below meth c Q D cA _ ad0 7 0 0 _ _ [.int v] h1
  refine kpc (b := 934) rfl ?_
  refine k_aload_n hX.1 dL_law_934 rfl ?_
  refine kpc (b := 935) rfl ?_
  refine k_aload_n hX.1 dL_law_935 rfl ?_
  refine kpc (b := 936) rfl ?_
  refine k_iload hX.1 dL_law_936 rfl ?_
  refine kpc (b := 938) rfl ?_
  refine k_iconst hX.1 dL_law_938 ic_1 ?_
  refine kpc (b := 939) rfl ?_
  refine k_iadd hX.1 dL_law_939 ?_
  refine kpc (b := 940) rfl ?_
  refine k_sld (n := n + 1) hX (nI_add n 1) (by omega) dL_law_940 ?_
  refine kpc (b := 941) rfl ?_
  refine k_aload_n hX.1 dL_law_941 rfl ?_
  refine kpc (b := 942) rfl ?_
  refine k_iload hX.1 dL_law_942 rfl ?_
  refine kpc (b := 944) rfl ?_
  refine k_iconst hX.1 dL_law_944 ic_2 ?_
  refine kpc (b := 945) rfl ?_
  refine k_iadd hX.1 dL_law_945 ?_
  refine kpc (b := 946) rfl ?_
  refine k_sld (n := n + 2) hX (nI_add n 2) (by omega) dL_law_946 ?_
  refine kpc (b := 947) rfl ?_
  refine k_callVN (as := [.int (xs (n + 1)), .int (xs (n + 2))]) (r := some (.int v)) hX.1 lk_L_111 kX12 dL_law_947 hs2 hM2.2.1 rfl (lRm hM2.1 (by decide)) (Nat.le_of_ble_eq_true rfl) (lRx hM2.2.2.1 hx9) (lRy hM2.2.2.2 hy9) (b_cons b_int b_nil) (bel7 hl2 (fun v hv => by cases hv; rfl) (fun v hv => aBel_up hl2 (hb5 v hv)) (fun v hv => aBel_up hl2 (hb6 v hv))) ?_
  show aK x9 y9 p l e room_1 s m args below meth c Q D cA _ ad0 7 0 0 _ _ [.int v, .int v] h2
  refine kpc (b := 950) rfl ?_
  refine k_icmp_eq (tgt := 1684) hX.1 dL_law_950 (by decide) (fun hc => kk) (fun hc => absurd rfl hc)
theorem lc_20 (hX : lX p s m args c D cA ad0 b Ln xs) (hn : n + 5 < Ln) (hb5 : ∀ v, y5 = some v → aBel 174 v = true) (hb6 : ∀ v, y6 = some v → aBel 174 v = true) (hM1 : lM l yX11_perform cX11_perform 4 (some .int) [.ref (100 + 0), .int (xs (n + 1))] h (.int v) h1) (hM2 : lM l yX12_perform cX12_perform 3 (some .int) [.ref (100 + 50), .int (xs (n + 1))] h1 (.int v) h2) (hl1 : 73 < h.1.length) (hs1 : h.1[0]? = some (.inr 11)) (hs2 : h1.1[50]? = some (.inr 12)) (hx9 : x9 ≤ 1024) (hy9 : y9 ≤ 13034)
    (kk : aK x9 y9 p l e room_1 s m args below meth c Q D cA (fun q => s.heap.size ≤ q) ad0 7 0 0 1684 [some (.ref 4), some (.ref (100 + 0)), some (.ref (100 + 50)), some (.ref (100 + 73)), some (.int (nI n)), y5, y6] [] h2) : aK x9 y9 p l e room_1 s m args below meth c Q D cA (fun q => s.heap.size ≤ q) ad0 7 0 0 955 [some (.ref 4), some (.ref (100 + 0)), some (.ref (100 + 50)), some (.ref (100 + 73)), some (.int (nI n)), y5, y6] [] h := by
  obtain ⟨d1, hM1⟩ := hM1
  obtain ⟨d2, hM2⟩ := hM2
  have hl2 : 73 < h1.1.length := Nat.lt_of_lt_of_le hl1 hM1.2.1.1
  refine k_aload_n hX.1 dL_law_955 rfl ?_
  refine kpc (b := 956) rfl ?_
  refine k_aload_n hX.1 dL_law_956 rfl ?_
  refine kpc (b := 957) rfl ?_
  refine k_iload hX.1 dL_law_957 rfl ?_
  refine kpc (b := 959) rfl ?_
  refine k_iconst hX.1 dL_law_959 ic_1 ?_
  refine kpc (b := 960) rfl ?_
  refine k_iadd hX.1 dL_law_960 ?_
  refine kpc (b := 961) rfl ?_
  refine k_sld (n := n + 1) hX (nI_add n 1) (by omega) dL_law_961 ?_
  refine kpc (b := 962) rfl ?_
  refine k_callVN (as := [.int (xs (n + 1))]) (r := some (.int v)) hX.1 lk_L_112 kX11 dL_law_962 hs1 hM1.2.1 rfl (lRm hM1.1 (by decide)) (Nat.le_of_ble_eq_true rfl) (lRx hM1.2.2.1 hx9) (lRy hM1.2.2.2 hy9) b_nil (bel7 hl1 (fun v hv => by cases hv; rfl) (fun v hv => aBel_up hl1 (hb5 v hv)) (fun v hv => aBel_up hl1 (hb6 v hv))) ?_
  show aK x9 y9 p l e room_1 s m args below meth c Q D cA _ ad0 7 0 0 _ _ [.int v] h1
  refine kpc (b := 965) rfl ?_
  refine k_aload_n hX.1 dL_law_965 rfl ?_
  refine kpc (b := 966) rfl ?_
  refine k_aload_n hX.1 dL_law_966 rfl ?_
  refine kpc (b := 967) rfl ?_
  refine k_iload hX.1 dL_law_967 rfl ?_
  refine kpc (b := 969) rfl ?_
  refine k_iconst hX.1 dL_law_969 ic_1 ?_
  refine kpc (b := 970) rfl ?_
  refine k_iadd hX.1 dL_law_970 ?_
  refine kpc (b := 971) rfl ?_
  refine k_sld (n := n + 1) hX (nI_add n 1) (by omega) dL_law_971 ?_
  refine kpc (b := 972) rfl ?_
  refine k_callVN (as := [.int (xs (n + 1))]) (r := some (.int v)) hX.1 lk_L_115 kX12 dL_law_972 hs2 hM2.2.1 rfl (lRm hM2.1 (by decide)) (Nat.le_of_ble_eq_true rfl) (lRx hM2.2.2.1 hx9) (lRy hM2.2.2.2 hy9) (b_cons b_int b_nil) (bel7 hl2 (fun v hv => by cases hv; rfl) (fun v hv => aBel_up hl2 (hb5 v hv)) (fun v hv => aBel_up hl2 (hb6 v hv))) ?_
  show aK x9 y9 p l e room_1 s m args below meth c Q D cA _ ad0 7 0 0 _ _ [.int v, .int v] h2
  refine kpc (b := 975) rfl ?_
  refine k_icmp_eq (tgt := 1684) hX.1 dL_law_975 (by decide) (fun hc => kk) (fun hc => absurd rfl hc)
theorem lc_21 (hX : lX p s m args c D cA ad0 b Ln xs) (hn : n + 5 < Ln) (hb5 : ∀ v, y5 = some v → aBel 174 v = true) (hb6 : ∀ v, y6 = some v → aBel 174 v = true) (hM1 : lM l yX11_time cX11_time 4 (some .int) [.ref (100 + 0), .int (xs (n + 1)), .int (xs (n + 2))] h (.int v) h1) (hM2 : lM l yX12_time cX12_time 3 (some .int) [.ref (100 + 50), .int (xs (n + 1)), .int (xs (n + 2))] h1 (.int v) h2) (hl1 : 73 < h.1.length) (hs1 : h.1[0]? = some (.inr 11)) (hs2 : h1.1[50]? = some (.inr 12)) (hx9 : x9 ≤ 1024) (hy9 : y9 ≤ 13034)
    (kk : aK x9 y9 p l e room_1 s m args below meth c Q D cA (fun q => s.heap.size ≤ q) ad0 7 0 0 1684 [some (.ref 4), some (.ref (100 + 0)), some (.ref (100 + 50)), some (.ref (100 + 73)), some (.int (nI n)), y5, y6] [] h2) : aK x9 y9 p l e room_1 s m args below meth c Q D cA (fun q => s.heap.size ≤ q) ad0 7 0 0 980 [some (.ref 4), some (.ref (100 + 0)), some (.ref (100 + 50)), some (.ref (100 + 73)), some (.int (nI n)), y5, y6] [] h := by
  obtain ⟨d1, hM1⟩ := hM1
  obtain ⟨d2, hM2⟩ := hM2
  have hl2 : 73 < h1.1.length := Nat.lt_of_lt_of_le hl1 hM1.2.1.1
  refine k_aload_n hX.1 dL_law_980 rfl ?_
  refine kpc (b := 981) rfl ?_
  refine k_aload_n hX.1 dL_law_981 rfl ?_
  refine kpc (b := 982) rfl ?_
  refine k_iload hX.1 dL_law_982 rfl ?_
  refine kpc (b := 984) rfl ?_
  refine k_iconst hX.1 dL_law_984 ic_1 ?_
  refine kpc (b := 985) rfl ?_
  refine k_iadd hX.1 dL_law_985 ?_
  refine kpc (b := 986) rfl ?_
  refine k_sld (n := n + 1) hX (nI_add n 1) (by omega) dL_law_986 ?_
  refine kpc (b := 987) rfl ?_
  refine k_aload_n hX.1 dL_law_987 rfl ?_
  refine kpc (b := 988) rfl ?_
  refine k_iload hX.1 dL_law_988 rfl ?_
  refine kpc (b := 990) rfl ?_
  refine k_iconst hX.1 dL_law_990 ic_2 ?_
  refine kpc (b := 991) rfl ?_
  refine k_iadd hX.1 dL_law_991 ?_
  refine kpc (b := 992) rfl ?_
  refine k_sld (n := n + 2) hX (nI_add n 2) (by omega) dL_law_992 ?_
  refine kpc (b := 993) rfl ?_
  refine k_callVN (as := [.int (xs (n + 1)), .int (xs (n + 2))]) (r := some (.int v)) hX.1 lk_L_116 kX11 dL_law_993 hs1 hM1.2.1 rfl (lRm hM1.1 (by decide)) (Nat.le_of_ble_eq_true rfl) (lRx hM1.2.2.1 hx9) (lRy hM1.2.2.2 hy9) b_nil (bel7 hl1 (fun v hv => by cases hv; rfl) (fun v hv => aBel_up hl1 (hb5 v hv)) (fun v hv => aBel_up hl1 (hb6 v hv))) ?_
  show aK x9 y9 p l e room_1 s m args below meth c Q D cA _ ad0 7 0 0 _ _ [.int v] h1
  refine kpc (b := 996) rfl ?_
  refine k_aload_n hX.1 dL_law_996 rfl ?_
  refine kpc (b := 997) rfl ?_
  refine k_aload_n hX.1 dL_law_997 rfl ?_
  refine kpc (b := 998) rfl ?_
  refine k_iload hX.1 dL_law_998 rfl ?_
  refine kpc (b := 1000) rfl ?_
  refine k_iconst hX.1 dL_law_1000 ic_1 ?_
  refine kpc (b := 1001) rfl ?_
  refine k_iadd hX.1 dL_law_1001 ?_
  refine kpc (b := 1002) rfl ?_
  refine k_sld (n := n + 1) hX (nI_add n 1) (by omega) dL_law_1002 ?_
  refine kpc (b := 1003) rfl ?_
  refine k_aload_n hX.1 dL_law_1003 rfl ?_
  refine kpc (b := 1004) rfl ?_
  refine k_iload hX.1 dL_law_1004 rfl ?_
  refine kpc (b := 1006) rfl ?_
  refine k_iconst hX.1 dL_law_1006 ic_2 ?_
  refine kpc (b := 1007) rfl ?_
  refine k_iadd hX.1 dL_law_1007 ?_
  refine kpc (b := 1008) rfl ?_
  refine k_sld (n := n + 2) hX (nI_add n 2) (by omega) dL_law_1008 ?_
  refine kpc (b := 1009) rfl ?_
  refine k_callVN (as := [.int (xs (n + 1)), .int (xs (n + 2))]) (r := some (.int v)) hX.1 lk_L_119 kX12 dL_law_1009 hs2 hM2.2.1 rfl (lRm hM2.1 (by decide)) (Nat.le_of_ble_eq_true rfl) (lRx hM2.2.2.1 hx9) (lRy hM2.2.2.2 hy9) (b_cons b_int b_nil) (bel7 hl2 (fun v hv => by cases hv; rfl) (fun v hv => aBel_up hl2 (hb5 v hv)) (fun v hv => aBel_up hl2 (hb6 v hv))) ?_
  show aK x9 y9 p l e room_1 s m args below meth c Q D cA _ ad0 7 0 0 _ _ [.int v, .int v] h2
  refine kpc (b := 1012) rfl ?_
  refine k_icmp_eq (tgt := 1684) hX.1 dL_law_1012 (by decide) (fun hc => kk) (fun hc => absurd rfl hc)
theorem lc_22 (hX : lX p s m args c D cA ad0 b Ln xs) (hn : n + 5 < Ln) (hb5 : ∀ v, y5 = some v → aBel 174 v = true) (hb6 : ∀ v, y6 = some v → aBel 174 v = true) (hM1 : lM l yX11_order cX11_order 3 (some .int) [.ref (100 + 0), .int (xs (n + 1)), .int (xs (n + 2))] h (.int v) h1) (hM2 : lM l yX12_order cX12_order 3 (some .int) [.ref (100 + 50), .int (xs (n + 1)), .int (xs (n + 2))] h1 (.int v) h2) (hl1 : 73 < h.1.length) (hs1 : h.1[0]? = some (.inr 11)) (hs2 : h1.1[50]? = some (.inr 12)) (hx9 : x9 ≤ 1024) (hy9 : y9 ≤ 13034)
    (kk : aK x9 y9 p l e room_1 s m args below meth c Q D cA (fun q => s.heap.size ≤ q) ad0 7 0 0 1684 [some (.ref 4), some (.ref (100 + 0)), some (.ref (100 + 50)), some (.ref (100 + 73)), some (.int (nI n)), y5, y6] [] h2) : aK x9 y9 p l e room_1 s m args below meth c Q D cA (fun q => s.heap.size ≤ q) ad0 7 0 0 1017 [some (.ref 4), some (.ref (100 + 0)), some (.ref (100 + 50)), some (.ref (100 + 73)), some (.int (nI n)), y5, y6] [] h := by
  obtain ⟨d1, hM1⟩ := hM1
  obtain ⟨d2, hM2⟩ := hM2
  have hl2 : 73 < h1.1.length := Nat.lt_of_lt_of_le hl1 hM1.2.1.1
  refine k_aload_n hX.1 dL_law_1017 rfl ?_
  refine kpc (b := 1018) rfl ?_
  refine k_aload_n hX.1 dL_law_1018 rfl ?_
  refine kpc (b := 1019) rfl ?_
  refine k_iload hX.1 dL_law_1019 rfl ?_
  refine kpc (b := 1021) rfl ?_
  refine k_iconst hX.1 dL_law_1021 ic_1 ?_
  refine kpc (b := 1022) rfl ?_
  refine k_iadd hX.1 dL_law_1022 ?_
  refine kpc (b := 1023) rfl ?_
  refine k_sld (n := n + 1) hX (nI_add n 1) (by omega) dL_law_1023 ?_
  refine kpc (b := 1024) rfl ?_
  refine k_aload_n hX.1 dL_law_1024 rfl ?_
  refine kpc (b := 1025) rfl ?_
  refine k_iload hX.1 dL_law_1025 rfl ?_
  refine kpc (b := 1027) rfl ?_
  refine k_iconst hX.1 dL_law_1027 ic_2 ?_
  refine kpc (b := 1028) rfl ?_
  refine k_iadd hX.1 dL_law_1028 ?_
  refine kpc (b := 1029) rfl ?_
  refine k_sld (n := n + 2) hX (nI_add n 2) (by omega) dL_law_1029 ?_
  refine kpc (b := 1030) rfl ?_
  refine k_callVN (as := [.int (xs (n + 1)), .int (xs (n + 2))]) (r := some (.int v)) hX.1 lk_L_120 kX11 dL_law_1030 hs1 hM1.2.1 rfl (lRm hM1.1 (by decide)) (Nat.le_of_ble_eq_true rfl) (lRx hM1.2.2.1 hx9) (lRy hM1.2.2.2 hy9) b_nil (bel7 hl1 (fun v hv => by cases hv; rfl) (fun v hv => aBel_up hl1 (hb5 v hv)) (fun v hv => aBel_up hl1 (hb6 v hv))) ?_
  show aK x9 y9 p l e room_1 s m args below meth c Q D cA _ ad0 7 0 0 _ _ [.int v] h1
  refine kpc (b := 1033) rfl ?_
  refine k_aload_n hX.1 dL_law_1033 rfl ?_
  refine kpc (b := 1034) rfl ?_
  refine k_aload_n hX.1 dL_law_1034 rfl ?_
  refine kpc (b := 1035) rfl ?_
  refine k_iload hX.1 dL_law_1035 rfl ?_
  refine kpc (b := 1037) rfl ?_
  refine k_iconst hX.1 dL_law_1037 ic_1 ?_
  refine kpc (b := 1038) rfl ?_
  refine k_iadd hX.1 dL_law_1038 ?_
  refine kpc (b := 1039) rfl ?_
  refine k_sld (n := n + 1) hX (nI_add n 1) (by omega) dL_law_1039 ?_
  refine kpc (b := 1040) rfl ?_
  refine k_aload_n hX.1 dL_law_1040 rfl ?_
  refine kpc (b := 1041) rfl ?_
  refine k_iload hX.1 dL_law_1041 rfl ?_
  refine kpc (b := 1043) rfl ?_
  refine k_iconst hX.1 dL_law_1043 ic_2 ?_
  refine kpc (b := 1044) rfl ?_
  refine k_iadd hX.1 dL_law_1044 ?_
  refine kpc (b := 1045) rfl ?_
  refine k_sld (n := n + 2) hX (nI_add n 2) (by omega) dL_law_1045 ?_
  refine kpc (b := 1046) rfl ?_
  refine k_callVN (as := [.int (xs (n + 1)), .int (xs (n + 2))]) (r := some (.int v)) hX.1 lk_L_123 kX12 dL_law_1046 hs2 hM2.2.1 rfl (lRm hM2.1 (by decide)) (Nat.le_of_ble_eq_true rfl) (lRx hM2.2.2.1 hx9) (lRy hM2.2.2.2 hy9) (b_cons b_int b_nil) (bel7 hl2 (fun v hv => by cases hv; rfl) (fun v hv => aBel_up hl2 (hb5 v hv)) (fun v hv => aBel_up hl2 (hb6 v hv))) ?_
  show aK x9 y9 p l e room_1 s m args below meth c Q D cA _ ad0 7 0 0 _ _ [.int v, .int v] h2
  refine kpc (b := 1049) rfl ?_
  refine k_icmp_eq (tgt := 1684) hX.1 dL_law_1049 (by decide) (fun hc => kk) (fun hc => absurd rfl hc)
theorem lc_23 (hX : lX p s m args c D cA ad0 b Ln xs) (hn : n + 5 < Ln) (hb5 : ∀ v, y5 = some v → aBel 174 v = true) (hb6 : ∀ v, y6 = some v → aBel 174 v = true) (hM1 : lM l yX11_bound cX11_bound 2 (some .int) [.ref (100 + 0), .int (xs (n + 1))] h (.int v) h1) (hM2 : lM l yX12_bound cX12_bound 5 (some .int) [.ref (100 + 50), .int (xs (n + 1))] h1 (.int v) h2) (hl1 : 73 < h.1.length) (hs1 : h.1[0]? = some (.inr 11)) (hs2 : h1.1[50]? = some (.inr 12)) (hx9 : x9 ≤ 1024) (hy9 : y9 ≤ 13034)
    (kk : aK x9 y9 p l e room_1 s m args below meth c Q D cA (fun q => s.heap.size ≤ q) ad0 7 0 0 1684 [some (.ref 4), some (.ref (100 + 0)), some (.ref (100 + 50)), some (.ref (100 + 73)), some (.int (nI n)), y5, y6] [] h2) : aK x9 y9 p l e room_1 s m args below meth c Q D cA (fun q => s.heap.size ≤ q) ad0 7 0 0 1054 [some (.ref 4), some (.ref (100 + 0)), some (.ref (100 + 50)), some (.ref (100 + 73)), some (.int (nI n)), y5, y6] [] h := by
  obtain ⟨d1, hM1⟩ := hM1
  obtain ⟨d2, hM2⟩ := hM2
  have hl2 : 73 < h1.1.length := Nat.lt_of_lt_of_le hl1 hM1.2.1.1
  refine k_aload_n hX.1 dL_law_1054 rfl ?_
  refine kpc (b := 1055) rfl ?_
  refine k_aload_n hX.1 dL_law_1055 rfl ?_
  refine kpc (b := 1056) rfl ?_
  refine k_iload hX.1 dL_law_1056 rfl ?_
  refine kpc (b := 1058) rfl ?_
  refine k_iconst hX.1 dL_law_1058 ic_1 ?_
  refine kpc (b := 1059) rfl ?_
  refine k_iadd hX.1 dL_law_1059 ?_
  refine kpc (b := 1060) rfl ?_
  refine k_sld (n := n + 1) hX (nI_add n 1) (by omega) dL_law_1060 ?_
  refine kpc (b := 1061) rfl ?_
  refine k_callVN (as := [.int (xs (n + 1))]) (r := some (.int v)) hX.1 lk_L_124 kX11 dL_law_1061 hs1 hM1.2.1 rfl (lRm hM1.1 (by decide)) (Nat.le_of_ble_eq_true rfl) (lRx hM1.2.2.1 hx9) (lRy hM1.2.2.2 hy9) b_nil (bel7 hl1 (fun v hv => by cases hv; rfl) (fun v hv => aBel_up hl1 (hb5 v hv)) (fun v hv => aBel_up hl1 (hb6 v hv))) ?_
  show aK x9 y9 p l e room_1 s m args below meth c Q D cA _ ad0 7 0 0 _ _ [.int v] h1
  refine kpc (b := 1064) rfl ?_
  refine k_aload_n hX.1 dL_law_1064 rfl ?_
  refine kpc (b := 1065) rfl ?_
  refine k_aload_n hX.1 dL_law_1065 rfl ?_
  refine kpc (b := 1066) rfl ?_
  refine k_iload hX.1 dL_law_1066 rfl ?_
  refine kpc (b := 1068) rfl ?_
  refine k_iconst hX.1 dL_law_1068 ic_1 ?_
  refine kpc (b := 1069) rfl ?_
  refine k_iadd hX.1 dL_law_1069 ?_
  refine kpc (b := 1070) rfl ?_
  refine k_sld (n := n + 1) hX (nI_add n 1) (by omega) dL_law_1070 ?_
  refine kpc (b := 1071) rfl ?_
  refine k_callVN (as := [.int (xs (n + 1))]) (r := some (.int v)) hX.1 lk_L_127 kX12 dL_law_1071 hs2 hM2.2.1 rfl (lRm hM2.1 (by decide)) (Nat.le_of_ble_eq_true rfl) (lRx hM2.2.2.1 hx9) (lRy hM2.2.2.2 hy9) (b_cons b_int b_nil) (bel7 hl2 (fun v hv => by cases hv; rfl) (fun v hv => aBel_up hl2 (hb5 v hv)) (fun v hv => aBel_up hl2 (hb6 v hv))) ?_
  show aK x9 y9 p l e room_1 s m args below meth c Q D cA _ ad0 7 0 0 _ _ [.int v, .int v] h2
  refine kpc (b := 1074) rfl ?_
  refine k_icmp_eq (tgt := 1684) hX.1 dL_law_1074 (by decide) (fun hc => kk) (fun hc => absurd rfl hc)
theorem lc_24 (hX : lX p s m args c D cA ad0 b Ln xs) (hn : n + 5 < Ln) (hb5 : ∀ v, y5 = some v → aBel 174 v = true) (hb6 : ∀ v, y6 = some v → aBel 174 v = true) (hM1 : lM l yX11_before cX11_before 2 (some .int) [.ref (100 + 0), .int (xs (n + 1))] h (.int v) h1) (hM2 : lM l yX12_before cX12_before 7 (some .int) [.ref (100 + 50), .int (xs (n + 1))] h1 (.int v) h2) (hl1 : 73 < h.1.length) (hs1 : h.1[0]? = some (.inr 11)) (hs2 : h1.1[50]? = some (.inr 12)) (hx9 : x9 ≤ 1024) (hy9 : y9 ≤ 13034)
    (kk : aK x9 y9 p l e room_1 s m args below meth c Q D cA (fun q => s.heap.size ≤ q) ad0 7 0 0 1684 [some (.ref 4), some (.ref (100 + 0)), some (.ref (100 + 50)), some (.ref (100 + 73)), some (.int (nI n)), y5, y6] [] h2) : aK x9 y9 p l e room_1 s m args below meth c Q D cA (fun q => s.heap.size ≤ q) ad0 7 0 0 1079 [some (.ref 4), some (.ref (100 + 0)), some (.ref (100 + 50)), some (.ref (100 + 73)), some (.int (nI n)), y5, y6] [] h := by
  obtain ⟨d1, hM1⟩ := hM1
  obtain ⟨d2, hM2⟩ := hM2
  have hl2 : 73 < h1.1.length := Nat.lt_of_lt_of_le hl1 hM1.2.1.1
  refine k_aload_n hX.1 dL_law_1079 rfl ?_
  refine kpc (b := 1080) rfl ?_
  refine k_aload_n hX.1 dL_law_1080 rfl ?_
  refine kpc (b := 1081) rfl ?_
  refine k_iload hX.1 dL_law_1081 rfl ?_
  refine kpc (b := 1083) rfl ?_
  refine k_iconst hX.1 dL_law_1083 ic_1 ?_
  refine kpc (b := 1084) rfl ?_
  refine k_iadd hX.1 dL_law_1084 ?_
  refine kpc (b := 1085) rfl ?_
  refine k_sld (n := n + 1) hX (nI_add n 1) (by omega) dL_law_1085 ?_
  refine kpc (b := 1086) rfl ?_
  refine k_callVN (as := [.int (xs (n + 1))]) (r := some (.int v)) hX.1 lk_L_128 kX11 dL_law_1086 hs1 hM1.2.1 rfl (lRm hM1.1 (by decide)) (Nat.le_of_ble_eq_true rfl) (lRx hM1.2.2.1 hx9) (lRy hM1.2.2.2 hy9) b_nil (bel7 hl1 (fun v hv => by cases hv; rfl) (fun v hv => aBel_up hl1 (hb5 v hv)) (fun v hv => aBel_up hl1 (hb6 v hv))) ?_
  show aK x9 y9 p l e room_1 s m args below meth c Q D cA _ ad0 7 0 0 _ _ [.int v] h1
  refine kpc (b := 1089) rfl ?_
  refine k_aload_n hX.1 dL_law_1089 rfl ?_
  refine kpc (b := 1090) rfl ?_
  refine k_aload_n hX.1 dL_law_1090 rfl ?_
  refine kpc (b := 1091) rfl ?_
  refine k_iload hX.1 dL_law_1091 rfl ?_
  refine kpc (b := 1093) rfl ?_
  refine k_iconst hX.1 dL_law_1093 ic_1 ?_
  refine kpc (b := 1094) rfl ?_
  refine k_iadd hX.1 dL_law_1094 ?_
  refine kpc (b := 1095) rfl ?_
  refine k_sld (n := n + 1) hX (nI_add n 1) (by omega) dL_law_1095 ?_
  refine kpc (b := 1096) rfl ?_
  refine k_callVN (as := [.int (xs (n + 1))]) (r := some (.int v)) hX.1 lk_L_131 kX12 dL_law_1096 hs2 hM2.2.1 rfl (lRm hM2.1 (by decide)) (Nat.le_of_ble_eq_true rfl) (lRx hM2.2.2.1 hx9) (lRy hM2.2.2.2 hy9) (b_cons b_int b_nil) (bel7 hl2 (fun v hv => by cases hv; rfl) (fun v hv => aBel_up hl2 (hb5 v hv)) (fun v hv => aBel_up hl2 (hb6 v hv))) ?_
  show aK x9 y9 p l e room_1 s m args below meth c Q D cA _ ad0 7 0 0 _ _ [.int v, .int v] h2
  refine kpc (b := 1099) rfl ?_
  refine k_icmp_eq (tgt := 1684) hX.1 dL_law_1099 (by decide) (fun hc => kk) (fun hc => absurd rfl hc)
theorem lc_25 (hX : lX p s m args c D cA ad0 b Ln xs) (hn : n + 5 < Ln) (hb5 : ∀ v, y5 = some v → aBel 174 v = true) (hb6 : ∀ v, y6 = some v → aBel 174 v = true) (hM1 : lM l yX11_words cX11_words 2 (some .int) [.ref (100 + 0), .int (xs (n + 1))] h (.int v) h1) (hM2 : lM l yX12_words cX12_words 11 (some .int) [.ref (100 + 50), .int (xs (n + 1))] h1 (.int v) h2) (hl1 : 73 < h.1.length) (hs1 : h.1[0]? = some (.inr 11)) (hs2 : h1.1[50]? = some (.inr 12)) (hx9 : x9 ≤ 1024) (hy9 : y9 ≤ 13034)
    (kk : aK x9 y9 p l e room_1 s m args below meth c Q D cA (fun q => s.heap.size ≤ q) ad0 7 0 0 1684 [some (.ref 4), some (.ref (100 + 0)), some (.ref (100 + 50)), some (.ref (100 + 73)), some (.int (nI n)), y5, y6] [] h2) : aK x9 y9 p l e room_1 s m args below meth c Q D cA (fun q => s.heap.size ≤ q) ad0 7 0 0 1104 [some (.ref 4), some (.ref (100 + 0)), some (.ref (100 + 50)), some (.ref (100 + 73)), some (.int (nI n)), y5, y6] [] h := by
  obtain ⟨d1, hM1⟩ := hM1
  obtain ⟨d2, hM2⟩ := hM2
  have hl2 : 73 < h1.1.length := Nat.lt_of_lt_of_le hl1 hM1.2.1.1
  refine k_aload_n hX.1 dL_law_1104 rfl ?_
  refine kpc (b := 1105) rfl ?_
  refine k_aload_n hX.1 dL_law_1105 rfl ?_
  refine kpc (b := 1106) rfl ?_
  refine k_iload hX.1 dL_law_1106 rfl ?_
  refine kpc (b := 1108) rfl ?_
  refine k_iconst hX.1 dL_law_1108 ic_1 ?_
  refine kpc (b := 1109) rfl ?_
  refine k_iadd hX.1 dL_law_1109 ?_
  refine kpc (b := 1110) rfl ?_
  refine k_sld (n := n + 1) hX (nI_add n 1) (by omega) dL_law_1110 ?_
  refine kpc (b := 1111) rfl ?_
  refine k_callVN (as := [.int (xs (n + 1))]) (r := some (.int v)) hX.1 lk_L_132 kX11 dL_law_1111 hs1 hM1.2.1 rfl (lRm hM1.1 (by decide)) (Nat.le_of_ble_eq_true rfl) (lRx hM1.2.2.1 hx9) (lRy hM1.2.2.2 hy9) b_nil (bel7 hl1 (fun v hv => by cases hv; rfl) (fun v hv => aBel_up hl1 (hb5 v hv)) (fun v hv => aBel_up hl1 (hb6 v hv))) ?_
  show aK x9 y9 p l e room_1 s m args below meth c Q D cA _ ad0 7 0 0 _ _ [.int v] h1
  refine kpc (b := 1114) rfl ?_
  refine k_aload_n hX.1 dL_law_1114 rfl ?_
  refine kpc (b := 1115) rfl ?_
  refine k_aload_n hX.1 dL_law_1115 rfl ?_
  refine kpc (b := 1116) rfl ?_
  refine k_iload hX.1 dL_law_1116 rfl ?_
  refine kpc (b := 1118) rfl ?_
  refine k_iconst hX.1 dL_law_1118 ic_1 ?_
  refine kpc (b := 1119) rfl ?_
  refine k_iadd hX.1 dL_law_1119 ?_
  refine kpc (b := 1120) rfl ?_
  refine k_sld (n := n + 1) hX (nI_add n 1) (by omega) dL_law_1120 ?_
  refine kpc (b := 1121) rfl ?_
  refine k_callVN (as := [.int (xs (n + 1))]) (r := some (.int v)) hX.1 lk_L_135 kX12 dL_law_1121 hs2 hM2.2.1 rfl (lRm hM2.1 (by decide)) (Nat.le_of_ble_eq_true rfl) (lRx hM2.2.2.1 hx9) (lRy hM2.2.2.2 hy9) (b_cons b_int b_nil) (bel7 hl2 (fun v hv => by cases hv; rfl) (fun v hv => aBel_up hl2 (hb5 v hv)) (fun v hv => aBel_up hl2 (hb6 v hv))) ?_
  show aK x9 y9 p l e room_1 s m args below meth c Q D cA _ ad0 7 0 0 _ _ [.int v, .int v] h2
  refine kpc (b := 1124) rfl ?_
  refine k_icmp_eq (tgt := 1684) hX.1 dL_law_1124 (by decide) (fun hc => kk) (fun hc => absurd rfl hc)
theorem lc_26 (hX : lX p s m args c D cA ad0 b Ln xs) (hn : n + 5 < Ln) (hb5 : ∀ v, y5 = some v → aBel 174 v = true) (hb6 : ∀ v, y6 = some v → aBel 174 v = true) (hM1 : lM l yX11_tonight cX11_tonight 2 (some .int) [.ref (100 + 0), .int (xs (n + 1))] h (.int v) h1) (hM2 : lM l yX12_tonight cX12_tonight 4 (some .int) [.ref (100 + 50), .int (xs (n + 1))] h1 (.int v) h2) (hl1 : 73 < h.1.length) (hs1 : h.1[0]? = some (.inr 11)) (hs2 : h1.1[50]? = some (.inr 12)) (hx9 : x9 ≤ 1024) (hy9 : y9 ≤ 13034)
    (kk : aK x9 y9 p l e room_1 s m args below meth c Q D cA (fun q => s.heap.size ≤ q) ad0 7 0 0 1684 [some (.ref 4), some (.ref (100 + 0)), some (.ref (100 + 50)), some (.ref (100 + 73)), some (.int (nI n)), y5, y6] [] h2) : aK x9 y9 p l e room_1 s m args below meth c Q D cA (fun q => s.heap.size ≤ q) ad0 7 0 0 1129 [some (.ref 4), some (.ref (100 + 0)), some (.ref (100 + 50)), some (.ref (100 + 73)), some (.int (nI n)), y5, y6] [] h := by
  obtain ⟨d1, hM1⟩ := hM1
  obtain ⟨d2, hM2⟩ := hM2
  have hl2 : 73 < h1.1.length := Nat.lt_of_lt_of_le hl1 hM1.2.1.1
  refine k_aload_n hX.1 dL_law_1129 rfl ?_
  refine kpc (b := 1130) rfl ?_
  refine k_aload_n hX.1 dL_law_1130 rfl ?_
  refine kpc (b := 1131) rfl ?_
  refine k_iload hX.1 dL_law_1131 rfl ?_
  refine kpc (b := 1133) rfl ?_
  refine k_iconst hX.1 dL_law_1133 ic_1 ?_
  refine kpc (b := 1134) rfl ?_
  refine k_iadd hX.1 dL_law_1134 ?_
  refine kpc (b := 1135) rfl ?_
  refine k_sld (n := n + 1) hX (nI_add n 1) (by omega) dL_law_1135 ?_
  refine kpc (b := 1136) rfl ?_
  refine k_callVN (as := [.int (xs (n + 1))]) (r := some (.int v)) hX.1 lk_L_136 kX11 dL_law_1136 hs1 hM1.2.1 rfl (lRm hM1.1 (by decide)) (Nat.le_of_ble_eq_true rfl) (lRx hM1.2.2.1 hx9) (lRy hM1.2.2.2 hy9) b_nil (bel7 hl1 (fun v hv => by cases hv; rfl) (fun v hv => aBel_up hl1 (hb5 v hv)) (fun v hv => aBel_up hl1 (hb6 v hv))) ?_
  show aK x9 y9 p l e room_1 s m args below meth c Q D cA _ ad0 7 0 0 _ _ [.int v] h1
  refine kpc (b := 1139) rfl ?_
  refine k_aload_n hX.1 dL_law_1139 rfl ?_
  refine kpc (b := 1140) rfl ?_
  refine k_aload_n hX.1 dL_law_1140 rfl ?_
  refine kpc (b := 1141) rfl ?_
  refine k_iload hX.1 dL_law_1141 rfl ?_
  refine kpc (b := 1143) rfl ?_
  refine k_iconst hX.1 dL_law_1143 ic_1 ?_
  refine kpc (b := 1144) rfl ?_
  refine k_iadd hX.1 dL_law_1144 ?_
  refine kpc (b := 1145) rfl ?_
  refine k_sld (n := n + 1) hX (nI_add n 1) (by omega) dL_law_1145 ?_
  refine kpc (b := 1146) rfl ?_
  refine k_callVN (as := [.int (xs (n + 1))]) (r := some (.int v)) hX.1 lk_L_139 kX12 dL_law_1146 hs2 hM2.2.1 rfl (lRm hM2.1 (by decide)) (Nat.le_of_ble_eq_true rfl) (lRx hM2.2.2.1 hx9) (lRy hM2.2.2.2 hy9) (b_cons b_int b_nil) (bel7 hl2 (fun v hv => by cases hv; rfl) (fun v hv => aBel_up hl2 (hb5 v hv)) (fun v hv => aBel_up hl2 (hb6 v hv))) ?_
  show aK x9 y9 p l e room_1 s m args below meth c Q D cA _ ad0 7 0 0 _ _ [.int v, .int v] h2
  refine kpc (b := 1149) rfl ?_
  refine k_icmp_eq (tgt := 1684) hX.1 dL_law_1149 (by decide) (fun hc => kk) (fun hc => absurd rfl hc)
theorem lc_27 (hX : lX p s m args c D cA ad0 b Ln xs) (hn : n + 5 < Ln) (hb5 : ∀ v, y5 = some v → aBel 174 v = true) (hb6 : ∀ v, y6 = some v → aBel 174 v = true) (hM1 : lM l yX11_hear cX11_hear 3 (some .int) [.ref (100 + 0), .int (bI (xs (n + 1))), .int (xs (n + 2))] h (.int v) h1) (hM2 : lM l yX12_hear cX12_hear 3 (some .int) [.ref (100 + 50), .int (bI (xs (n + 1))), .int (xs (n + 2))] h1 (.int v) h2) (hl1 : 73 < h.1.length) (hs1 : h.1[0]? = some (.inr 11)) (hs2 : h1.1[50]? = some (.inr 12)) (hx9 : x9 ≤ 1024) (hy9 : y9 ≤ 13034)
    (kk : aK x9 y9 p l e room_1 s m args below meth c Q D cA (fun q => s.heap.size ≤ q) ad0 7 0 0 1684 [some (.ref 4), some (.ref (100 + 0)), some (.ref (100 + 50)), some (.ref (100 + 73)), some (.int (nI n)), y5, y6] [] h2) : aK x9 y9 p l e room_1 s m args below meth c Q D cA (fun q => s.heap.size ≤ q) ad0 7 0 0 1154 [some (.ref 4), some (.ref (100 + 0)), some (.ref (100 + 50)), some (.ref (100 + 73)), some (.int (nI n)), y5, y6] [] h := by
  obtain ⟨d1, hM1⟩ := hM1
  obtain ⟨d2, hM2⟩ := hM2
  have hl2 : 73 < h1.1.length := Nat.lt_of_lt_of_le hl1 hM1.2.1.1
  refine k_aload_n hX.1 dL_law_1154 rfl ?_
  refine kpc (b := 1155) rfl ?_
  refine k_aload_n hX.1 dL_law_1155 rfl ?_
  refine kpc (b := 1156) rfl ?_
  refine k_iload hX.1 dL_law_1156 rfl ?_
  refine kpc (b := 1158) rfl ?_
  refine k_iconst hX.1 dL_law_1158 ic_1 ?_
  refine kpc (b := 1159) rfl ?_
  refine k_iadd hX.1 dL_law_1159 ?_
  refine kpc (b := 1160) rfl ?_
  refine k_sld (n := n + 1) hX (nI_add n 1) (by omega) dL_law_1160 ?_
  refine kpc (b := 1161) rfl ?_
  refine k_b01 (t1 := 1168) (t2 := 1169) hX dL_law_1161 (by decide) dL_law_1164 dL_law_1165 (by decide) dL_law_1168 rfl ?_
  refine kpc (b := 1169) rfl ?_
  refine k_aload_n hX.1 dL_law_1169 rfl ?_
  refine kpc (b := 1170) rfl ?_
  refine k_iload hX.1 dL_law_1170 rfl ?_
  refine kpc (b := 1172) rfl ?_
  refine k_iconst hX.1 dL_law_1172 ic_2 ?_
  refine kpc (b := 1173) rfl ?_
  refine k_iadd hX.1 dL_law_1173 ?_
  refine kpc (b := 1174) rfl ?_
  refine k_sld (n := n + 2) hX (nI_add n 2) (by omega) dL_law_1174 ?_
  refine kpc (b := 1175) rfl ?_
  refine k_callVN (as := [.int (bI (xs (n + 1))), .int (xs (n + 2))]) (r := some (.int v)) hX.1 lk_L_140 kX11 dL_law_1175 hs1 hM1.2.1 rfl (lRm hM1.1 (by decide)) (Nat.le_of_ble_eq_true rfl) (lRx hM1.2.2.1 hx9) (lRy hM1.2.2.2 hy9) b_nil (bel7 hl1 (fun v hv => by cases hv; rfl) (fun v hv => aBel_up hl1 (hb5 v hv)) (fun v hv => aBel_up hl1 (hb6 v hv))) ?_
  show aK x9 y9 p l e room_1 s m args below meth c Q D cA _ ad0 7 0 0 _ _ [.int v] h1
  refine kpc (b := 1178) rfl ?_
  refine k_aload_n hX.1 dL_law_1178 rfl ?_
  refine kpc (b := 1179) rfl ?_
  refine k_aload_n hX.1 dL_law_1179 rfl ?_
  refine kpc (b := 1180) rfl ?_
  refine k_iload hX.1 dL_law_1180 rfl ?_
  refine kpc (b := 1182) rfl ?_
  refine k_iconst hX.1 dL_law_1182 ic_1 ?_
  refine kpc (b := 1183) rfl ?_
  refine k_iadd hX.1 dL_law_1183 ?_
  refine kpc (b := 1184) rfl ?_
  refine k_sld (n := n + 1) hX (nI_add n 1) (by omega) dL_law_1184 ?_
  refine kpc (b := 1185) rfl ?_
  refine k_b01 (t1 := 1192) (t2 := 1193) hX dL_law_1185 (by decide) dL_law_1188 dL_law_1189 (by decide) dL_law_1192 rfl ?_
  refine kpc (b := 1193) rfl ?_
  refine k_aload_n hX.1 dL_law_1193 rfl ?_
  refine kpc (b := 1194) rfl ?_
  refine k_iload hX.1 dL_law_1194 rfl ?_
  refine kpc (b := 1196) rfl ?_
  refine k_iconst hX.1 dL_law_1196 ic_2 ?_
  refine kpc (b := 1197) rfl ?_
  refine k_iadd hX.1 dL_law_1197 ?_
  refine kpc (b := 1198) rfl ?_
  refine k_sld (n := n + 2) hX (nI_add n 2) (by omega) dL_law_1198 ?_
  refine kpc (b := 1199) rfl ?_
  refine k_callVN (as := [.int (bI (xs (n + 1))), .int (xs (n + 2))]) (r := some (.int v)) hX.1 lk_L_144 kX12 dL_law_1199 hs2 hM2.2.1 rfl (lRm hM2.1 (by decide)) (Nat.le_of_ble_eq_true rfl) (lRx hM2.2.2.1 hx9) (lRy hM2.2.2.2 hy9) (b_cons b_int b_nil) (bel7 hl2 (fun v hv => by cases hv; rfl) (fun v hv => aBel_up hl2 (hb5 v hv)) (fun v hv => aBel_up hl2 (hb6 v hv))) ?_
  show aK x9 y9 p l e room_1 s m args below meth c Q D cA _ ad0 7 0 0 _ _ [.int v, .int v] h2
  refine kpc (b := 1202) rfl ?_
  refine k_icmp_eq (tgt := 1684) hX.1 dL_law_1202 (by decide) (fun hc => kk) (fun hc => absurd rfl hc)
theorem lc_28 (hX : lX p s m args c D cA ad0 b Ln xs) (hn : n + 5 < Ln) (hb5 : ∀ v, y5 = some v → aBel 174 v = true) (hb6 : ∀ v, y6 = some v → aBel 174 v = true) (hM1 : lM l yX11_lookAt cX11_lookAt 3 (some .int) [.ref (100 + 0), .int (xs (n + 1)), .int (bI (xs (n + 2)))] h (.int v) h1) (hM2 : lM l yX12_lookAt cX12_lookAt 3 (some .int) [.ref (100 + 50), .int (xs (n + 1)), .int (bI (xs (n + 2)))] h1 (.int v) h2) (hl1 : 73 < h.1.length) (hs1 : h.1[0]? = some (.inr 11)) (hs2 : h1.1[50]? = some (.inr 12)) (hx9 : x9 ≤ 1024) (hy9 : y9 ≤ 13034)
    (kk : aK x9 y9 p l e room_1 s m args below meth c Q D cA (fun q => s.heap.size ≤ q) ad0 7 0 0 1684 [some (.ref 4), some (.ref (100 + 0)), some (.ref (100 + 50)), some (.ref (100 + 73)), some (.int (nI n)), y5, y6] [] h2) : aK x9 y9 p l e room_1 s m args below meth c Q D cA (fun q => s.heap.size ≤ q) ad0 7 0 0 1207 [some (.ref 4), some (.ref (100 + 0)), some (.ref (100 + 50)), some (.ref (100 + 73)), some (.int (nI n)), y5, y6] [] h := by
  obtain ⟨d1, hM1⟩ := hM1
  obtain ⟨d2, hM2⟩ := hM2
  have hl2 : 73 < h1.1.length := Nat.lt_of_lt_of_le hl1 hM1.2.1.1
  refine k_aload_n hX.1 dL_law_1207 rfl ?_
  refine kpc (b := 1208) rfl ?_
  refine k_aload_n hX.1 dL_law_1208 rfl ?_
  refine kpc (b := 1209) rfl ?_
  refine k_iload hX.1 dL_law_1209 rfl ?_
  refine kpc (b := 1211) rfl ?_
  refine k_iconst hX.1 dL_law_1211 ic_1 ?_
  refine kpc (b := 1212) rfl ?_
  refine k_iadd hX.1 dL_law_1212 ?_
  refine kpc (b := 1213) rfl ?_
  refine k_sld (n := n + 1) hX (nI_add n 1) (by omega) dL_law_1213 ?_
  refine kpc (b := 1214) rfl ?_
  refine k_aload_n hX.1 dL_law_1214 rfl ?_
  refine kpc (b := 1215) rfl ?_
  refine k_iload hX.1 dL_law_1215 rfl ?_
  refine kpc (b := 1217) rfl ?_
  refine k_iconst hX.1 dL_law_1217 ic_2 ?_
  refine kpc (b := 1218) rfl ?_
  refine k_iadd hX.1 dL_law_1218 ?_
  refine kpc (b := 1219) rfl ?_
  refine k_sld (n := n + 2) hX (nI_add n 2) (by omega) dL_law_1219 ?_
  refine kpc (b := 1220) rfl ?_
  refine k_b01 (t1 := 1227) (t2 := 1228) hX dL_law_1220 (by decide) dL_law_1223 dL_law_1224 (by decide) dL_law_1227 rfl ?_
  refine kpc (b := 1228) rfl ?_
  refine k_callVN (as := [.int (xs (n + 1)), .int (bI (xs (n + 2)))]) (r := some (.int v)) hX.1 lk_L_145 kX11 dL_law_1228 hs1 hM1.2.1 rfl (lRm hM1.1 (by decide)) (Nat.le_of_ble_eq_true rfl) (lRx hM1.2.2.1 hx9) (lRy hM1.2.2.2 hy9) b_nil (bel7 hl1 (fun v hv => by cases hv; rfl) (fun v hv => aBel_up hl1 (hb5 v hv)) (fun v hv => aBel_up hl1 (hb6 v hv))) ?_
  show aK x9 y9 p l e room_1 s m args below meth c Q D cA _ ad0 7 0 0 _ _ [.int v] h1
  refine kpc (b := 1231) rfl ?_
  refine k_aload_n hX.1 dL_law_1231 rfl ?_
  refine kpc (b := 1232) rfl ?_
  refine k_aload_n hX.1 dL_law_1232 rfl ?_
  refine kpc (b := 1233) rfl ?_
  refine k_iload hX.1 dL_law_1233 rfl ?_
  refine kpc (b := 1235) rfl ?_
  refine k_iconst hX.1 dL_law_1235 ic_1 ?_
  refine kpc (b := 1236) rfl ?_
  refine k_iadd hX.1 dL_law_1236 ?_
  refine kpc (b := 1237) rfl ?_
  refine k_sld (n := n + 1) hX (nI_add n 1) (by omega) dL_law_1237 ?_
  refine kpc (b := 1238) rfl ?_
  refine k_aload_n hX.1 dL_law_1238 rfl ?_
  refine kpc (b := 1239) rfl ?_
  refine k_iload hX.1 dL_law_1239 rfl ?_
  refine kpc (b := 1241) rfl ?_
  refine k_iconst hX.1 dL_law_1241 ic_2 ?_
  refine kpc (b := 1242) rfl ?_
  refine k_iadd hX.1 dL_law_1242 ?_
  refine kpc (b := 1243) rfl ?_
  refine k_sld (n := n + 2) hX (nI_add n 2) (by omega) dL_law_1243 ?_
  refine kpc (b := 1244) rfl ?_
  refine k_b01 (t1 := 1251) (t2 := 1252) hX dL_law_1244 (by decide) dL_law_1247 dL_law_1248 (by decide) dL_law_1251 rfl ?_
  refine kpc (b := 1252) rfl ?_
  refine k_callVN (as := [.int (xs (n + 1)), .int (bI (xs (n + 2)))]) (r := some (.int v)) hX.1 lk_L_149 kX12 dL_law_1252 hs2 hM2.2.1 rfl (lRm hM2.1 (by decide)) (Nat.le_of_ble_eq_true rfl) (lRx hM2.2.2.1 hx9) (lRy hM2.2.2.2 hy9) (b_cons b_int b_nil) (bel7 hl2 (fun v hv => by cases hv; rfl) (fun v hv => aBel_up hl2 (hb5 v hv)) (fun v hv => aBel_up hl2 (hb6 v hv))) ?_
  show aK x9 y9 p l e room_1 s m args below meth c Q D cA _ ad0 7 0 0 _ _ [.int v, .int v] h2
  refine kpc (b := 1255) rfl ?_
  refine k_icmp_eq (tgt := 1684) hX.1 dL_law_1255 (by decide) (fun hc => kk) (fun hc => absurd rfl hc)
theorem lc_29 (hX : lX p s m args c D cA ad0 b Ln xs) (hn : n + 5 < Ln) (hb5 : ∀ v, y5 = some v → aBel 174 v = true) (hb6 : ∀ v, y6 = some v → aBel 174 v = true) (hM1 : lM l yX11_fit cX11_fit 2 (some .int) [.ref (100 + 0), .int (xs (n + 1))] h (.int v) h1) (hM2 : lM l yX12_fit cX12_fit 5 (some .int) [.ref (100 + 50), .int (xs (n + 1))] h1 (.int v) h2) (hl1 : 73 < h.1.length) (hs1 : h.1[0]? = some (.inr 11)) (hs2 : h1.1[50]? = some (.inr 12)) (hx9 : x9 ≤ 1024) (hy9 : y9 ≤ 13034)
    (kk : aK x9 y9 p l e room_1 s m args below meth c Q D cA (fun q => s.heap.size ≤ q) ad0 7 0 0 1684 [some (.ref 4), some (.ref (100 + 0)), some (.ref (100 + 50)), some (.ref (100 + 73)), some (.int (nI n)), y5, y6] [] h2) : aK x9 y9 p l e room_1 s m args below meth c Q D cA (fun q => s.heap.size ≤ q) ad0 7 0 0 1260 [some (.ref 4), some (.ref (100 + 0)), some (.ref (100 + 50)), some (.ref (100 + 73)), some (.int (nI n)), y5, y6] [] h := by
  obtain ⟨d1, hM1⟩ := hM1
  obtain ⟨d2, hM2⟩ := hM2
  have hl2 : 73 < h1.1.length := Nat.lt_of_lt_of_le hl1 hM1.2.1.1
  refine k_aload_n hX.1 dL_law_1260 rfl ?_
  refine kpc (b := 1261) rfl ?_
  refine k_aload_n hX.1 dL_law_1261 rfl ?_
  refine kpc (b := 1262) rfl ?_
  refine k_iload hX.1 dL_law_1262 rfl ?_
  refine kpc (b := 1264) rfl ?_
  refine k_iconst hX.1 dL_law_1264 ic_1 ?_
  refine kpc (b := 1265) rfl ?_
  refine k_iadd hX.1 dL_law_1265 ?_
  refine kpc (b := 1266) rfl ?_
  refine k_sld (n := n + 1) hX (nI_add n 1) (by omega) dL_law_1266 ?_
  refine kpc (b := 1267) rfl ?_
  refine k_callVN (as := [.int (xs (n + 1))]) (r := some (.int v)) hX.1 lk_L_150 kX11 dL_law_1267 hs1 hM1.2.1 rfl (lRm hM1.1 (by decide)) (Nat.le_of_ble_eq_true rfl) (lRx hM1.2.2.1 hx9) (lRy hM1.2.2.2 hy9) b_nil (bel7 hl1 (fun v hv => by cases hv; rfl) (fun v hv => aBel_up hl1 (hb5 v hv)) (fun v hv => aBel_up hl1 (hb6 v hv))) ?_
  show aK x9 y9 p l e room_1 s m args below meth c Q D cA _ ad0 7 0 0 _ _ [.int v] h1
  refine kpc (b := 1270) rfl ?_
  refine k_aload_n hX.1 dL_law_1270 rfl ?_
  refine kpc (b := 1271) rfl ?_
  refine k_aload_n hX.1 dL_law_1271 rfl ?_
  refine kpc (b := 1272) rfl ?_
  refine k_iload hX.1 dL_law_1272 rfl ?_
  refine kpc (b := 1274) rfl ?_
  refine k_iconst hX.1 dL_law_1274 ic_1 ?_
  refine kpc (b := 1275) rfl ?_
  refine k_iadd hX.1 dL_law_1275 ?_
  refine kpc (b := 1276) rfl ?_
  refine k_sld (n := n + 1) hX (nI_add n 1) (by omega) dL_law_1276 ?_
  refine kpc (b := 1277) rfl ?_
  refine k_callVN (as := [.int (xs (n + 1))]) (r := some (.int v)) hX.1 lk_L_153 kX12 dL_law_1277 hs2 hM2.2.1 rfl (lRm hM2.1 (by decide)) (Nat.le_of_ble_eq_true rfl) (lRx hM2.2.2.1 hx9) (lRy hM2.2.2.2 hy9) (b_cons b_int b_nil) (bel7 hl2 (fun v hv => by cases hv; rfl) (fun v hv => aBel_up hl2 (hb5 v hv)) (fun v hv => aBel_up hl2 (hb6 v hv))) ?_
  show aK x9 y9 p l e room_1 s m args below meth c Q D cA _ ad0 7 0 0 _ _ [.int v, .int v] h2
  refine kpc (b := 1280) rfl ?_
  refine k_icmp_eq (tgt := 1684) hX.1 dL_law_1280 (by decide) (fun hc => kk) (fun hc => absurd rfl hc)
theorem lc_30 (hX : lX p s m args c D cA ad0 b Ln xs) (hn : n + 5 < Ln) (hb5 : ∀ v, y5 = some v → aBel 174 v = true) (hb6 : ∀ v, y6 = some v → aBel 174 v = true) (hM1 : lM l yX11_best cX11_best 1 (some .int) [.ref (100 + 0)] h (.int v) h1) (hM2 : lM l yX12_best cX12_best 7 (some .int) [.ref (100 + 50)] h1 (.int v) h2) (hl1 : 73 < h.1.length) (hs1 : h.1[0]? = some (.inr 11)) (hs2 : h1.1[50]? = some (.inr 12)) (hx9 : x9 ≤ 1024) (hy9 : y9 ≤ 13034)
    (kk : aK x9 y9 p l e room_1 s m args below meth c Q D cA (fun q => s.heap.size ≤ q) ad0 7 0 0 1684 [some (.ref 4), some (.ref (100 + 0)), some (.ref (100 + 50)), some (.ref (100 + 73)), some (.int (nI n)), y5, y6] [] h2) : aK x9 y9 p l e room_1 s m args below meth c Q D cA (fun q => s.heap.size ≤ q) ad0 7 0 0 1285 [some (.ref 4), some (.ref (100 + 0)), some (.ref (100 + 50)), some (.ref (100 + 73)), some (.int (nI n)), y5, y6] [] h := by
  obtain ⟨d1, hM1⟩ := hM1
  obtain ⟨d2, hM2⟩ := hM2
  have hl2 : 73 < h1.1.length := Nat.lt_of_lt_of_le hl1 hM1.2.1.1
  refine k_aload_n hX.1 dL_law_1285 rfl ?_
  refine kpc (b := 1286) rfl ?_
  refine k_callVN (as := []) (r := some (.int v)) hX.1 lk_L_154 kX11 dL_law_1286 hs1 hM1.2.1 rfl (lRm hM1.1 (by decide)) (Nat.le_of_ble_eq_true rfl) (lRx hM1.2.2.1 hx9) (lRy hM1.2.2.2 hy9) b_nil (bel7 hl1 (fun v hv => by cases hv; rfl) (fun v hv => aBel_up hl1 (hb5 v hv)) (fun v hv => aBel_up hl1 (hb6 v hv))) ?_
  show aK x9 y9 p l e room_1 s m args below meth c Q D cA _ ad0 7 0 0 _ _ [.int v] h1
  refine kpc (b := 1289) rfl ?_
  refine k_aload_n hX.1 dL_law_1289 rfl ?_
  refine kpc (b := 1290) rfl ?_
  refine k_callVN (as := []) (r := some (.int v)) hX.1 lk_L_157 kX12 dL_law_1290 hs2 hM2.2.1 rfl (lRm hM2.1 (by decide)) (Nat.le_of_ble_eq_true rfl) (lRx hM2.2.2.1 hx9) (lRy hM2.2.2.2 hy9) (b_cons b_int b_nil) (bel7 hl2 (fun v hv => by cases hv; rfl) (fun v hv => aBel_up hl2 (hb5 v hv)) (fun v hv => aBel_up hl2 (hb6 v hv))) ?_
  show aK x9 y9 p l e room_1 s m args below meth c Q D cA _ ad0 7 0 0 _ _ [.int v, .int v] h2
  refine kpc (b := 1293) rfl ?_
  refine k_icmp_eq (tgt := 1684) hX.1 dL_law_1293 (by decide) (fun hc => kk) (fun hc => absurd rfl hc)
theorem lc_31 (hX : lX p s m args c D cA ad0 b Ln xs) (hn : n + 5 < Ln) (hb5 : ∀ v, y5 = some v → aBel 174 v = true) (hb6 : ∀ v, y6 = some v → aBel 174 v = true) (hM1 : lM l yX11_heads cX11_heads 3 (some .int) [.ref (100 + 0), .int (xs (n + 1)), .int (xs (n + 2))] h (.int v) h1) (hM2 : lM l yX12_heads cX12_heads 6 (some .int) [.ref (100 + 50), .int (xs (n + 1)), .int (xs (n + 2))] h1 (.int v) h2) (hl1 : 73 < h.1.length) (hs1 : h.1[0]? = some (.inr 11)) (hs2 : h1.1[50]? = some (.inr 12)) (hx9 : x9 ≤ 1024) (hy9 : y9 ≤ 13034)
    (kk : aK x9 y9 p l e room_1 s m args below meth c Q D cA (fun q => s.heap.size ≤ q) ad0 7 0 0 1684 [some (.ref 4), some (.ref (100 + 0)), some (.ref (100 + 50)), some (.ref (100 + 73)), some (.int (nI n)), y5, y6] [] h2) : aK x9 y9 p l e room_1 s m args below meth c Q D cA (fun q => s.heap.size ≤ q) ad0 7 0 0 1298 [some (.ref 4), some (.ref (100 + 0)), some (.ref (100 + 50)), some (.ref (100 + 73)), some (.int (nI n)), y5, y6] [] h := by
  obtain ⟨d1, hM1⟩ := hM1
  obtain ⟨d2, hM2⟩ := hM2
  have hl2 : 73 < h1.1.length := Nat.lt_of_lt_of_le hl1 hM1.2.1.1
  refine k_aload_n hX.1 dL_law_1298 rfl ?_
  refine kpc (b := 1299) rfl ?_
  refine k_aload_n hX.1 dL_law_1299 rfl ?_
  refine kpc (b := 1300) rfl ?_
  refine k_iload hX.1 dL_law_1300 rfl ?_
  refine kpc (b := 1302) rfl ?_
  refine k_iconst hX.1 dL_law_1302 ic_1 ?_
  refine kpc (b := 1303) rfl ?_
  refine k_iadd hX.1 dL_law_1303 ?_
  refine kpc (b := 1304) rfl ?_
  refine k_sld (n := n + 1) hX (nI_add n 1) (by omega) dL_law_1304 ?_
  refine kpc (b := 1305) rfl ?_
  refine k_aload_n hX.1 dL_law_1305 rfl ?_
  refine kpc (b := 1306) rfl ?_
  refine k_iload hX.1 dL_law_1306 rfl ?_
  refine kpc (b := 1308) rfl ?_
  refine k_iconst hX.1 dL_law_1308 ic_2 ?_
  refine kpc (b := 1309) rfl ?_
  refine k_iadd hX.1 dL_law_1309 ?_
  refine kpc (b := 1310) rfl ?_
  refine k_sld (n := n + 2) hX (nI_add n 2) (by omega) dL_law_1310 ?_
  refine kpc (b := 1311) rfl ?_
  refine k_callVN (as := [.int (xs (n + 1)), .int (xs (n + 2))]) (r := some (.int v)) hX.1 lk_L_158 kX11 dL_law_1311 hs1 hM1.2.1 rfl (lRm hM1.1 (by decide)) (Nat.le_of_ble_eq_true rfl) (lRx hM1.2.2.1 hx9) (lRy hM1.2.2.2 hy9) b_nil (bel7 hl1 (fun v hv => by cases hv; rfl) (fun v hv => aBel_up hl1 (hb5 v hv)) (fun v hv => aBel_up hl1 (hb6 v hv))) ?_
  show aK x9 y9 p l e room_1 s m args below meth c Q D cA _ ad0 7 0 0 _ _ [.int v] h1
  refine kpc (b := 1314) rfl ?_
  refine k_aload_n hX.1 dL_law_1314 rfl ?_
  refine kpc (b := 1315) rfl ?_
  refine k_aload_n hX.1 dL_law_1315 rfl ?_
  refine kpc (b := 1316) rfl ?_
  refine k_iload hX.1 dL_law_1316 rfl ?_
  refine kpc (b := 1318) rfl ?_
  refine k_iconst hX.1 dL_law_1318 ic_1 ?_
  refine kpc (b := 1319) rfl ?_
  refine k_iadd hX.1 dL_law_1319 ?_
  refine kpc (b := 1320) rfl ?_
  refine k_sld (n := n + 1) hX (nI_add n 1) (by omega) dL_law_1320 ?_
  refine kpc (b := 1321) rfl ?_
  refine k_aload_n hX.1 dL_law_1321 rfl ?_
  refine kpc (b := 1322) rfl ?_
  refine k_iload hX.1 dL_law_1322 rfl ?_
  refine kpc (b := 1324) rfl ?_
  refine k_iconst hX.1 dL_law_1324 ic_2 ?_
  refine kpc (b := 1325) rfl ?_
  refine k_iadd hX.1 dL_law_1325 ?_
  refine kpc (b := 1326) rfl ?_
  refine k_sld (n := n + 2) hX (nI_add n 2) (by omega) dL_law_1326 ?_
  refine kpc (b := 1327) rfl ?_
  refine k_callVN (as := [.int (xs (n + 1)), .int (xs (n + 2))]) (r := some (.int v)) hX.1 lk_L_161 kX12 dL_law_1327 hs2 hM2.2.1 rfl (lRm hM2.1 (by decide)) (Nat.le_of_ble_eq_true rfl) (lRx hM2.2.2.1 hx9) (lRy hM2.2.2.2 hy9) (b_cons b_int b_nil) (bel7 hl2 (fun v hv => by cases hv; rfl) (fun v hv => aBel_up hl2 (hb5 v hv)) (fun v hv => aBel_up hl2 (hb6 v hv))) ?_
  show aK x9 y9 p l e room_1 s m args below meth c Q D cA _ ad0 7 0 0 _ _ [.int v, .int v] h2
  refine kpc (b := 1330) rfl ?_
  refine k_icmp_eq (tgt := 1684) hX.1 dL_law_1330 (by decide) (fun hc => kk) (fun hc => absurd rfl hc)
theorem lc_32 (hX : lX p s m args c D cA ad0 b Ln xs) (hn : n + 5 < Ln) (hb5 : ∀ v, y5 = some v → aBel 174 v = true) (hb6 : ∀ v, y6 = some v → aBel 174 v = true) (hM1 : lM l yX11_give cX11_give 2 (some .int) [.ref (100 + 0), .int (xs (n + 1))] h (.int v) h1) (hM2 : lM l yX12_give cX12_give 2 (some .int) [.ref (100 + 50), .int (xs (n + 1))] h1 (.int v) h2) (hl1 : 73 < h.1.length) (hs1 : h.1[0]? = some (.inr 11)) (hs2 : h1.1[50]? = some (.inr 12)) (hx9 : x9 ≤ 1024) (hy9 : y9 ≤ 13034)
    (kk : aK x9 y9 p l e room_1 s m args below meth c Q D cA (fun q => s.heap.size ≤ q) ad0 7 0 0 1684 [some (.ref 4), some (.ref (100 + 0)), some (.ref (100 + 50)), some (.ref (100 + 73)), some (.int (nI n)), y5, y6] [] h2) : aK x9 y9 p l e room_1 s m args below meth c Q D cA (fun q => s.heap.size ≤ q) ad0 7 0 0 1335 [some (.ref 4), some (.ref (100 + 0)), some (.ref (100 + 50)), some (.ref (100 + 73)), some (.int (nI n)), y5, y6] [] h := by
  obtain ⟨d1, hM1⟩ := hM1
  obtain ⟨d2, hM2⟩ := hM2
  have hl2 : 73 < h1.1.length := Nat.lt_of_lt_of_le hl1 hM1.2.1.1
  refine k_aload_n hX.1 dL_law_1335 rfl ?_
  refine kpc (b := 1336) rfl ?_
  refine k_aload_n hX.1 dL_law_1336 rfl ?_
  refine kpc (b := 1337) rfl ?_
  refine k_iload hX.1 dL_law_1337 rfl ?_
  refine kpc (b := 1339) rfl ?_
  refine k_iconst hX.1 dL_law_1339 ic_1 ?_
  refine kpc (b := 1340) rfl ?_
  refine k_iadd hX.1 dL_law_1340 ?_
  refine kpc (b := 1341) rfl ?_
  refine k_sld (n := n + 1) hX (nI_add n 1) (by omega) dL_law_1341 ?_
  refine kpc (b := 1342) rfl ?_
  refine k_callVN (as := [.int (xs (n + 1))]) (r := some (.int v)) hX.1 lk_L_162 kX11 dL_law_1342 hs1 hM1.2.1 rfl (lRm hM1.1 (by decide)) (Nat.le_of_ble_eq_true rfl) (lRx hM1.2.2.1 hx9) (lRy hM1.2.2.2 hy9) b_nil (bel7 hl1 (fun v hv => by cases hv; rfl) (fun v hv => aBel_up hl1 (hb5 v hv)) (fun v hv => aBel_up hl1 (hb6 v hv))) ?_
  show aK x9 y9 p l e room_1 s m args below meth c Q D cA _ ad0 7 0 0 _ _ [.int v] h1
  refine kpc (b := 1345) rfl ?_
  refine k_aload_n hX.1 dL_law_1345 rfl ?_
  refine kpc (b := 1346) rfl ?_
  refine k_aload_n hX.1 dL_law_1346 rfl ?_
  refine kpc (b := 1347) rfl ?_
  refine k_iload hX.1 dL_law_1347 rfl ?_
  refine kpc (b := 1349) rfl ?_
  refine k_iconst hX.1 dL_law_1349 ic_1 ?_
  refine kpc (b := 1350) rfl ?_
  refine k_iadd hX.1 dL_law_1350 ?_
  refine kpc (b := 1351) rfl ?_
  refine k_sld (n := n + 1) hX (nI_add n 1) (by omega) dL_law_1351 ?_
  refine kpc (b := 1352) rfl ?_
  refine k_callVN (as := [.int (xs (n + 1))]) (r := some (.int v)) hX.1 lk_L_165 kX12 dL_law_1352 hs2 hM2.2.1 rfl (lRm hM2.1 (by decide)) (Nat.le_of_ble_eq_true rfl) (lRx hM2.2.2.1 hx9) (lRy hM2.2.2.2 hy9) (b_cons b_int b_nil) (bel7 hl2 (fun v hv => by cases hv; rfl) (fun v hv => aBel_up hl2 (hb5 v hv)) (fun v hv => aBel_up hl2 (hb6 v hv))) ?_
  show aK x9 y9 p l e room_1 s m args below meth c Q D cA _ ad0 7 0 0 _ _ [.int v, .int v] h2
  refine kpc (b := 1355) rfl ?_
  refine k_icmp_eq (tgt := 1684) hX.1 dL_law_1355 (by decide) (fun hc => kk) (fun hc => absurd rfl hc)
theorem lc_33 (hX : lX p s m args c D cA ad0 b Ln xs) (hn : n + 5 < Ln) (hb5 : ∀ v, y5 = some v → aBel 174 v = true) (hb6 : ∀ v, y6 = some v → aBel 174 v = true) (hM1 : lM l yX11_between cX11_between 3 (some .int) [.ref (100 + 0)] h (.int v) h1) (hM2 : lM l yX12_between cX12_between 3 (some .int) [.ref (100 + 50)] h1 (.int v) h2) (hl1 : 73 < h.1.length) (hs1 : h.1[0]? = some (.inr 11)) (hs2 : h1.1[50]? = some (.inr 12)) (hx9 : x9 ≤ 1024) (hy9 : y9 ≤ 13034)
    (kk : aK x9 y9 p l e room_1 s m args below meth c Q D cA (fun q => s.heap.size ≤ q) ad0 7 0 0 1684 [some (.ref 4), some (.ref (100 + 0)), some (.ref (100 + 50)), some (.ref (100 + 73)), some (.int (nI n)), y5, y6] [] h2) : aK x9 y9 p l e room_1 s m args below meth c Q D cA (fun q => s.heap.size ≤ q) ad0 7 0 0 1360 [some (.ref 4), some (.ref (100 + 0)), some (.ref (100 + 50)), some (.ref (100 + 73)), some (.int (nI n)), y5, y6] [] h := by
  obtain ⟨d1, hM1⟩ := hM1
  obtain ⟨d2, hM2⟩ := hM2
  have hl2 : 73 < h1.1.length := Nat.lt_of_lt_of_le hl1 hM1.2.1.1
  refine k_aload_n hX.1 dL_law_1360 rfl ?_
  refine kpc (b := 1361) rfl ?_
  refine k_callVN (as := []) (r := some (.int v)) hX.1 lk_L_166 kX11 dL_law_1361 hs1 hM1.2.1 rfl (lRm hM1.1 (by decide)) (Nat.le_of_ble_eq_true rfl) (lRx hM1.2.2.1 hx9) (lRy hM1.2.2.2 hy9) b_nil (bel7 hl1 (fun v hv => by cases hv; rfl) (fun v hv => aBel_up hl1 (hb5 v hv)) (fun v hv => aBel_up hl1 (hb6 v hv))) ?_
  show aK x9 y9 p l e room_1 s m args below meth c Q D cA _ ad0 7 0 0 _ _ [.int v] h1
  refine kpc (b := 1364) rfl ?_
  refine k_aload_n hX.1 dL_law_1364 rfl ?_
  refine kpc (b := 1365) rfl ?_
  refine k_callVN (as := []) (r := some (.int v)) hX.1 lk_L_169 kX12 dL_law_1365 hs2 hM2.2.1 rfl (lRm hM2.1 (by decide)) (Nat.le_of_ble_eq_true rfl) (lRx hM2.2.2.1 hx9) (lRy hM2.2.2.2 hy9) (b_cons b_int b_nil) (bel7 hl2 (fun v hv => by cases hv; rfl) (fun v hv => aBel_up hl2 (hb5 v hv)) (fun v hv => aBel_up hl2 (hb6 v hv))) ?_
  show aK x9 y9 p l e room_1 s m args below meth c Q D cA _ ad0 7 0 0 _ _ [.int v, .int v] h2
  refine kpc (b := 1368) rfl ?_
  refine k_icmp_eq (tgt := 1684) hX.1 dL_law_1368 (by decide) (fun hc => kk) (fun hc => absurd rfl hc)
theorem lc_34 (hX : lX p s m args c D cA ad0 b Ln xs) (hn : n + 5 < Ln) (hb5 : ∀ v, y5 = some v → aBel 174 v = true) (hb6 : ∀ v, y6 = some v → aBel 174 v = true) (hM1 : lM l yX11_favour cX11_favour 7 (some .int) [.ref (100 + 0), .int (xs (n + 1)), .int (xs (n + 2)), .int (xs (n + 3)), .int (xs (n + 4)), .int (xs (n + 5))] h (.int v) h1) (hM2 : lM l yX12_favour cX12_favour 6 (some .int) [.ref (100 + 50), .int (xs (n + 1)), .int (xs (n + 2)), .int (xs (n + 3)), .int (xs (n + 4)), .int (xs (n + 5))] h1 (.int v) h2) (hl1 : 73 < h.1.length) (hs1 : h.1[0]? = some (.inr 11)) (hs2 : h1.1[50]? = some (.inr 12)) (hx9 : x9 ≤ 1024) (hy9 : y9 ≤ 13034)
    (kk : aK x9 y9 p l e room_1 s m args below meth c Q D cA (fun q => s.heap.size ≤ q) ad0 7 0 0 1684 [some (.ref 4), some (.ref (100 + 0)), some (.ref (100 + 50)), some (.ref (100 + 73)), some (.int (nI n)), y5, y6] [] h2) : aK x9 y9 p l e room_1 s m args below meth c Q D cA (fun q => s.heap.size ≤ q) ad0 7 0 0 1373 [some (.ref 4), some (.ref (100 + 0)), some (.ref (100 + 50)), some (.ref (100 + 73)), some (.int (nI n)), y5, y6] [] h := by
  obtain ⟨d1, hM1⟩ := hM1
  obtain ⟨d2, hM2⟩ := hM2
  have hl2 : 73 < h1.1.length := Nat.lt_of_lt_of_le hl1 hM1.2.1.1
  refine k_aload_n hX.1 dL_law_1373 rfl ?_
  refine kpc (b := 1374) rfl ?_
  refine k_aload_n hX.1 dL_law_1374 rfl ?_
  refine kpc (b := 1375) rfl ?_
  refine k_iload hX.1 dL_law_1375 rfl ?_
  refine kpc (b := 1377) rfl ?_
  refine k_iconst hX.1 dL_law_1377 ic_1 ?_
  refine kpc (b := 1378) rfl ?_
  refine k_iadd hX.1 dL_law_1378 ?_
  refine kpc (b := 1379) rfl ?_
  refine k_sld (n := n + 1) hX (nI_add n 1) (by omega) dL_law_1379 ?_
  refine kpc (b := 1380) rfl ?_
  refine k_aload_n hX.1 dL_law_1380 rfl ?_
  refine kpc (b := 1381) rfl ?_
  refine k_iload hX.1 dL_law_1381 rfl ?_
  refine kpc (b := 1383) rfl ?_
  refine k_iconst hX.1 dL_law_1383 ic_2 ?_
  refine kpc (b := 1384) rfl ?_
  refine k_iadd hX.1 dL_law_1384 ?_
  refine kpc (b := 1385) rfl ?_
  refine k_sld (n := n + 2) hX (nI_add n 2) (by omega) dL_law_1385 ?_
  refine kpc (b := 1386) rfl ?_
  refine k_aload_n hX.1 dL_law_1386 rfl ?_
  refine kpc (b := 1387) rfl ?_
  refine k_iload hX.1 dL_law_1387 rfl ?_
  refine kpc (b := 1389) rfl ?_
  refine k_iconst hX.1 dL_law_1389 ic_3 ?_
  refine kpc (b := 1390) rfl ?_
  refine k_iadd hX.1 dL_law_1390 ?_
  refine kpc (b := 1391) rfl ?_
  refine k_sld (n := n + 3) hX (nI_add n 3) (by omega) dL_law_1391 ?_
  refine kpc (b := 1392) rfl ?_
  refine k_aload_n hX.1 dL_law_1392 rfl ?_
  refine kpc (b := 1393) rfl ?_
  refine k_iload hX.1 dL_law_1393 rfl ?_
  refine kpc (b := 1395) rfl ?_
  refine k_iconst hX.1 dL_law_1395 ic_4 ?_
  refine kpc (b := 1396) rfl ?_
  refine k_iadd hX.1 dL_law_1396 ?_
  refine kpc (b := 1397) rfl ?_
  refine k_sld (n := n + 4) hX (nI_add n 4) (by omega) dL_law_1397 ?_
  refine kpc (b := 1398) rfl ?_
  refine k_aload_n hX.1 dL_law_1398 rfl ?_
  refine kpc (b := 1399) rfl ?_
  refine k_iload hX.1 dL_law_1399 rfl ?_
  refine kpc (b := 1401) rfl ?_
  refine k_iconst hX.1 dL_law_1401 ic_5 ?_
  refine kpc (b := 1402) rfl ?_
  refine k_iadd hX.1 dL_law_1402 ?_
  refine kpc (b := 1403) rfl ?_
  refine k_sld (n := n + 5) hX (nI_add n 5) (by omega) dL_law_1403 ?_
  refine kpc (b := 1404) rfl ?_
  refine k_callVN (as := [.int (xs (n + 1)), .int (xs (n + 2)), .int (xs (n + 3)), .int (xs (n + 4)), .int (xs (n + 5))]) (r := some (.int v)) hX.1 lk_L_170 kX11 dL_law_1404 hs1 hM1.2.1 rfl (lRm hM1.1 (by decide)) (Nat.le_of_ble_eq_true rfl) (lRx hM1.2.2.1 hx9) (lRy hM1.2.2.2 hy9) b_nil (bel7 hl1 (fun v hv => by cases hv; rfl) (fun v hv => aBel_up hl1 (hb5 v hv)) (fun v hv => aBel_up hl1 (hb6 v hv))) ?_
  show aK x9 y9 p l e room_1 s m args below meth c Q D cA _ ad0 7 0 0 _ _ [.int v] h1
  refine kpc (b := 1407) rfl ?_
  refine k_aload_n hX.1 dL_law_1407 rfl ?_
  refine kpc (b := 1408) rfl ?_
  refine k_aload_n hX.1 dL_law_1408 rfl ?_
  refine kpc (b := 1409) rfl ?_
  refine k_iload hX.1 dL_law_1409 rfl ?_
  refine kpc (b := 1411) rfl ?_
  refine k_iconst hX.1 dL_law_1411 ic_1 ?_
  refine kpc (b := 1412) rfl ?_
  refine k_iadd hX.1 dL_law_1412 ?_
  refine kpc (b := 1413) rfl ?_
  refine k_sld (n := n + 1) hX (nI_add n 1) (by omega) dL_law_1413 ?_
  refine kpc (b := 1414) rfl ?_
  refine k_aload_n hX.1 dL_law_1414 rfl ?_
  refine kpc (b := 1415) rfl ?_
  refine k_iload hX.1 dL_law_1415 rfl ?_
  refine kpc (b := 1417) rfl ?_
  refine k_iconst hX.1 dL_law_1417 ic_2 ?_
  refine kpc (b := 1418) rfl ?_
  refine k_iadd hX.1 dL_law_1418 ?_
  refine kpc (b := 1419) rfl ?_
  refine k_sld (n := n + 2) hX (nI_add n 2) (by omega) dL_law_1419 ?_
  refine kpc (b := 1420) rfl ?_
  refine k_aload_n hX.1 dL_law_1420 rfl ?_
  refine kpc (b := 1421) rfl ?_
  refine k_iload hX.1 dL_law_1421 rfl ?_
  refine kpc (b := 1423) rfl ?_
  refine k_iconst hX.1 dL_law_1423 ic_3 ?_
  refine kpc (b := 1424) rfl ?_
  refine k_iadd hX.1 dL_law_1424 ?_
  refine kpc (b := 1425) rfl ?_
  refine k_sld (n := n + 3) hX (nI_add n 3) (by omega) dL_law_1425 ?_
  refine kpc (b := 1426) rfl ?_
  refine k_aload_n hX.1 dL_law_1426 rfl ?_
  refine kpc (b := 1427) rfl ?_
  refine k_iload hX.1 dL_law_1427 rfl ?_
  refine kpc (b := 1429) rfl ?_
  refine k_iconst hX.1 dL_law_1429 ic_4 ?_
  refine kpc (b := 1430) rfl ?_
  refine k_iadd hX.1 dL_law_1430 ?_
  refine kpc (b := 1431) rfl ?_
  refine k_sld (n := n + 4) hX (nI_add n 4) (by omega) dL_law_1431 ?_
  refine kpc (b := 1432) rfl ?_
  refine k_aload_n hX.1 dL_law_1432 rfl ?_
  refine kpc (b := 1433) rfl ?_
  refine k_iload hX.1 dL_law_1433 rfl ?_
  refine kpc (b := 1435) rfl ?_
  refine k_iconst hX.1 dL_law_1435 ic_5 ?_
  refine kpc (b := 1436) rfl ?_
  refine k_iadd hX.1 dL_law_1436 ?_
  refine kpc (b := 1437) rfl ?_
  refine k_sld (n := n + 5) hX (nI_add n 5) (by omega) dL_law_1437 ?_
  refine kpc (b := 1438) rfl ?_
  refine k_callVN (as := [.int (xs (n + 1)), .int (xs (n + 2)), .int (xs (n + 3)), .int (xs (n + 4)), .int (xs (n + 5))]) (r := some (.int v)) hX.1 lk_L_173 kX12 dL_law_1438 hs2 hM2.2.1 rfl (lRm hM2.1 (by decide)) (Nat.le_of_ble_eq_true rfl) (lRx hM2.2.2.1 hx9) (lRy hM2.2.2.2 hy9) (b_cons b_int b_nil) (bel7 hl2 (fun v hv => by cases hv; rfl) (fun v hv => aBel_up hl2 (hb5 v hv)) (fun v hv => aBel_up hl2 (hb6 v hv))) ?_
  show aK x9 y9 p l e room_1 s m args below meth c Q D cA _ ad0 7 0 0 _ _ [.int v, .int v] h2
  refine kpc (b := 1441) rfl ?_
  refine k_icmp_eq (tgt := 1684) hX.1 dL_law_1441 (by decide) (fun hc => kk) (fun hc => absurd rfl hc)
theorem lc_35 (hX : lX p s m args c D cA ad0 b Ln xs) (hn : n + 5 < Ln) (hb5 : ∀ v, y5 = some v → aBel 174 v = true) (hb6 : ∀ v, y6 = some v → aBel 174 v = true) (hM1 : lM l yX11_rests cX11_rests 8 (some .int) [.ref (100 + 0), .int (xs (n + 1)), .int (xs (n + 2)), .int (xs (n + 3))] h (.int v) h1) (hM2 : lM l yX12_rests cX12_rests 8 (some .int) [.ref (100 + 50), .int (xs (n + 1)), .int (xs (n + 2)), .int (xs (n + 3))] h1 (.int v) h2) (hl1 : 73 < h.1.length) (hs1 : h.1[0]? = some (.inr 11)) (hs2 : h1.1[50]? = some (.inr 12)) (hx9 : x9 ≤ 1024) (hy9 : y9 ≤ 13034)
    (kk : aK x9 y9 p l e room_1 s m args below meth c Q D cA (fun q => s.heap.size ≤ q) ad0 7 0 0 1684 [some (.ref 4), some (.ref (100 + 0)), some (.ref (100 + 50)), some (.ref (100 + 73)), some (.int (nI n)), y5, y6] [] h2) : aK x9 y9 p l e room_1 s m args below meth c Q D cA (fun q => s.heap.size ≤ q) ad0 7 0 0 1446 [some (.ref 4), some (.ref (100 + 0)), some (.ref (100 + 50)), some (.ref (100 + 73)), some (.int (nI n)), y5, y6] [] h := by
  obtain ⟨d1, hM1⟩ := hM1
  obtain ⟨d2, hM2⟩ := hM2
  have hl2 : 73 < h1.1.length := Nat.lt_of_lt_of_le hl1 hM1.2.1.1
  refine k_aload_n hX.1 dL_law_1446 rfl ?_
  refine kpc (b := 1447) rfl ?_
  refine k_aload_n hX.1 dL_law_1447 rfl ?_
  refine kpc (b := 1448) rfl ?_
  refine k_iload hX.1 dL_law_1448 rfl ?_
  refine kpc (b := 1450) rfl ?_
  refine k_iconst hX.1 dL_law_1450 ic_1 ?_
  refine kpc (b := 1451) rfl ?_
  refine k_iadd hX.1 dL_law_1451 ?_
  refine kpc (b := 1452) rfl ?_
  refine k_sld (n := n + 1) hX (nI_add n 1) (by omega) dL_law_1452 ?_
  refine kpc (b := 1453) rfl ?_
  refine k_aload_n hX.1 dL_law_1453 rfl ?_
  refine kpc (b := 1454) rfl ?_
  refine k_iload hX.1 dL_law_1454 rfl ?_
  refine kpc (b := 1456) rfl ?_
  refine k_iconst hX.1 dL_law_1456 ic_2 ?_
  refine kpc (b := 1457) rfl ?_
  refine k_iadd hX.1 dL_law_1457 ?_
  refine kpc (b := 1458) rfl ?_
  refine k_sld (n := n + 2) hX (nI_add n 2) (by omega) dL_law_1458 ?_
  refine kpc (b := 1459) rfl ?_
  refine k_aload_n hX.1 dL_law_1459 rfl ?_
  refine kpc (b := 1460) rfl ?_
  refine k_iload hX.1 dL_law_1460 rfl ?_
  refine kpc (b := 1462) rfl ?_
  refine k_iconst hX.1 dL_law_1462 ic_3 ?_
  refine kpc (b := 1463) rfl ?_
  refine k_iadd hX.1 dL_law_1463 ?_
  refine kpc (b := 1464) rfl ?_
  refine k_sld (n := n + 3) hX (nI_add n 3) (by omega) dL_law_1464 ?_
  refine kpc (b := 1465) rfl ?_
  refine k_callVN (as := [.int (xs (n + 1)), .int (xs (n + 2)), .int (xs (n + 3))]) (r := some (.int v)) hX.1 lk_L_174 kX11 dL_law_1465 hs1 hM1.2.1 rfl (lRm hM1.1 (by decide)) (Nat.le_of_ble_eq_true rfl) (lRx hM1.2.2.1 hx9) (lRy hM1.2.2.2 hy9) b_nil (bel7 hl1 (fun v hv => by cases hv; rfl) (fun v hv => aBel_up hl1 (hb5 v hv)) (fun v hv => aBel_up hl1 (hb6 v hv))) ?_
  show aK x9 y9 p l e room_1 s m args below meth c Q D cA _ ad0 7 0 0 _ _ [.int v] h1
  refine kpc (b := 1468) rfl ?_
  refine k_aload_n hX.1 dL_law_1468 rfl ?_
  refine kpc (b := 1469) rfl ?_
  refine k_aload_n hX.1 dL_law_1469 rfl ?_
  refine kpc (b := 1470) rfl ?_
  refine k_iload hX.1 dL_law_1470 rfl ?_
  refine kpc (b := 1472) rfl ?_
  refine k_iconst hX.1 dL_law_1472 ic_1 ?_
  refine kpc (b := 1473) rfl ?_
  refine k_iadd hX.1 dL_law_1473 ?_
  refine kpc (b := 1474) rfl ?_
  refine k_sld (n := n + 1) hX (nI_add n 1) (by omega) dL_law_1474 ?_
  refine kpc (b := 1475) rfl ?_
  refine k_aload_n hX.1 dL_law_1475 rfl ?_
  refine kpc (b := 1476) rfl ?_
  refine k_iload hX.1 dL_law_1476 rfl ?_
  refine kpc (b := 1478) rfl ?_
  refine k_iconst hX.1 dL_law_1478 ic_2 ?_
  refine kpc (b := 1479) rfl ?_
  refine k_iadd hX.1 dL_law_1479 ?_
  refine kpc (b := 1480) rfl ?_
  refine k_sld (n := n + 2) hX (nI_add n 2) (by omega) dL_law_1480 ?_
  refine kpc (b := 1481) rfl ?_
  refine k_aload_n hX.1 dL_law_1481 rfl ?_
  refine kpc (b := 1482) rfl ?_
  refine k_iload hX.1 dL_law_1482 rfl ?_
  refine kpc (b := 1484) rfl ?_
  refine k_iconst hX.1 dL_law_1484 ic_3 ?_
  refine kpc (b := 1485) rfl ?_
  refine k_iadd hX.1 dL_law_1485 ?_
  refine kpc (b := 1486) rfl ?_
  refine k_sld (n := n + 3) hX (nI_add n 3) (by omega) dL_law_1486 ?_
  refine kpc (b := 1487) rfl ?_
  refine k_callVN (as := [.int (xs (n + 1)), .int (xs (n + 2)), .int (xs (n + 3))]) (r := some (.int v)) hX.1 lk_L_177 kX12 dL_law_1487 hs2 hM2.2.1 rfl (lRm hM2.1 (by decide)) (Nat.le_of_ble_eq_true rfl) (lRx hM2.2.2.1 hx9) (lRy hM2.2.2.2 hy9) (b_cons b_int b_nil) (bel7 hl2 (fun v hv => by cases hv; rfl) (fun v hv => aBel_up hl2 (hb5 v hv)) (fun v hv => aBel_up hl2 (hb6 v hv))) ?_
  show aK x9 y9 p l e room_1 s m args below meth c Q D cA _ ad0 7 0 0 _ _ [.int v, .int v] h2
  refine kpc (b := 1490) rfl ?_
  refine k_icmp_eq (tgt := 1684) hX.1 dL_law_1490 (by decide) (fun hc => kk) (fun hc => absurd rfl hc)
theorem lc_36 (hX : lX p s m args c D cA ad0 b Ln xs) (hn : n + 5 < Ln) (hb5 : ∀ v, y5 = some v → aBel 174 v = true) (hb6 : ∀ v, y6 = some v → aBel 174 v = true) (hM1 : lM l yX11_which cX11_which 2 (some .int) [.ref (100 + 0), .int (xs (n + 1))] h (.int v) h1) (hM2 : lM l yX12_which cX12_which 5 (some .int) [.ref (100 + 50), .int (xs (n + 1))] h1 (.int v) h2) (hl1 : 73 < h.1.length) (hs1 : h.1[0]? = some (.inr 11)) (hs2 : h1.1[50]? = some (.inr 12)) (hx9 : x9 ≤ 1024) (hy9 : y9 ≤ 13034)
    (kk : aK x9 y9 p l e room_1 s m args below meth c Q D cA (fun q => s.heap.size ≤ q) ad0 7 0 0 1684 [some (.ref 4), some (.ref (100 + 0)), some (.ref (100 + 50)), some (.ref (100 + 73)), some (.int (nI n)), y5, y6] [] h2) : aK x9 y9 p l e room_1 s m args below meth c Q D cA (fun q => s.heap.size ≤ q) ad0 7 0 0 1495 [some (.ref 4), some (.ref (100 + 0)), some (.ref (100 + 50)), some (.ref (100 + 73)), some (.int (nI n)), y5, y6] [] h := by
  obtain ⟨d1, hM1⟩ := hM1
  obtain ⟨d2, hM2⟩ := hM2
  have hl2 : 73 < h1.1.length := Nat.lt_of_lt_of_le hl1 hM1.2.1.1
  refine k_aload_n hX.1 dL_law_1495 rfl ?_
  refine kpc (b := 1496) rfl ?_
  refine k_aload_n hX.1 dL_law_1496 rfl ?_
  refine kpc (b := 1497) rfl ?_
  refine k_iload hX.1 dL_law_1497 rfl ?_
  refine kpc (b := 1499) rfl ?_
  refine k_iconst hX.1 dL_law_1499 ic_1 ?_
  refine kpc (b := 1500) rfl ?_
  refine k_iadd hX.1 dL_law_1500 ?_
  refine kpc (b := 1501) rfl ?_
  refine k_sld (n := n + 1) hX (nI_add n 1) (by omega) dL_law_1501 ?_
  refine kpc (b := 1502) rfl ?_
  refine k_callVN (as := [.int (xs (n + 1))]) (r := some (.int v)) hX.1 lk_L_178 kX11 dL_law_1502 hs1 hM1.2.1 rfl (lRm hM1.1 (by decide)) (Nat.le_of_ble_eq_true rfl) (lRx hM1.2.2.1 hx9) (lRy hM1.2.2.2 hy9) b_nil (bel7 hl1 (fun v hv => by cases hv; rfl) (fun v hv => aBel_up hl1 (hb5 v hv)) (fun v hv => aBel_up hl1 (hb6 v hv))) ?_
  show aK x9 y9 p l e room_1 s m args below meth c Q D cA _ ad0 7 0 0 _ _ [.int v] h1
  refine kpc (b := 1505) rfl ?_
  refine k_aload_n hX.1 dL_law_1505 rfl ?_
  refine kpc (b := 1506) rfl ?_
  refine k_aload_n hX.1 dL_law_1506 rfl ?_
  refine kpc (b := 1507) rfl ?_
  refine k_iload hX.1 dL_law_1507 rfl ?_
  refine kpc (b := 1509) rfl ?_
  refine k_iconst hX.1 dL_law_1509 ic_1 ?_
  refine kpc (b := 1510) rfl ?_
  refine k_iadd hX.1 dL_law_1510 ?_
  refine kpc (b := 1511) rfl ?_
  refine k_sld (n := n + 1) hX (nI_add n 1) (by omega) dL_law_1511 ?_
  refine kpc (b := 1512) rfl ?_
  refine k_callVN (as := [.int (xs (n + 1))]) (r := some (.int v)) hX.1 lk_L_181 kX12 dL_law_1512 hs2 hM2.2.1 rfl (lRm hM2.1 (by decide)) (Nat.le_of_ble_eq_true rfl) (lRx hM2.2.2.1 hx9) (lRy hM2.2.2.2 hy9) (b_cons b_int b_nil) (bel7 hl2 (fun v hv => by cases hv; rfl) (fun v hv => aBel_up hl2 (hb5 v hv)) (fun v hv => aBel_up hl2 (hb6 v hv))) ?_
  show aK x9 y9 p l e room_1 s m args below meth c Q D cA _ ad0 7 0 0 _ _ [.int v, .int v] h2
  refine kpc (b := 1515) rfl ?_
  refine k_icmp_eq (tgt := 1684) hX.1 dL_law_1515 (by decide) (fun hc => kk) (fun hc => absurd rfl hc)
theorem lc_37 (hX : lX p s m args c D cA ad0 b Ln xs) (hn : n + 5 < Ln) (hb5 : ∀ v, y5 = some v → aBel 174 v = true) (hb6 : ∀ v, y6 = some v → aBel 174 v = true) (hM1 : lM l yX11_woken cX11_woken 2 (some .int) [.ref (100 + 0), .int (xs (n + 1))] h (.int v) h1) (hM2 : lM l yX12_woken cX12_woken 2 (some .int) [.ref (100 + 50), .int (xs (n + 1))] h1 (.int v) h2) (hl1 : 73 < h.1.length) (hs1 : h.1[0]? = some (.inr 11)) (hs2 : h1.1[50]? = some (.inr 12)) (hx9 : x9 ≤ 1024) (hy9 : y9 ≤ 13034)
    (kk : aK x9 y9 p l e room_1 s m args below meth c Q D cA (fun q => s.heap.size ≤ q) ad0 7 0 0 1684 [some (.ref 4), some (.ref (100 + 0)), some (.ref (100 + 50)), some (.ref (100 + 73)), some (.int (nI n)), y5, y6] [] h2) : aK x9 y9 p l e room_1 s m args below meth c Q D cA (fun q => s.heap.size ≤ q) ad0 7 0 0 1520 [some (.ref 4), some (.ref (100 + 0)), some (.ref (100 + 50)), some (.ref (100 + 73)), some (.int (nI n)), y5, y6] [] h := by
  obtain ⟨d1, hM1⟩ := hM1
  obtain ⟨d2, hM2⟩ := hM2
  have hl2 : 73 < h1.1.length := Nat.lt_of_lt_of_le hl1 hM1.2.1.1
  refine k_aload_n hX.1 dL_law_1520 rfl ?_
  refine kpc (b := 1521) rfl ?_
  refine k_aload_n hX.1 dL_law_1521 rfl ?_
  refine kpc (b := 1522) rfl ?_
  refine k_iload hX.1 dL_law_1522 rfl ?_
  refine kpc (b := 1524) rfl ?_
  refine k_iconst hX.1 dL_law_1524 ic_1 ?_
  refine kpc (b := 1525) rfl ?_
  refine k_iadd hX.1 dL_law_1525 ?_
  refine kpc (b := 1526) rfl ?_
  refine k_sld (n := n + 1) hX (nI_add n 1) (by omega) dL_law_1526 ?_
  refine kpc (b := 1527) rfl ?_
  refine k_callVN (as := [.int (xs (n + 1))]) (r := some (.int v)) hX.1 lk_L_182 kX11 dL_law_1527 hs1 hM1.2.1 rfl (lRm hM1.1 (by decide)) (Nat.le_of_ble_eq_true rfl) (lRx hM1.2.2.1 hx9) (lRy hM1.2.2.2 hy9) b_nil (bel7 hl1 (fun v hv => by cases hv; rfl) (fun v hv => aBel_up hl1 (hb5 v hv)) (fun v hv => aBel_up hl1 (hb6 v hv))) ?_
  show aK x9 y9 p l e room_1 s m args below meth c Q D cA _ ad0 7 0 0 _ _ [.int v] h1
  refine kpc (b := 1530) rfl ?_
  refine k_aload_n hX.1 dL_law_1530 rfl ?_
  refine kpc (b := 1531) rfl ?_
  refine k_aload_n hX.1 dL_law_1531 rfl ?_
  refine kpc (b := 1532) rfl ?_
  refine k_iload hX.1 dL_law_1532 rfl ?_
  refine kpc (b := 1534) rfl ?_
  refine k_iconst hX.1 dL_law_1534 ic_1 ?_
  refine kpc (b := 1535) rfl ?_
  refine k_iadd hX.1 dL_law_1535 ?_
  refine kpc (b := 1536) rfl ?_
  refine k_sld (n := n + 1) hX (nI_add n 1) (by omega) dL_law_1536 ?_
  refine kpc (b := 1537) rfl ?_
  refine k_callVN (as := [.int (xs (n + 1))]) (r := some (.int v)) hX.1 lk_L_185 kX12 dL_law_1537 hs2 hM2.2.1 rfl (lRm hM2.1 (by decide)) (Nat.le_of_ble_eq_true rfl) (lRx hM2.2.2.1 hx9) (lRy hM2.2.2.2 hy9) (b_cons b_int b_nil) (bel7 hl2 (fun v hv => by cases hv; rfl) (fun v hv => aBel_up hl2 (hb5 v hv)) (fun v hv => aBel_up hl2 (hb6 v hv))) ?_
  show aK x9 y9 p l e room_1 s m args below meth c Q D cA _ ad0 7 0 0 _ _ [.int v, .int v] h2
  refine kpc (b := 1540) rfl ?_
  refine k_icmp_eq (tgt := 1684) hX.1 dL_law_1540 (by decide) (fun hc => kk) (fun hc => absurd rfl hc)
theorem lc_38 (hX : lX p s m args c D cA ad0 b Ln xs) (hn : n + 5 < Ln) (hb5 : ∀ v, y5 = some v → aBel 174 v = true) (hb6 : ∀ v, y6 = some v → aBel 174 v = true) (hM1 : lM l yX11_tired cX11_tired 4 (some .int) [.ref (100 + 0)] h (.int v) h1) (hM2 : lM l yX12_tired cX12_tired 3 (some .int) [.ref (100 + 50)] h1 (.int v) h2) (hl1 : 73 < h.1.length) (hs1 : h.1[0]? = some (.inr 11)) (hs2 : h1.1[50]? = some (.inr 12)) (hx9 : x9 ≤ 1024) (hy9 : y9 ≤ 13034)
    (kk : aK x9 y9 p l e room_1 s m args below meth c Q D cA (fun q => s.heap.size ≤ q) ad0 7 0 0 1684 [some (.ref 4), some (.ref (100 + 0)), some (.ref (100 + 50)), some (.ref (100 + 73)), some (.int (nI n)), y5, y6] [] h2) : aK x9 y9 p l e room_1 s m args below meth c Q D cA (fun q => s.heap.size ≤ q) ad0 7 0 0 1545 [some (.ref 4), some (.ref (100 + 0)), some (.ref (100 + 50)), some (.ref (100 + 73)), some (.int (nI n)), y5, y6] [] h := by
  obtain ⟨d1, hM1⟩ := hM1
  obtain ⟨d2, hM2⟩ := hM2
  have hl2 : 73 < h1.1.length := Nat.lt_of_lt_of_le hl1 hM1.2.1.1
  refine k_aload_n hX.1 dL_law_1545 rfl ?_
  refine kpc (b := 1546) rfl ?_
  refine k_callVN (as := []) (r := some (.int v)) hX.1 lk_L_186 kX11 dL_law_1546 hs1 hM1.2.1 rfl (lRm hM1.1 (by decide)) (Nat.le_of_ble_eq_true rfl) (lRx hM1.2.2.1 hx9) (lRy hM1.2.2.2 hy9) b_nil (bel7 hl1 (fun v hv => by cases hv; rfl) (fun v hv => aBel_up hl1 (hb5 v hv)) (fun v hv => aBel_up hl1 (hb6 v hv))) ?_
  show aK x9 y9 p l e room_1 s m args below meth c Q D cA _ ad0 7 0 0 _ _ [.int v] h1
  refine kpc (b := 1549) rfl ?_
  refine k_aload_n hX.1 dL_law_1549 rfl ?_
  refine kpc (b := 1550) rfl ?_
  refine k_callVN (as := []) (r := some (.int v)) hX.1 lk_L_189 kX12 dL_law_1550 hs2 hM2.2.1 rfl (lRm hM2.1 (by decide)) (Nat.le_of_ble_eq_true rfl) (lRx hM2.2.2.1 hx9) (lRy hM2.2.2.2 hy9) (b_cons b_int b_nil) (bel7 hl2 (fun v hv => by cases hv; rfl) (fun v hv => aBel_up hl2 (hb5 v hv)) (fun v hv => aBel_up hl2 (hb6 v hv))) ?_
  show aK x9 y9 p l e room_1 s m args below meth c Q D cA _ ad0 7 0 0 _ _ [.int v, .int v] h2
  refine kpc (b := 1553) rfl ?_
  refine k_icmp_eq (tgt := 1684) hX.1 dL_law_1553 (by decide) (fun hc => kk) (fun hc => absurd rfl hc)
theorem lc_39 (hX : lX p s m args c D cA ad0 b Ln xs) (hn : n + 5 < Ln) (hb5 : ∀ v, y5 = some v → aBel 174 v = true) (hb6 : ∀ v, y6 = some v → aBel 174 v = true) (hM1 : lM l yX11_beside cX11_beside 4 (some .int) [.ref (100 + 0), .int (xs (n + 1))] h (.int v) h1) (hM2 : lM l yX12_beside cX12_beside 4 (some .int) [.ref (100 + 50), .int (xs (n + 1))] h1 (.int v) h2) (hl1 : 73 < h.1.length) (hs1 : h.1[0]? = some (.inr 11)) (hs2 : h1.1[50]? = some (.inr 12)) (hx9 : x9 ≤ 1024) (hy9 : y9 ≤ 13034)
    (kk : aK x9 y9 p l e room_1 s m args below meth c Q D cA (fun q => s.heap.size ≤ q) ad0 7 0 0 1684 [some (.ref 4), some (.ref (100 + 0)), some (.ref (100 + 50)), some (.ref (100 + 73)), some (.int (nI n)), y5, y6] [] h2) : aK x9 y9 p l e room_1 s m args below meth c Q D cA (fun q => s.heap.size ≤ q) ad0 7 0 0 1558 [some (.ref 4), some (.ref (100 + 0)), some (.ref (100 + 50)), some (.ref (100 + 73)), some (.int (nI n)), y5, y6] [] h := by
  obtain ⟨d1, hM1⟩ := hM1
  obtain ⟨d2, hM2⟩ := hM2
  have hl2 : 73 < h1.1.length := Nat.lt_of_lt_of_le hl1 hM1.2.1.1
  refine k_aload_n hX.1 dL_law_1558 rfl ?_
  refine kpc (b := 1559) rfl ?_
  refine k_aload_n hX.1 dL_law_1559 rfl ?_
  refine kpc (b := 1560) rfl ?_
  refine k_iload hX.1 dL_law_1560 rfl ?_
  refine kpc (b := 1562) rfl ?_
  refine k_iconst hX.1 dL_law_1562 ic_1 ?_
  refine kpc (b := 1563) rfl ?_
  refine k_iadd hX.1 dL_law_1563 ?_
  refine kpc (b := 1564) rfl ?_
  refine k_sld (n := n + 1) hX (nI_add n 1) (by omega) dL_law_1564 ?_
  refine kpc (b := 1565) rfl ?_
  refine k_callVN (as := [.int (xs (n + 1))]) (r := some (.int v)) hX.1 lk_L_190 kX11 dL_law_1565 hs1 hM1.2.1 rfl (lRm hM1.1 (by decide)) (Nat.le_of_ble_eq_true rfl) (lRx hM1.2.2.1 hx9) (lRy hM1.2.2.2 hy9) b_nil (bel7 hl1 (fun v hv => by cases hv; rfl) (fun v hv => aBel_up hl1 (hb5 v hv)) (fun v hv => aBel_up hl1 (hb6 v hv))) ?_
  show aK x9 y9 p l e room_1 s m args below meth c Q D cA _ ad0 7 0 0 _ _ [.int v] h1
  refine kpc (b := 1568) rfl ?_
  refine k_aload_n hX.1 dL_law_1568 rfl ?_
  refine kpc (b := 1569) rfl ?_
  refine k_aload_n hX.1 dL_law_1569 rfl ?_
  refine kpc (b := 1570) rfl ?_
  refine k_iload hX.1 dL_law_1570 rfl ?_
  refine kpc (b := 1572) rfl ?_
  refine k_iconst hX.1 dL_law_1572 ic_1 ?_
  refine kpc (b := 1573) rfl ?_
  refine k_iadd hX.1 dL_law_1573 ?_
  refine kpc (b := 1574) rfl ?_
  refine k_sld (n := n + 1) hX (nI_add n 1) (by omega) dL_law_1574 ?_
  refine kpc (b := 1575) rfl ?_
  refine k_callVN (as := [.int (xs (n + 1))]) (r := some (.int v)) hX.1 lk_L_193 kX12 dL_law_1575 hs2 hM2.2.1 rfl (lRm hM2.1 (by decide)) (Nat.le_of_ble_eq_true rfl) (lRx hM2.2.2.1 hx9) (lRy hM2.2.2.2 hy9) (b_cons b_int b_nil) (bel7 hl2 (fun v hv => by cases hv; rfl) (fun v hv => aBel_up hl2 (hb5 v hv)) (fun v hv => aBel_up hl2 (hb6 v hv))) ?_
  show aK x9 y9 p l e room_1 s m args below meth c Q D cA _ ad0 7 0 0 _ _ [.int v, .int v] h2
  refine kpc (b := 1578) rfl ?_
  refine k_icmp_eq (tgt := 1684) hX.1 dL_law_1578 (by decide) (fun hc => kk) (fun hc => absurd rfl hc)
theorem lc_40 (hX : lX p s m args c D cA ad0 b Ln xs) (hn : n + 5 < Ln) (hb5 : ∀ v, y5 = some v → aBel 174 v = true) (hb6 : ∀ v, y6 = some v → aBel 174 v = true) (hM1 : lM l yX11_slack cX11_slack 2 (some .int) [.ref (100 + 0), .int (xs (n + 1))] h (.int v) h1) (hM2 : lM l yX12_slack cX12_slack 2 (some .int) [.ref (100 + 50), .int (xs (n + 1))] h1 (.int v) h2) (hl1 : 73 < h.1.length) (hs1 : h.1[0]? = some (.inr 11)) (hs2 : h1.1[50]? = some (.inr 12)) (hx9 : x9 ≤ 1024) (hy9 : y9 ≤ 13034)
    (kk : aK x9 y9 p l e room_1 s m args below meth c Q D cA (fun q => s.heap.size ≤ q) ad0 7 0 0 1684 [some (.ref 4), some (.ref (100 + 0)), some (.ref (100 + 50)), some (.ref (100 + 73)), some (.int (nI n)), y5, y6] [] h2) : aK x9 y9 p l e room_1 s m args below meth c Q D cA (fun q => s.heap.size ≤ q) ad0 7 0 0 1583 [some (.ref 4), some (.ref (100 + 0)), some (.ref (100 + 50)), some (.ref (100 + 73)), some (.int (nI n)), y5, y6] [] h := by
  obtain ⟨d1, hM1⟩ := hM1
  obtain ⟨d2, hM2⟩ := hM2
  have hl2 : 73 < h1.1.length := Nat.lt_of_lt_of_le hl1 hM1.2.1.1
  refine k_aload_n hX.1 dL_law_1583 rfl ?_
  refine kpc (b := 1584) rfl ?_
  refine k_aload_n hX.1 dL_law_1584 rfl ?_
  refine kpc (b := 1585) rfl ?_
  refine k_iload hX.1 dL_law_1585 rfl ?_
  refine kpc (b := 1587) rfl ?_
  refine k_iconst hX.1 dL_law_1587 ic_1 ?_
  refine kpc (b := 1588) rfl ?_
  refine k_iadd hX.1 dL_law_1588 ?_
  refine kpc (b := 1589) rfl ?_
  refine k_sld (n := n + 1) hX (nI_add n 1) (by omega) dL_law_1589 ?_
  refine kpc (b := 1590) rfl ?_
  refine k_callVN (as := [.int (xs (n + 1))]) (r := some (.int v)) hX.1 lk_L_194 kX11 dL_law_1590 hs1 hM1.2.1 rfl (lRm hM1.1 (by decide)) (Nat.le_of_ble_eq_true rfl) (lRx hM1.2.2.1 hx9) (lRy hM1.2.2.2 hy9) b_nil (bel7 hl1 (fun v hv => by cases hv; rfl) (fun v hv => aBel_up hl1 (hb5 v hv)) (fun v hv => aBel_up hl1 (hb6 v hv))) ?_
  show aK x9 y9 p l e room_1 s m args below meth c Q D cA _ ad0 7 0 0 _ _ [.int v] h1
  refine kpc (b := 1593) rfl ?_
  refine k_aload_n hX.1 dL_law_1593 rfl ?_
  refine kpc (b := 1594) rfl ?_
  refine k_aload_n hX.1 dL_law_1594 rfl ?_
  refine kpc (b := 1595) rfl ?_
  refine k_iload hX.1 dL_law_1595 rfl ?_
  refine kpc (b := 1597) rfl ?_
  refine k_iconst hX.1 dL_law_1597 ic_1 ?_
  refine kpc (b := 1598) rfl ?_
  refine k_iadd hX.1 dL_law_1598 ?_
  refine kpc (b := 1599) rfl ?_
  refine k_sld (n := n + 1) hX (nI_add n 1) (by omega) dL_law_1599 ?_
  refine kpc (b := 1600) rfl ?_
  refine k_callVN (as := [.int (xs (n + 1))]) (r := some (.int v)) hX.1 lk_L_197 kX12 dL_law_1600 hs2 hM2.2.1 rfl (lRm hM2.1 (by decide)) (Nat.le_of_ble_eq_true rfl) (lRx hM2.2.2.1 hx9) (lRy hM2.2.2.2 hy9) (b_cons b_int b_nil) (bel7 hl2 (fun v hv => by cases hv; rfl) (fun v hv => aBel_up hl2 (hb5 v hv)) (fun v hv => aBel_up hl2 (hb6 v hv))) ?_
  show aK x9 y9 p l e room_1 s m args below meth c Q D cA _ ad0 7 0 0 _ _ [.int v, .int v] h2
  refine kpc (b := 1603) rfl ?_
  refine k_icmp_eq (tgt := 1684) hX.1 dL_law_1603 (by decide) (fun hc => kk) (fun hc => absurd rfl hc)
theorem lc_41 (hX : lX p s m args c D cA ad0 b Ln xs) (hn : n + 5 < Ln) (hb5 : ∀ v, y5 = some v → aBel 174 v = true) (hb6 : ∀ v, y6 = some v → aBel 174 v = true) (hM1 : lM l yX11_longest cX11_longest 2 (some .int) [.ref (100 + 0), .int (xs (n + 1))] h (.int v) h1) (hM2 : lM l yX12_longest cX12_longest 2 (some .int) [.ref (100 + 50), .int (xs (n + 1))] h1 (.int v) h2) (hl1 : 73 < h.1.length) (hs1 : h.1[0]? = some (.inr 11)) (hs2 : h1.1[50]? = some (.inr 12)) (hx9 : x9 ≤ 1024) (hy9 : y9 ≤ 13034)
    (kk : aK x9 y9 p l e room_1 s m args below meth c Q D cA (fun q => s.heap.size ≤ q) ad0 7 0 0 1684 [some (.ref 4), some (.ref (100 + 0)), some (.ref (100 + 50)), some (.ref (100 + 73)), some (.int (nI n)), y5, y6] [] h2) : aK x9 y9 p l e room_1 s m args below meth c Q D cA (fun q => s.heap.size ≤ q) ad0 7 0 0 1608 [some (.ref 4), some (.ref (100 + 0)), some (.ref (100 + 50)), some (.ref (100 + 73)), some (.int (nI n)), y5, y6] [] h := by
  obtain ⟨d1, hM1⟩ := hM1
  obtain ⟨d2, hM2⟩ := hM2
  have hl2 : 73 < h1.1.length := Nat.lt_of_lt_of_le hl1 hM1.2.1.1
  refine k_aload_n hX.1 dL_law_1608 rfl ?_
  refine kpc (b := 1609) rfl ?_
  refine k_aload_n hX.1 dL_law_1609 rfl ?_
  refine kpc (b := 1610) rfl ?_
  refine k_iload hX.1 dL_law_1610 rfl ?_
  refine kpc (b := 1612) rfl ?_
  refine k_iconst hX.1 dL_law_1612 ic_1 ?_
  refine kpc (b := 1613) rfl ?_
  refine k_iadd hX.1 dL_law_1613 ?_
  refine kpc (b := 1614) rfl ?_
  refine k_sld (n := n + 1) hX (nI_add n 1) (by omega) dL_law_1614 ?_
  refine kpc (b := 1615) rfl ?_
  refine k_callVN (as := [.int (xs (n + 1))]) (r := some (.int v)) hX.1 lk_L_198 kX11 dL_law_1615 hs1 hM1.2.1 rfl (lRm hM1.1 (by decide)) (Nat.le_of_ble_eq_true rfl) (lRx hM1.2.2.1 hx9) (lRy hM1.2.2.2 hy9) b_nil (bel7 hl1 (fun v hv => by cases hv; rfl) (fun v hv => aBel_up hl1 (hb5 v hv)) (fun v hv => aBel_up hl1 (hb6 v hv))) ?_
  show aK x9 y9 p l e room_1 s m args below meth c Q D cA _ ad0 7 0 0 _ _ [.int v] h1
  refine kpc (b := 1618) rfl ?_
  refine k_aload_n hX.1 dL_law_1618 rfl ?_
  refine kpc (b := 1619) rfl ?_
  refine k_aload_n hX.1 dL_law_1619 rfl ?_
  refine kpc (b := 1620) rfl ?_
  refine k_iload hX.1 dL_law_1620 rfl ?_
  refine kpc (b := 1622) rfl ?_
  refine k_iconst hX.1 dL_law_1622 ic_1 ?_
  refine kpc (b := 1623) rfl ?_
  refine k_iadd hX.1 dL_law_1623 ?_
  refine kpc (b := 1624) rfl ?_
  refine k_sld (n := n + 1) hX (nI_add n 1) (by omega) dL_law_1624 ?_
  refine kpc (b := 1625) rfl ?_
  refine k_callVN (as := [.int (xs (n + 1))]) (r := some (.int v)) hX.1 lk_L_201 kX12 dL_law_1625 hs2 hM2.2.1 rfl (lRm hM2.1 (by decide)) (Nat.le_of_ble_eq_true rfl) (lRx hM2.2.2.1 hx9) (lRy hM2.2.2.2 hy9) (b_cons b_int b_nil) (bel7 hl2 (fun v hv => by cases hv; rfl) (fun v hv => aBel_up hl2 (hb5 v hv)) (fun v hv => aBel_up hl2 (hb6 v hv))) ?_
  show aK x9 y9 p l e room_1 s m args below meth c Q D cA _ ad0 7 0 0 _ _ [.int v, .int v] h2
  refine kpc (b := 1628) rfl ?_
  refine k_icmp_eq (tgt := 1684) hX.1 dL_law_1628 (by decide) (fun hc => kk) (fun hc => absurd rfl hc)
theorem lc_42 (hX : lX p s m args c D cA ad0 b Ln xs) (hn : n + 5 < Ln) (hb5 : ∀ v, y5 = some v → aBel 174 v = true) (hb6 : ∀ v, y6 = some v → aBel 174 v = true) (hM1 : lM l yX11_image cX11_image 1 (some .int) [.ref (100 + 0)] h (.int v) h1) (hM2 : lM l yX12_image cX12_image 1 (some .int) [.ref (100 + 50)] h1 (.int v) h2) (hl1 : 73 < h.1.length) (hs1 : h.1[0]? = some (.inr 11)) (hs2 : h1.1[50]? = some (.inr 12)) (hx9 : x9 ≤ 1024) (hy9 : y9 ≤ 13034)
    (kk : aK x9 y9 p l e room_1 s m args below meth c Q D cA (fun q => s.heap.size ≤ q) ad0 7 0 0 1684 [some (.ref 4), some (.ref (100 + 0)), some (.ref (100 + 50)), some (.ref (100 + 73)), some (.int (nI n)), y5, y6] [] h2) : aK x9 y9 p l e room_1 s m args below meth c Q D cA (fun q => s.heap.size ≤ q) ad0 7 0 0 1633 [some (.ref 4), some (.ref (100 + 0)), some (.ref (100 + 50)), some (.ref (100 + 73)), some (.int (nI n)), y5, y6] [] h := by
  obtain ⟨d1, hM1⟩ := hM1
  obtain ⟨d2, hM2⟩ := hM2
  have hl2 : 73 < h1.1.length := Nat.lt_of_lt_of_le hl1 hM1.2.1.1
  refine k_aload_n hX.1 dL_law_1633 rfl ?_
  refine kpc (b := 1634) rfl ?_
  refine k_callVN (as := []) (r := some (.int v)) hX.1 lk_L_202 kX11 dL_law_1634 hs1 hM1.2.1 rfl (lRm hM1.1 (by decide)) (Nat.le_of_ble_eq_true rfl) (lRx hM1.2.2.1 hx9) (lRy hM1.2.2.2 hy9) b_nil (bel7 hl1 (fun v hv => by cases hv; rfl) (fun v hv => aBel_up hl1 (hb5 v hv)) (fun v hv => aBel_up hl1 (hb6 v hv))) ?_
  show aK x9 y9 p l e room_1 s m args below meth c Q D cA _ ad0 7 0 0 _ _ [.int v] h1
  refine kpc (b := 1637) rfl ?_
  refine k_aload_n hX.1 dL_law_1637 rfl ?_
  refine kpc (b := 1638) rfl ?_
  refine k_callVN (as := []) (r := some (.int v)) hX.1 lk_L_205 kX12 dL_law_1638 hs2 hM2.2.1 rfl (lRm hM2.1 (by decide)) (Nat.le_of_ble_eq_true rfl) (lRx hM2.2.2.1 hx9) (lRy hM2.2.2.2 hy9) (b_cons b_int b_nil) (bel7 hl2 (fun v hv => by cases hv; rfl) (fun v hv => aBel_up hl2 (hb5 v hv)) (fun v hv => aBel_up hl2 (hb6 v hv))) ?_
  show aK x9 y9 p l e room_1 s m args below meth c Q D cA _ ad0 7 0 0 _ _ [.int v, .int v] h2
  refine kpc (b := 1641) rfl ?_
  refine k_icmp_eq (tgt := 1684) hX.1 dL_law_1641 (by decide) (fun hc => kk) (fun hc => absurd rfl hc)
theorem lc_43 (hX : lX p s m args c D cA ad0 b Ln xs) (hn : n + 5 < Ln) (hb5 : ∀ v, y5 = some v → aBel 174 v = true) (hb6 : ∀ v, y6 = some v → aBel 174 v = true) (hM1 : lM l yX11_back cX11_back 1 (some .int) [.ref (100 + 0)] h (.int v) h1) (hM2 : lM l yX12_back cX12_back 1 (some .int) [.ref (100 + 50)] h1 (.int v) h2) (hl1 : 73 < h.1.length) (hs1 : h.1[0]? = some (.inr 11)) (hs2 : h1.1[50]? = some (.inr 12)) (hx9 : x9 ≤ 1024) (hy9 : y9 ≤ 13034)
    (kk : aK x9 y9 p l e room_1 s m args below meth c Q D cA (fun q => s.heap.size ≤ q) ad0 7 0 0 1684 [some (.ref 4), some (.ref (100 + 0)), some (.ref (100 + 50)), some (.ref (100 + 73)), some (.int (nI n)), y5, y6] [] h2) : aK x9 y9 p l e room_1 s m args below meth c Q D cA (fun q => s.heap.size ≤ q) ad0 7 0 0 1646 [some (.ref 4), some (.ref (100 + 0)), some (.ref (100 + 50)), some (.ref (100 + 73)), some (.int (nI n)), y5, y6] [] h := by
  obtain ⟨d1, hM1⟩ := hM1
  obtain ⟨d2, hM2⟩ := hM2
  have hl2 : 73 < h1.1.length := Nat.lt_of_lt_of_le hl1 hM1.2.1.1
  refine k_aload_n hX.1 dL_law_1646 rfl ?_
  refine kpc (b := 1647) rfl ?_
  refine k_callVN (as := []) (r := some (.int v)) hX.1 lk_L_206 kX11 dL_law_1647 hs1 hM1.2.1 rfl (lRm hM1.1 (by decide)) (Nat.le_of_ble_eq_true rfl) (lRx hM1.2.2.1 hx9) (lRy hM1.2.2.2 hy9) b_nil (bel7 hl1 (fun v hv => by cases hv; rfl) (fun v hv => aBel_up hl1 (hb5 v hv)) (fun v hv => aBel_up hl1 (hb6 v hv))) ?_
  show aK x9 y9 p l e room_1 s m args below meth c Q D cA _ ad0 7 0 0 _ _ [.int v] h1
  refine kpc (b := 1650) rfl ?_
  refine k_aload_n hX.1 dL_law_1650 rfl ?_
  refine kpc (b := 1651) rfl ?_
  refine k_callVN (as := []) (r := some (.int v)) hX.1 lk_L_209 kX12 dL_law_1651 hs2 hM2.2.1 rfl (lRm hM2.1 (by decide)) (Nat.le_of_ble_eq_true rfl) (lRx hM2.2.2.1 hx9) (lRy hM2.2.2.2 hy9) (b_cons b_int b_nil) (bel7 hl2 (fun v hv => by cases hv; rfl) (fun v hv => aBel_up hl2 (hb5 v hv)) (fun v hv => aBel_up hl2 (hb6 v hv))) ?_
  show aK x9 y9 p l e room_1 s m args below meth c Q D cA _ ad0 7 0 0 _ _ [.int v, .int v] h2
  refine kpc (b := 1654) rfl ?_
  refine k_icmp_eq (tgt := 1684) hX.1 dL_law_1654 (by decide) (fun hc => kk) (fun hc => absurd rfl hc)
theorem lc_44 (hX : lX p s m args c D cA ad0 b Ln xs) (hn : n + 5 < Ln) (hb5 : ∀ v, y5 = some v → aBel 174 v = true) (hb6 : ∀ v, y6 = some v → aBel 174 v = true) (hM1 : lM l yX11_count cX11_count 2 (some .int) [.ref (100 + 0), .int (xs (n + 1))] h (.int v) h1) (hM2 : lM l yX12_count cX12_count 2 (some .int) [.ref (100 + 50), .int (xs (n + 1))] h1 (.int v) h2) (hl1 : 73 < h.1.length) (hs1 : h.1[0]? = some (.inr 11)) (hs2 : h1.1[50]? = some (.inr 12)) (hx9 : x9 ≤ 1024) (hy9 : y9 ≤ 13034)
    (kk : aK x9 y9 p l e room_1 s m args below meth c Q D cA (fun q => s.heap.size ≤ q) ad0 7 0 0 1684 [some (.ref 4), some (.ref (100 + 0)), some (.ref (100 + 50)), some (.ref (100 + 73)), some (.int (nI n)), y5, y6] [] h2) : aK x9 y9 p l e room_1 s m args below meth c Q D cA (fun q => s.heap.size ≤ q) ad0 7 0 0 1659 [some (.ref 4), some (.ref (100 + 0)), some (.ref (100 + 50)), some (.ref (100 + 73)), some (.int (nI n)), y5, y6] [] h := by
  obtain ⟨d1, hM1⟩ := hM1
  obtain ⟨d2, hM2⟩ := hM2
  have hl2 : 73 < h1.1.length := Nat.lt_of_lt_of_le hl1 hM1.2.1.1
  refine k_aload_n hX.1 dL_law_1659 rfl ?_
  refine kpc (b := 1660) rfl ?_
  refine k_aload_n hX.1 dL_law_1660 rfl ?_
  refine kpc (b := 1661) rfl ?_
  refine k_iload hX.1 dL_law_1661 rfl ?_
  refine kpc (b := 1663) rfl ?_
  refine k_iconst hX.1 dL_law_1663 ic_1 ?_
  refine kpc (b := 1664) rfl ?_
  refine k_iadd hX.1 dL_law_1664 ?_
  refine kpc (b := 1665) rfl ?_
  refine k_sld (n := n + 1) hX (nI_add n 1) (by omega) dL_law_1665 ?_
  refine kpc (b := 1666) rfl ?_
  refine k_callVN (as := [.int (xs (n + 1))]) (r := some (.int v)) hX.1 lk_L_210 kX11 dL_law_1666 hs1 hM1.2.1 rfl (lRm hM1.1 (by decide)) (Nat.le_of_ble_eq_true rfl) (lRx hM1.2.2.1 hx9) (lRy hM1.2.2.2 hy9) b_nil (bel7 hl1 (fun v hv => by cases hv; rfl) (fun v hv => aBel_up hl1 (hb5 v hv)) (fun v hv => aBel_up hl1 (hb6 v hv))) ?_
  show aK x9 y9 p l e room_1 s m args below meth c Q D cA _ ad0 7 0 0 _ _ [.int v] h1
  refine kpc (b := 1669) rfl ?_
  refine k_aload_n hX.1 dL_law_1669 rfl ?_
  refine kpc (b := 1670) rfl ?_
  refine k_aload_n hX.1 dL_law_1670 rfl ?_
  refine kpc (b := 1671) rfl ?_
  refine k_iload hX.1 dL_law_1671 rfl ?_
  refine kpc (b := 1673) rfl ?_
  refine k_iconst hX.1 dL_law_1673 ic_1 ?_
  refine kpc (b := 1674) rfl ?_
  refine k_iadd hX.1 dL_law_1674 ?_
  refine kpc (b := 1675) rfl ?_
  refine k_sld (n := n + 1) hX (nI_add n 1) (by omega) dL_law_1675 ?_
  refine kpc (b := 1676) rfl ?_
  refine k_callVN (as := [.int (xs (n + 1))]) (r := some (.int v)) hX.1 lk_L_213 kX12 dL_law_1676 hs2 hM2.2.1 rfl (lRm hM2.1 (by decide)) (Nat.le_of_ble_eq_true rfl) (lRx hM2.2.2.1 hx9) (lRy hM2.2.2.2 hy9) (b_cons b_int b_nil) (bel7 hl2 (fun v hv => by cases hv; rfl) (fun v hv => aBel_up hl2 (hb5 v hv)) (fun v hv => aBel_up hl2 (hb6 v hv))) ?_
  show aK x9 y9 p l e room_1 s m args below meth c Q D cA _ ad0 7 0 0 _ _ [.int v, .int v] h2
  refine kpc (b := 1679) rfl ?_
  refine k_icmp_eq (tgt := 1684) hX.1 dL_law_1679 (by decide) (fun hc => kk) (fun hc => absurd rfl hc)
end LC
