/-! what both programs compute of a scene -/
def gFull (c : CA) (s : SA) (p : Nat) : Int32 := nI (c 3 p) * nI (c 2 p) + s 4 p
def gHi (c : CA) (s : SA) (p q : Nat) : Int32 := gFull c s p * nI (c 2 q) - gFull c s q * nI (c 2 p)
def gGiver (c : CA) (s : SA) (k : Nat) : Nat := if 0 ≤ gHi c s (c 9 k) (c 10 k) then c 9 k else c 10 k
def gTaker (c : CA) (s : SA) (k : Nat) : Nat := if 0 ≤ gHi c s (c 9 k) (c 10 k) then c 10 k else c 9 k
def imin (a b : Int32) : Int32 := if b < a then b else a
def imax (a b : Int32) : Int32 := if a < b then b else a
def gRun (c : CA) (s : SA) (k : Nat) : Int32 := imin (s 4 (gGiver c s k)) (gHi c s (gGiver c s k) (gTaker c s k) / (nI (c 2 (gGiver c s k)) + nI (c 2 (gTaker c s k))))
def sU (s : SA) (f j : Nat) (v : Int32) : SA := fun f' j' => if f' = f ∧ j' = j then v else s f' j'
def gMove (s : SA) (a b : Nat) (m : Int32) : SA := sU (sU s 4 a (s 4 a - m)) 4 b ((sU s 4 a (s 4 a - m)) 4 b + m)
/-- how much runs, so much at most, and the scene behind it -/
def gFlow (c : CA) (s : SA) (k : Nat) (most : Int32) : Int32 × SA := (imin most (gRun c s k), gMove s (gGiver c s k) (gTaker c s k) (imin most (gRun c s k)))
def gJam (s : SA) (k : Nat) : Prop := (s 3 0 >>> (nI k &&& 31)) &&& 1 = 1
def gMore (w by_ : Int32) : Int32 := imax w (imin 9999 (w + by_))
theorem gGiver_lt {c : CA} {s : SA} {k : Nat} (V : CV c) (hk : k < c 0 2) : gGiver c s k < c 0 0 := by
  unfold gGiver; split
  · exact (V.pipe hk).1
  · exact (V.pipe hk).2.1
theorem gTaker_lt {c : CA} {s : SA} {k : Nat} (V : CV c) (hk : k < c 0 2) : gTaker c s k < c 0 0 := by
  unfold gTaker; split
  · exact (V.pipe hk).2.1
  · exact (V.pipe hk).1
theorem gTaker_eq (c : CA) (s : SA) (k : Nat) : nI (c 9 k) + nI (c 10 k) - nI (gGiver c s k) = nI (gTaker c s k) := by
  unfold gGiver gTaker; split <;> grind
section Scn
variable {d : Nat} {Q : Option MV → MS → Prop} {σ : MS} {o b : Nat} {c : CA} {s : SA}
theorem S_raised (h : SC σ o b c s) {p : Nat} (hp : p < c 0 0) (H : Q (some (iV (gFull c s p))) σ) : R mj_OC d mX8_raised Q 0 [some (rV 6 o), some (iV (nI p))] [] σ := by
  obtain ⟨ho, hc, ⟨hb, C, K, T, V⟩, S⟩ := h
  have e1 := cl hp (by have := V.np; omega)
  refine bX8_raised_0 ho ⟨by rw [hc]; exact hb, vin hp V.np (by decide), ?_⟩
  rw [e1, hc, C.floor hp, C.area hp, S.2.2.2.2.1 p hp]
  exact H
theorem S_higherBy (h : SC σ o b c s) {p q : Nat} (hp : p < c 0 0) (hq : q < c 0 0) (H : Q (some (iV (gHi c s p q))) σ) : R mj_OC d mX8_higherBy Q 0 [some (rV 6 o), some (iV (nI p)), some (iV (nI q)), none, none] [] σ := by
  obtain ⟨ho, hc, ⟨hb, C, K, T, V⟩, S⟩ := h
  have e1 := cl hp (by have := V.np; omega)
  have e2 := cl hq (by have := V.np; omega)
  refine bX8_higherBy_0 ho ⟨by rw [hc]; exact hb, vin hp V.np (by decide), vin hq V.np (by decide), ?_⟩
  rw [e1, e2, hc, C.floor hp, C.area hp, C.floor hq, C.area hq, S.2.2.2.2.1 p hp, S.2.2.2.2.1 q hq]
  have e : (nI (c 3 p) - nI (c 3 q)) * nI (c 2 p) * nI (c 2 q) + s 4 p * nI (c 2 q) - s 4 q * nI (c 2 p) = gHi c s p q := by
    unfold gHi gFull; grind
  rw [e]
  exact H
theorem S_isAtLeast (h : SC σ o b c s) {p : Nat} (hp : p < c 0 0) {x : Int32} (H1 : x * nI (c 2 p) ≤ gFull c s p → Q (some (iV 1)) σ) (H0 : ¬ x * nI (c 2 p) ≤ gFull c s p → Q (some (iV 0)) σ) : R mj_OC (d + 1) mX8_isAtLeast Q 0 [some (rV 6 o), some (iV (nI p)), some (iV x)] [] σ := by
  refine bX8_isAtLeast_0 h.1 (S_raised h hp ?_)
  obtain ⟨ho, hc, ⟨hb, C, K, T, V⟩, S⟩ := h
  refine bX8_isAtLeast_5 ho ⟨by rw [hc]; exact hb, vin hp V.np (by decide), fun q => H0 ?_, fun q => H1 ?_⟩
  · rw [cl hp (by have := V.np; omega), hc, C.area hp] at q
    exact Int32.not_le.mpr q
  · rw [cl hp (by have := V.np; omega), hc, C.area hp] at q
    exact Int32.not_lt.mp q
theorem S_isAtMost (h : SC σ o b c s) {p : Nat} (hp : p < c 0 0) {x : Int32} (H1 : gFull c s p ≤ x * nI (c 2 p) → Q (some (iV 1)) σ) (H0 : ¬ gFull c s p ≤ x * nI (c 2 p) → Q (some (iV 0)) σ) : R mj_OC (d + 1) mX8_isAtMost Q 0 [some (rV 6 o), some (iV (nI p)), some (iV x)] [] σ := by
  refine bX8_isAtMost_0 h.1 (S_raised h hp ?_)
  obtain ⟨ho, hc, ⟨hb, C, K, T, V⟩, S⟩ := h
  refine bX8_isAtMost_5 ho ⟨by rw [hc]; exact hb, vin hp V.np (by decide), fun q => H0 ?_, fun q => H1 ?_⟩
  · rw [cl hp (by have := V.np; omega), hc, C.area hp] at q
    exact Int32.not_le.mpr q
  · rw [cl hp (by have := V.np; omega), hc, C.area hp] at q
    exact Int32.not_lt.mp q
theorem S_isJammed (h : SC σ o b c s) {k : Nat} (H1 : gJam s k → Q (some (iV 1)) σ) (H0 : ¬ gJam s k → Q (some (iV 0)) σ) : R mj_OC d mX8_isJammed Q 0 [some (rV 6 o), some (iV (nI k))] [] σ := by
  refine bX8_isJammed_0 h.1 ⟨fun q => H0 ?_, fun q => H1 ?_⟩
  · rw [h.2.2.2.2.2.2.1] at q; exact q
  · rw [h.2.2.2.2.2.2.1] at q; exact q
theorem S_giver (h : SC σ o b c s) {k : Nat} (hk : k < c 0 2) (H : Q (some (iV (nI (gGiver c s k)))) σ) : R mj_OC (d + 1) mX8_giver Q 0 [some (rV 6 o), some (iV (nI k)), none, none] [] σ := by
  obtain ⟨ho, hc, ⟨hb, C, K, T, V⟩, S⟩ := id h
  refine bX8_giver_0 ho ⟨by rw [hc]; exact hb, vin hk V.nk (by decide), ?_⟩
  rw [cl hk (by have := V.nk; omega), hc, C.one hk, C.two hk]
  refine S_higherBy h (V.pipe hk).1 (V.pipe hk).2.1 ?_
  refine bX8_giver_26 ho ⟨fun q => ?_, fun q => ?_⟩
  · rw [gGiver, if_neg (Int32.not_le.mpr q)] at H; exact H
  · rw [gGiver, if_pos (Int32.not_lt.mp q)] at H; exact H
theorem nI_pos2 {a b : Nat} (ha : 1 ≤ a) (ha2 : a ≤ 20) (hb : b ≤ 20) : ¬ nI a + nI b ≤ 0 ∧ ¬ nI a + nI b = 0 := by
  have h2 : ¬ nI (a + b) ≤ 0 := nI_nle (by omega) (by omega)
  rw [nI_add]
  exact ⟨h2, fun e => h2 (by rw [e]; exact Int32.le_refl _)⟩
theorem S_movable (h : SC σ o b c s) {k : Nat} (hk : k < c 0 2) (H : Q (some (iV (gRun c s k))) σ) : R mj_OC (d + 1 + 1) mX8_movable Q 0 [some (rV 6 o), some (iV (nI k)), none, none, none] [] σ := by
  refine bX8_movable_0 h.1 (S_giver h hk ?_)
  obtain ⟨ho, hc, ⟨hb, C, K, T, V⟩, S⟩ := id h
  have g1 := gGiver_lt (s := s) V hk
  have g2 := gTaker_lt (s := s) V hk
  have ek := cl hk (by have := V.nk; omega)
  have et : σ.1 21 (σ.2.2 6 o) (nI k).toNatClampNeg + σ.1 22 (σ.2.2 6 o) (nI k).toNatClampNeg - nI (gGiver c s k) = nI (gTaker c s k) := by
    rw [ek, hc, C.one hk, C.two hk, gTaker_eq]
  have ea : ¬ nI (c 2 (gGiver c s k)) + nI (c 2 (gTaker c s k)) ≤ 0 ∧ ¬ nI (c 2 (gGiver c s k)) + nI (c 2 (gTaker c s k)) = 0 := nI_pos2 (V.pond g1).1 (V.pond g1).2.1 (V.pond g2).2.1
  have e1 := cl g1 (by have := V.np; omega)
  have e2 := cl g2 (by have := V.np; omega)
  refine bX8_movable_5 ho ⟨by rw [hc]; exact hb, vin hk V.nk (by decide), vin g1 V.np (by decide), by rw [et]; exact vin g2 V.np (by decide), fun q => ?_, fun q => ?_⟩
  · rw [et, e1, e2, hc, C.area g1, C.area g2] at q
    exact absurd q ea.1
  · rw [et, e1, e2, hc, C.area g1, C.area g2, S.2.2.2.2.1 _ g1]
    refine S_higherBy h g1 g2 ?_
    exact bX8_movable_66 ho ⟨ea.2, H⟩
theorem SR.flowed (h : SC σ o b c s) {x y : Nat} (hx : x < c 0 0) (hy : y < c 0 0) (m : Int32) : SC (uI (uI σ 35 o x (σ.1 35 o x - m)) 35 o y ((uI σ 35 o x (σ.1 35 o x - m)).1 35 o y + m)) o b c (gMove s x y m) := by
  obtain ⟨ho, hc, B, S⟩ := h
  refine ⟨ho, hc, B.keep (L := [(35, o)]) ((SB.uI (by simp)).tr (SB.uI (by simp))) rfl, ?_⟩
  obtain ⟨s1, s2, s3, s4, s5, s6, s7⟩ := S
  refine ⟨by simp [uI, gMove, sU, s1], by simp [uI, gMove, sU, s2], by simp [uI, gMove, sU, s3], by simp [uI, gMove, sU, s4], fun p hp => ?_, fun q hq => by simp [uI, gMove, sU, s6 q hq], fun q hq => by simp [uI, gMove, sU, s7 q hq]⟩
  simp only [uI, gMove, sU, true_and, s5 x hx, s5 y hy, s5 p hp]
theorem S_run (h : SC σ o b c s) {k : Nat} (hk : k < c 0 2) {most : Int32} (H : ∀ τ : MS, SB [(35, o)] σ τ → SC τ o b c (gFlow c s k most).2 → Q (some (iV (gFlow c s k most).1)) τ) : R mj_OC (d + 1 + 1 + 1) mX8_run Q 0 [some (rV 6 o), some (iV (nI k)), some (iV most), none, none] [] σ := by
  refine bX8_run_0 h.1 (S_giver h hk ?_)
  refine bX8_run_5 h.1 (S_movable h hk ?_)
  obtain ⟨ho, hc, ⟨hb, C, K, T, V⟩, S⟩ := id h
  have g1 := gGiver_lt (s := s) V hk
  have g2 := gTaker_lt (s := s) V hk
  have ek := cl hk (by have := V.nk; omega)
  have et : σ.1 21 (σ.2.2 6 o) (nI k).toNatClampNeg + σ.1 22 (σ.2.2 6 o) (nI k).toNatClampNeg - nI (gGiver c s k) = nI (gTaker c s k) := by
    rw [ek, hc, C.one hk, C.two hk, gTaker_eq]
  refine bX8_run_12 ho ⟨by rw [hc]; exact hb, vin hk V.nk (by decide), ?_⟩
  rw [et]
  refine bX8_move_0 ho ⟨vin g1 V.np (by decide), vin g2 V.np (by decide), ?_⟩
  rw [cl g1 (by have := V.np; omega), cl g2 (by have := V.np; omega)]
  exact bX8_run_45 ho (H _ ((SB.uI (by simp)).tr (SB.uI (by simp))) (SR.flowed h g1 g2 _))
end Scn
