/-! pond: 0 answers, 1 no such pond, 2 no such what; the reference's -/
def gPondT (c : CA) (x y : Int32) : Int32 := match gIx x (c 0 0) with
  | none => 1
  | some _ => if y < 0 then 2 else if y ≤ 4 then 0 else 2
def gPondV (c : CA) (s : SA) (p : Nat) (y : Int32) : Int32 := if y = 0 then nI (c 2 p) else if y = 1 then nI (c 3 p) else if y = 2 then s 4 p else if y = 3 then nI (c 5 p) else if mOpt (qLk c p) = -1 then -2 else mOpt (qLk c p)
section PM
variable {d : Nat} {Q : Option MV → MS → Prop} {σ : MS} {b : Nat} {c : CA} {s : SA}
theorem M_lockOf {p : Nat} (C : MC σ c) (V : CV c) (hp : p < 7) (H : Q (some (iV (mOpt (qLk c p)))) σ) : R mj_OM d mX11_lockOf Q 0 [some (rV 45 0), some (iV (nI p)), none] [] σ := by
  have n3 := V.nl
  have n7 := V.np
  have v1 : vp_in (1 : Int32) 18 := vin (p := 1) (n := 18) (by omega) (by omega) (by decide)
  have L : ∀ (m l : Nat), l + m = c 0 1 → qLkG c p m l = qLk c p → R mj_OM d mX11_lockOf Q 2 [some (rV 45 0), some (iV (nI p)), some (iV (nI l))] [] σ := by
    intro m
    induction m with
    | zero =>
      intro l hl' hh
      refine bX11_lockOf_2 ⟨v1, fun _ => by rw [← hh] at H; exact H, fun z => ?_⟩
      rw [C.nl, nI_le2 (by omega) (by omega)] at z; omega
    | succ m ih =>
      intro l hl' hh
      have hl : l < c 0 1 := by omega
      have := (V.lock hl).1
      refine bX11_lockOf_2 ⟨v1, fun z => ?_, fun _ => ?_⟩
      · rw [C.nl, nI_le2 (by omega) (by omega)] at z; omega
      · rw [cl (show l < 6 by omega) (by omega), C.lpond hl, nI_inj (by omega) (by omega)]
        refine ⟨vin (show l < 6 by omega) (by omega) (by decide), fun z => ?_, fun z => ?_⟩
        · rw [nI_1]
          exact ih (l + 1) (by omega) (by rw [← hh, qLkG, if_neg z])
        · rw [← hh, qLkG, if_pos z] at H
          exact H
  exact bX11_lockOf_0 (L (c 0 1) 0 (by omega) rfl)
theorem M_pond (h : MB σ 0 c s) {x y : Int32} (H : ∀ τ v, XQ σ τ → τ.1 45 0 0 = gPondT c x y → (∀ p, gIx x (c 0 0) = some p → gPondT c x y = 0 → v = gPondV c s p y) → Q (some (iV v)) τ) : R mj_OM (d + 1) mX11_pond Q 0 [some (rV 45 0), some (iV x), some (iV y)] [] σ := by
  have C := h.2.1
  have V := h.2.2.1
  have n7 := V.np
  have e45 : ∀ v : Int32, (uI σ 45 0 0 v).1 45 0 0 = v := fun v => by simp [uI]
  refine bX11_pond_0 (M_isPond C V (fun p hp ex e => bX11_pond_6 ⟨fun _ => ⟨fun y0 => ⟨fun z => absurd z (by decide), fun _ => H _ _ (XQ.u45 (by decide)) ?_ ?_⟩, fun y0 => ⟨fun y4 => ⟨fun _ => ?_, fun z => absurd rfl z⟩, fun y4 => ⟨fun z => absurd z (by decide), fun _ => H _ _ (XQ.u45 (by decide)) ?_ ?_⟩⟩⟩, fun z => absurd z (by decide)⟩) (fun e => bX11_pond_6 ⟨fun z => absurd rfl z, fun _ => ⟨fun z => absurd z (by decide), fun _ => H _ _ (XQ.u45 (by decide)) ?_ ?_⟩⟩))
  · rw [e45, gPondT, e]; simp [y0]
  · intro q _ t
    rw [gPondT, e] at t
    simp [y0] at t
  · have hT : gPondT c x y = 0 := by rw [gPondT, e]; simp [y0, y4]
    subst ex
    have vp : ∀ n, 7 ≤ n → n < 1000 → vp_in (nI p) n := fun n h1 h2 => vin (show p < n by omega) (Nat.le_refl _) (by omega)
    have H2 : ∀ v, v = gPondV c s p y → Q (some (iV v)) (uI σ 45 0 0 0) := fun v hv => H _ v XQ.t (by rw [e45, hT]) (fun q hq _ => by rw [e] at hq; cases hq; exact hv)
    refine ⟨fun w0 => ⟨vp _ (by omega) (by omega), ?_⟩, fun w0 => ⟨fun w1 => ⟨vp _ (by omega) (by omega), ?_⟩, fun w1 => ⟨fun w2 => ⟨vp _ (by omega) (by omega), ?_⟩, fun w2 => ⟨fun w3 => ⟨vp _ (by omega) (by omega), ?_⟩, fun w3 => ?_⟩⟩⟩⟩
    · rw [cl hp (by omega), C.area hp]
      exact H2 _ (by rw [gPondV, if_pos w0])
    · rw [cl hp (by omega), C.floor hp]
      exact H2 _ (by rw [gPondV, if_neg w0, if_pos w1])
    · rw [cl hp (by omega)]
      have hw := h.w hp
      rw [Nat.mul_zero, Nat.zero_add] at hw
      rw [hw]
      exact H2 _ (by rw [gPondV, if_neg w0, if_neg w1, if_pos w2])
    · rw [cl hp (by omega), C.spring hp]
      exact H2 _ (by rw [gPondV, if_neg w0, if_neg w1, if_neg w2, if_pos w3])
    · have C2 : MC (uI σ 45 0 0 0) c := (XQ.t.mb h (by decide)).2.1
      exact M_lockOf C2 V (by omega) (bX11_pond_105 (M_orNone (bX11_pond_108 (H2 _ (by rw [gPondV, if_neg w0, if_neg w1, if_neg w2, if_neg w3])))))
  · rw [e45, gPondT, e]; simp [y0, y4]
  · intro q _ t
    rw [gPondT, e] at t
    simp [y0, y4] at t
  · rw [e45, gPondT, e]
  · intro q hq
    rw [e] at hq; cases hq
theorem M_thrown (H : Q (some (iV (σ.1 45 0 0))) σ) : R mj_OM d mX11_thrown Q 0 [some (rV 45 0)] [] σ := bX11_thrown_0 H
end PM
