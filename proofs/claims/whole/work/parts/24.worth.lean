/-! a law's E, knot by knot, over a stack of whole numbers (its top first) -/
def gStep (c : CA) (nm : Nat → Int) (i : Nat) (st : List Int) : Option (List Int) :=
  if c 19 i = 0 then some ((c 20 i : Int) :: st) else if c 19 i = 1 then some (nm (c 20 i) :: st) else
  if c 20 i = 260 then (match st with | y :: r => some ((if y = 0 then 1 else 0) :: r) | [] => none)
  else match st with | y :: x :: r => (gOp (c 20 i) x y).map (fun z => z :: r) | _ => none
def gEval (c : CA) (nm : Nat → Int) : Nat → Nat → List Int → Option (List Int)
  | _, 0, st => some st
  | i, n + 1, st => match gStep c nm i st with | none => none | some st' => gEval c nm (i + 1) n st'
def gTop : Option (List Int) → Option Int
  | some (z :: _) => some z
  | _ => none
def gWorth (c : CA) (r : Nat) (nm : Nat → Int) : Option Int := if c 17 r < c 18 r then gTop (gEval c nm (c 17 r) (c 18 r - c 17 r) []) else none
/-- an array that holds a stack -/
def stkR (f : Nat → Int64) : List Int → Prop
  | [] => True
  | z :: r => f r.length = Int64.ofInt z ∧ stkR f r
theorem stkR_congr {f g : Nat → Int64} : ∀ st : List Int, (∀ j, j < st.length → f j = g j) → stkR f st → stkR g st := by
  intro st
  induction st with
  | nil => intro _ _; trivial
  | cons z r ih => intro h hs; exact ⟨by rw [← h r.length (by simp)]; exact hs.1, ih (fun j hj => h j (by simp; omega)) hs.2⟩
theorem stkR_put {f : Nat → Int64} {z : Int} {r : List Int} {v : Int64} (hv : v = Int64.ofInt z) (h : stkR f r) : stkR (fun j => if j = r.length then v else f j) (z :: r) := by
  refine ⟨by simp [hv], stkR_congr r (fun j hj => ?_) h⟩
  rw [if_neg (by omega)]
theorem gStep_big {c : CA} {nm : Nat → Int} {i : Nat} {st st' : List Int} (hk : (c 19 i = 0 ∧ c 20 i ≤ 9999) ∨ (c 19 i = 1 ∧ c 20 i ≤ 6) ∨ (c 19 i = 2 ∧ ksign (c 20 i))) (hnm : ∀ j, j < 7 → gBig (nm j)) (hst : ∀ z ∈ st, gBig z) (h : gStep c nm i st = some st') : ∀ z ∈ st', gBig z := by
  have one : ∀ (w : Int) (r : List Int), gBig w → (∀ z ∈ r, gBig z) → ∀ z ∈ w :: r, gBig z := by
    intro w r h1 h2 z hz
    rcases List.mem_cons.mp hz with rfl | hz
    · exact h1
    · exact h2 z hz
  unfold gStep at h
  by_cases h0 : c 19 i = 0
  · rw [if_pos h0] at h; cases h
    exact one _ _ (by unfold gBig; omega) hst
  rw [if_neg h0] at h
  by_cases h1 : c 19 i = 1
  · rw [if_pos h1] at h; cases h
    exact one _ _ (hnm _ (by omega)) hst
  rw [if_neg h1] at h
  by_cases h2 : c 20 i = 260
  · rw [if_pos h2] at h
    match st, hst, h with
    | y :: r, hst, h =>
      cases h
      exact one _ _ (by unfold gBig; by_cases hy : y = 0 <;> simp [hy]) (fun z hz => hst z (List.mem_cons_of_mem _ hz))
    | [], _, h => cases h
  · rw [if_neg h2] at h
    match st, hst, h with
    | [], _, h => cases h
    | [_], _, h => cases h
    | y :: x :: r, hst, h =>
      dsimp only at h
      cases hg : gOp (c 20 i) x y with
      | none => rw [hg] at h; cases h
      | some w =>
        rw [hg] at h; cases h
        exact one _ _ (gOp_big (hst x (by simp)) hg) (fun z hz => hst z (List.mem_cons_of_mem _ (List.mem_cons_of_mem _ hz)))
theorem ksign_k {v : Nat} (h : ksign v) : ¬ nI (kCl 2 v) = 23 ∧ (¬ nI (kCl 2 v) < 15 → 21 < nI (kCl 2 v)) ∧ (v ≠ 260 → ¬ nI (kCl 2 v) = 14) := by
  unfold ksign at h
  rcases h with rfl | rfl | rfl | rfl | rfl | rfl | rfl | rfl | rfl | rfl | rfl | rfl | rfl <;> decide
theorem kname_k {v : Nat} (h : v ≤ 6) : ¬ nI (kCl 1 v) = 23 ∧ ¬ nI (kCl 1 v) < 15 ∧ ¬ 21 < nI (kCl 1 v) ∧ nI (kCl 1 v) - 15 = nI v := by
  have : v = 0 ∨ v = 1 ∨ v = 2 ∨ v = 3 ∨ v = 4 ∨ v = 5 ∨ v = 6 := by omega
  rcases this with rfl | rfl | rfl | rfl | rfl | rfl | rfl <;> decide
section Wt
variable {d : Nat} {Q : Option MV → MS → Prop} {σ : MS} {b : Nat} {c : CA}
theorem S_isTold (h : CB σ b c) {r : Nat} (hr : r < 3) (H1 : c 17 r < c 18 r → Q (some (iV 1)) σ) (H0 : ¬ c 17 r < c 18 r → Q (some (iV 0)) σ) : R mj_OC d mX3_isTold Q 0 [some (rV 5 b), some (iV (nI r))] [] σ := by
  obtain ⟨hb, C, K, T, V⟩ := h
  have hv := V.law hr
  have no := V.no
  refine bX3_isTold_0 hb ⟨vin hr (by decide : 3 ≤ 3) (by decide), fun e => ?_, fun e => ?_⟩
  · rw [cl hr (by omega), C.lto hr, C.lfrom hr, nI_le2 (by omega) (by omega)] at e
    exact H0 (by omega)
  · rw [cl hr (by omega), C.lto hr, C.lfrom hr, nI_le2 (by omega) (by omega)] at e
    exact H1 (by omega)
theorem S_lworth_loop (h : CB σ b c) {r : Nat} (hr : r < 3) {nm : Nat → Int} (hn : ∀ j, j < 7 → σ.2.1 38 0 j = Int64.ofInt (nm j)) (hnm : ∀ j, j < 7 → gBig (nm j)) :
    ∀ (n i : Nat) (st : List Int) (τ : MS), i + n = c 18 r → kdep c i n st.length = some 1 → st.length ≤ i → (∀ z ∈ st, gBig z) → SB [(34, b)] σ τ → stkR (τ.2.1 34 b) st →
      (∀ υ : MS, SB [(34, b)] σ υ → Q (some (lV (gResL (gTop (gEval c nm i n st))))) υ) → R mj_OC (d + 1 + 1) mX3_worth Q 10 [some (rV 5 b), some (iV (nI r)), some (rV 38 0), some (iV (nI st.length)), some (iV (nI i)), none] [] τ := by
  obtain ⟨hb, C, K, T, V⟩ := id h
  have hv := V.law hr
  have no := V.no
  have r3 := cl hr (by omega)
  intro n
  induction n with
  | zero =>
    intro i st τ hi hk hl hbig hsb hst H
    have hlen : st.length = 1 := by simpa [kdep] using hk
    refine bX3_worth_10 hb rfl ho38 ⟨vin hr (Nat.le_refl 3) (by decide), fun e => ⟨fun e2 => ?_, fun e2 => ⟨vin (p := 0) (n := 1) (by omega) (by omega) (by decide), ?_⟩⟩, fun e => ?_⟩
    · exact absurd (by rw [hlen]; rfl) e2
    · match st, hlen with
      | [z], _ =>
        have := hst.1
        simp only [List.length_nil] at this
        rw [this]
        exact H τ hsb
    · rw [hsb.i (by simp), r3, C.lto hr] at e
      exact absurd (by rw [← hi]; exact Int32.le_refl _) e
  | succ n ih =>
    intro i st τ hi hk hl hbig hsb hst H
    have hi8 : i < c 0 8 := by omega
    have i64 := cl hi8 (by omega)
    have hkn := V.knot hi8
    have eK : τ.1 30 b (nI i).toNatClampNeg = nI (kCl (c 19 i) (c 20 i)) := by rw [hsb.i (by simp), i64]; exact (K i hi8).1
    have hin : ∀ m : Nat, m < 64 → vp_in (nI m) 64 := fun m hm => vin hm (Nat.le_refl 64) (by decide)
    have n64 : ∀ m : Nat, m < 64 → ¬ (64 : Int32) ≤ nI m := fun m hm => nI_ge (b := 64) hm (by decide)
    have go : ¬ τ.1 33 b (nI r).toNatClampNeg ≤ nI i := by
      rw [hsb.i (by simp), r3, C.lto hr, nI_le2 (by omega) (by omega)]; omega
    have eb0 : gEval c nm i (n + 1) st = match gStep c nm i st with | none => none | some st' => gEval c nm (i + 1) n st' := rfl
    -- a push
    have push : ∀ (z : Int) (k : Int32), gStep c nm i st = some (z :: st) → kdep c (i + 1) n (st.length + 1) = some 1 → R mj_OC (d + 1 + 1) mX3_worth Q 200 [some (rV 5 b), some (iV (nI r)), some (rV 38 0), some (iV (nI st.length + 1)), some (iV (nI i)), some (iV k)] [] (uL τ 34 b (nI st.length).toNatClampNeg (Int64.ofInt z)) := by
      intro z k hs hd
      refine bX3_worth_200 hb rfl ho38 ?_
      rw [nI_1, nI_1]
      rw [hs] at eb0
      have hz : ∀ w ∈ z :: st, gBig w := gStep_big hkn hnm hbig hs
      refine ih (i + 1) (z :: st) _ (by omega) hd (by simp; omega) hz (hsb.tr (SB.uL (by simp))) ?_ (fun υ hυ => ?_)
      · rw [nI_clamp (by omega)]
        have := stkR_put (z := z) (v := Int64.ofInt z) rfl hst
        refine stkR_congr _ (fun j hj => ?_) this
        simp [uL]
      · have := H υ hυ
        rw [eb0] at this
        exact this
    rcases hkn with ⟨h19, h20⟩ | ⟨h19, h20⟩ | ⟨h19, h20⟩
    · -- a number
      have hs : gStep c nm i st = some ((c 20 i : Int) :: st) := by simp [gStep, h19]
      have hd : kdep c (i + 1) n (st.length + 1) = some 1 := by rw [kdep, if_pos (Or.inl h19)] at hk; exact hk
      have e23 : nI (kCl (c 19 i) (c 20 i)) = 23 := by rw [h19]; rfl
      refine bX3_worth_10 hb rfl ho38 ⟨vin hr (Nat.le_refl 3) (by decide), fun e => absurd e go, fun _ => ⟨hin i (by omega), fun e => ?_, fun e => ⟨fun e2 => absurd e2 (n64 _ (by omega)), fun _ => ⟨hin _ (by omega), ?_⟩⟩⟩⟩
      · rw [eK] at e; exact absurd e23 e
      · have ev : (τ.1 31 b (nI i).toNatClampNeg).toInt64 = Int64.ofInt (c 20 i : Int) := by
          rw [hsb.i (by simp), i64, (K i hi8).2 h19, nI_l (by omega)]
          exact Int64.ofInt_eq_ofNat.symm
        rw [ev]
        exact push _ _ hs hd
    · -- a name
      have hs : gStep c nm i st = some (nm (c 20 i) :: st) := by simp [gStep, h19]
      have hd : kdep c (i + 1) n (st.length + 1) = some 1 := by rw [kdep, if_pos (Or.inr h19)] at hk; exact hk
      have hk1 := kname_k h20
      refine bX3_worth_10 hb rfl ho38 ⟨vin hr (Nat.le_refl 3) (by decide), fun e => absurd e go, fun _ => ⟨hin i (by omega), fun e => ?_, fun e => ?_⟩⟩
      · rw [eK, h19]
        refine bX3_worth_63 hb rfl ho38 ⟨fun e => absurd e hk1.2.1, fun _ => ⟨fun e => absurd e hk1.2.2.1, fun _ => ⟨fun e => absurd e (n64 _ (by omega)), fun _ => ?_⟩⟩⟩
        rw [hk1.2.2.2]
        refine ⟨vin (show c 20 i < 7 by omega) (Nat.le_refl 7) (by decide), hin _ (by omega), ?_⟩
        have ev : τ.2.1 38 0 (nI (c 20 i)).toNatClampNeg = Int64.ofInt (nm (c 20 i)) := by
          rw [(hsb.1 38 0 (by simp)).2, nI_clamp (by omega), hn _ (by omega)]
        rw [ev]
        exact push _ _ hs hd
      · rw [eK, h19] at e; exact absurd e hk1.1
    · -- a sign
      have hk1 := ksign_k h20
      have to102 : R mj_OC (d + 1 + 1) mX3_worth Q 102 [some (rV 5 b), some (iV (nI r)), some (rV 38 0), some (iV (nI st.length)), some (iV (nI i)), some (iV (nI (kCl 2 (c 20 i))))] [] τ := by
        by_cases h260 : c 20 i = 260
        · -- not
          have hd : 1 ≤ st.length ∧ kdep c (i + 1) n st.length = some 1 := by
            rw [kdep, if_neg (by omega), if_pos h260] at hk
            split at hk
            · rename_i g; exact ⟨g, hk⟩
            · cases hk
          match st, hd, hst, hbig, hl, H, eb0 with
          | y :: r', hd, hst, hbig, hl, H, eb0 =>
            have e14 : nI (kCl 2 (c 20 i)) = 14 := by rw [h260]; rfl
            have hs : gStep c nm i (y :: r') = some ((if y = 0 then 1 else 0) :: r') := by simp [gStep, h19, h260]
            have hlt : r'.length < 64 := by simp at hl; omega
            have em : nI (y :: r').length - 1 = nI r'.length := nI_pred _
            have hy := hbig y (by simp)
            unfold gBig at hy
            have ey : Int64.ofInt y = 0 ↔ y = 0 := by rw [show (0 : Int64) = Int64.ofInt 0 by decide, i64_eq (by omega) (by omega)]
            have fin : R mj_OC (d + 1 + 1) mX3_worth Q 142 [some (rV 5 b), some (iV (nI r)), some (rV 38 0), some (iV (nI (y :: r').length)), some (iV (nI i)), some (iV (nI (kCl 2 (c 20 i))))] [lV (gResL (gB2 (y = 0))), iV (nI r'.length), rV 34 b] τ := by
              refine bX3_worth_142 hb rfl ho38 hb ⟨hin _ hlt, bX3_worth_200 hb rfl ho38 ?_⟩
              rw [nI_1]
              rw [hs] at eb0
              refine ih (i + 1) ((if y = 0 then 1 else 0) :: r') _ (by omega) hd.2 (by simp at hl ⊢; omega) (gStep_big (V.knot hi8) hnm hbig hs) (hsb.tr (SB.uL (by simp))) ?_ (fun υ hυ => by have := H υ hυ; rw [eb0] at this; exact this)
              rw [nI_clamp (by omega)]
              have := stkR_put (z := if y = 0 then 1 else 0) (v := gResL (gB2 (y = 0))) rfl hst.2
              refine stkR_congr _ (fun j hj => ?_) this
              simp [uL]
            have h1 : ¬ nI (y :: r').length < 1 := nI_nlt (b := 1) (by simp) (by simp at hl ⊢; omega)
            refine bX3_worth_102 hb rfl ho38 ⟨fun e => absurd e14 e, fun _ => ⟨fun e => absurd e h1, fun _ => ?_⟩⟩
            rw [em]
            have er : τ.2.1 34 b (nI r'.length).toNatClampNeg = Int64.ofInt y := by rw [nI_clamp (by omega)]; exact hst.1
            refine ⟨hin _ hlt, fun e => ?_, fun e => ?_⟩
            · rw [er, lg_cmp_eq, ey] at e
              exact S_truth (p := y = 0) (by rw [if_neg e]) fin
            · rw [er, lg_cmp_eq, ey] at e
              exact S_truth (p := y = 0) (by rw [if_pos e]) fin
        · -- two sides
          have hd : 2 ≤ st.length ∧ kdep c (i + 1) n (st.length - 1) = some 1 := by
            rw [kdep, if_neg (by omega), if_neg h260] at hk
            split at hk
            · rename_i g; exact ⟨g, hk⟩
            · cases hk
          match st, hd, hst, hbig, hl, H, eb0 with
          | [], hd, _, _, _, _, _ => exact absurd hd.1 (by simp)
          | [_], hd, _, _, _, _, _ => exact absurd hd.1 (by simp)
          | y :: x :: r', hd, hst, hbig, hl, H, eb0 =>
            have hs : gStep c nm i (y :: x :: r') = (gOp (c 20 i) x y).map (fun z => z :: r') := by simp [gStep, h19, h260]
            have hlt : r'.length + 1 < 64 := by simp at hl; omega
            have e1 : nI (y :: x :: r').length + (-1) = nI (r'.length + 1) := pk_m1 _
            have e2 : nI (r'.length + 1) - 1 = nI r'.length := nI_pred _
            have hx := hbig x (by simp)
            have hy := hbig y (by simp)
            refine bX3_worth_102 hb rfl ho38 ⟨fun _ => ?_, fun e => absurd e (hk1.2.2 h260)⟩
            refine bX3_worth_146 hb rfl ho38 ⟨fun e => absurd e (nI_nlt (b := 2) (by simp) (by simp at hl ⊢; omega)), fun _ => ?_⟩
            rw [e1, e2]
            refine ⟨hin _ (by omega), hin _ hlt, ?_⟩
            have er1 : τ.2.1 34 b (nI r'.length).toNatClampNeg = Int64.ofInt x := by rw [nI_clamp (by omega)]; exact hst.2.1
            have er2 : τ.2.1 34 b (nI (r'.length + 1)).toNatClampNeg = Int64.ofInt y := by rw [nI_clamp (by omega)]; exact hst.1
            rw [er1, er2]
            refine S_valueOf h20 h260 hx hy ?_
            have hbz : ∀ z, gOp (c 20 i) x y = some z → gBig z := fun z hz => gOp_big hx hz
            have ew : (uL τ 34 b (nI r'.length).toNatClampNeg (gResL (gOp (c 20 i) x y))).2.1 34 b (nI (r'.length + 1) - 1).toNatClampNeg = gResL (gOp (c 20 i) x y) := by
              rw [e2]; simp [uL]
            refine bX3_worth_180 hb rfl ho38 hb ⟨hin _ (by omega), by rw [e2]; exact hin _ (by omega), fun e => ?_, fun e => ?_⟩
            · rw [ew, lg_cmp_eq, gResL_min hbz] at e
              cases hg : gOp (c 20 i) x y with
              | none => exact absurd hg e
              | some w =>
                rw [hg] at hs
                rw [hs] at eb0
                refine bX3_worth_200 hb rfl ho38 ?_
                rw [nI_1]
                refine ih (i + 1) (w :: r') _ (by omega) (by simpa using hd.2) (by simp at hl ⊢; omega) (gStep_big (V.knot hi8) hnm hbig hs) (hsb.tr (SB.uL (by simp))) ?_ (fun υ hυ => by have := H υ hυ; rw [eb0] at this; exact this)
                rw [nI_clamp (by omega)]
                have := stkR_put (z := w) (v := gResL (some w)) rfl hst.2.2
                refine stkR_congr _ (fun j hj => ?_) this
                simp [uL]
            · rw [ew, lg_cmp_eq, gResL_min hbz] at e
              rw [e] at hs
              rw [hs] at eb0
              have := H _ (hsb.tr (SB.uL (L := [(34, b)]) (σ := τ) (k := 34) (i := b) (j := (nI r'.length).toNatClampNeg) (v := gResL (gOp (c 20 i) x y)) (by simp)))
              rw [eb0] at this
              exact this
      refine bX3_worth_10 hb rfl ho38 ⟨vin hr (Nat.le_refl 3) (by decide), fun e => absurd e go, fun _ => ⟨hin i (by omega), fun e => ?_, fun e => ?_⟩⟩
      · rw [eK, h19]
        exact bX3_worth_63 hb rfl ho38 ⟨fun _ => to102, fun e => ⟨fun _ => to102, fun e2 => absurd (hk1.2.1 e) e2⟩⟩
      · rw [eK, h19] at e; exact absurd e hk1.1
theorem S_lworth (h : CB σ b c) {r : Nat} (hr : r < 3) (ht : c 17 r < c 18 r) {nm : Nat → Int} (hn : ∀ j, j < 7 → σ.2.1 38 0 j = Int64.ofInt (nm j)) (hnm : ∀ j, j < 7 → gBig (nm j)) (H : ∀ υ : MS, SB [(34, b)] σ υ → Q (some (lV (gResL (gWorth c r nm)))) υ) : R mj_OC (d + 1 + 1) mX3_worth Q 0 [some (rV 5 b), some (iV (nI r)), some (rV 38 0), none, none, none] [] σ := by
  obtain ⟨hb, C, K, T, V⟩ := id h
  have hv := V.law hr
  refine bX3_worth_0 hb rfl ho38 ⟨vin hr (Nat.le_refl 3) (by decide), ?_⟩
  rw [cl hr (by omega), C.lfrom hr]
  unfold gWorth at H
  rw [if_pos ht] at H
  exact S_lworth_loop h hr hn hnm (c 18 r - c 17 r) (c 17 r) [] σ (by omega) (hv.2.2 ht) (by simp) (by simp) SB.rf trivial H
end Wt
