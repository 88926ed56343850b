/-! the reference's minute -/
def mmL : List (Nat × Nat) := [(68, 0), (69, 0), (70, 0), (71, 0), (72, 0), (73, 0), (74, 0), (75, 0), (76, 0)]
def i01 (b : Bool) : Int32 := if b = true then 1 else 0
set_option maxHeartbeats 60000 in
theorem SVt.lt {s : SA} (ht : SVt s) {x : Nat} (hx : x ≤ 2000) : s 0 0 < nI x ↔ gT s < x := by
  rw [ht.1, nI_ltI (by have := ht.2; omega) (by omega)]
section Mm
variable {d : Nat} {Q : Option MV → MS → Prop} {σ : MS} {k : Nat} {c : CA} {s : SA} {md : MD}
set_option maxHeartbeats 60000 in
theorem MB.sy {L : List (Nat × Nat)} {τ : MS} (h : MB σ k c s) (hs : SB L σ τ) (hL : L.all (fun x => !mj_mk x.1) = true) (hM : L.all (fun x => !(70 ≤ x.1 && x.1 ≤ 76)) = true) : MB τ k c s := h.keep hs hL hM
set_option maxHeartbeats 60000 in
theorem M_hasLaw (h : MC σ c) (V : CV c) {r : Nat} (hr : r < 3) (H1 : c 17 r < c 18 r → Q (some (iV 1)) σ) (H0 : ¬ c 17 r < c 18 r → Q (some (iV 0)) σ) : R mj_OM d mX11_hasLaw Q 0 [some (rV 45 0), some (iV (nI r))] [] σ := by
  have hv := V.law hr
  have no := V.no
  refine bX11_hasLaw_0 ⟨vin hr (by omega) (by decide), fun e => ?_, fun e => ?_⟩
  · rw [cl hr (by omega), h.lto hr, h.lfrom hr, nI_le2 (by omega) (by omega)] at e; exact H0 (by omega)
  · rw [cl hr (by omega), h.lto hr, h.lfrom hr, nI_le2 (by omega) (by omega)] at e; exact H1 (by omega)
set_option maxHeartbeats 60000 in
theorem gTop_some {st : Option (List Int)} {z : Int} (h : gTop st = some z) : ∃ r, st = some (z :: r) := by
  match st, h with
  | some (w :: r), h => cases h; exact ⟨r, rfl⟩
  | some [], h => cases h
  | none, h => cases h
set_option maxHeartbeats 60000 in
theorem M_goes (h : MC σ c) (V : CV c) {r : Nat} (hr : r < 3) (hlt : c 17 r < c 18 r) {nm : Nat → Int} (hn : ∀ j, j < 7 → σ.2.1 68 0 j = Int64.ofInt (nm j)) (hnm : ∀ j, j < 7 → gBig (nm j))
    (H1 : ∀ (τ : MS) (z : Int), SY [(69, 0)] [39] σ τ → gWorth c r nm = some z → τ.2.1 69 0 0 = Int64.ofInt z → Q (some (iV 1)) τ) (H0 : ∀ τ : MS, SY [(69, 0)] [39] σ τ → gWorth c r nm = none → Q (some (iV 0)) τ) : R mj_OM (d + 1 + 1) mX11_goes Q 0 [some (rV 45 0), some (iV (nI r)), none] [] σ := by
  have hv := V.law hr
  have no := V.no
  have ew : gWorth c r nm = gTop (gEval c nm (c 17 r) (c 18 r - c 17 r) []) := by rw [gWorth, if_pos hlt]
  refine bX11_goes_0 ⟨vin hr (by omega) (by decide), ?_⟩
  rw [cl hr (by omega), h.lfrom hr]
  have key : ∀ τ : MS, SY [(69, 0)] [39] σ τ → MC τ c := fun τ hs => h.keep hs.1 rfl
  have L : ∀ (n i : Nat) (st : List Int) (τ : MS), i + n = c 18 r → kdep c i n st.length = some 1 → st.length ≤ i → (∀ z ∈ st, gBig z) → SY [(69, 0)] [39] σ τ → stkR (τ.2.1 69 0) st → τ.1 45 0 39 = nI st.length → gWorth c r nm = gTop (gEval c nm i n st) →
      R mj_OM (d + 1 + 1) mX11_goes Q 12 [some (rV 45 0), some (iV (nI r)), some (iV (nI i))] [] τ := by
    intro n
    induction n with
    | zero =>
      intro i st τ hi hk hl hbig hsy hst ht e
      have C := key τ hsy
      refine bX11_goes_12 ⟨vin hr (by omega) (by decide), fun _ => ?_, fun g => ?_⟩
      · have hlen : st.length = 1 := by simpa [kdep] using hk
        match st, hlen, hst, e with
        | [z], _, hst, e => exact H1 τ z hsy e hst.1
      · rw [cl hr (by omega), C.lto hr, ← hi] at g; exact absurd (Int32.le_refl _) g
    | succ n ih =>
      intro i st τ hi hk hl hbig hsy hst ht e
      have C := key τ hsy
      have hi8 : i < c 0 8 := by omega
      have i64 := cl hi8 (by omega)
      have hkn := V.knot hi8
      have go : ¬ τ.1 65 0 (nI r).toNatClampNeg ≤ nI i := by
        rw [cl hr (by omega), C.lto hr, nI_le2 (by omega) (by omega)]; omega
      have eb0 : gEval c nm i (n + 1) st = match gStep c nm i st with | none => none | some st' => gEval c nm (i + 1) n st' := rfl
      have eS : τ.1 66 0 (nI i).toNatClampNeg = nI (c 19 i) := by rw [i64]; exact C.sort hi8
      have eV : τ.1 67 0 (nI i).toNatClampNeg = nI (c 20 i) := by rw [i64]; exact C.val hi8
      have vi : vp_in (nI i) 128 := vin hi8 (by omega) (by decide)
      have vt : st.length < 64 → vp_in (τ.1 45 0 39) 64 := fun g => by rw [ht]; exact vin g (Nat.le_refl _) (by decide)
      have push : ∀ z : Int, gStep c nm i st = some (z :: st) → kdep c (i + 1) n (st.length + 1) = some 1 → R mj_OM (d + 1 + 1) mX11_goes Q 12 [some (rV 45 0), some (iV (nI r)), some (iV (nI i + 1))] [] (uI (uL τ 69 0 (τ.1 45 0 39).toNatClampNeg (Int64.ofInt z)) 45 0 39 (τ.1 45 0 39 + 1)) := by
        intro z hs hd
        rw [nI_1, ht, nI_1, nI_clamp (by omega)]
        rw [hs] at eb0
        refine ih (i + 1) (z :: st) _ (by omega) hd (by simp; omega) (gStep_big hkn hnm hbig hs) ((hsy.tr (SY.uL (by simp))).tr (SY.u45 (by simp))) ?_ (by simp [uI]) (by rw [e, eb0])
        have := stkR_put (z := z) (v := Int64.ofInt z) rfl hst
        refine stkR_congr _ (fun j hj => ?_) this
        simp [uI, uL]
      rcases hkn with ⟨h19, h20⟩ | ⟨h19, h20⟩ | ⟨h19, h20⟩
      · have hs : gStep c nm i st = some ((c 20 i : Int) :: st) := by simp [gStep, h19]
        have hd : kdep c (i + 1) n (st.length + 1) = some 1 := by rw [kdep, if_pos (Or.inl h19)] at hk; exact hk
        refine bX11_goes_12 ⟨vin hr (by omega) (by decide), fun g => absurd g go, fun _ => ⟨vi, fun g => ⟨fun g2 => ?_, fun g2 => ⟨vt (by omega), ?_⟩⟩, fun g => ?_⟩⟩
        · rw [eS, h19] at g2; exact absurd rfl g2
        · rw [eV, i64_nI (by omega)]
          exact push _ hs hd
        · rw [eS, h19] at g; exact absurd g (by decide)
      · have hs : gStep c nm i st = some (nm (c 20 i) :: st) := by simp [gStep, h19]
        have hd : kdep c (i + 1) n (st.length + 1) = some 1 := by rw [kdep, if_pos (Or.inr h19)] at hk; exact hk
        refine bX11_goes_12 ⟨vin hr (by omega) (by decide), fun g => absurd g go, fun _ => ⟨vi, fun g => ⟨fun g2 => ⟨?_, vt (by omega), ?_⟩, fun g2 => ?_⟩, fun g => ?_⟩⟩
        · rw [eV]; exact vin (show c 20 i < 7 by omega) (Nat.le_refl _) (by decide)
        · rw [eV, nI_clamp (show c 20 i < 2 ^ 31 by omega), (hsy.1.1 68 0 (by simp)).2, hn _ (by omega)]
          exact push _ hs hd
        · rw [eS, h19] at g2; exact absurd g2 (by decide)
        · rw [eS, h19] at g; exact absurd g (by decide)
      · refine bX11_goes_12 ⟨vin hr (by omega) (by decide), fun g => absurd g go, fun _ => ⟨vi, fun g => ?_, fun g => ?_⟩⟩
        · rw [eS, h19] at g; exact absurd rfl g
        · rw [eV]
          by_cases h260 : c 20 i = 260
          · have hd : 1 ≤ st.length ∧ kdep c (i + 1) n st.length = some 1 := by
              rw [kdep, if_neg (by omega), if_pos h260] at hk
              split at hk
              · rename_i x; exact ⟨x, hk⟩
              · cases hk
            match st, hd, hst, hbig, hl, ht, eb0, e with
            | y :: r', hd, hst, hbig, hl, ht, eb0, e =>
              have hs : gStep c nm i (y :: r') = some ((if y = 0 then 1 else 0) :: r') := by simp [gStep, h19, h260]
              rw [h260]
              refine M_worksNot (hbig y (by simp)) (m := r'.length) (by simp at hl; omega) ht hst.1 (bX11_goes_42 ⟨fun _ => ?_, fun x => absurd x (by decide)⟩)
              rw [nI_1]
              rw [hs] at eb0
              refine ih (i + 1) ((if y = 0 then 1 else 0) :: r') _ (by omega) hd.2 (by simp at hl ⊢; omega) (gStep_big (V.knot hi8) hnm hbig hs) (hsy.tr (SY.uL (by simp))) ?_ ht (by rw [e, eb0])
              have := stkR_put (z := if y = 0 then 1 else 0) (v := Int64.ofInt (if y = 0 then 1 else 0)) rfl hst.2
              refine stkR_congr _ (fun j hj => ?_) this
              simp [uL]
          · have hd : 2 ≤ st.length ∧ kdep c (i + 1) n (st.length - 1) = some 1 := by
              rw [kdep, if_neg (by omega), if_neg h260] at hk
              split at hk
              · rename_i x; exact ⟨x, hk⟩
              · cases hk
            match st, hd, hst, hbig, hl, ht, eb0, e with
            | [], hd, _, _, _, _, _, _ => exact absurd hd.1 (by simp)
            | [_], hd, _, _, _, _, _, _ => exact absurd hd.1 (by simp)
            | y :: x :: r', hd, hst, hbig, hl, ht, eb0, e =>
              have hs : gStep c nm i (y :: x :: r') = (gOp (c 20 i) x y).map (fun z => z :: r') := by simp [gStep, h19, h260]
              refine M_works h20 h260 (hbig x (by simp)) (hbig y (by simp)) (m := r'.length) (by simp at hl; omega) ht hst.2.1 hst.1 (fun z hz => bX11_goes_42 ⟨fun _ => ?_, fun x => absurd x (by decide)⟩) (fun hz υ hυ => bX11_goes_42 ⟨fun x => absurd rfl x, fun _ => ?_⟩)
              · rw [hz] at hs
                rw [hs] at eb0
                rw [nI_1]
                refine ih (i + 1) (z :: r') _ (by omega) (by simpa using hd.2) (by simp at hl ⊢; omega) (gStep_big (V.knot hi8) hnm hbig hs) ((hsy.tr (SY.u45 (by simp))).tr (SY.uL (by simp))) ?_ (by simp [uI, uL]) (by rw [e, eb0]; rfl)
                have := stkR_put (z := z) (v := Int64.ofInt z) rfl hst.2.2
                refine stkR_congr _ (fun j hj => ?_) this
                simp [uL, uI]
              · rw [hz] at hs
                rw [hs] at eb0
                exact H0 υ (hsy.tr hυ) (by rw [e, eb0]; rfl)
  refine L (c 18 r - c 17 r) (c 17 r) [] _ (by omega) (hv.2.2 hlt) (by simp) (by simp) (SY.u45 (by simp)) trivial (by simp [uI, nI]) ew
set_option maxHeartbeats 60000 in
theorem M_within (h : MC σ c) (V : CV c) {r : Nat} (hr : r < 3) {nm : Nat → Int} (hn : ∀ j, j < 7 → σ.2.1 68 0 j = Int64.ofInt (nm j)) (hnm : ∀ j, j < 7 → gBig (nm j)) {most plain : Nat} (hm : most ≤ 2000)
    (H : ∀ τ : MS, SY [(69, 0)] [39] σ τ → Q (some (iV (gPut (gWorth c r nm) most plain))) τ) : R mj_OM (d + 1 + 1 + 1) mX11_within Q 0 [some (rV 45 0), some (iV (nI r)), some (iV (nI most)), some (iV (nI plain))] [] σ := by
  refine bX11_within_0 (M_hasLaw h V hr (fun hlt => bX11_within_5 ⟨fun e => absurd e (by decide), fun _ => ?_⟩) (fun hlt => bX11_within_5 ⟨fun _ => ?_, fun e => absurd rfl e⟩))
  · refine M_goes h V hr hlt hn hnm (fun τ z hsy hw hz => bX11_within_13 ⟨fun _ => ⟨vin (p := 0) (n := 1) (by omega) (by omega) (by decide), ?_⟩, fun e => absurd e (by decide)⟩) (fun τ hsy hw => bX11_within_13 ⟨fun e => absurd rfl e, fun _ => ?_⟩)
    · have := H τ hsy
      rw [hw] at this
      have hb := gWorth_big c V hnm hr z hw
      unfold gBig at hb
      rw [hz]
      have e1 : (if Int64.ofInt z < (nI most).toInt64 then Int64.ofInt z else (nI most).toInt64) = Int64.ofInt (min (most : Int) z) := by
        rw [i64_nI (by omega)]
        have hlt : Int64.ofInt z < Int64.ofInt (most : Int) ↔ z < most := i64_lt (by omega) (by omega)
        by_cases g : z < (most : Int)
        · rw [if_pos (hlt.mpr g), Int.min_eq_right (by omega)]
        · rw [if_neg (fun x => g (hlt.mp x)), Int.min_eq_left (by omega)]
      have e2 : (if (Int64.ofInt (min (most : Int) z)) < 0 then (0 : Int64) else Int64.ofInt (min (most : Int) z)) = Int64.ofInt (max 0 (min (most : Int) z)) := by
        rw [show (0 : Int64) = Int64.ofInt 0 by decide]
        have hlt : Int64.ofInt (min (most : Int) z) < Int64.ofInt 0 ↔ min (most : Int) z < 0 := i64_lt (by omega) (by omega)
        by_cases g : min (most : Int) z < 0
        · rw [if_pos (hlt.mpr g), Int.max_eq_left (by omega)]
        · rw [if_neg (fun x => g (hlt.mp x)), Int.max_eq_right (by omega)]
      rw [e1, e2]
      have e3 : (Int64.ofInt (max 0 (min (most : Int) z))).toInt32 = Int32.ofInt (max 0 (min (most : Int) z)) := Int64.toInt32_ofInt
      rw [e3]
      exact this
    · have := H τ hsy
      rw [hw] at this
      exact this
  · have := H σ SY.rf
    rw [gWorth, if_neg hlt] at this
    exact this
set_option maxHeartbeats 60000 in
theorem M_calls (h : MB σ k c s) (hm : MM σ md) (ht : SVt s) (hv : MV' c md) {pond wide : Nat} (hp : pond < c 0 0) (hw : wide ≤ 2000) (H : ∀ τ : MS, SB [(68, 0)] σ τ → (∀ j, j < 7 → τ.2.1 68 0 j = Int64.ofInt (gNames c s md pond wide j)) → Q none τ) : R mj_OM (d + 1 + 1 + 1) mX11_calls Q 0 [some (rV 45 0), some (iV (nI k)), some (iV (nI pond)), some (iV (nI wide))] [] σ := by
  have V := h.2.2.1
  have np := V.np
  have nk := V.nk
  have nb := V.nb
  have hk := h.1
  have pd := V.pond hp
  refine bX11_calls_0 ⟨vin hp (by omega) (by decide), vin (p := 0) (n := 1) (by omega) (by omega) (by decide), vin (p := 1) (n := 2) (by omega) (by omega) (by decide), ?_, vin (p := 2) (n := 3) (by omega) (by omega) (by decide), vin (p := 3) (n := 4) (by omega) (by omega) (by decide), ?_⟩
  · rw [ix7]; exact vin (show 7 * k + pond < 161 by omega) (Nat.le_refl _) (by decide)
  rw [cl hp (by omega), ix7, nI_clamp (by omega), h.2.1.area hp, h.2.1.floor hp, h.w hp, i64_nI (by omega), i64_nI (by omega), i64_nI (by omega), ← Int64.ofInt_int32ToInt (s 4 pond)]
  have s4 : SB [(68, 0)] σ (uL (uL (uL (uL σ 68 0 0 (Int64.ofInt (c 2 pond : Int))) 68 0 1 (Int64.ofInt (c 3 pond : Int))) 68 0 2 (Int64.ofInt (s 4 pond).toInt)) 68 0 3 (Int64.ofInt (wide : Int))) :=
    (((SB.uL (by simp)).tr (SB.uL (by simp))).tr (SB.uL (by simp))).tr (SB.uL (by simp))
  have h4 : MB _ k c s := h.keep s4 rfl rfl
  refine M_openMany h4 (hm.keep s4 (by simp)) ht hv ?_
  have om : gOpenMany c s md ≤ 10 := Nat.le_trans (gCnt_le _ _) nk
  refine bX11_calls_62 ⟨vin (p := 4) (n := 5) (by omega) (by omega) (by decide), ?_⟩
  rw [show ((4 : Int32)).toNatClampNeg = 4 by decide, i64_nI (by omega)]
  have s5 := s4.tr (SB.uL (L := [(68, 0)]) (k := 68) (i := 0) (j := 4) (v := Int64.ofInt (gOpenMany c s md : Int)) (by simp))
  have h5 : MB _ k c s := h.keep s5 rfl rfl
  refine M_boatsOf h5 ?_
  have bm : gBoats c s 1 ≤ 8 := Nat.le_trans (gCnt_le _ _) nb
  refine bX11_calls_75 ⟨vin (p := 5) (n := 6) (by omega) (by omega) (by decide), vin hk (Nat.le_refl _) (by decide), vin (p := 6) (n := 7) (by omega) (by omega) (by decide), ?_⟩
  rw [show ((5 : Int32)).toNatClampNeg = 5 by decide, i64_nI (by omega), cl hk (by omega), h5.2.2.2.1, ← Int64.ofInt_int32ToInt (s 0 0)]
  refine H _ ((s5.tr (SB.uL (by simp))).tr (SB.uL (by simp))) (fun j hj => ?_)
  have : j = 0 ∨ j = 1 ∨ j = 2 ∨ j = 3 ∨ j = 4 ∨ j = 5 ∨ j = 6 := by omega
  rcases this with rfl | rfl | rfl | rfl | rfl | rfl | rfl <;> simp [uL, gNames]
set_option maxHeartbeats 60000 in
theorem M_doesJam (h : MB σ k c s) (hm : MM σ md) (H : ∀ τ : MS, SB [(71, 0)] σ τ → (∀ j, j ≠ k → KS σ τ j) → MB τ k c (gDraw c md s).2 → Q (some (iV (if (gDraw c md s).1 = true then 1 else 0))) τ) : R mj_OM d mX11_doesJam Q 0 [some (rV 45 0), some (iV (nI k)), some (iV (i01 md.1)), none] [] σ := by
  have V := h.2.2.1
  have hk := h.1
  have jm := V.jam
  have e5 : nI md.2.1 = 5 ↔ md.2.1 = 5 := nI_eq (b := 5) (by have := hm.2.1; omega) (by decide)
  have e0 : nI (c 0 6) = 0 ↔ c 0 6 = 0 := nI_eq (b := 0) (by omega) (by decide)
  have e100 : nI (c 0 6) = 100 ↔ c 0 6 = 100 := nI_eq (b := 100) (by omega) (by decide)
  have e50 : nI (c 0 6) < 50 ↔ c 0 6 < 50 := nI_ltI (b := 50) (by omega) (by decide)
  have ecj := h.2.1.jam
  have eb : i01 md.1 = 0 ↔ md.1 = false := by cases md.1 <;> simp [i01]
  have fin : ∀ (x : Bool) (s' : SA), gDraw c md s = (x, s') → s' = s → Q (some (iV (if x = true then 1 else 0))) σ := by
    intro x s' e1 e2
    have := H σ SB.rf (fun _ _ => KS.rf)
    rw [e1, e2] at this
    exact this h
  refine bX11_doesJam_0 ⟨fun q1 => ⟨vin (p := 6) (n := 7) (by omega) (by omega) (by decide), fun q2 => ⟨fun q3 => ?_, fun q3 => ?_⟩, fun q2 => ⟨fun q3 => ⟨fun q4 => ?_, fun q4 => ?_⟩, fun q3 => ⟨fun q4 => ⟨vin hk (Nat.le_refl _) (by decide), fun q5 => ?_, fun q5 => ?_⟩, fun q4 => ⟨fun q5 => ?_, fun q5 => ?_⟩⟩⟩⟩, fun q1 => ?_⟩
  all_goals rw [hm.1, e5] at q1
  all_goals (try rw [eb] at q2)
  · rw [ecj, e50] at q3
    exact fin false s (by simp [gDraw, q1, q2]; omega) rfl
  · rw [ecj, e50] at q3
    exact fin true s (by simp [gDraw, q1, q2]; omega) rfl
  · rw [ecj, e0] at q3
    exact fin false s (by simp [gDraw, q1, q2, q3]) rfl
  · rw [ecj, e0] at q3; rw [ecj, e50] at q4; omega
  · rw [ecj, e0] at q3; rw [ecj, e100] at q4
    have ed : gDraw c md s = (decide ((gNext s >>> ((16 : Int32) &&& 31)) - (gNext s >>> ((16 : Int32) &&& 31)) / 100 * 100 < nI (c 0 6)), sU s 1 0 (gNext s)) := by
      unfold gDraw; rw [if_neg q1, if_neg q2, if_neg q3, if_neg q4]
    have en : (uI σ 71 0 (nI k).toNatClampNeg ((σ.1 71 0 (nI k).toNatClampNeg * 1103515245 + 12345) &&& 2147483647)) = uI σ 71 0 k (gNext s) := by
      rw [cl hk (by omega), h.2.2.2.2.1]; rfl
    have hb : MB (uI σ 71 0 k (gNext s)) k c (sU s 1 0 (gNext s)) := h.u70 (f := 1) (by omega)
    rw [en] at q5 ⊢
    rw [ecj, show (uI σ 71 0 k (gNext s)).1 71 0 (nI k).toNatClampNeg = gNext s by rw [cl hk (by omega)]; simp [uI]] at q5
    rw [ed] at H
    have := H _ (SB.uI (by simp)) (fun j hj => KS.u70 (f := 1) hj (by omega)) hb
    rw [decide_eq_false (Int32.not_lt.mpr q5)] at this
    exact this
  · rw [ecj, e0] at q3; rw [ecj, e100] at q4
    have ed : gDraw c md s = (decide ((gNext s >>> ((16 : Int32) &&& 31)) - (gNext s >>> ((16 : Int32) &&& 31)) / 100 * 100 < nI (c 0 6)), sU s 1 0 (gNext s)) := by
      unfold gDraw; rw [if_neg q1, if_neg q2, if_neg q3, if_neg q4]
    have en : (uI σ 71 0 (nI k).toNatClampNeg ((σ.1 71 0 (nI k).toNatClampNeg * 1103515245 + 12345) &&& 2147483647)) = uI σ 71 0 k (gNext s) := by
      rw [cl hk (by omega), h.2.2.2.2.1]; rfl
    have hb : MB (uI σ 71 0 k (gNext s)) k c (sU s 1 0 (gNext s)) := h.u70 (f := 1) (by omega)
    rw [en] at q5 ⊢
    rw [ecj, show (uI σ 71 0 k (gNext s)).1 71 0 (nI k).toNatClampNeg = gNext s by rw [cl hk (by omega)]; simp [uI]] at q5
    rw [ed] at H
    have := H _ (SB.uI (by simp)) (fun j hj => KS.u70 (f := 1) hj (by omega)) hb
    rw [decide_eq_true (Int32.not_le.mp q5)] at this
    exact this
  · rw [ecj, e100] at q4; rw [ecj, e50] at q5; omega
  · rw [ecj, e0] at q3; rw [ecj, e100] at q4
    exact fin true s (by simp [gDraw, q1, q2, q4]) rfl
  · exact fin false s (by simp [gDraw, q1]) rfl
end Mm
