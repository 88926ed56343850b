/-! tried -/
def tMd (w i : Nat) : MD := (false, (if w = 0 then 5 else w), i, none, 0)
def gTryOk (c : CA) (w i n : Int32) : Bool := (if w = 2 then (gIx i (c 0 2)).isSome else decide (0 ≤ w ∧ w ≤ 4 ∧ i = 0)) && decide (0 ≤ n ∧ n ≤ 200)
def gTried (c : CA) (s : SA) (w i n : Int32) : Int32 := if gTryOk c w i n = true then nI (gBoats c (gMinutes c (tMd w.toNatClampNeg i.toNatClampNeg) n.toNatClampNeg s) 2) else -1
/-- what is tried, and which leak, may have changed, too -/
def XQ9 (σ τ : MS) : Prop := SY mqL (49 :: 51 :: mqJ) σ τ ∧ ∀ j, j ≠ 1 → KS σ τ j
theorem XQ.nine {σ τ : MS} (h : XQ σ τ) : XQ9 σ τ := ⟨h.1.wk (fun _ q => q) (fun _ q => List.mem_cons_of_mem _ (List.mem_cons_of_mem _ q)), h.2⟩
theorem XQ9.tr {σ τ υ : MS} (h1 : XQ9 σ τ) (h2 : XQ9 τ υ) : XQ9 σ υ := ⟨h1.1.tr h2.1, fun j hj => (h1.2 j hj).tr (h2.2 j hj)⟩
theorem XQ9.u45 {σ : MS} {j : Nat} {v : Int32} (hj : j ∈ 49 :: 51 :: mqJ) : XQ9 σ (uI σ 45 0 j v) := ⟨SY.u45 hj, fun i _ => KS.of (L := [(45, 0)]) (SB.uI (by simp)) rfl i⟩
theorem XQ9.mb {σ τ : MS} {k : Nat} {c : CA} {s : SA} (h : MB σ k c s) (hq : XQ9 σ τ) (hk : k ≠ 1) : MB τ k c s := ⟨h.1, h.2.1.keep hq.1.1 (by decide), h.2.2.1, h.2.2.2.ks (hq.2 k hk)⟩
theorem XQ9.back {σ τ : MS} (h : XQ9 σ τ) (e1 : τ.1 45 0 49 = σ.1 45 0 49) (e2 : τ.1 45 0 51 = σ.1 45 0 51) : XQ σ τ := by
  refine ⟨⟨h.1.1, fun j hj => ?_⟩, h.2⟩
  by_cases a : j = 49
  · subst a; exact e1
  · by_cases a2 : j = 51
    · subst a2; exact e2
    · exact h.1.2 j (by simp only [List.mem_cons, not_or]; exact ⟨a, a2, hj⟩)
section Rc
variable {d : Nat} {Q : Option MV → MS → Prop} {σ : MS} {b k : Nat} {c : CA} {s : SA} {md : MD}
theorem tMd_v {w i : Nat} (hi : w = 2 → i < c 0 2) : MV' c (tMd w i) := by
  refine ⟨fun z => hi ?_, fun p hp => by simp [tMd] at hp, Nat.zero_le _⟩
  simp only [tMd] at z
  split at z
  · exact absurd z (by decide)
  · exact z
theorem S_triedT (h : WK σ b c s) (ht : SVt s) (hg : gT s ≤ 9900) {m w i : Nat} (hm : m ≤ 200) (hw : w ≤ 4) (hi : w = 2 → i < c 0 2) {x4 : Int32} (H : ∀ τ, SX wqL σ τ → Q (some (iV (nI (gBoats c (gMinutes c (tMd w i) m s) 2)))) τ) : R mj_OC (d + 1 + 1 + 1 + 1 + 1 + 1) mX8_become (fun r σ' => R mj_OC (d + 1 + 1 + 1 + 1 + 1 + 1 + 1) mX10_tried Q 62 [some (rV 0 0), some (iV (nI w)), some (iV (nI i)), some (iV (nI m)), some (iV x4)] (r.toList ++ []) σ') 0 [some (rV 6 2), some (rV 6 0), none] [] σ := by
  refine S_trial h (fun τ hτ h1 h2 => bX10_tried_62 (S_asItGoes (fun υ hυ m0 => bX10_tried_69 ?_)))
  have h3 : SC υ 2 b c s := h2.keep hυ rfl rfl
  have xυ : SX wqL σ υ := hτ.tr (hυ.x.wq (by decide))
  have up : ∀ a1 a2 a5 a3 a4 : Int32, a1 = (if (tMd w i).2.1 = 5 then 0 else 1) → a2 = (if (tMd w i).2.1 = 1 then 0 else 1) → a5 = (if (tMd w i).2.1 = 2 then nI i else -1) → a3 = (if (tMd w i).2.1 = 3 then 0 else 1) → a4 = (if (tMd w i).2.1 = 4 then 1 else 0) →
      R mj_OC (d + 1 + 1 + 1 + 1 + 1 + 1) mX5_advance (fun r σ' => R mj_OC (d + 1 + 1 + 1 + 1 + 1 + 1 + 1) mX10_tried Q 165 [some (rV 0 0), some (iV (nI w)), some (iV (nI i)), some (iV (nI m)), some (iV x4)] (r.toList ++ []) σ') 0 [some (rV 7 0), some (rV 6 2), some (iV (nI m)), none] [] (uI (uI (uI (uI (uI υ 7 0 1 a1) 7 0 2 a2) 7 0 5 a5) 7 0 3 a3) 7 0 4 a4) := by
    intro a1 a2 a5 a3 a4 e1 e2 e5 e3 e4
    have sb : SB [(7, 0)] υ (uI (uI (uI (uI (uI υ 7 0 1 a1) 7 0 2 a2) 7 0 5 a5) 7 0 3 a3) 7 0 4 a4) := ((((SB.uI (by simp)).tr (SB.uI (by simp))).tr (SB.uI (by simp))).tr (SB.uI (by simp))).tr (SB.uI (by simp))
    have mr : MR (uI (uI (uI (uI (uI υ 7 0 1 a1) 7 0 2 a2) 7 0 5 a5) 7 0 3 a3) 7 0 4 a4) (tMd w i) := by
      unfold MR at m0 ⊢
      refine ⟨?_, ?_, ?_, ?_, ?_, ?_, ?_, ?_⟩
      · simp [uI, tMd]; exact m0.1
      · simp [uI]; exact e1
      · simp [uI]; exact e2
      · simp [uI]; exact e3
      · simp [uI]; exact e4
      · simp [uI]; exact e5
      · simp [uI]; exact m0.2.2.2.2.2.2.1
      · simp [uI]; exact m0.2.2.2.2.2.2.2
    have xs : SX wqL σ (uI (uI (uI (uI (uI υ 7 0 1 a1) 7 0 2 a2) 7 0 5 a5) 7 0 3 a3) 7 0 4 a4) := xυ.tr (sb.x.wq (by decide))
    exact S_advance (h3.keep sb rfl rfl) mr ht (tMd_v hi) (n := m) (by omega) (fun χ hχ h4 => bX10_tried_165 (S_boatsThatAre h4 (bX10_tried_173 (H χ (xs.tr (hχ.x.wq (mL_wq h.lt)))))))
  have : w = 0 ∨ w = 1 ∨ w = 2 ∨ w = 3 ∨ w = 4 := by omega
  rcases this with rfl | rfl | rfl | rfl | rfl
  · exact ⟨fun _ => ⟨fun z => absurd z (by decide), fun _ => ⟨fun _ => ⟨fun z => absurd z (by decide), fun _ => ⟨fun _ => up _ _ _ _ _ rfl rfl rfl rfl rfl, fun z => absurd z (by decide)⟩⟩, fun z => absurd z (by decide)⟩⟩, fun z => absurd rfl z⟩
  · exact ⟨fun z => absurd z (by decide), fun _ => ⟨fun _ => ⟨fun _ => ⟨fun z => absurd z (by decide), fun _ => ⟨fun _ => up _ _ _ _ _ rfl rfl rfl rfl rfl, fun z => absurd z (by decide)⟩⟩, fun z => absurd z (by decide)⟩, fun z => absurd rfl z⟩⟩
  · exact ⟨fun z => absurd z (by decide), fun _ => ⟨fun z => absurd z (by decide), fun _ => ⟨fun z => absurd rfl z, fun _ => ⟨fun z => absurd z (by decide), fun _ => ⟨fun _ => up _ _ _ _ _ rfl rfl rfl rfl rfl, fun z => absurd z (by decide)⟩⟩⟩⟩⟩
  · exact ⟨fun z => absurd z (by decide), fun _ => ⟨fun z => absurd z (by decide), fun _ => ⟨fun _ => ⟨fun _ => ⟨fun _ => up _ _ _ _ _ rfl rfl rfl rfl rfl, fun z => absurd z (by decide)⟩, fun z => absurd rfl z⟩, fun z => absurd z (by decide)⟩⟩⟩
  · exact ⟨fun z => absurd z (by decide), fun _ => ⟨fun z => absurd z (by decide), fun _ => ⟨fun _ => ⟨fun z => absurd z (by decide), fun _ => ⟨fun z => absurd rfl z, fun _ => up _ _ _ _ _ rfl rfl rfl rfl rfl⟩⟩, fun z => absurd z (by decide)⟩⟩⟩
theorem gTried_yes {w i n : Nat} (hw : w ≤ 4) (hi : (w = 2 ∧ i < c 0 2) ∨ (¬ w = 2 ∧ i = 0)) (hn : n ≤ 200) (V : CV c) : gTried c s (nI w) (nI i) (nI n) = nI (gBoats c (gMinutes c (tMd w i) n s) 2) := by
  have nk := V.nk
  have e2 : nI w = 2 ↔ w = 2 := nI_eq (b := 2) (by omega) (by decide)
  have ei : (i ≤ 2000) := by rcases hi with g | g <;> omega
  have n1 : (0 : Int32) ≤ nI n ∧ nI n ≤ 200 := ⟨Int32.not_lt.mp (nI_pos (by omega)), (nI_leI (b := 200) (by omega) (by decide)).mpr hn⟩
  have w1 : (0 : Int32) ≤ nI w ∧ nI w ≤ 4 := ⟨Int32.not_lt.mp (nI_pos (by omega)), (nI_leI (b := 4) (by omega) (by decide)).mpr hw⟩
  have : gTryOk c (nI w) (nI i) (nI n) = true := by
    unfold gTryOk
    rcases hi with ⟨g1, g2⟩ | ⟨g1, g2⟩
    · rw [if_pos (e2.mpr g1), gIx_in g2 (by omega)]; simp [n1]
    · rw [if_neg (fun z => g1 (e2.mp z))]; subst g2; simp [n1, w1]; rfl
  rw [gTried, if_pos this, nI_clamp (by omega), nI_clamp (by omega), nI_clamp (by omega)]
theorem S_tried (h : WK σ b c s) (ht : SVt s) (hg : gT s ≤ 9900) {w i n : Int32} (H : ∀ τ, SX wqL σ τ → Q (some (iV (gTried c s w i n))) τ) : R mj_OC (d + 1 + 1 + 1 + 1 + 1 + 1 + 1) mX10_tried Q 0 [some (rV 0 0), some (iV w), some (iV i), some (iV n), none] [] σ := by
  have V := h.V
  have nk := V.nk
  have no : ∀ {x4 : Int32}, gTryOk c w i n = false → R mj_OC (d + 1 + 1 + 1 + 1 + 1 + 1 + 1) mX10_tried Q 49 [some (rV 0 0), some (iV w), some (iV i), some (iV n), some (iV x4)] [] σ := fun g => by
    have H0 := H σ SX.rf
    rw [gTried, if_neg (by rw [g]; decide)] at H0
    exact bX10_tried_49 H0
  refine bX10_tried_0 ⟨fun w2 => ⟨fun i0 => ?_, fun i0 => ?_⟩, fun w2 => ?_⟩
  · have g : gTryOk c w i n = false := by simp [gTryOk, w2, i0]
    exact ⟨fun _ => no g, fun _ => ⟨fun _ => no g, fun _ => ⟨fun _ => no g, fun z => absurd rfl z⟩⟩⟩
  · refine ⟨fun w0 => no (by simp [gTryOk, w2, Int32.not_le.mpr w0]), fun w0 => ⟨fun w4 => no (by simp [gTryOk, w2, Int32.not_le.mpr w4]), fun w4 => ⟨fun z => absurd z (by decide), fun _ => ⟨fun n0 => no (by simp [gTryOk, Int32.not_le.mpr n0]), fun n0 => ⟨fun n1 => ?_, fun n1 => no (by simp [gTryOk, n1])⟩⟩⟩⟩⟩
    obtain ⟨m, hm, rfl⟩ := nI_of2 (M := 200) (n := 200) (by decide) n0 n1
    obtain ⟨v, hv, rfl⟩ := nI_of2 (M := 4) (n := 4) (by decide) w0 (Int32.not_lt.mp w4)
    have v2 : ¬ v = 2 := fun z => w2 (by rw [z]; rfl)
    subst i0
    refine S_triedT (i := 0) h ht hg hm hv (fun z => absurd z v2) (fun τ hτ => ?_)
    have := H τ hτ
    rw [show (0 : Int32) = nI 0 from rfl, gTried_yes hv (Or.inr ⟨v2, rfl⟩) hm V] at this
    exact this
  · refine S_isPipe h (fun k hk ey e => bX10_tried_10 ?_) (fun e => bX10_tried_10 ?_)
    · refine ⟨fun w0 => absurd w0 (by rw [w2]; decide), fun w0 => ⟨fun w4 => absurd w4 (by rw [w2]; decide), fun w4 => ⟨fun z => absurd z (by decide), fun _ => ⟨fun n0 => no (by simp [gTryOk, Int32.not_le.mpr n0]), fun n0 => ⟨fun n1 => ?_, fun n1 => no (by simp [gTryOk, n1])⟩⟩⟩⟩⟩
      obtain ⟨m, hm, rfl⟩ := nI_of2 (M := 200) (n := 200) (by decide) n0 n1
      subst ey; subst w2
      refine S_triedT (w := 2) h ht hg hm (by omega) (fun _ => hk) (fun τ hτ => ?_)
      have := H τ hτ
      rw [show (2 : Int32) = nI 2 from rfl, gTried_yes (by omega) (Or.inl ⟨rfl, hk⟩) hm V] at this
      exact this
    · have g : gTryOk c w i n = false := by simp [gTryOk, w2, e]
      exact ⟨fun _ => no g, fun _ => ⟨fun _ => no g, fun _ => ⟨fun _ => no g, fun z => absurd rfl z⟩⟩⟩
theorem M_triedT (h : MB σ 0 c s) (hm : MM σ md0) (ht : SVt s) (hg : gT s ≤ 9900) (hin : sIn c s) {m w i : Nat} (hm2 : m ≤ 200) (hw : w ≤ 4) (hi : w = 2 → i < c 0 2) {x4 : Int32} (H : ∀ τ, XQ σ τ → Q (some (iV (nI (gBoats c (gMinutes c (tMd w i) m s) 2)))) τ) : R mj_OM (d + 1 + 1 + 1 + 1 + 1 + 1 + 1 + 1) mX11_copies (fun r σ' => R mj_OM (d + 1 + 1 + 1 + 1 + 1 + 1 + 1 + 1 + 1) mX11_tried Q 62 [some (rV 45 0), some (iV (nI w)), some (iV (nI i)), some (iV (nI m)), some (iV x4)] (r.toList ++ []) σ') 0 [some (rV 45 0), some (iV (nI 1)), some (iV (nI 0)), none] [] σ := by
  refine M_copies (k := 1) (k2 := 0) (by decide) (by decide) (fun τ hτ hk hc => bX11_tried_62 ?_)
  have h1 : MB τ 1 c s := hc c s h
  have hm1 : MM τ md0 := hm.keep hτ (by decide)
  have x1 : XQ σ τ := XQ.ofK hτ hk
  have go : ∀ a : Int32, a = nI (tMd w i).2.1 → R mj_OM (d + 1 + 1 + 1 + 1 + 1 + 1 + 1 + 1) mX11_goesOn (fun r σ' => R mj_OM (d + 1 + 1 + 1 + 1 + 1 + 1 + 1 + 1 + 1) mX11_tried Q 85 [some (rV 45 0), some (iV (nI w)), some (iV (nI i)), some (iV (nI m)), some (iV x4)] (r.toList ++ []) σ') 0 [some (rV 45 0), some (iV (nI m)), none] [] (uI (uI τ 45 0 49 a) 45 0 50 (nI i)) := by
    intro a ea
    have sy : SY [] [49, 50] τ (uI (uI τ 45 0 49 a) 45 0 50 (nI i)) := (SY.u45 (by simp)).tr (SY.u45 (by simp))
    have h2 : MB (uI (uI τ 45 0 49 a) 45 0 50 (nI i)) 1 c s := h1.keepY sy rfl rfl
    have m2 : MM (uI (uI τ 45 0 49 a) 45 0 50 (nI i)) (tMd w i) := by
      unfold MM at hm1 ⊢
      refine ⟨by simp [uI]; exact ea, ?_, fun _ => by simp [uI, tMd], ?_, fun p hp => by simp [tMd] at hp⟩
      · simp only [tMd]; split <;> omega
      · simp [uI]; exact hm1.2.2.2.1
    have x2 : XQ9 τ (uI (uI τ 45 0 49 a) 45 0 50 (nI i)) := (XQ9.u45 (by simp)).tr (XQ9.u45 (by simp [mqJ]))
    refine bX11_goesOn_0 (M_goesOn (n := m) (md := tMd w i) (by omega) rfl (tMd_v hi) m 0 s _ (by omega) h2 m2 ht (by omega) hin (fun υ hυ h3 => bX11_tried_85 ?_))
    have x3 : XQ9 σ υ := x1.nine.tr (x2.tr (XQ.ofZ hυ).nine)
    have x4' : XQ9 σ (uI (uI υ 45 0 49 0) 45 0 50 (-1)) := x3.tr ((XQ9.u45 (by simp)).tr (XQ9.u45 (by simp [mqJ])))
    have sy2 : SY [] [49, 50] υ (uI (uI υ 45 0 49 0) 45 0 50 (-1)) := (SY.u45 (by simp)).tr (SY.u45 (by simp))
    have h4 : MB (uI (uI υ 45 0 49 0) 45 0 50 (-1)) 1 c (gMinutes c (tMd w i) m s) := h3.keepY sy2 rfl rfl
    refine M_boatsOf (k := 1) h4 (bX11_tried_101 (H _ (x4'.back ?_ ?_)))
    · have := hm.1
      simp [uI]; rw [this]; rfl
    · have e1 := hυ.1.2 51 (by simp)
      have e2 := hτ.i (k := 45) (i := 0) (by decide) 51
      have : (uI (uI υ 45 0 49 0) 45 0 50 (-1)).1 45 0 51 = υ.1 45 0 51 := by simp [uI]
      rw [this, e1, ← e2]; simp [uI]
  refine ⟨fun w0 => go _ ?_, fun w0 => go _ ?_⟩
  · have : ¬ w = 0 := fun z => w0 (by rw [z]; rfl)
    simp [tMd, this]
  · have : w = 0 := (nI_eq (b := 0) (by omega) (by decide)).mp w0
    simp [tMd, this]; rfl
theorem M_tried (h : MB σ 0 c s) (hm : MM σ md0) (ht : SVt s) (hg : gT s ≤ 9900) (hin : sIn c s) {w i n : Int32} (H : ∀ τ, XQ σ τ → Q (some (iV (gTried c s w i n))) τ) : R mj_OM (d + 1 + 1 + 1 + 1 + 1 + 1 + 1 + 1 + 1) mX11_tried Q 0 [some (rV 45 0), some (iV w), some (iV i), some (iV n), none] [] σ := by
  have V := h.2.2.1
  have nk := V.nk
  have h1 := XQ.t.mb h (by decide)
  have hm1 : MM (uI σ 45 0 0 0) md0 := hm.keepY (L := []) (J := [0]) (SY.u45 (by simp)) (by simp)
  have no : gTryOk c w i n = false → Q (some (iV (-1))) (uI σ 45 0 0 0) := fun g => by
    have H0 := H _ XQ.t
    rw [gTried, if_neg (by rw [g]; decide)] at H0
    exact H0
  have z0 : ¬ ((0 : Int32) = 0) → False := fun z => z rfl
  refine bX11_tried_0 ⟨fun w2 => ⟨fun w0 => ⟨fun _ => no (by simp [gTryOk, w2, Int32.not_le.mpr w0]), fun z => (z0 z).elim⟩, fun w0 => ⟨fun w4 => ⟨fun _ => no (by simp [gTryOk, w2, Int32.not_le.mpr w4]), fun z => (z0 z).elim⟩, fun w4 => ⟨fun i0 => ⟨fun _ => no (by simp [gTryOk, w2, i0]), fun z => (z0 z).elim⟩, fun i0 => ⟨fun z => absurd z (by decide), fun _ => ⟨fun n0 => no (by simp [gTryOk, Int32.not_le.mpr n0]), fun n0 => ⟨fun n1 => ?_, fun n1 => no (by simp [gTryOk, n1])⟩⟩⟩⟩⟩⟩, fun w2 => ?_⟩
  · obtain ⟨m, hm', rfl⟩ := nI_of2 (M := 200) (n := 200) (by decide) n0 n1
    obtain ⟨v, hv, rfl⟩ := nI_of2 (M := 4) (n := 4) (by decide) w0 (Int32.not_lt.mp w4)
    have v2 : ¬ v = 2 := fun z => w2 (by rw [z]; rfl)
    subst i0
    refine M_triedT (i := 0) h1 hm1 ht hg hin hm' hv (fun z => absurd z v2) (fun τ hτ => ?_)
    have := H τ (XQ.t.tr hτ)
    rw [show (0 : Int32) = nI 0 from rfl, gTried_yes hv (Or.inr ⟨v2, rfl⟩) hm' V] at this
    exact this
  · refine M_isPipe h1.2.1 V (fun k hk ey e => bX11_tried_15 ?_) (fun e => bX11_tried_15 ?_)
    · refine ⟨fun z => absurd z (by decide), fun _ => ⟨fun n0 => no (by simp [gTryOk, Int32.not_le.mpr n0]), fun n0 => ⟨fun n1 => ?_, fun n1 => no (by simp [gTryOk, n1])⟩⟩⟩
      obtain ⟨m, hm', rfl⟩ := nI_of2 (M := 200) (n := 200) (by decide) n0 n1
      subst ey; subst w2
      refine M_triedT (w := 2) h1 hm1 ht hg hin hm' (by omega) (fun _ => hk) (fun τ hτ => ?_)
      have := H τ (XQ.t.tr hτ)
      rw [show (2 : Int32) = nI 2 from rfl, gTried_yes (by omega) (Or.inl ⟨rfl, hk⟩) hm' V] at this
      exact this
    · exact ⟨fun _ => no (by simp [gTryOk, w2, e]), fun z => (z0 z).elim⟩
end Rc
