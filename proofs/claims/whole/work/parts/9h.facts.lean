/-! facts told by call -/
def fAdd (f : FA) (k m a v : Nat) : FA := fun r i => if r = 0 then (if i = 0 then f 0 0 + 1 else f 0 i) else if i = f 0 0 then (if r = 1 then k else if r = 2 then m else if r = 3 then a else if r = 4 then v else f r i) else f r i
def fKn (f : FA) (b : Nat) : FA := fun r i => if r = 0 ∧ i = 1 then b else f r i
def wFa (w : WT) (f : FA) : WT := (w.1, w.2.1, w.2.2.1, w.2.2.2.1, f, w.2.2.2.2.2)
def uSee (w : WT) (x y z : Int32) (b : Bool) : Int32 × WT := if x < 1 ∨ 60 < x then (-1, w) else match gIx y (wc w 0 0) with
  | none => (-1, w)
  | some p => if z < 0 ∨ 9999 < z then (-1, w) else if 24 ≤ wf w 0 0 then (-1, w) else (nI (wf w 0 0), wFa w (fAdd (wf w) (if b = true then 1 else 0) x.toNatClampNeg p z.toNatClampNeg))
def uStrike (w : WT) (x : Int32) : Int32 × WT := match gIx x (wf w 0 0) with
  | none => (-1, w)
  | some i => if 24 ≤ wf w 0 0 then (-1, w) else (nI (wf w 0 0), wFa w (fAdd (wf w) 2 0 i 0))
def uKnown (w : WT) (x : Int32) : Int32 × WT := if x < -1 ∨ ¬ x ≤ nI (wf w 0 0) then (0, w) else (1, wFa w (fKn (wf w) (if x = -1 then 0 else x.toNatClampNeg + 1)))
section Rg
variable {d : Nat} {Q : Option MV → MS → Prop} {σ τ : MS} {w : WT} {x y z : Int32} {f : FA}
theorem gIx_n {n : Nat} (hn : n ≤ 2000) : (x < 0 → gIx x n = none) ∧ (¬ x < 0 → nI n ≤ x → gIx x n = none) ∧ (¬ x < 0 → ¬ nI n ≤ x → ∃ i, i < n ∧ x = nI i ∧ gIx x n = some i) := by
  refine ⟨fun h => by unfold gIx; rw [if_pos h], fun h h2 => ?_, fun h h2 => ?_⟩
  · obtain ⟨m, hm, rfl⟩ := nI_of h
    rw [nI_leI (by omega) (by omega)] at h2
    unfold gIx; rw [if_neg h, nI_clamp hm, if_neg (by omega)]
  · obtain ⟨m, hm, rfl⟩ := nI_of h
    rw [nI_leI (by omega) (by omega)] at h2
    exact ⟨m, by omega, rfl, by unfold gIx; rw [if_neg h, nI_clamp hm, if_pos (by omega)]⟩
theorem in_of {a b : Nat} (ha : nI a ≤ x ∨ ¬ x < nI a) (hb : x ≤ nI b ∨ ¬ nI b < x) (h : a ≤ 10000 ∧ b ≤ 10000) : ∃ m, x = nI m ∧ a ≤ m ∧ m ≤ b := by
  have ha' : nI a ≤ x := ha.elim id Int32.not_lt.mp
  have hb' : x ≤ nI b := hb.elim id Int32.not_lt.mp
  have x0 : ¬ x < 0 := fun q => nI_pos (n := a) (by omega) (Int32.lt_of_le_of_lt ha' q)
  obtain ⟨m, hm, rfl⟩ := nI_of2 (M := nI b) (n := b) (by rw [nI_toInt (by omega)]) x0 hb'
  rw [nI_leI (by omega) (by omega)] at ha'
  exact ⟨m, rfl, ha', hm⟩
theorem fAdd_FW {c : CA} {k m a v : Nat} (h : FW c f) (h24 : f 0 0 < 24) (hk : k ≤ 2) (h2 : k = 2 → a < f 0 0) (h3 : ¬ k = 2 → 1 ≤ m ∧ m ≤ 60 ∧ a < c 0 0 ∧ v ≤ 9999) : FW c (fAdd f k m a v) := by
  have e1 : ∀ r i, r ≠ 0 → i ≠ f 0 0 → fAdd f k m a v r i = f r i := fun r i hr hi => by unfold fAdd; rw [if_neg hr, if_neg hi]
  obtain ⟨a1, a2, a3⟩ := h
  refine ⟨by show f 0 0 + 1 ≤ 24; omega, by show f 0 1 ≤ f 0 0 + 1 + 1; omega, fun i hi => ?_⟩
  have hi' : i < f 0 0 + 1 := hi
  by_cases g : i = f 0 0
  · subst g
    have v1 : fAdd f k m a v 1 (f 0 0) = k := by simp [fAdd]
    have v2 : fAdd f k m a v 2 (f 0 0) = m := by simp [fAdd]
    have v3 : fAdd f k m a v 3 (f 0 0) = a := by simp [fAdd]
    have v4 : fAdd f k m a v 4 (f 0 0) = v := by simp [fAdd]
    rw [v1, v2, v3, v4]
    exact ⟨hk, h2, h3⟩
  · rw [e1 1 i (by omega) g, e1 2 i (by omega) g, e1 3 i (by omega) g, e1 4 i (by omega) g]
    exact a3 i (by omega)
theorem WI.fa (h : WI w) (hf : FW (wc w) f) : WI (wFa w f) := by
  obtain ⟨V, o, im, hn, hh, _, ht, hb⟩ := h
  exact ⟨V, o, im, hn, hh, hf, ht, hb⟩
theorem uSee_wi {b : Bool} (h : WI w) : WI (uSee w x y z b).2 := by
  unfold uSee
  split
  · exact h
  · rename_i g
    cases e : gIx y (wc w 0 0) with
    | none => exact h
    | some p =>
      have hp := (gIx_some e).2
      simp only
      split
      · exact h
      · rename_i g2
        split
        · exact h
        · rename_i g3
          obtain ⟨m, rfl, m1, m2⟩ := in_of (x := x) (a := 1) (b := 60) (Or.inr (fun q => g (Or.inl q))) (Or.inr (fun q => g (Or.inr q))) (by omega)
          obtain ⟨v, rfl, v1, v2⟩ := in_of (x := z) (a := 0) (b := 9999) (Or.inr (fun q => g2 (Or.inl q))) (Or.inr (fun q => g2 (Or.inr q))) (by omega)
          rw [nI_clamp (by omega), nI_clamp (by omega)]
          exact h.fa (fAdd_FW h.2.2.2.2.2.1 (by omega) (by split <;> omega) (fun q => by split at q <;> omega) (fun _ => ⟨m1, m2, hp, v2⟩))
theorem uStrike_wi (h : WI w) : WI (uStrike w x).2 := by
  unfold uStrike
  cases e : gIx x (wf w 0 0) with
  | none => exact h
  | some i =>
    have hp := (gIx_some e).2
    simp only
    split
    · exact h
    · rename_i g3
      exact h.fa (fAdd_FW h.2.2.2.2.2.1 (by omega) (by omega) (fun _ => hp) (fun q => absurd rfl q))
theorem m1_or (h : ¬ x < -1) : x = -1 ∨ ¬ x < 0 := by
  by_cases g : x < 0
  · left
    have a := Int32.lt_iff_toInt_lt.mp g
    have b : ¬ x.toInt < (-1 : Int32).toInt := fun q => h (Int32.lt_iff_toInt_lt.mpr q)
    have e1 : (-1 : Int32).toInt = -1 := by decide
    have e0 : (0 : Int32).toInt = 0 := by decide
    apply Int32.toInt_inj.mp
    omega
  · exact Or.inr g
theorem uKnown_wi (h : WI w) : WI (uKnown w x).2 := by
  unfold uKnown
  split
  · exact h
  · rename_i g
    have F := h.2.2.2.2.2.1
    refine h.fa ⟨F.1, ?_, F.2.2⟩
    show (if x = -1 then 0 else x.toNatClampNeg + 1) ≤ wf w 0 0 + 1
    split
    · omega
    · rename_i g1
      rcases m1_or (fun q => g (Or.inl q)) with e | e
      · exact absurd e g1
      · have hle : x ≤ nI (wf w 0 0) := Decidable.not_not.mp (fun q => g (Or.inr q))
        have := F.1
        obtain ⟨m, rfl, _, m2⟩ := in_of (x := x) (a := 0) (b := wf w 0 0) (Or.inr e) (Or.inl hle) (by omega)
        rw [nI_clamp (by omega)]; omega
theorem CW.fa (hw : CW σ w) (hs : SB [(39, 0), (40, 0), (41, 0), (42, 0), (9, 0)] σ τ) (hf : FCR τ f) : CW τ (wFa w f) := by
  obtain ⟨b, hk, h2, h3, h4, h5, h6, h7, h8, h9⟩ := hw
  exact ⟨b, ⟨by rw [hs.2]; exact hk.1, hk.2.keep hs rfl (by decide)⟩, by rw [hs.2]; exact h2, by rw [hs.i (by decide)]; exact h3, fun k => (h4 k).keep hs rfl (by decide), h5.keep hs.x (by decide), hf, ⟨by rw [hs.i (by decide)]; exact h7.1, by rw [hs.i (by decide)]; exact h7.2⟩, by rw [hs.i (by decide)]; exact h8, fun i hi => by rw [hs.i (by decide)]; exact h9 i hi⟩
theorem MWd.fa (hw : MWd σ w) (sy : SY [(80, 0), (81, 0), (82, 0), (83, 0), (84, 0)] [0, 61, 62] σ τ) (hf : FMR τ f) : MWd τ (wFa w f) := by
  obtain ⟨g1, g2, g3, g4, g5, g6, g7, g8, g9⟩ := hw
  have ks : ∀ j, KS σ τ j := fun j => KS.of sy.1 rfl j
  exact ⟨g1.kk sy.1 (by decide) (ks 0), g2.keepY sy (by decide), by rw [sy.2 47 (by decide)]; exact g3, fun k => (g4 k).kk sy.1 (by decide) (ks 2), g5.kk sy.1 (by decide) (sy.2 48 (by decide)) (fun j _ => ks j), hf, ⟨by rw [sy.2 33 (by decide)]; exact g7.1, by rw [sy.2 34 (by decide)]; exact g7.2⟩, by rw [sy.2 2 (by decide)]; exact g8, fun i hi => by rw [sy.1.i (by decide)]; exact g9 i hi⟩
theorem FCR.add {k m a v : Nat} (h : FCR σ f) (h24 : f 0 0 < 24) : FCR (uI (uI (uI (uI (uI σ 39 0 (f 0 0) (nI k)) 40 0 (f 0 0) (nI m)) 41 0 (f 0 0) (nI a)) 42 0 (f 0 0) (nI v)) 9 0 0 (nI (f 0 0 + 1))) (fAdd f k m a v) := by
  obtain ⟨h1, h2, h3⟩ := h
  refine ⟨by simp [uI]; rfl, by simp [uI]; exact h2, fun i hi => ?_⟩
  have hi' : i < f 0 0 + 1 := hi
  by_cases g : i = f 0 0
  · subst g; simp [uI, fAdd]
  · have := h3 i (by omega)
    simp [uI, fAdd, g]; exact this
theorem S_isFull9 (h : FCR σ f) (hf : f 0 0 ≤ 24) (H0 : f 0 0 < 24 → Q (some (iV 0)) σ) (H1 : 24 ≤ f 0 0 → Q (some (iV 1)) σ) : R mj_OC d mX1_isFull Q 0 [some (rV 9 0)] [] σ := by
  refine bX1_isFull_0 ?_
  rw [h.1, show (24 : Int32) = nI 24 from rfl, nI_ltI (by omega) (by omega)]
  exact ⟨fun z => H0 z, fun z => H1 (by omega)⟩
theorem S_add9 {k m a v : Nat} (h : FCR σ f) (hf : f 0 0 < 24) (H : ∀ τ : MS, SB [(39, 0), (40, 0), (41, 0), (42, 0), (9, 0)] σ τ → FCR τ (fAdd f k m a v) → Q (some (iV (nI (f 0 0)))) τ) : R mj_OC (d + 1) mX1_add Q 0 [some (rV 9 0), some (iV (nI k)), some (iV (nI m)), some (iV (nI a)), some (iV (nI v))] [] σ := by
  refine bX1_add_0 (S_isFull9 h (by omega) (fun _ => bX1_add_4 ⟨fun _ => ?_, fun z => absurd rfl z⟩) (fun g => by omega))
  rw [h.1, cl (show f 0 0 < 24 by omega) (by omega), nI_1, nI_pred]
  exact ⟨vin hf (by omega) (by decide), H _ (((((SB.uI (by simp)).tr (SB.uI (by simp))).tr (SB.uI (by simp))).tr (SB.uI (by simp))).tr (SB.uI (by simp))) (h.add hf)⟩
theorem C_see {b : Bool} (hw : CW σ w) (hi : WI w) (H : ∀ τ, CW τ (uSee w x y z b).2 → Q (some (iV (uSee w x y z b).1)) τ) : R mj_OC (d + 1 + 1) mX10_see Q 0 [some (rV 0 0), some (iV x), some (iV y), some (iV z), some (iV (i01 b))] [] σ := by
  obtain ⟨b0, hk, h2, h3, h4, h5, h6, h7, h8, h9⟩ := id hw
  have F := hi.2.2.2.2.2.1
  have no : uSee w x y z b = (-1, w) → Q (some (iV (-1))) σ := fun e => by have := H σ (by rw [e]; exact hw); rw [e] at this; exact this
  refine bX10_see_0 ⟨fun q => no (by unfold uSee; rw [if_pos (Or.inl q)]), fun q1 => ⟨fun q => no (by unfold uSee; rw [if_pos (Or.inr q)]), fun q2 => S_isPond hk (fun p hp ex e => bX10_see_16 ⟨fun q => absurd q (by decide), fun _ => ?_⟩) (fun e => bX10_see_16 ⟨fun _ => no (by unfold uSee; rw [if_neg (fun g => g.elim q1 q2), e]), fun q => absurd rfl q⟩)⟩⟩
  subst ex
  have eu : uSee w x (nI p) z b = if z < 0 ∨ 9999 < z then (-1, w) else if 24 ≤ wf w 0 0 then (-1, w) else (nI (wf w 0 0), wFa w (fAdd (wf w) (if b = true then 1 else 0) x.toNatClampNeg p z.toNatClampNeg)) := by
    unfold uSee; rw [if_neg (fun g => g.elim q1 q2), e]
  rw [eu] at H no
  refine ⟨fun q => no (by rw [if_pos (Or.inl q)]), fun q3 => ⟨fun q => no (by rw [if_pos (Or.inr q)]), fun q4 => S_isFull9 h6 F.1 (fun g => bX10_see_37 ⟨fun _ => ?_, fun q => absurd rfl q⟩) (fun g => bX10_see_37 ⟨fun q => absurd q (by decide), fun _ => no (by rw [if_neg (fun g => g.elim q3 q4), if_pos g])⟩)⟩⟩
  rw [if_neg (fun g => g.elim q3 q4), if_neg (by omega)] at H
  obtain ⟨m, rfl, m1, m2⟩ := in_of (x := x) (a := 1) (b := 60) (Or.inr q1) (Or.inr q2) (by omega)
  obtain ⟨v, rfl, v1, v2⟩ := in_of (x := z) (a := 0) (b := 9999) (Or.inr q3) (Or.inr q4) (by omega)
  rw [nI_clamp (by omega), nI_clamp (by omega)] at H
  refine ⟨fun q => ?_, fun q => ?_⟩
  · have eb : b = false := by cases b; rfl; exact absurd q (by decide)
    subst eb
    exact S_add9 (k := 0) h6 g (fun τ t1 t2 => bX10_see_62 (H τ (hw.fa t1 t2)))
  · have eb : b = true := by cases b; exact absurd rfl q; rfl
    subst eb
    exact S_add9 (k := 1) h6 g (fun τ t1 t2 => bX10_see_62 (H τ (hw.fa t1 t2)))
theorem C_strike (hw : CW σ w) (hi : WI w) (H : ∀ τ, CW τ (uStrike w x).2 → Q (some (iV (uStrike w x).1)) τ) : R mj_OC (d + 1 + 1) mX10_strike Q 0 [some (rV 0 0), some (iV x)] [] σ := by
  obtain ⟨b0, hk, h2, h3, h4, h5, h6, h7, h8, h9⟩ := id hw
  have F := hi.2.2.2.2.2.1
  have no : uStrike w x = (-1, w) → Q (some (iV (-1))) σ := fun e => by have := H σ (by rw [e]; exact hw); rw [e] at this; exact this
  obtain ⟨i1, i2, i3⟩ := gIx_n (x := x) (n := wf w 0 0) (by have := F.1; omega)
  refine bX10_strike_0 ⟨fun q => no (by unfold uStrike; rw [i1 q]), fun q1 => ⟨fun q => no (by rw [h6.1] at q; unfold uStrike; rw [i2 q1 q]), fun q2 => ?_⟩⟩
  rw [h6.1] at q2
  obtain ⟨i, hi', rfl, e⟩ := i3 q1 q2
  have eu : uStrike w (nI i) = if 24 ≤ wf w 0 0 then (-1, w) else (nI (wf w 0 0), wFa w (fAdd (wf w) 2 0 i 0)) := by unfold uStrike; rw [e]
  rw [eu] at H no
  refine S_isFull9 h6 F.1 (fun g => bX10_strike_22 ⟨fun _ => ?_, fun q => absurd rfl q⟩) (fun g => bX10_strike_22 ⟨fun q => absurd q (by decide), fun _ => no (by rw [if_pos g])⟩)
  rw [if_neg (by omega)] at H
  exact S_add9 (k := 2) (m := 0) (v := 0) h6 g (fun τ t1 t2 => bX10_strike_38 (H τ (hw.fa t1 t2)))
theorem kb_kn (q1 : ¬ x < -1) (f : FA) : kbI (fKn f (if x = -1 then 0 else x.toNatClampNeg + 1)) = x := by
  unfold kbI
  show (if (if x = -1 then 0 else x.toNatClampNeg + 1) = 0 then (-1 : Int32) else nI ((if x = -1 then 0 else x.toNatClampNeg + 1) - 1)) = x
  by_cases g : x = -1
  · rw [if_pos g, if_pos rfl, g]
  · rw [if_neg g, if_neg (by omega)]
    obtain ⟨m, hm, rfl⟩ := nI_of ((m1_or q1).resolve_left g)
    rw [nI_clamp hm]; rfl
theorem C_known (hw : CW σ w) (H : ∀ τ, CW τ (uKnown w x).2 → Q (some (iV (uKnown w x).1)) τ) : R mj_OC d mX10_known Q 0 [some (rV 0 0), some (iV x)] [] σ := by
  obtain ⟨b0, hk, h2, h3, h4, h5, h6, h7, h8, h9⟩ := id hw
  have no : uKnown w x = (0, w) → Q (some (iV 0)) σ := fun e => by have := H σ (by rw [e]; exact hw); rw [e] at this; exact this
  refine bX10_known_0 ?_
  rw [h6.1]
  refine ⟨fun q => no (by unfold uKnown; rw [if_pos (Or.inl q)]), fun q1 => ⟨fun q2 => ?_, fun q => no (by unfold uKnown; rw [if_pos (Or.inr q)])⟩⟩
  have eu : uKnown w x = (1, wFa w (fKn (wf w) (if x = -1 then 0 else x.toNatClampNeg + 1))) := by
    unfold uKnown; rw [if_neg (fun g => g.elim q1 (fun g => g q2))]
  rw [eu] at H
  refine H _ (hw.fa (SB.uI (by simp)) ⟨by simp [uI]; exact h6.1, by rw [kb_kn q1]; simp [uI], fun i hi => by simp [uI]; exact h6.2.2 i hi⟩)
theorem D_see {b : Bool} (hw : MWd σ w) (hi : WI w) (H : ∀ τ, MWd τ (uSee w x y z b).2 → Q (some (iV (uSee w x y z b).1)) τ) : R mj_OM (d + 1) mX11_see Q 0 [some (rV 45 0), some (iV x), some (iV y), some (iV z), some (iV (i01 b))] [] σ := by
  have hw := hw.t
  have V := hi.1
  have F := hi.2.2.2.2.2.1
  have h6 := hw.2.2.2.2.2.1
  have no : uSee w x y z b = (-1, w) → Q (some (iV (-1))) (uI σ 45 0 0 0) := fun e => by have := H _ (by rw [e]; exact hw); rw [e] at this; exact this
  refine bX11_see_0 ⟨fun q => no (by unfold uSee; rw [if_pos (Or.inl q)]), fun q1 => ⟨fun q => no (by unfold uSee; rw [if_pos (Or.inr q)]), fun q2 => M_isPond hw.1.2.1 V (fun p hp ex e => bX11_see_21 ⟨fun q => absurd q (by decide), fun _ => ?_⟩) (fun e => bX11_see_21 ⟨fun _ => no (by unfold uSee; rw [if_neg (fun g => g.elim q1 q2), e]), fun q => absurd rfl q⟩)⟩⟩
  subst ex
  have eu : uSee w x (nI p) z b = if z < 0 ∨ 9999 < z then (-1, w) else if 24 ≤ wf w 0 0 then (-1, w) else (nI (wf w 0 0), wFa w (fAdd (wf w) (if b = true then 1 else 0) x.toNatClampNeg p z.toNatClampNeg)) := by
    unfold uSee; rw [if_neg (fun g => g.elim q1 q2), e]
  rw [eu] at H no
  have c24 : (uI σ 45 0 0 0).1 45 0 61 = (24 : Int32) ↔ wf w 0 0 = 24 := by rw [h6.1]; exact nI_inj (b := 24) (by have := F.1; omega) (by omega)
  refine ⟨fun q => no (by rw [if_pos (Or.inl q)]), fun q3 => ⟨fun q => no (by rw [if_pos (Or.inr q)]), fun q4 => ⟨fun g => ?_, fun g => no (by rw [if_neg (fun g => g.elim q3 q4), if_pos (by rw [c24] at g; omega)])⟩⟩⟩
  rw [c24] at g
  have g24 : wf w 0 0 < 24 := by have := F.1; omega
  rw [if_neg (fun g => g.elim q3 q4), if_neg (by omega)] at H
  obtain ⟨m, rfl, m1, m2⟩ := in_of (x := x) (a := 1) (b := 60) (Or.inr q1) (Or.inr q2) (by omega)
  obtain ⟨v, rfl, v1, v2⟩ := in_of (x := z) (a := 0) (b := 9999) (Or.inr q3) (Or.inr q4) (by omega)
  rw [nI_clamp (by omega), nI_clamp (by omega)] at H
  obtain ⟨k1, k2, k3⟩ := h6
  rw [k1, cl g24 (by omega), nI_1, nI_pred]
  refine ⟨vin g24 (by omega) (by decide), by cases b <;> decide, H _ (hw.fa ?_ ⟨by simp [uI]; rfl, by simp [uI]; exact k2, fun i hi => ?_⟩)⟩
  · exact (((((SY.ui (by simp) (by decide)).tr (SY.ui (by simp) (by decide))).tr (SY.ui (by simp) (by decide))).tr (SY.ui (by simp) (by decide))).tr (SY.ui (by simp) (by decide))).tr (SY.u45 (by simp))
  · have hi' : i < wf w 0 0 + 1 := hi
    by_cases g : i = wf w 0 0
    · have v1 : fAdd (wf w) (if b = true then 1 else 0) m p v 1 (wf w 0 0) = if b = true then 1 else 0 := by simp [fAdd]
      have v2 : fAdd (wf w) (if b = true then 1 else 0) m p v 2 (wf w 0 0) = m := by simp [fAdd]
      have v3 : fAdd (wf w) (if b = true then 1 else 0) m p v 3 (wf w 0 0) = p := by simp [fAdd]
      have v4 : fAdd (wf w) (if b = true then 1 else 0) m p v 4 (wf w 0 0) = v := by simp [fAdd]
      rw [g, v1, v2, v3, v4]
      refine ⟨fun q => by split at q <;> omega, fun _ => ⟨by simp [uI], by simp [uI], by simp [uI], by simp [uI], ?_⟩⟩
      cases b <;> simp [uI, i01] <;> rfl
    · have e1 : ∀ r, r ≠ 0 → fAdd (wf w) (if b = true then 1 else 0) m p v r i = wf w r i := fun r hr => by unfold fAdd; rw [if_neg hr, if_neg g]
      have := k3 i (by omega)
      rw [e1 1 (by omega), e1 2 (by omega), e1 3 (by omega), e1 4 (by omega)]
      simp [uI, g]
      simp [uI] at this
      exact this
theorem D_strike (hw : MWd σ w) (hi : WI w) (H : ∀ τ, MWd τ (uStrike w x).2 → Q (some (iV (uStrike w x).1)) τ) : R mj_OM d mX11_strike Q 0 [some (rV 45 0), some (iV x)] [] σ := by
  have e61 := hw.2.2.2.2.2.1.1
  have hw := hw.t
  have F := hi.2.2.2.2.2.1
  have h6 := hw.2.2.2.2.2.1
  have no : uStrike w x = (-1, w) → Q (some (iV (-1))) (uI σ 45 0 0 0) := fun e => by have := H _ (by rw [e]; exact hw); rw [e] at this; exact this
  obtain ⟨i1, i2, i3⟩ := gIx_n (x := x) (n := wf w 0 0) (by have := F.1; omega)
  have c24 : σ.1 45 0 61 = (24 : Int32) ↔ wf w 0 0 = 24 := by rw [e61]; exact nI_inj (b := 24) (by have := F.1; omega) (by omega)
  refine bX11_strike_0 ⟨fun q => no (by unfold uStrike; rw [i1 q]), fun q1 => ⟨fun q => no (by rw [e61] at q; unfold uStrike; rw [i2 q1 q]), fun q2 => ?_⟩⟩
  rw [e61] at q2
  obtain ⟨i, hi', rfl, e⟩ := i3 q1 q2
  have eu : uStrike w (nI i) = if 24 ≤ wf w 0 0 then (-1, w) else (nI (wf w 0 0), wFa w (fAdd (wf w) 2 0 i 0)) := by unfold uStrike; rw [e]
  rw [eu] at H no
  refine ⟨fun g => ?_, fun g => no (by rw [if_pos (by rw [c24] at g; omega)])⟩
  rw [c24] at g
  have g24 : wf w 0 0 < 24 := by have := F.1; omega
  rw [if_neg (by omega)] at H
  obtain ⟨k1, k2, k3⟩ := h6
  rw [e61, cl g24 (by omega), nI_1, nI_pred]
  refine ⟨vin g24 (by omega) (by decide), H _ (hw.fa ?_ ⟨by simp [uI]; rfl, by simp [uI]; simp [uI] at k2; exact k2, fun j hj => ?_⟩)⟩
  · exact (SY.ui (by simp) (by decide)).tr (SY.u45 (by simp))
  · have hj' : j < wf w 0 0 + 1 := hj
    by_cases g : j = wf w 0 0
    · have v1 : fAdd (wf w) 2 0 i 0 1 (wf w 0 0) = 2 := by simp [fAdd]
      have v3 : fAdd (wf w) 2 0 i 0 3 (wf w 0 0) = i := by simp [fAdd]
      rw [g, v1, v3]
      exact ⟨fun _ => by simp [uI], fun q => absurd rfl q⟩
    · have e1 : ∀ r, r ≠ 0 → fAdd (wf w) 2 0 i 0 r j = wf w r j := fun r hr => by unfold fAdd; rw [if_neg hr, if_neg g]
      have := k3 j (by omega)
      rw [e1 1 (by omega), e1 2 (by omega), e1 3 (by omega), e1 4 (by omega)]
      simp [uI, g]
      simp [uI] at this
      exact this
theorem D_known (hw : MWd σ w) (H : ∀ τ, MWd τ (uKnown w x).2 → Q (some (iV (uKnown w x).1)) τ) : R mj_OM d mX11_known Q 0 [some (rV 45 0), some (iV x)] [] σ := by
  have e61 := hw.2.2.2.2.2.1.1
  have hw := hw.t
  have no : uKnown w x = (0, w) → Q (some (iV 0)) (uI σ 45 0 0 0) := fun e => by have := H _ (by rw [e]; exact hw); rw [e] at this; exact this
  refine bX11_known_0 ?_
  rw [e61]
  refine ⟨fun q => no (by unfold uKnown; rw [if_pos (Or.inl q)]), fun q1 => ⟨fun q2 => ?_, fun q => no (by unfold uKnown; rw [if_pos (Or.inr q)])⟩⟩
  have eu : uKnown w x = (1, wFa w (fKn (wf w) (if x = -1 then 0 else x.toNatClampNeg + 1))) := by
    unfold uKnown; rw [if_neg (fun g => g.elim q1 (fun g => g q2))]
  rw [eu] at H
  obtain ⟨k1, k2, k3⟩ := hw.2.2.2.2.2.1
  refine H _ (hw.fa (SY.u45 (by simp)) ⟨by simp [uI]; exact e61, by rw [kb_kn q1]; simp [uI], fun i hi => by
    have := k3 i hi
    simp [uI]
    simp [uI] at this
    exact this⟩)
end Rg
