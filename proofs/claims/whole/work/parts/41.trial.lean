/-! what comes: ahead, upWhen -/
theorem gLoop_inv {P : SA → Prop} {f : Nat → SA → SA} {N : Nat} (hf : ∀ i s, i < N → P s → P (f i s)) : ∀ (n i : Nat) (s : SA), i + n ≤ N → P s → P (gLoop f i n s) := by
  intro n
  induction n with
  | zero => intro i s _ h; exact h
  | succ n ih => intro i s hi h; exact ih _ _ (by omega) (hf i s (by omega) h)
/-- only pipes that are there are jammed -/
def JB (c : CA) (s : SA) : Prop := ∀ k, bt (s 3 0) k = true → k < c 0 2
theorem JB.of {c : CA} {s s' : SA} (h : JB c s) (e : s' 3 0 = s 3 0) : JB c s' := fun k hk => h k (by rw [← e]; exact hk)
theorem JB.num {c : CA} {s : SA} (h : JB c s) (V : CV c) : s 3 0 = nI (s 3 0).toBitVec.toNat ∧ (s 3 0).toBitVec.toNat < 1024 := by
  refine ⟨nI_bits _, ?_⟩
  refine Nat.lt_pow_two_of_testBit (n := 10) _ (fun i hi => ?_)
  rcases Bool.eq_false_or_eq_true ((s 3 0).toBitVec.toNat.testBit i) with e | e
  · have := h i (by rw [← bt_bits]; exact e)
    have := V.nk
    omega
  · exact e
theorem gPipe_jb (c : CA) (md : MD) (V : CV c) (k : Nat) (s : SA) (hk : k < c 0 2) (h : JB c s) : JB c (gPipe c md k s) := by
  have nk := V.nk
  unfold gPipe
  split
  · have e1 : ∀ m, (gFlow c s k m).2 3 0 = s 3 0 := fun m => by simp [gFlow, gMove, sU]
    have e2 : ∀ s', (gDraw c md s').2 3 0 = s' 3 0 := fun s' => by
      unfold gDraw; repeat' split
      all_goals simp [sU]
    unfold gJamIt
    split
    · intro j hj
      simp only [sU, and_self, if_true] at hj
      rw [e2, e1, bt_or, Bool.or_eq_true] at hj
      rcases hj with g | g
      · exact h j g
      · have j32 : j < 32 := by
          rcases Nat.lt_or_ge j 32 with q | q
          · exact q
          · unfold bt at g; rw [BitVec.getLsbD_of_ge _ _ q] at g; exact absurd g (by decide)
        rw [bt_1 (by omega) j32] at g
        have := of_decide_eq_true g
        omega
    · exact h.of ((e2 _).trans (e1 _))
  · exact h
theorem gMinute_jb {c : CA} {md : MD} {s : SA} (V : CV c) (h : JB c s) : JB c (gMinute c md s) := by
  have e4 : ∀ q s, gBoat c md q s 3 0 = s 3 0 := fun q s => by
    unfold gBoat gRaise gLetIn
    repeat' split
    all_goals simp [sU]
  unfold gMinute
  have i1 : JB c (if md.2.1 = 3 then s else gLoop (gSpring c) 0 (c 0 0) s) := by
    split
    · exact h
    · exact h.of (gLoop_r (fun i s => gSpring_r c (by decide) 0 i s) _ _ _)
  have i2 := gLoop_inv (P := JB c) (f := gPipe c md) (N := c 0 2) (fun i s hi h => gPipe_jb c md V i s hi h) (c 0 2) 0 _ (by omega) i1
  have i3 : JB c (if md.2.1 = 1 then gLoop (gPipe c md) 0 (c 0 2) (if md.2.1 = 3 then s else gLoop (gSpring c) 0 (c 0 0) s) else gLoop (gLeak c md) 0 (c 0 0) (gLoop (gPipe c md) 0 (c 0 2) (if md.2.1 = 3 then s else gLoop (gSpring c) 0 (c 0 0) s))) := by
    split
    · exact i2
    · exact i2.of (gLoop_r (fun i s => gLeak_r c md (by decide) 0 i s) _ _ _)
  have i4 := i3.of (gLoop_r (f := gBoat c md) (fun i s => e4 i s) (c 0 4) 0 _)
  intro k hk
  exact i4 k (by simpa [sU] using hk)
theorem gMinutes_jb {c : CA} {md : MD} (V : CV c) : ∀ (n : Nat) (s : SA), JB c s → JB c (gMinutes c md n s) := by
  intro n
  induction n with
  | zero => intro s h; exact h
  | succ n ih => intro s h; exact ih _ (gMinute_jb V h)
def gBits (x : Int32) : Nat := gCnt (fun k => x.toBitVec.toNat.testBit k) 10
def gAhT (c : CA) (s t : SA) (w x : Int32) : Int32 := if w = 0 then t 4 x.toNatClampNeg else if w = 1 then nI (gBoats c t 2) else if w = 2 then gWait c t - gWait c s else if w = 3 then nI (gBits (t 3 0)) else t 2 0 - s 2 0
def gAhead (c : CA) (s : SA) (n w x : Int32) : Int32 := if n < 0 ∨ 200 < n ∨ w < 0 ∨ 4 < w ∨ (w = 0 ∧ gIx x (c 0 0) = none) then -1 else gAhT c s (gMinutes c md0 n.toNatClampNeg s) w x
theorem XQ.ofK {σ τ : MS} (h : SB kL σ τ) (hk : ∀ j, j ≠ 1 → KS σ τ j) : XQ σ τ := ⟨(h.y (J := mqJ) (by decide)).wk (by decide) (fun _ q => q), hk⟩
theorem XQ.ofZ {σ τ : MS} (h : SZ 1 σ τ) : XQ σ τ := ⟨h.1.wk (by decide) (by decide), h.2⟩
theorem SX.wq {σ τ : MS} {L : List (Nat × Nat)} (h : SX L σ τ) (hL : ∀ x ∈ L, x ∈ wqL) : SX wqL σ τ := h.wk hL
theorem mL_wq {b : Nat} (hb : b < 2) : ∀ x ∈ mL 2 b, x ∈ wqL := by
  have : b = 0 ∨ b = 1 := by omega
  rcases this with rfl | rfl <;> decide
section Qx
variable {d : Nat} {Q : Option MV → MS → Prop} {σ : MS} {b k : Nat} {c : CA} {s : SA} {md : MD}
theorem MR.keepSC {τ : MS} (h : MR σ md) (hs : SB [(6, 2), (35, 2), (36, 2), (37, 2)] σ τ) : MR τ md := h.keep hs (by decide)
/-- the trial begins as now -/
theorem S_trial (h : WK σ b c s) (H : ∀ τ, SX wqL σ τ → WK τ b c s → SC τ 2 b c s → Q none τ) : R mj_OC d mX8_become Q 0 [some (rV 6 2), some (rV 6 0), none] [] σ :=
  S_become (o := 2) (o2 := 0) (by decide) (by decide) h.2 (fun τ hτ h2 h0 => H τ (hτ.wq (by decide)) ⟨by rw [(hτ 0 0 (by decide)).2.2]; exact h.1, h0⟩ h2)
theorem S_aheadT (h : WK σ b c s) (ht : SVt s) (hg : gT s ≤ 9900) (hj : JB c s) {n : Nat} (hn : n ≤ 200) {w x : Int32} (hw : w = 0 → ∃ p, p < c 0 0 ∧ x = nI p) (H : ∀ τ, SX wqL σ τ → Q (some (iV (gAhT c s (gMinutes c md0 n s) w x))) τ) : R mj_OC (d + 1 + 1 + 1 + 1 + 1 + 1) mX8_become (fun r σ' => R mj_OC (d + 1 + 1 + 1 + 1 + 1 + 1 + 1) mX10_ahead Q 45 [some (rV 0 0), some (iV (nI n)), some (iV w), some (iV x)] (r.toList ++ []) σ') 0 [some (rV 6 2), some (rV 6 0), none] [] σ := by
  have V := h.V
  refine S_trial h (fun τ hτ h1 h2 => bX10_ahead_45 (S_asItGoes (fun υ hυ hm => bX10_ahead_52 ?_)))
  have h3 : SC υ 2 b c s := h2.keep hυ rfl rfl
  have xυ : SX wqL σ υ := hτ.tr (hυ.x.wq (by decide))
  refine S_advance h3 hm ht (MV0 c) (n := n) (by omega) (fun φ hφ h4 => ?_)
  have xφ : SX wqL σ φ := xυ.tr (hφ.x.wq (mL_wq h.lt))
  have h0 := h.q xφ
  replace H := H φ xφ
  have jb := gMinutes_jb (md := md0) V n s hj
  refine bX10_ahead_64 ⟨fun w0 => ?_, fun w0 => ⟨fun w1 => ?_, fun w1 => ⟨fun w2 => ?_, fun w2 => ⟨fun w3 => ?_, fun w3 => ?_⟩⟩⟩⟩
  · obtain ⟨p, hp, ex⟩ := hw w0
    have np := V.np
    subst ex
    rw [gAhT, if_pos w0, cl hp (by omega)] at H
    rw [cl hp (by omega), h4.wr hp]
    exact ⟨vin hp (by omega) (by decide), H⟩
  · rw [gAhT, if_neg w0, if_pos w1] at H
    exact S_boatsThatAre h4 (bX10_ahead_114 H)
  · rw [gAhT, if_neg w0, if_neg w1, if_pos w2] at H
    exact S_waitedByAll h4 (bX10_ahead_122 (S_waitedByAll h0.2 (bX10_ahead_129 H)))
  · rw [gAhT, if_neg w0, if_neg w1, if_neg w2, if_pos w3] at H
    have e := jb.num V
    rw [h4.jm, e.1]
    exact S_bitCount e.2 (bX10_ahead_141 H)
  · rw [gAhT, if_neg w0, if_neg w1, if_neg w2, if_neg w3] at H
    rw [h4.tl, h0.2.tl]; exact H
theorem S_ahead (h : WK σ b c s) (ht : SVt s) (hg : gT s ≤ 9900) (hj : JB c s) {n w x : Int32} (H : ∀ τ, SX wqL σ τ → Q (some (iV (gAhead c s n w x))) τ) : R mj_OC (d + 1 + 1 + 1 + 1 + 1 + 1 + 1) mX10_ahead Q 0 [some (rV 0 0), some (iV n), some (iV w), some (iV x)] [] σ := by
  have H0 := H σ SX.rf
  have no : (n < 0 ∨ 200 < n ∨ w < 0 ∨ 4 < w ∨ (w = 0 ∧ gIx x (c 0 0) = none)) → Q (some (iV (-1))) σ := fun g => by
    rw [gAhead, if_pos g] at H0; exact H0
  refine bX10_ahead_0 ⟨fun z => no (Or.inl z), fun n0 => ⟨fun z => no (Or.inr (Or.inl z)), fun n1 => ?_⟩⟩
  obtain ⟨m, hm, rfl⟩ := nI_of2 (M := 200) (n := 200) (by decide) n0 (Int32.not_lt.mp n1)
  refine ⟨fun w0 => ⟨fun z => no (Or.inr (Or.inr (Or.inl z))), fun w1 => ⟨fun w2 => ?_, fun z => no (Or.inr (Or.inr (Or.inr (Or.inl (Int32.not_le.mp z)))))⟩⟩, fun w0 => ?_⟩
  · refine S_aheadT h ht hg hj hm (fun z => absurd z w0) (fun τ hτ => ?_)
    have := H τ hτ
    rw [gAhead, if_neg, nI_clamp (by omega)] at this
    · exact this
    · rintro (g | g | g | g | g)
      · exact n0 g
      · exact n1 g
      · exact w1 g
      · exact Int32.not_lt.mpr w2 g
      · exact w0 g.1
  · refine S_isPond h (fun p hp ex e => bX10_ahead_20 ⟨fun z => absurd z (by decide), fun _ => ⟨fun z => no (Or.inr (Or.inr (Or.inl z))), fun w1 => ⟨fun w2 => ?_, fun z => no (Or.inr (Or.inr (Or.inr (Or.inl (Int32.not_le.mp z)))))⟩⟩⟩) (fun e => bX10_ahead_20 ⟨fun _ => no (Or.inr (Or.inr (Or.inr (Or.inr ⟨w0, e⟩)))), fun z => absurd rfl z⟩)
    refine S_aheadT h ht hg hj hm (fun _ => ⟨p, hp, ex⟩) (fun τ hτ => ?_)
    have := H τ hτ
    rw [gAhead, if_neg, nI_clamp (by omega)] at this
    · exact this
    · rintro (g | g | g | g | g)
      · exact n0 g
      · exact n1 g
      · exact w1 g
      · exact Int32.not_lt.mpr w2 g
      · rw [e] at g; exact absurd g.2 (by simp)
theorem M_aheadT (h : MB σ 0 c s) (hm : MM σ md0) (ht : SVt s) (hg : gT s ≤ 9900) (hj : JB c s) (hin : sIn c s) {n : Nat} (hn : n ≤ 200) {w x : Int32} (hw : w = 0 → ∃ p, p < c 0 0 ∧ x = nI p) (H : ∀ τ, XQ σ τ → Q (some (iV (gAhT c s (gMinutes c md0 n s) w x))) τ) : R mj_OM (d + 1 + 1 + 1 + 1 + 1 + 1 + 1 + 1) mX11_copies (fun r σ' => R mj_OM (d + 1 + 1 + 1 + 1 + 1 + 1 + 1 + 1 + 1) mX11_ahead Q 45 [some (rV 45 0), some (iV (nI n)), some (iV w), some (iV x)] (r.toList ++ []) σ') 0 [some (rV 45 0), some (iV (nI 1)), some (iV (nI 0)), none] [] σ := by
  have V := h.2.2.1
  refine M_copies (k := 1) (k2 := 0) (by decide) (by decide) (fun τ hτ hk hc => bX11_ahead_45 (bX11_goesOn_0 ?_))
  have h1 : MB τ 1 c s := hc c s h
  have hm1 : MM τ md0 := hm.keep hτ (by decide)
  have x1 : XQ σ τ := XQ.ofK hτ hk
  refine M_goesOn (n := n) (md := md0) (by omega) rfl (MV0 c) n 0 s τ (by omega) h1 hm1 ht (by omega) hin (fun υ hυ h2 => ?_)
  have x2 : XQ σ υ := x1.tr (XQ.ofZ hυ)
  have h0 : MB υ 0 c s := x2.mb h (by decide)
  replace H := H υ x2
  have jb := gMinutes_jb (md := md0) V n s hj
  have np := V.np
  have nb := V.nb
  have v1 : vp_in (1 : Int32) 23 := vin (p := 1) (n := 23) (by omega) (by omega) (by decide)
  have v0 : vp_in (0 : Int32) 23 := vin (p := 0) (n := 23) (by omega) (by omega) (by decide)
  have sm : ∀ (k : Nat) (s' : SA), MB υ k c s' → gSum (fun j => υ.1 76 0 (8 * k + j)) 8 = gWait c s' := fun k s' hb => by
    have e7 := hb.2.2.2.2.2.2.2.2.2
    rw [gSum_ext (n := c 0 4) 8 (by omega) (fun j h1 h2 => by rw [e7 j h2, if_neg (by omega)])]
    exact gSum_congr _ (fun j hj => by rw [e7 j (by omega), if_pos hj])
  refine bX11_ahead_50 ⟨fun w0 => ?_, fun w0 => ⟨fun w1 => ?_, fun w1 => ⟨fun w2 => ?_, fun w2 => ⟨fun w3 => ?_, fun w3 => ?_⟩⟩⟩⟩
  · obtain ⟨p, hp, ex⟩ := hw w0
    subst ex
    rw [gAhT, if_pos w0, cl hp (by omega)] at H
    have e7 : (7 : Int32) + nI p = nI (7 * 1 + p) := by rw [show (7 : Int32) = nI 7 from rfl, nI_add]
    rw [e7, nI_clamp (by omega), h2.w hp]
    exact ⟨vin (show 7 * 1 + p < 161 by omega) (Nat.le_refl _) (by decide), H⟩
  · rw [gAhT, if_neg w0, if_pos w1] at H
    exact M_boatsOf (k := 1) h2 (bX11_ahead_96 H)
  · rw [gAhT, if_neg w0, if_neg w1, if_pos w2] at H
    refine M_sumOf (kk := 76) (n := 184) (wide := 8) (slot := 1) rfl (by decide) (by omega) (by omega) (by omega) (bX11_ahead_108 ?_)
    refine M_sumOf (kk := 76) (n := 184) (wide := 8) (slot := 0) rfl (by decide) (by omega) (by omega) (by omega) (bX11_ahead_119 ?_)
    rw [sm 1 _ h2, sm 0 _ h0]; exact H
  · rw [gAhT, if_neg w0, if_neg w1, if_neg w2, if_pos w3] at H
    have e := jb.num V
    refine ⟨v1, ?_⟩
    rw [h2.2.2.2.2.2.2.1, e.1]
    exact M_bitsOf e.2 (bX11_ahead_130 H)
  · rw [gAhT, if_neg w0, if_neg w1, if_neg w2, if_neg w3] at H
    refine ⟨v1, v0, ?_⟩
    rw [h2.2.2.2.2.2.1, h0.2.2.2.2.2.1]; exact H
theorem M_ahead (h : MB σ 0 c s) (hm : MM σ md0) (ht : SVt s) (hg : gT s ≤ 9900) (hj : JB c s) (hin : sIn c s) {n w x : Int32} (H : ∀ τ, XQ σ τ → Q (some (iV (gAhead c s n w x))) τ) : R mj_OM (d + 1 + 1 + 1 + 1 + 1 + 1 + 1 + 1 + 1) mX11_ahead Q 0 [some (rV 45 0), some (iV n), some (iV w), some (iV x)] [] σ := by
  have V := h.2.2.1
  have h1 := XQ.t.mb h (by decide)
  have hm1 : MM (uI σ 45 0 0 0) md0 := hm.keepY (L := []) (J := [0]) (SY.u45 (by simp)) (by simp)
  have H0 := H _ XQ.t
  have no : (n < 0 ∨ 200 < n ∨ w < 0 ∨ 4 < w ∨ (w = 0 ∧ gIx x (c 0 0) = none)) → Q (some (iV (-1))) (uI σ 45 0 0 0) := fun g => by
    rw [gAhead, if_pos g] at H0; exact H0
  refine bX11_ahead_0 ⟨fun z => no (Or.inl z), fun n0 => ⟨fun z => no (Or.inr (Or.inl z)), fun n1 => ⟨fun z => no (Or.inr (Or.inr (Or.inl z))), fun w1 => ⟨fun z => no (Or.inr (Or.inr (Or.inr (Or.inl z)))), fun w2 => ?_⟩⟩⟩⟩
  obtain ⟨m, hm', rfl⟩ := nI_of2 (M := 200) (n := 200) (by decide) n0 (Int32.not_lt.mp n1)
  have yes : ¬ (w = 0 ∧ gIx x (c 0 0) = none) → (∀ τ, XQ (uI σ 45 0 0 0) τ → Q (some (iV (gAhT c s (gMinutes c md0 m s) w x))) τ) := fun g τ hτ => by
    have := H τ (XQ.t.tr hτ)
    rw [gAhead, if_neg, nI_clamp (by omega)] at this
    · exact this
    · rintro (q | q | q | q | q)
      · exact n0 q
      · exact n1 q
      · exact w1 q
      · exact w2 q
      · exact g q
  refine ⟨fun w0 => ?_, fun w0 => ?_⟩
  · exact M_aheadT h1 hm1 ht hg hj hin hm' (fun z => absurd z w0) (yes (fun q => w0 q.1))
  · refine M_isPond h1.2.1 V (fun p hp ex e => bX11_ahead_34 ⟨fun _ => ?_, fun z => absurd z (by decide)⟩) (fun e => bX11_ahead_34 ⟨fun z => absurd rfl z, fun _ => no (Or.inr (Or.inr (Or.inr (Or.inr ⟨w0, e⟩))))⟩)
    exact M_aheadT h1 hm1 ht hg hj hin hm' (fun _ => ⟨p, hp, ex⟩) (yes (fun q => by rw [e] at q; exact absurd q.2 (by simp)))
end Qx
