/-! further: copies, beginnings, rounds -/
def SX (L : List (Nat × Nat)) (σ τ : MS) : Prop := ∀ k i : Nat, (k, i) ∉ L → τ.1 k i = σ.1 k i ∧ τ.2.1 k i = σ.2.1 k i ∧ τ.2.2 k i = σ.2.2 k i
theorem SX.rf {L : List (Nat × Nat)} {σ : MS} : SX L σ σ := fun _ _ _ => ⟨rfl, rfl, rfl⟩
theorem SX.tr {L : List (Nat × Nat)} {σ τ υ : MS} (h1 : SX L σ τ) (h2 : SX L τ υ) : SX L σ υ := fun k i h => ⟨((h2 k i h).1).trans (h1 k i h).1, ((h2 k i h).2.1).trans (h1 k i h).2.1, ((h2 k i h).2.2).trans (h1 k i h).2.2⟩
theorem SX.wk {L L' : List (Nat × Nat)} {σ τ : MS} (h : SX L σ τ) (hs : ∀ x ∈ L, x ∈ L') : SX L' σ τ := fun k i hk => h k i (fun hm => hk (hs _ hm))
theorem SB.x {L : List (Nat × Nat)} {σ τ : MS} (h : SB L σ τ) : SX L σ τ := fun k i hk => ⟨(h.1 k i hk).1, (h.1 k i hk).2, by rw [h.2]⟩
theorem SX.uI {L : List (Nat × Nat)} {σ : MS} {k i j : Nat} {v : Int32} (h : (k, i) ∈ L) : SX L σ (uI σ k i j v) := (SB.uI h).x
theorem SX.uC {L : List (Nat × Nat)} {σ : MS} {k i v : Nat} (h : (k, i) ∈ L) : SX L σ (uC σ k i v) := by
  intro k' i' hk
  refine ⟨rfl, rfl, ?_⟩
  show (if k' = k ∧ i' = i then v else σ.2.2 k' i') = _
  rw [if_neg]
  rintro ⟨rfl, rfl⟩
  exact hk h
theorem CB.keepX {L : List (Nat × Nat)} {σ τ : MS} {b : Nat} {c : CA} (h : CB σ b c) (hs : SX L σ τ) (hL : L.all (fun x => !(mj_ck x.1 && x.2 == b)) = true) : CB τ b c := by
  have hq : ∀ k : Nat, mj_ck k = true → τ.1 k b = σ.1 k b := fun k hk => (hs k b (fun hm => by
    have := List.all_eq_true.mp hL _ hm
    simp [hk] at this)).1
  obtain ⟨hb, C, K, T, V⟩ := h
  refine ⟨hb, fun f j hj => ?_, fun i hi => ?_, fun t ht => ?_, V⟩
  · rw [← C f j hj]
    unfold cCv
    rw [hq 3 rfl, hq 4 rfl, hq 5 rfl, hq 16 rfl, hq 17 rfl, hq 18 rfl, hq 19 rfl, hq 20 rfl, hq 21 rfl, hq 22 rfl, hq 23 rfl, hq 25 rfl, hq 26 rfl, hq 27 rfl, hq 28 rfl, hq 29 rfl, hq 32 rfl, hq 33 rfl]
  · rw [hq 30 rfl, hq 31 rfl]; exact K i hi
  · rw [hq 24 rfl]; exact T t ht
theorem SC.keepX {L : List (Nat × Nat)} {σ τ : MS} {o b : Nat} {c : CA} {s : SA} (h : SC σ o b c s) (hs : SX L σ τ) (hL : L.all (fun x => !(mj_ck x.1 && x.2 == b)) = true) (hO : L.all (fun x => !((x.1 == 6 || x.1 == 35 || x.1 == 36 || x.1 == 37) && x.2 == o)) = true) : SC τ o b c s := by
  have hq : ∀ k : Nat, (k == 6 || k == 35 || k == 36 || k == 37) = true → (k, o) ∉ L := fun k hk hm => by
    have := List.all_eq_true.mp hO _ hm
    simp [hk] at this
  refine ⟨h.1, by rw [(hs 6 o (hq 6 rfl)).2.2]; exact h.2.1, h.2.2.1.keepX hs hL, ?_⟩
  unfold SR
  rw [(hs 6 o (hq 6 rfl)).1, (hs 35 o (hq 35 rfl)).1, (hs 36 o (hq 36 rfl)).1, (hs 37 o (hq 37 rfl)).1]
  exact h.2.2.2
def gBegin (c : CA) : SA := fun f j => match f with
  | 1 => nI (c 0 7)
  | 4 => nI (c 4 j)
  | _ => 0
def oL (o : Nat) : List (Nat × Nat) := [(6, o), (35, o), (36, o), (37, o)]
def gLp {α : Type} (f : Nat → α → α) : Nat → Nat → α → α
  | _, 0, a => a
  | i, n + 1, a => gLp f (i + 1) n (f i a)
def gAllF (c : CA) (k : Nat) (x : Int32 × SA) : Int32 × SA := if (x.2 3 0 >>> (nI k &&& 31)) &&& 1 = 1 then x else (x.1 + (gFlow c x.2 k 2147483647).1, (gFlow c x.2 k 2147483647).2)
def gWaterOf (c : CA) (s : SA) (x : Int32) : Int32 := gSum (fun p => if bt x p = true then s 4 p else 0) (c 0 0)
def md0 : MD := (false, 0, 0, none, 0)
section Sn
variable {d : Nat} {Q : Option MV → MS → Prop} {σ : MS} {o b : Nat} {c : CA} {s : SA} {md : MD}
theorem S_asItGoes (H : ∀ τ : MS, SB [(7, 0)] σ τ → MR τ md0 → Q none τ) : R mj_OC d mX5_asItGoes Q 0 [some (rV 7 0)] [] σ := by
  refine bX5_asItGoes_0 (H _ ?_ ?_)
  · repeat (first | exact SB.uI (by simp) | refine SB.tr ?_ (SB.uI (by simp)))
  · refine ⟨?_, ?_, ?_, ?_, ?_, ?_, ?_, ?_⟩ <;> simp [uI, md0, mOpt, nI]
theorem gMinute_0 (c : CA) (md : MD) (s : SA) : gMinute c md s 0 0 = s 0 0 + 1 := by
  have e : ∀ s3 : SA, gLoop (gBoat c md) 0 (c 0 4) s3 0 0 = s3 0 0 := fun s3 => gLoop_0 (gBoat_0 c md) _ _ _
  simp only [gMinute, sU, and_self, if_true, e]
  congr 1
  split <;> split <;> simp only [gLoop_0 (gLeak_0 c md), gLoop_0 (gPipe_0 c md), gLoop_0 (gSpring_0 c)]
theorem SVt.step (ht : SVt s) (hn : gT s + 1 ≤ 100000) : SVt (gMinute c md s) ∧ gT (gMinute c md s) = gT s + 1 := by
  have e : gMinute c md s 0 0 = nI (gT s + 1) := by rw [gMinute_0, ht.1, nI_1]
  have e2 : gT (gMinute c md s) = gT s + 1 := by
    show (gMinute c md s 0 0).toNatClampNeg = _
    rw [e, nI_clamp (by omega)]
  exact ⟨⟨by rw [e, e2], by omega⟩, e2⟩
theorem S_advance (h : SC σ o b c s) (hm : MR σ md) (ht : SVt s) (hv : MV' c md) {n : Nat} (hn : gT s + n ≤ 100000) (H : ∀ τ : MS, SB (mL o b) σ τ → SC τ o b c (gMinutes c md n s) → Q none τ) : R mj_OC (d + 1 + 1 + 1 + 1 + 1 + 1) mX5_advance Q 0 [some (rV 7 0), some (rV 6 o), some (iV (nI n)), none] [] σ := by
  have ho := h.1
  refine bX5_advance_0 ho ?_
  have L : ∀ (m i : Nat) (τ : MS) (s : SA), i + m = n → SB (mL o b) σ τ → SC τ o b c s → SVt s → gT s + m ≤ 100000 → (∀ υ : MS, SB (mL o b) σ υ → SC υ o b c (gMinutes c md m s) → Q none υ) → R mj_OC (d + 1 + 1 + 1 + 1 + 1 + 1) mX5_advance Q 2 [some (rV 7 0), some (rV 6 o), some (iV (nI n)), some (iV (nI i))] [] τ := by
    intro m
    induction m with
    | zero =>
      intro i τ s hi hsb hs ht _ H
      refine bX5_advance_2 ho ⟨fun _ => H τ hsb hs, fun e => ?_⟩
      rw [← hi] at e; exact absurd (Int32.le_refl _) e
    | succ m ih =>
      intro i τ s hi hsb hs ht hg H
      refine bX5_advance_2 ho ⟨fun e => ?_, fun _ => ?_⟩
      · rw [nI_leI (by omega) (by omega)] at e; omega
      · refine S_oneMinute hs (hm.stp hsb) ht hv (fun υ hυ hs' => ?_)
        refine bX5_advance_12 ho ?_
        rw [nI_1]
        have st := SVt.step (c := c) (md := md) ht (by omega)
        exact ih (i + 1) υ _ (by omega) (hsb.tr hυ) hs' st.1 (by rw [st.2]; omega) H
  exact L n 0 σ s (by omega) SB.rf h ht hn H
theorem S_begin (ho : o < 3) (hB : CB σ b c) (H : ∀ τ : MS, SX (oL o) σ τ → SC τ o b c (gBegin c) → Q none τ) : R mj_OC d mX8_begin Q 0 [some (rV 6 o), some (rV 3 b), none] [] σ := by
  obtain ⟨hb, C, K, T, V⟩ := id hB
  have np := V.np
  have nb := V.nb
  refine bX8_begin_0 ho hb ?_
  have key : ∀ τ : MS, SX (oL o) σ τ → CB τ b c := fun τ h => hB.keepX h (by simp [oL, mj_ck])
  -- the second loop
  have L2 : ∀ (m i : Nat) (τ : MS), i + m = 8 → SX (oL o) σ τ → τ.2.2 6 o = b → (∀ p, p < 7 → τ.1 35 o p = σ.1 19 b p) → (∀ q, q < i → τ.1 36 o q = 0 ∧ τ.1 37 o q = 0) → R mj_OC d mX8_begin Q 33 [some (rV 6 o), some (rV 3 b), some (iV (nI i))] [] τ := by
    intro m
    induction m with
    | zero =>
      intro i τ hi hsx hc hw hq
      refine bX8_begin_33 ho hb ⟨fun _ => ?_, fun e => ?_⟩
      · have hs2 : SX (oL o) σ (uI (uI (uI (uI τ 6 o 2 0) 6 o 5 0) 6 o 6 0) 6 o 7 (τ.1 3 b 13)) := (((hsx.tr (SX.uI (by simp [oL]))).tr (SX.uI (by simp [oL]))).tr (SX.uI (by simp [oL]))).tr (SX.uI (by simp [oL]))
        refine H _ hs2 ⟨ho, hc, key _ hs2, ?_⟩
        have es : τ.1 3 b 13 = nI (c 0 7) := (key τ hsx).2.1.seed
        refine ⟨by simp [uI, gBegin], by simp [uI, gBegin, es], by simp [uI, gBegin], by simp [uI, gBegin], fun p hp => ?_, fun q hq2 => ?_, fun q hq2 => ?_⟩
        · simp [uI, gBegin, hw p (by omega), C.told hp]
        · simp [uI, gBegin, (hq q (by omega)).1]
        · simp [uI, gBegin, (hq q (by omega)).2]
      · exact absurd ((nI_leI (a := 8) (by decide) (by omega)).mpr (by omega)) e
    | succ m ih =>
      intro i τ hi hsx hc hw hq
      refine bX8_begin_33 ho hb ⟨fun e => ?_, fun _ => ⟨vin (show i < 8 by omega) (Nat.le_refl 8) (by decide), ?_⟩⟩
      · exact absurd ((nI_leI (a := 8) (by decide) (by omega)).mp e) (by omega)
      · rw [nI_1, cl (show i < 8 by omega) (by omega)]
        refine ih (i + 1) _ (by omega) ((hsx.tr (SX.uI (by simp [oL]))).tr (SX.uI (by simp [oL]))) hc (fun p hp => by simp [uI, hw p hp]) (fun q hq2 => ?_)
        by_cases e : q = i
        · subst e; simp [uI]
        · simp [uI, e, hq q (by omega)]
  have L1 : ∀ (m i : Nat) (τ : MS), i + m = 7 → SX (oL o) σ τ → τ.2.2 6 o = b → (∀ p, p < i → τ.1 35 o p = σ.1 19 b p) → R mj_OC d mX8_begin Q 7 [some (rV 6 o), some (rV 3 b), some (iV (nI i))] [] τ := by
    intro m
    induction m with
    | zero =>
      intro i τ hi hsx hc hw
      refine bX8_begin_7 ho hb ⟨fun _ => L2 8 0 τ (by omega) hsx hc (fun p hp => hw p (by omega)) (fun q hq => by omega), fun e => ?_⟩
      exact absurd ((nI_leI (a := 7) (by decide) (by omega)).mpr (by omega)) e
    | succ m ih =>
      intro i τ hi hsx hc hw
      refine bX8_begin_7 ho hb ⟨fun e => ?_, fun _ => ⟨vin (show i < 7 by omega) (Nat.le_refl 7) (by decide), ?_⟩⟩
      · exact absurd ((nI_leI (a := 7) (by decide) (by omega)).mp e) (by omega)
      · rw [nI_1, cl (show i < 7 by omega) (by omega)]
        refine ih (i + 1) _ (by omega) (hsx.tr (SX.uI (by simp [oL]))) hc (fun p hp => ?_)
        have e19 : τ.1 19 b = σ.1 19 b := (hsx 19 b (by simp [oL])).1
        by_cases e : p = i
        · subst e; simp [uI, e19]
        · simp [uI, e, hw p (by omega)]
  exact L1 7 0 _ (by omega) (SX.uC (by simp [oL])) (by simp [uC]) (fun p hp => by omega)
theorem S_become {o2 : Nat} (ho : o < 3) (hne : o ≠ o2) (h : SC σ o2 b c s) (H : ∀ τ : MS, SX (oL o) σ τ → SC τ o b c s → SC τ o2 b c s → Q none τ) : R mj_OC d mX8_become Q 0 [some (rV 6 o), some (rV 6 o2), none] [] σ := by
  obtain ⟨ho2, hc2, hB, S⟩ := id h
  obtain ⟨hb, C, K, T, V⟩ := id hB
  have np := V.np
  have nb := V.nb
  refine bX8_become_0 ho ho2 ?_
  rw [hc2]
  have key : ∀ τ : MS, SX (oL o) σ τ → SC τ o2 b c s := fun τ hx => h.keepX hx (by simp [oL, mj_ck]) (by simp [oL, hne])
  have L2 : ∀ (m i : Nat) (τ : MS), i + m = 8 → SX (oL o) σ τ → τ.2.2 6 o = b → (∀ p, p < 7 → τ.1 35 o p = σ.1 35 o2 p) → (∀ q, q < i → τ.1 36 o q = σ.1 36 o2 q ∧ τ.1 37 o q = σ.1 37 o2 q) → R mj_OC d mX8_become Q 36 [some (rV 6 o), some (rV 6 o2), some (iV (nI i))] [] τ := by
    intro m
    induction m with
    | zero =>
      intro i τ hi hsx hc hw hq
      have e6 : τ.1 6 o2 = σ.1 6 o2 := (hsx 6 o2 (by simp [oL, Ne.symm hne])).1
      refine bX8_become_36 ho ho2 ⟨fun _ => ?_, fun e => ?_⟩
      · have f1 : ∀ (a : Nat) (v : Int32) (j : Nat) (υ : MS), (uI υ 6 o a v).1 6 o2 j = υ.1 6 o2 j := fun a v j υ => by simp [uI, Ne.symm hne]
        simp only [f1]
        have hs2 : SX (oL o) σ (uI (uI (uI (uI τ 6 o 2 (τ.1 6 o2 2)) 6 o 5 (τ.1 6 o2 5)) 6 o 6 (τ.1 6 o2 6)) 6 o 7 (τ.1 6 o2 7)) := (((hsx.tr (SX.uI (by simp [oL]))).tr (SX.uI (by simp [oL]))).tr (SX.uI (by simp [oL]))).tr (SX.uI (by simp [oL]))
        refine H _ hs2 ⟨ho, hc, (key _ hs2).2.2.1, ?_⟩ (key _ hs2)
        rw [e6]
        refine ⟨by simp [uI, S.1], by simp [uI, S.2.1], by simp [uI, S.2.2.1], by simp [uI, S.2.2.2.1], fun p hp => ?_, fun q hq2 => ?_, fun q hq2 => ?_⟩
        · simp [uI, hw p (by omega), S.2.2.2.2.1 p hp]
        · simp [uI, (hq q (by omega)).1, S.2.2.2.2.2.1 q hq2]
        · simp [uI, (hq q (by omega)).2, S.2.2.2.2.2.2 q hq2]
      · exact absurd ((nI_leI (a := 8) (by decide) (by omega)).mpr (by omega)) e
    | succ m ih =>
      intro i τ hi hsx hc hw hq
      refine bX8_become_36 ho ho2 ⟨fun e => ?_, fun _ => ⟨vin (show i < 8 by omega) (Nat.le_refl 8) (by decide), ?_⟩⟩
      · exact absurd ((nI_leI (a := 8) (by decide) (by omega)).mp e) (by omega)
      · rw [nI_1, cl (show i < 8 by omega) (by omega)]
        refine ih (i + 1) _ (by omega) ((hsx.tr (SX.uI (by simp [oL]))).tr (SX.uI (by simp [oL]))) hc (fun p hp => by simp [uI, hw p hp]) (fun q hq2 => ?_)
        have e36 : τ.1 36 o2 = σ.1 36 o2 := (hsx 36 o2 (by simp [oL, Ne.symm hne])).1
        have e37 : τ.1 37 o2 = σ.1 37 o2 := (hsx 37 o2 (by simp [oL, Ne.symm hne])).1
        by_cases e : q = i
        · subst e; simp [uI, e36, e37]
        · simp [uI, e, hq q (by omega)]
  have L1 : ∀ (m i : Nat) (τ : MS), i + m = 7 → SX (oL o) σ τ → τ.2.2 6 o = b → (∀ p, p < i → τ.1 35 o p = σ.1 35 o2 p) → R mj_OC d mX8_become Q 10 [some (rV 6 o), some (rV 6 o2), some (iV (nI i))] [] τ := by
    intro m
    induction m with
    | zero =>
      intro i τ hi hsx hc hw
      refine bX8_become_10 ho ho2 ⟨fun _ => L2 8 0 τ (by omega) hsx hc (fun p hp => hw p (by omega)) (fun q hq => by omega), fun e => ?_⟩
      exact absurd ((nI_leI (a := 7) (by decide) (by omega)).mpr (by omega)) e
    | succ m ih =>
      intro i τ hi hsx hc hw
      refine bX8_become_10 ho ho2 ⟨fun e => ?_, fun _ => ⟨vin (show i < 7 by omega) (Nat.le_refl 7) (by decide), ?_⟩⟩
      · exact absurd ((nI_leI (a := 7) (by decide) (by omega)).mp e) (by omega)
      · rw [nI_1, cl (show i < 7 by omega) (by omega)]
        refine ih (i + 1) _ (by omega) (hsx.tr (SX.uI (by simp [oL]))) hc (fun p hp => ?_)
        have e35 : τ.1 35 o2 = σ.1 35 o2 := (hsx 35 o2 (by simp [oL, Ne.symm hne])).1
        by_cases e : p = i
        · subst e; simp [uI, e35]
        · simp [uI, e, hw p (by omega)]
  exact L1 7 0 _ (by omega) (SX.uC (by simp [oL])) (by simp [uC]) (fun p hp => by omega)
theorem S_waterOf (h : SC σ o b c s) {x : Int32} (H : Q (some (iV (gWaterOf c s x))) σ) : R mj_OC d mX8_waterOf Q 0 [some (rV 6 o), some (iV x), none, none] [] σ := by
  obtain ⟨ho, hc, ⟨hb, C, K, T, V⟩, S⟩ := id h
  have np := V.np
  refine bX8_waterOf_0 ho ?_
  refine up_loop (n := c 0 0) (fun i => R mj_OC d mX8_waterOf Q 4 [some (rV 6 o), some (iV x), some (iV (gSum (fun p => if bt x p = true then s 4 p else 0) i)), some (iV (nI i))] [] σ) ?_ ?_ 0 (Nat.zero_le _)
  · refine bX8_waterOf_4 ho ⟨by rw [hc]; exact hb, fun q => H, fun q => ?_⟩
    rw [hc, C.np] at q; exact absurd (Int32.le_refl _) q
  · intro i hi ih
    refine bX8_waterOf_4 ho ⟨by rw [hc]; exact hb, fun q => ?_, fun q => ⟨fun q1 => ?_, fun q1 => ⟨vin hi np (by decide), ?_⟩⟩⟩
    · rw [hc, C.np, nI_le2 (by omega) (by omega)] at q; omega
    · rw [bt_sh (by omega)] at q1
      rw [gSum, if_neg q1, show ∀ z : Int32, z + 0 = z from Int32.add_zero] at ih
      rw [nI_1]; exact ih
    · rw [bt_sh (by omega)] at q1
      rw [gSum, if_pos q1] at ih
      rw [nI_1, cl hi (by omega), S.2.2.2.2.1 i hi]; exact ih
theorem S_runAll (h : SC σ o b c s) (H : ∀ τ : MS, SB [(35, o)] σ τ → SC τ o b c (gLp (gAllF c) 0 (c 0 2) (0, s)).2 → Q (some (iV (gLp (gAllF c) 0 (c 0 2) (0, s)).1)) τ) : R mj_OC (d + 1 + 1 + 1 + 1) mX8_runAll Q 0 [some (rV 6 o), none, none] [] σ := by
  obtain ⟨ho, hc0, ⟨hb, _, _, _, V⟩, _⟩ := id h
  have nk := V.nk
  refine bX8_runAll_0 ho ?_
  have L : ∀ (m i : Nat) (τ : MS) (x : Int32 × SA), i + m = c 0 2 → SB [(35, o)] σ τ → SC τ o b c x.2 → (∀ υ : MS, SB [(35, o)] σ υ → SC υ o b c (gLp (gAllF c) i m x).2 → Q (some (iV (gLp (gAllF c) i m x).1)) υ) → R mj_OC (d + 1 + 1 + 1 + 1) mX8_runAll Q 4 [some (rV 6 o), some (iV x.1), some (iV (nI i))] [] τ := by
    intro m
    induction m with
    | zero =>
      intro i τ x hi hsb hs H
      obtain ⟨_, hc, ⟨_, C, _⟩, _⟩ := id hs
      refine bX8_runAll_4 ho ⟨by rw [hc]; exact hb, fun _ => H τ hsb hs, fun e => ?_⟩
      rw [hc, C.nk, ← hi] at e; exact absurd (Int32.le_refl _) e
    | succ m ih =>
      intro i τ x hi hsb hs H
      obtain ⟨_, hc, ⟨_, C, _⟩, _⟩ := id hs
      have hip : i < c 0 2 := by omega
      refine bX8_runAll_4 ho ⟨by rw [hc]; exact hb, fun e => ?_, fun _ => ?_⟩
      · rw [hc, C.nk, nI_le2 (by omega) (by omega)] at e; omega
      refine S_isJammed hs (fun g => ?_) (fun g => ?_)
      · refine bX8_runAll_20 ho ⟨fun _ => ?_, fun e => absurd e (by decide)⟩
        have H2 := H
        unfold gJam at g
        rw [gLp, gAllF, if_pos g] at H2
        rw [nI_1]; exact ih (i + 1) τ x (by omega) hsb hs H2
      · refine bX8_runAll_20 ho ⟨fun e => absurd rfl e, fun _ => ?_⟩
        have H2 := H
        unfold gJam at g
        rw [gLp, gAllF, if_neg g] at H2
        refine S_run hs hip (fun υ hυ hs' => ?_)
        refine bX8_runAll_31 ho ?_
        rw [nI_1]
        exact ih (i + 1) υ (x.1 + (gFlow c x.2 i 2147483647).1, (gFlow c x.2 i 2147483647).2) (by omega) (hsb.tr hυ) hs' H2
  exact L (c 0 2) 0 σ (0, s) (by omega) SB.rf h H
end Sn
