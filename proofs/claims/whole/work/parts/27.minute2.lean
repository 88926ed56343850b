/-! a minute, step by step -/
def gLoop (f : Nat → SA → SA) : Nat → Nat → SA → SA
  | _, 0, s => s
  | i, n + 1, s => gLoop f (i + 1) n (f i s)
def gSpring (c : CA) (p : Nat) (s : SA) : SA := sU s 4 p (gMore (s 4 p) (nI (c 5 p)))
def gDraw (c : CA) (md : MD) (s : SA) : Bool × SA :=
  if md.2.1 = 5 then (false, s) else if md.1 = false then (decide (50 ≤ c 0 6), s) else if c 0 6 = 0 then (false, s) else if c 0 6 = 100 then (true, s) else
  (decide ((gNext s >>> ((16 : Int32) &&& 31)) - (gNext s >>> ((16 : Int32) &&& 31)) / 100 * 100 < nI (c 0 6)), sU s 1 0 (gNext s))
def gJamIt (k : Nat) (x : Bool × SA) : SA := if x.1 = true then sU x.2 3 0 (x.2 3 0 ||| ((1 : Int32) <<< (nI k &&& 31))) else x.2
def gPipe (c : CA) (md : MD) (k : Nat) (s : SA) : SA := if gOpen c s md k = true then gJamIt k (gDraw c md (gFlow c s k (gPut (gWorth c 0 (gNames c s md (gGiver c s k) (c 11 k))) 99 (c 11 k))).2) else s
def gLeak (c : CA) (md : MD) (p : Nat) (s : SA) : SA := sU s 4 p (imax 0 (s 4 p - (if md.2.2.2.1 = some p then nI md.2.2.2.2 else gPut (gWorth c 1 (gNames c s md p 0)) 99 0)))
def gRaise (c : CA) (md : MD) (q : Nat) (s : SA) : SA := if s 5 q = 1 ∧ nI (c 8 (c 15 q)) * nI (c 2 (c 6 (c 15 q))) ≤ gFull c s (c 6 (c 15 q)) then sU (sU s 2 0 (s 2 0 + gPut (gWorth c 2 (gNames c s md (c 6 (c 15 q)) 0)) 999 1)) 5 q 2 else sU s 6 q (s 6 q + 1)
def gBoat (c : CA) (md : MD) (q : Nat) (s : SA) : SA := if s 5 q = 2 ∨ s 0 0 < nI (c 16 q) then s else gRaise c md q (gLetIn c s q (c 15 q))
def gMinute (c : CA) (md : MD) (s : SA) : SA :=
  let s1 := if md.2.1 = 3 then s else gLoop (gSpring c) 0 (c 0 0) s
  let s2 := gLoop (gPipe c md) 0 (c 0 2) s1
  let s3 := if md.2.1 = 1 then s2 else gLoop (gLeak c md) 0 (c 0 0) s2
  let s4 := gLoop (gBoat c md) 0 (c 0 4) s3
  sU s4 0 0 (s4 0 0 + 1)
def gMinutes (c : CA) (md : MD) : Nat → SA → SA
  | 0, s => s
  | n + 1, s => gMinutes c md n (gMinute c md s)
theorem SVt.of {s s' : SA} (h : SVt s) (e : s' 0 0 = s 0 0) : SVt s' := by unfold SVt gT at *; rw [e]; exact h
theorem gSpring_0 (c : CA) (p : Nat) (s : SA) : gSpring c p s 0 0 = s 0 0 := by simp [gSpring, sU]
theorem gFlow_0 (c : CA) (s : SA) (k : Nat) (m : Int32) : (gFlow c s k m).2 0 0 = s 0 0 := by simp [gFlow, gMove, sU]
theorem gDraw_0 (c : CA) (md : MD) (s : SA) : (gDraw c md s).2 0 0 = s 0 0 := by
  unfold gDraw; repeat' split
  all_goals simp [sU]
theorem gJamIt_0 (k : Nat) (x : Bool × SA) : gJamIt k x 0 0 = x.2 0 0 := by unfold gJamIt; split <;> simp [sU]
theorem gPipe_0 (c : CA) (md : MD) (k : Nat) (s : SA) : gPipe c md k s 0 0 = s 0 0 := by
  unfold gPipe; split
  · rw [gJamIt_0, gDraw_0, gFlow_0]
  · rfl
theorem gLeak_0 (c : CA) (md : MD) (p : Nat) (s : SA) : gLeak c md p s 0 0 = s 0 0 := by simp [gLeak, sU]
theorem gLetIn_0 (c : CA) (s : SA) (q l : Nat) : gLetIn c s q l 0 0 = s 0 0 := by unfold gLetIn; split <;> simp [sU]
theorem gRaise_0 (c : CA) (md : MD) (q : Nat) (s : SA) : gRaise c md q s 0 0 = s 0 0 := by unfold gRaise; split <;> simp [sU]
theorem gBoat_0 (c : CA) (md : MD) (q : Nat) (s : SA) : gBoat c md q s 0 0 = s 0 0 := by
  unfold gBoat; split
  · rfl
  · rw [gRaise_0, gLetIn_0]
theorem gLoop_0 {f : Nat → SA → SA} (hf : ∀ i s, f i s 0 0 = s 0 0) : ∀ (n i : Nat) (s : SA), gLoop f i n s 0 0 = s 0 0 := by
  intro n
  induction n with
  | zero => intro i s; rfl
  | succ n ih => intro i s; rw [gLoop, ih, hf]
/-- what a minute may change -/
def mL (o b : Nat) : List (Nat × Nat) := [(6, o), (35, o), (36, o), (37, o), (38, 0), (34, b)]
section Mo
variable {d : Nat} {Q : Option MV → MS → Prop} {σ : MS} {o b : Nat} {c : CA} {s : SA} {md : MD}
theorem mL_wk {L : List (Nat × Nat)} {τ : MS} (h : SB L σ τ) (hs : L.all (fun x => (mL o b).contains x) = true) : SB (mL o b) σ τ := h.wk (fun x hx => by
  have := List.all_eq_true.mp hs x hx
  simpa using this)
theorem MR.stp {τ : MS} (h : MR σ md) (hs : SB (mL o b) σ τ) : MR τ md := h.keep hs (by simp [mL])
theorem S_letSprings (h : SC σ o b c s) (H : ∀ τ : MS, SB (mL o b) σ τ → SC τ o b c (gLoop (gSpring c) 0 (c 0 0) s) → Q none τ) : R mj_OC (d + 1 + 1) mX5_letSprings Q 0 [some (rV 7 0), some (rV 6 o), none] [] σ := by
  obtain ⟨ho, hc0, ⟨hb, _, _, _, V⟩, _⟩ := id h
  have np := V.np
  refine bX5_letSprings_0 ho ?_
  have L : ∀ (m i : Nat) (τ : MS) (s : SA), i + m = c 0 0 → SB (mL o b) σ τ → SC τ o b c s → (∀ υ : MS, SB (mL o b) σ υ → SC υ o b c (gLoop (gSpring c) i m s) → Q none υ) → R mj_OC (d + 1 + 1) mX5_letSprings Q 2 [some (rV 7 0), some (rV 6 o), some (iV (nI i))] [] τ := by
    intro m
    induction m with
    | zero =>
      intro i τ s hi hsb hs H
      obtain ⟨_, hc, ⟨_, C, _⟩, _⟩ := id hs
      refine bX5_letSprings_2 ho ⟨by rw [hc]; exact hb, fun _ => H τ hsb hs, fun e => ?_⟩
      rw [hc, C.np, ← hi] at e; exact absurd (Int32.le_refl _) e
    | succ m ih =>
      intro i τ s hi hsb hs H
      obtain ⟨_, hc, ⟨_, C, _⟩, _⟩ := id hs
      have hip : i < c 0 0 := by omega
      refine bX5_letSprings_2 ho ⟨by rw [hc]; exact hb, fun e => ?_, fun _ => ⟨vin hip np (by decide), ?_⟩⟩
      · rw [hc, C.np, nI_le2 (by omega) (by omega)] at e; omega
      · have pd := V.pond hip
        rw [hc, cl hip (by omega), C.spring hip]
        refine S_pour hs hip (nI_pos' (by omega)) ((nI_leI (b := 99) (by omega) (by decide)).mpr (by omega)) (fun υ hυ hs' => ?_)
        refine bX5_letSprings_27 ho ?_
        rw [nI_1]
        exact ih (i + 1) υ _ (by omega) (hsb.tr (hυ.wk (by simp [mL]))) hs' H
  exact L (c 0 0) 0 σ s (by omega) SB.rf h H
theorem S_jamsNow (h : SC σ o b c s) (hm : MR σ md) (H : ∀ τ : MS, SB [(6, o)] σ τ → SC τ o b c (gDraw c md s).2 → Q (some (iV (if (gDraw c md s).1 = true then 1 else 0))) τ) : R mj_OC (d + 1) mX5_jamsNow Q 0 [some (rV 7 0), some (rV 6 o), none] [] σ := by
  obtain ⟨ho, hc, ⟨hb, C, K, T, V⟩, S⟩ := id h
  have jm := V.jam
  have e0 : nI (c 0 6) = 0 ↔ c 0 6 = 0 := nI_eq (b := 0) (by omega) (by decide)
  have e100 : nI (c 0 6) = 100 ↔ c 0 6 = 100 := nI_eq (b := 100) (by omega) (by decide)
  have e50 : nI (c 0 6) < 50 ↔ c 0 6 < 50 := nI_ltI (b := 50) (by omega) (by decide)
  have ecj : σ.1 3 (σ.2.2 6 o) 12 = nI (c 0 6) := by rw [hc]; exact C.jam
  have fin : ∀ (x : Bool) (s' : SA), gDraw c md s = (x, s') → s' = s → Q (some (iV (if x = true then 1 else 0))) σ := by
    intro x s' e1 e2
    have := H σ SB.rf
    rw [e1, e2] at this
    exact this h
  refine bX5_jamsNow_0 ho ⟨by rw [hc]; exact hb, fun q1 => ⟨fun q2 => ⟨fun q3 => ⟨fun q4 => ?_, fun q4 => ?_⟩, fun q3 => ⟨fun q4 => ?_, fun q4 => ⟨fun q5 => absurd q4 q5, fun _ => ?_⟩⟩⟩, fun q2 => ⟨fun q3 => ?_, fun q3 => ?_⟩⟩, fun q1 => ?_⟩
  all_goals rw [hm.2.1] at q1
  all_goals (try rw [hm.1] at q2)
  all_goals (try rw [ecj] at q3)
  all_goals (try rw [ecj] at q4)
  · rw [e0] at q3
    have t5 : ¬ md.2.1 = 5 := fun g => q1 (by rw [if_pos g])
    have t1 : ¬ md.1 = false := fun g => q2 (by simp [g])
    exact fin false s (by simp [gDraw, t5, t1, q3]) rfl
  · rw [e0] at q3; rw [e100] at q4; omega
  · rw [e0] at q3; rw [e100] at q4
    have t5 : ¬ md.2.1 = 5 := fun g => q1 (by rw [if_pos g])
    have t1 : ¬ md.1 = false := fun g => q2 (by simp [g])
    have ed : gDraw c md s = (decide ((gNext s >>> ((16 : Int32) &&& 31)) - (gNext s >>> ((16 : Int32) &&& 31)) / 100 * 100 < nI (c 0 6)), sU s 1 0 (gNext s)) := by
      unfold gDraw; rw [if_neg t5, if_neg t1, if_neg q3, if_neg q4]
    refine S_nextNumber h (fun τ hτ hs => ?_)
    rw [ed] at H
    have := H τ hτ hs
    refine bX5_jamsNow_62 ho ⟨fun g => ?_, fun g => ?_⟩
    · rw [ecj] at g
      rw [decide_eq_false (Int32.not_lt.mpr g)] at this
      exact this
    · rw [ecj] at g
      rw [decide_eq_true (Int32.not_le.mp g)] at this
      exact this
  · rw [e0] at q3; rw [e100] at q4
    have t5 : ¬ md.2.1 = 5 := fun g => q1 (by rw [if_pos g])
    have t1 : ¬ md.1 = false := fun g => q2 (by simp [g])
    exact fin true s (by simp [gDraw, t5, t1, q3, q4]) rfl
  · rw [e50] at q3
    have t5 : ¬ md.2.1 = 5 := fun g => q1 (by rw [if_pos g])
    have t1 : md.1 = false := by cases hd : md.1 with
      | false => rfl
      | true => rw [hd] at q2; exact absurd q2 (by decide)
    exact fin false s (by simp [gDraw, t5, t1, q3]) rfl
  · rw [e50] at q3
    have t5 : ¬ md.2.1 = 5 := fun g => q1 (by rw [if_pos g])
    have t1 : md.1 = false := by cases hd : md.1 with
      | false => rfl
      | true => rw [hd] at q2; exact absurd q2 (by decide)
    exact fin true s (by simp [gDraw, t5, t1]; omega) rfl
  · have t5 : md.2.1 = 5 := by
      rcases Nat.decEq md.2.1 5 with g | g
      · rw [if_neg g] at q1; exact absurd q1 (by decide)
      · exact g
    exact fin false s (by simp [gDraw, t5]) rfl
theorem S_letPipes (h : SC σ o b c s) (hm : MR σ md) (ht : SVt s) (hv : MV' c md) (H : ∀ τ : MS, SB (mL o b) σ τ → SC τ o b c (gLoop (gPipe c md) 0 (c 0 2) s) → Q none τ) : R mj_OC (d + 1 + 1 + 1 + 1) mX5_letPipes Q 0 [some (rV 7 0), some (rV 6 o), none, none] [] σ := by
  obtain ⟨ho, hc0, ⟨hb, _, _, _, V⟩, _⟩ := id h
  have nk := V.nk
  refine bX5_letPipes_0 ho ?_
  have L : ∀ (m i : Nat) (τ : MS) (s : SA), i + m = c 0 2 → SB (mL o b) σ τ → SC τ o b c s → SVt s → (∀ υ : MS, SB (mL o b) σ υ → SC υ o b c (gLoop (gPipe c md) i m s) → Q none υ) → R mj_OC (d + 1 + 1 + 1 + 1) mX5_letPipes Q 2 [some (rV 7 0), some (rV 6 o), some (iV (nI i)), none] [] τ := by
    intro m
    induction m with
    | zero =>
      intro i τ s hi hsb hs ht H
      obtain ⟨_, hc, ⟨_, C, _⟩, _⟩ := id hs
      refine bX5_letPipes_2 ho ⟨by rw [hc]; exact hb, fun _ => H τ hsb hs, fun e => ?_⟩
      rw [hc, C.nk, ← hi] at e; exact absurd (Int32.le_refl _) e
    | succ m ih =>
      intro i τ s hi hsb hs ht H
      obtain ⟨_, hc, ⟨_, C, _⟩, _⟩ := id hs
      have hip : i < c 0 2 := by omega
      have hw := (V.pipe hip).2.2.2
      refine bX5_letPipes_2 ho ⟨by rw [hc]; exact hb, fun e => ?_, fun _ => ?_⟩
      · rw [hc, C.nk, nI_le2 (by omega) (by omega)] at e; omega
      refine S_openNow hs (hm.stp hsb) ht hv (fun w hw1 hbits => ?_)
      have eb : ((nI w >>> (nI i &&& 31)) &&& 1 = 1) ↔ gOpen c s md i = true := by
        rw [bt_sh (by omega), bt_nI (by omega), hbits]; simp [hip]
      refine bX5_letPipes_18 ho ⟨fun e => ?_, fun e => ⟨by rw [hc]; exact hb, vin hip nk (by decide), ?_⟩⟩
      · rw [eb] at e
        rw [nI_1]
        have := H
        rw [gLoop, gPipe, if_neg e] at this
        exact ih (i + 1) τ s (by omega) hsb hs ht this
      · rw [eb] at e
        rw [hc, cl hip (by omega), C.wide hip]
        refine S_giver hs hip ?_
        have g1 := gGiver_lt (s := s) V hip
        refine bX5_letPipes_46 ho ho ho ?_
        refine S_worth hs (hm.stp hsb) ht hv (r := 0) (by decide) g1 (by omega) (fun υ hυ => ?_)
        have hs1 : SC υ o b c s := hs.keep hυ (by simp [mj_ck]) (by simp)
        have hsb1 : SB (mL o b) σ υ := hsb.tr (hυ.wk (by simp [mL]))
        refine bX5_letPipes_50 ho ho ?_
        refine S_put (gWorth_big c V (gNames_big c s md V g1 (by omega)) (by decide)) (most := 99) (plain := c 11 i) (by omega) ?_
        refine bX5_letPipes_56 ho ho ?_
        refine S_run hs1 hip (fun φ hφ hs2 => ?_)
        have hsb2 : SB (mL o b) σ φ := hsb1.tr (hφ.wk (by simp [mL]))
        refine bX5_letPipes_59 ho ?_
        refine S_jamsNow hs2 (hm.stp hsb2) (fun χ hχ hs3 => ?_)
        have hsb3 : SB (mL o b) σ χ := hsb2.tr (hχ.wk (by simp [mL]))
        have H2 := H
        rw [gLoop, gPipe, if_pos e] at H2
        refine bX5_letPipes_65 ho ⟨fun g => ?_, fun g => ?_⟩
        · rw [nI_1]
          have hf : ¬ (gDraw c md (gFlow c s i (gPut (gWorth c 0 (gNames c s md (gGiver c s i) (c 11 i))) 99 (c 11 i))).2).1 = true := fun x => by rw [if_pos x] at g; exact absurd g (by decide)
          rw [gJamIt, if_neg hf] at H2
          exact ih (i + 1) χ _ (by omega) hsb3 hs3 (ht.of (by rw [gDraw_0, gFlow_0])) H2
        · rw [nI_1, hs3.2.2.2.2.2.2.1]
          have hf : (gDraw c md (gFlow c s i (gPut (gWorth c 0 (gNames c s md (gGiver c s i) (c 11 i))) 99 (c 11 i))).2).1 = true := by
            rcases Bool.eq_false_or_eq_true (gDraw c md (gFlow c s i (gPut (gWorth c 0 (gNames c s md (gGiver c s i) (c 11 i))) 99 (c 11 i))).2).1 with x | x
            · exact x
            · rw [x] at g; exact absurd rfl g
          rw [gJamIt, if_pos hf] at H2
          exact ih (i + 1) _ _ (by omega) (hsb3.tr (SB.uI (by simp [mL]))) (SC.uI6 hs3 (f := 3) (Or.inr (Or.inr (Or.inr ⟨rfl, rfl⟩)))) (ht.of (by simp [sU, gDraw_0, gFlow_0])) H2
  exact L (c 0 2) 0 σ s (by omega) SB.rf h ht H
theorem S_letLeaks (h : SC σ o b c s) (hm : MR σ md) (ht : SVt s) (hv : MV' c md) (H : ∀ τ : MS, SB (mL o b) σ τ → SC τ o b c (gLoop (gLeak c md) 0 (c 0 0) s) → Q none τ) : R mj_OC (d + 1 + 1 + 1 + 1) mX5_letLeaks Q 0 [some (rV 7 0), some (rV 6 o), none, none] [] σ := by
  obtain ⟨ho, hc0, ⟨hb, _, _, _, V⟩, _⟩ := id h
  have np := V.np
  refine bX5_letLeaks_0 ho ?_
  have L : ∀ (m i : Nat) (τ : MS) (s : SA), i + m = c 0 0 → SB (mL o b) σ τ → SC τ o b c s → SVt s → (∀ υ : MS, SB (mL o b) σ υ → SC υ o b c (gLoop (gLeak c md) i m s) → Q none υ) → R mj_OC (d + 1 + 1 + 1 + 1) mX5_letLeaks Q 2 [some (rV 7 0), some (rV 6 o), some (iV (nI i)), none] [] τ := by
    intro m
    induction m with
    | zero =>
      intro i τ s hi hsb hs ht H
      obtain ⟨_, hc, ⟨_, C, _⟩, _⟩ := id hs
      refine bX5_letLeaks_2 ho ⟨by rw [hc]; exact hb, fun _ => H τ hsb hs, fun e => ?_⟩
      rw [hc, C.np, ← hi] at e; exact absurd (Int32.le_refl _) e
    | succ m ih =>
      intro i τ s hi hsb hs ht H
      obtain ⟨_, hc, ⟨_, C, _⟩, _⟩ := id hs
      have hip : i < c 0 0 := by omega
      have hm' := hm.stp hsb
      have elo : (nI i = τ.1 7 0 6) ↔ md.2.2.2.1 = some i := by
        rw [hm'.2.2.2.2.2.2.1]
        cases hl : md.2.2.2.1 with
        | none =>
          simp only [mOpt, reduceCtorEq, iff_false]
          intro g
          have := nI_pos' (n := i) (by omega)
          rw [g] at this
          exact absurd this (by decide)
        | some p =>
          have := hv.2.1 p hl
          simp only [mOpt, Option.some.injEq]
          rw [nI_inj (by omega) (by omega)]
          exact eq_comm
      refine bX5_letLeaks_2 ho ⟨by rw [hc]; exact hb, fun e => ?_, fun _ => ⟨fun e => ?_, fun e => ?_⟩⟩
      · rw [hc, C.np, nI_le2 (by omega) (by omega)] at e; omega
      · rw [elo] at e
        refine S_worth hs hm' ht hv (r := 1) (wide := 0) (by decide) hip (by omega) (fun υ hυ => ?_)
        have hs1 : SC υ o b c s := hs.keep hυ (by simp [mj_ck]) (by simp)
        have hsb1 : SB (mL o b) σ υ := hsb.tr (hυ.wk (by simp [mL]))
        refine bX5_letLeaks_36 ho ?_
        refine S_put (gWorth_big c V (gNames_big c s md V hip (by omega)) (by decide)) (most := 99) (plain := 0) (by omega) ?_
        refine bX5_letLeaks_42 ho ?_
        refine S_lose hs1 hip (fun φ hφ hs2 => ?_)
        refine bX5_letLeaks_49 ho ?_
        rw [nI_1]
        have H2 := H
        rw [gLoop, gLeak, if_neg e] at H2
        exact ih (i + 1) φ _ (by omega) (hsb1.tr (hφ.wk (by simp [mL]))) hs2 (ht.of (by simp [sU])) H2
      · rw [elo] at e
        rw [hm'.2.2.2.2.2.2.2]
        refine S_lose hs hip (fun φ hφ hs2 => ?_)
        refine bX5_letLeaks_49 ho ?_
        rw [nI_1]
        have H2 := H
        rw [gLoop, gLeak, if_pos e] at H2
        exact ih (i + 1) φ _ (by omega) (hsb.tr (hφ.wk (by simp [mL]))) hs2 (ht.of (by simp [sU])) H2
  exact L (c 0 0) 0 σ s (by omega) SB.rf h ht H
theorem S_letBoats (h : SC σ o b c s) (hm : MR σ md) (ht : SVt s) (hv : MV' c md) (H : ∀ τ : MS, SB (mL o b) σ τ → SC τ o b c (gLoop (gBoat c md) 0 (c 0 4) s) → Q none τ) : R mj_OC (d + 1 + 1 + 1 + 1) mX5_letBoats Q 0 [some (rV 7 0), some (rV 6 o), none, none, none] [] σ := by
  obtain ⟨ho, hc0, ⟨hb, _, _, _, V⟩, _⟩ := id h
  have nb := V.nb
  have nl := V.nl
  refine bX5_letBoats_0 ho ⟨by rw [hc0]; exact hb, ?_⟩
  rw [hc0]
  have L : ∀ (m i : Nat) (τ : MS) (s : SA), i + m = c 0 4 → SB (mL o b) σ τ → SC τ o b c s → SVt s → (∀ υ : MS, SB (mL o b) σ υ → SC υ o b c (gLoop (gBoat c md) i m s) → Q none υ) → R mj_OC (d + 1 + 1 + 1 + 1) mX5_letBoats Q 10 [some (rV 7 0), some (rV 6 o), some (rV 4 b), some (iV (nI i)), none] [] τ := by
    intro m
    induction m with
    | zero =>
      intro i τ s hi hsb hs ht H
      obtain ⟨_, hc, ⟨_, C, _⟩, _⟩ := id hs
      refine bX5_letBoats_10 ho hb ⟨fun _ => H τ hsb hs, fun e => ?_⟩
      rw [C.nb, ← hi] at e; exact absurd (Int32.le_refl _) e
    | succ m ih =>
      intro i τ s hi hsb hs ht H
      obtain ⟨_, hc, ⟨_, C, _⟩, S⟩ := id hs
      have hip : i < c 0 4 := by omega
      have hm' := hm.stp hsb
      have bl := (V.boat hip).1
      have lp := (V.lock bl).1
      have skip : (s 5 i = 2 ∨ s 0 0 < nI (c 16 i)) → R mj_OC (d + 1 + 1 + 1 + 1) mX5_letBoats Q 10 [some (rV 7 0), some (rV 6 o), some (rV 4 b), some (iV (nI i + 1)), none] [] τ := by
        intro g
        rw [nI_1]
        have H2 := H
        rw [gLoop, gBoat, if_pos g] at H2
        exact ih (i + 1) τ s (by omega) hsb hs ht H2
      refine bX5_letBoats_10 ho hb ⟨fun e => ?_, fun _ => ⟨vin hip nb (by decide), fun e => ?_, fun e => ⟨fun e2 => ?_, fun e2 => ?_⟩⟩⟩
      · rw [C.nb, nI_le2 (by omega) (by omega)] at e; omega
      · rw [cl hip (by omega), S.2.2.2.2.2.1 i hip] at e
        exact skip (Or.inl e)
      · rw [cl hip (by omega), S.1, C.bfrom hip] at e2
        exact skip (Or.inr e2)
      · rw [cl hip (by omega), S.2.2.2.2.2.1 i hip] at e
        rw [cl hip (by omega), S.1, C.bfrom hip] at e2
        have H2 := H
        rw [gLoop, gBoat, if_neg (fun g => g.elim e e2)] at H2
        rw [cl hip (by omega), C.block hip]
        refine S_letIn hs hip bl (fun υ hυ hs1 => ?_)
        have hsb1 : SB (mL o b) σ υ := hsb.tr (hυ.wk (by simp [mL]))
        have ht1 : SVt (gLetIn c s i (c 15 i)) := ht.of (gLetIn_0 _ _ _ _)
        generalize gLetIn c s i (c 15 i) = s1 at hs1 H2 ht1
        refine bX5_letBoats_56 ho hb ?_
        refine S_canGoUp hs1 hip bl (fun g => ?_) (fun g => ?_)
        · refine bX5_letBoats_63 ho hb ⟨fun x => absurd x (by decide), fun _ => ⟨vin bl nl (by decide), ?_⟩⟩
          have C1 := hs1.2.2.1.2.1
          rw [cl bl (by omega), C1.lpond bl, hs1.2.2.2.2.2.1]
          refine S_worth hs1 (hm.stp hsb1) ht1 hv (r := 2) (wide := 0) (by decide) lp (by omega) (fun φ hφ => ?_)
          have hs2 : SC φ o b c s1 := hs1.keep hφ (by simp [mj_ck]) (by simp)
          have hsb2 : SB (mL o b) σ φ := hsb1.tr (hφ.wk (by simp [mL]))
          refine bX5_letBoats_85 ho hb ho ?_
          refine S_put (gWorth_big c V (gNames_big c s1 md V lp (by omega)) (by decide)) (most := 999) (plain := 1) (by omega) ?_
          refine bX5_letBoats_92 ho hb ho ⟨vin hip nb (by decide), ?_⟩
          rw [nI_1, cl hip (by omega)]
          rw [gRaise, if_pos g] at H2
          exact ih (i + 1) _ _ (by omega) ((hsb2.tr (SB.uI (by simp [mL]))).tr (SB.uI (by simp [mL]))) (SC.uI36 (SC.uI6 hs2 (f := 2) (Or.inr (Or.inr (Or.inl ⟨rfl, rfl⟩))))) (ht1.of (by simp [sU])) H2
        · refine bX5_letBoats_63 ho hb ⟨fun _ => ⟨vin hip nb (by decide), ?_⟩, fun x => absurd rfl x⟩
          rw [nI_1, cl hip (by omega), hs1.2.2.2.2.2.2.2.2.2 i hip]
          rw [gRaise, if_neg g] at H2
          exact ih (i + 1) _ _ (by omega) (hsb1.tr (SB.uI (by simp [mL]))) (SC.uI37 hs1) (ht1.of (by simp [sU])) H2
  exact L (c 0 4) 0 σ s (by omega) SB.rf h ht H
theorem S_oneMinute (h : SC σ o b c s) (hm : MR σ md) (ht : SVt s) (hv : MV' c md) (H : ∀ τ : MS, SB (mL o b) σ τ → SC τ o b c (gMinute c md s) → Q none τ) : R mj_OC (d + 1 + 1 + 1 + 1 + 1) mX5_oneMinute Q 0 [some (rV 7 0), some (rV 6 o)] [] σ := by
  have ho := h.1
  -- boats and the end
  have P4 : ∀ (τ : MS) (s' : SA), SB (mL o b) σ τ → SC τ o b c s' → SVt s' → (∀ υ : MS, SB (mL o b) σ υ → SC υ o b c (sU (gLoop (gBoat c md) 0 (c 0 4) s') 0 0 (gLoop (gBoat c md) 0 (c 0 4) s' 0 0 + 1)) → Q none υ) → R mj_OC (d + 1 + 1 + 1 + 1) mX5_letBoats (fun r σ' => R mj_OC (d + 1 + 1 + 1 + 1 + 1) mX5_oneMinute Q 34 [some (rV 7 0), some (rV 6 o)] (r.toList ++ []) σ') 0 [some (rV 7 0), some (rV 6 o), none, none, none] [] τ := by
    intro τ s' hsb hs ht' H'
    refine S_letBoats hs (hm.stp hsb) ht' hv (fun υ hυ hs' => ?_)
    refine bX5_oneMinute_34 ho ?_
    rw [hs'.2.2.2.1]
    exact H' _ ((hsb.tr hυ).tr (SB.uI (by simp [mL]))) (SC.uI6 hs' (f := 0) (Or.inl ⟨rfl, rfl⟩))
  -- pipes, leaks
  have P3 : ∀ (τ : MS) (s' : SA), SB (mL o b) σ τ → SC τ o b c s' → SVt s' → (gMinute c md s = (let s2 := gLoop (gPipe c md) 0 (c 0 2) s'; let s3 := if md.2.1 = 1 then s2 else gLoop (gLeak c md) 0 (c 0 0) s2; let s4 := gLoop (gBoat c md) 0 (c 0 4) s3; sU s4 0 0 (s4 0 0 + 1))) → R mj_OC (d + 1 + 1 + 1 + 1) mX5_letPipes (fun r σ' => R mj_OC (d + 1 + 1 + 1 + 1 + 1) mX5_oneMinute Q 17 [some (rV 7 0), some (rV 6 o)] (r.toList ++ []) σ') 0 [some (rV 7 0), some (rV 6 o), none, none] [] τ := by
    intro τ s' hsb hs ht' e
    refine S_letPipes hs (hm.stp hsb) ht' hv (fun υ hυ hs' => ?_)
    have hsb2 := hsb.tr hυ
    have ht2 : SVt (gLoop (gPipe c md) 0 (c 0 2) s') := ht'.of (gLoop_0 (gPipe_0 c md) _ _ _)
    have e3 := (hm.stp hsb2).2.2.1
    refine bX5_oneMinute_17 ho ⟨fun g => ?_, fun g => ?_⟩
    · have h1 : md.2.1 = 1 := by
        rcases Nat.decEq md.2.1 1 with x | x
        · rw [e3, if_neg x] at g; exact absurd g (by decide)
        · exact x
      refine P4 υ _ hsb2 hs' ht2 (fun φ hφ hs2 => H φ hφ ?_)
      rw [e]; simp only [if_pos h1]; exact hs2
    · have h1 : ¬ md.2.1 = 1 := fun x => by rw [e3, if_pos x] at g; exact absurd rfl g
      refine S_letLeaks hs' (hm.stp hsb2) ht2 hv (fun φ hφ hs2 => ?_)
      refine bX5_oneMinute_29 ho ?_
      refine P4 φ _ (hsb2.tr hφ) hs2 (ht2.of (gLoop_0 (gLeak_0 c md) _ _ _)) (fun χ hχ hs3 => H χ hχ ?_)
      rw [e]; simp only [if_neg h1]; exact hs3
  have e3 := hm.2.2.2.1
  refine bX5_oneMinute_0 ho ⟨fun g => ?_, fun g => ?_⟩
  · have h1 : md.2.1 = 3 := by
      rcases Nat.decEq md.2.1 3 with x | x
      · rw [e3, if_neg x] at g; exact absurd g (by decide)
      · exact x
    refine P3 σ s SB.rf h ht ?_
    rw [gMinute, if_pos h1]
  · have h1 : ¬ md.2.1 = 3 := fun x => by rw [e3, if_pos x] at g; exact absurd rfl g
    refine S_letSprings h (fun τ hτ hs => ?_)
    refine bX5_oneMinute_12 ho ?_
    refine P3 τ _ hτ hs (ht.of (gLoop_0 (gSpring_0 c) _ _ _)) ?_
    rw [gMinute, if_neg h1]
end Mo
