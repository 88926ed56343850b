/-! the highest, runs, locks, boats, rests -/
def gRuns (c : CA) (s : SA) (x w : Int32) : Int32 := match gIx x (c 0 2) with
  | none => -1
  | some k => if w = 0 then gRun c s k else if w = 1 then nI (gGiver c s k) else -1
def gLockQ (c : CA) (s : SA) (x w : Int32) : Int32 := match gIx x (c 0 1) with
  | none => -1
  | some l => if w = 0 then nI (c 6 l) else if w = 1 then nI (c 7 l) else if w = 2 then nI (c 8 l) else if w = 3 then (if gBoatIn c s l = -1 then -2 else gBoatIn c s l) else -1
def gBoatQ (c : CA) (s : SA) (x w : Int32) : Int32 := match gIx x (c 0 4) with
  | none => -1
  | some q => if w = 0 then nI (c 15 q) else if w = 1 then nI (c 16 q) else if w = 2 then s 5 q else if w = 3 then s 6 q else -1
def gB32 (p : Bool) : Int32 := if p = true then 1 else 0
def gPipeQ (c : CA) (s : SA) (x w : Int32) : Int32 := match gIx x (c 0 2) with
  | none => -1
  | some k => if w = 0 then nI (c 9 k) else if w = 1 then nI (c 10 k) else if w = 2 then nI (c 11 k) else if w = 3 then gB32 (gOpen c s md0 k) else if w = 4 then gB32 (bt (s 3 0) k) else -1
section Qt
variable {d : Nat} {Q : Option MV → MS → Prop} {σ : MS} {b k : Nat} {c : CA} {s : SA} {md : MD}
theorem S_runs (h : WK σ b c s) {x w : Int32} (H : Q (some (iV (gRuns c s x w))) σ) : R mj_OC (d + 1 + 1 + 1) mX10_runs Q 0 [some (rV 0 0), some (iV x), some (iV w)] [] σ := by
  refine bX10_runs_0 (S_isPipe h (fun k hk ex e => bX10_runs_5 ⟨fun _ => ⟨fun w0 => ?_, fun w0 => ⟨fun w1 => ?_, fun w1 => ?_⟩⟩, fun z => absurd z (by decide)⟩) (fun e => bX10_runs_5 ⟨fun z => absurd rfl z, fun _ => ?_⟩))
  · rw [gRuns, e] at H; simp only [w0] at H; subst ex; exact S_movable h.2 hk (bX10_runs_44 H)
  · rw [gRuns, e] at H; simp only [w1] at H; subst ex; exact S_giver h.2 hk (bX10_runs_53 H)
  · rw [gRuns, e] at H; simp only at H; rw [if_neg w0, if_neg w1] at H; exact H
  · rw [gRuns, e] at H; exact H
theorem M_runs (h : MB σ 0 c s) {x w : Int32} (H : ∀ τ, XQ σ τ → Q (some (iV (gRuns c s x w))) τ) : R mj_OM (d + 1 + 1 + 1 + 1 + 1) mX11_runs Q 0 [some (rV 45 0), some (iV x), some (iV w)] [] σ := by
  have V := h.2.2.1
  have h1 := XQ.t.mb h (by decide)
  replace H := H _ XQ.t
  refine bX11_runs_0 (M_isPipe h1.2.1 V (fun k hk ex e => bX11_runs_10 ⟨fun z => absurd z (by decide), fun _ => M_isPart (fun g g3 => ?_) (fun g => ?_)⟩) (fun e => bX11_runs_10 ⟨fun _ => ?_, fun z => absurd rfl z⟩))
  · rw [gRuns, e] at H
    simp only at H
    subst ex
    refine bX11_runs_17 ⟨fun _ => ⟨fun w0 => ?_, fun w0 => ?_⟩, fun z => absurd z (by decide)⟩
    · have w1 : w = 1 := g3.elim (fun z => absurd z w0) (fun z => z.2)
      rw [if_neg w0, if_pos w1] at H
      exact M_sourceOf (k := 0) h1 hk (bX11_runs_41 H)
    · rw [if_pos w0] at H
      exact M_runOf (k := 0) h1 hk (bX11_runs_32 H)
  · rw [gRuns, e] at H
    simp only at H
    have w0 : ¬ w = 0 := fun z => by rw [z] at g; exact absurd g (by decide)
    have w1 : ¬ w = 1 := fun z => by rw [z] at g; exact absurd g (by decide)
    rw [if_neg w0, if_neg w1] at H
    exact bX11_runs_17 ⟨fun z => absurd rfl z, fun _ => H⟩
  · rw [gRuns, e] at H; exact H
theorem S_lock (h : WK σ b c s) {x w : Int32} (H : Q (some (iV (gLockQ c s x w))) σ) : R mj_OC (d + 1) mX10_lock Q 0 [some (rV 0 0), some (iV x), some (iV w)] [] σ := by
  have nl := h.V.nl
  refine bX10_lock_0 (S_isLock h (fun l hl ex e => ?_) (fun e => bX10_lock_5 ⟨fun z => absurd rfl z, fun _ => ?_⟩))
  · rw [gLockQ, e] at H
    simp only at H
    subst ex
    have vl : vp_in (nI l) 3 := vin hl (by omega) (by decide)
    have vb : σ.2.2 0 0 < 2 := by rw [h.1]; exact h.lt
    refine bX10_lock_5 ⟨fun _ => ⟨fun w0 => ⟨vb, vl, ?_⟩, fun w0 => ⟨fun w1 => ⟨vb, vl, ?_⟩, fun w1 => ⟨fun w2 => ⟨vb, vl, ?_⟩, fun w2 => ⟨fun w3 => ?_, fun w3 => ?_⟩⟩⟩⟩, fun z => absurd z (by decide)⟩
    · rw [if_pos w0] at H; rw [h.1, cl hl (by omega), h.C.lpond hl]; exact H
    · rw [if_neg w0, if_pos w1] at H; rw [h.1, cl hl (by omega), h.C.low hl]; exact H
    · rw [if_neg w0, if_neg w1, if_pos w2] at H; rw [h.1, cl hl (by omega), h.C.high hl]; exact H
    · rw [if_neg w0, if_neg w1, if_neg w2, if_pos w3] at H
      exact S_boatIn h.2 (by omega) (bX10_lock_87 (S_orWithout (bX10_lock_90 H)))
    · rw [if_neg w0, if_neg w1, if_neg w2, if_neg w3] at H; exact H
  · rw [gLockQ, e] at H; exact H
theorem M_lock (h : MB σ 0 c s) {x w : Int32} (H : ∀ τ, XQ σ τ → Q (some (iV (gLockQ c s x w))) τ) : R mj_OM (d + 1) mX11_lock Q 0 [some (rV 45 0), some (iV x), some (iV w)] [] σ := by
  have V := h.2.2.1
  have h1 := XQ.t.mb h (by decide)
  replace H := H _ XQ.t
  have nl := V.nl
  refine bX11_lock_0 (M_isLock h1.2.1 V (fun l hl ex e => ?_) (fun e => bX11_lock_10 ⟨fun z => absurd rfl z, fun _ => ?_⟩))
  · rw [gLockQ, e] at H
    simp only at H
    subst ex
    have vl : vp_in (nI l) 6 := vin hl (by omega) (by decide)
    have C := h1.2.1
    refine bX11_lock_10 ⟨fun _ => ⟨fun w0 => ⟨vl, ?_⟩, fun w0 => ⟨fun w1 => ⟨vl, ?_⟩, fun w1 => ⟨fun w2 => ⟨vl, ?_⟩, fun w2 => ⟨fun w3 => ?_, fun w3 => ?_⟩⟩⟩⟩, fun z => absurd z (by decide)⟩
    · rw [if_pos w0] at H; rw [cl hl (by omega), C.lpond hl]; exact H
    · rw [if_neg w0, if_pos w1] at H; rw [cl hl (by omega), C.low hl]; exact H
    · rw [if_neg w0, if_neg w1, if_pos w2] at H; rw [cl hl (by omega), C.high hl]; exact H
    · rw [if_neg w0, if_neg w1, if_neg w2, if_pos w3] at H
      exact M_boatIn (k := 0) h1 (by omega) (bX11_lock_75 (M_orNone (bX11_lock_78 H)))
    · rw [if_neg w0, if_neg w1, if_neg w2, if_neg w3] at H; exact H
  · rw [gLockQ, e] at H; exact H
theorem S_boat (h : WK σ b c s) {x w : Int32} (H : Q (some (iV (gBoatQ c s x w))) σ) : R mj_OC (d + 1) mX10_boat Q 0 [some (rV 0 0), some (iV x), some (iV w)] [] σ := by
  have nb := h.V.nb
  refine bX10_boat_0 (S_isBoat h (fun l hl ex e => ?_) (fun e => bX10_boat_5 ⟨fun z => absurd rfl z, fun _ => ?_⟩))
  · rw [gBoatQ, e] at H
    simp only at H
    subst ex
    have vl : vp_in (nI l) 8 := vin hl (by omega) (by decide)
    have vb : σ.2.2 0 0 < 2 := by rw [h.1]; exact h.lt
    refine bX10_boat_5 ⟨fun _ => ⟨fun w0 => ⟨vb, vl, ?_⟩, fun w0 => ⟨fun w1 => ⟨vb, vl, ?_⟩, fun w1 => ⟨fun w2 => ⟨vl, ?_⟩, fun w2 => ⟨fun w3 => ⟨vl, ?_⟩, fun w3 => ?_⟩⟩⟩⟩, fun z => absurd z (by decide)⟩
    · rw [if_pos w0] at H; rw [h.1, cl hl (by omega), h.C.block hl]; exact H
    · rw [if_neg w0, if_pos w1] at H; rw [h.1, cl hl (by omega), h.C.bfrom hl]; exact H
    · rw [if_neg w0, if_neg w1, if_pos w2] at H; rw [cl hl (by omega), h.2.sg hl]; exact H
    · rw [if_neg w0, if_neg w1, if_neg w2, if_pos w3] at H; rw [cl hl (by omega), h.2.wd hl]; exact H
    · rw [if_neg w0, if_neg w1, if_neg w2, if_neg w3] at H; exact H
  · rw [gBoatQ, e] at H; exact H
theorem M_boat (h : MB σ 0 c s) {x w : Int32} (H : ∀ τ, XQ σ τ → Q (some (iV (gBoatQ c s x w))) τ) : R mj_OM (d + 1) mX11_boat Q 0 [some (rV 45 0), some (iV x), some (iV w)] [] σ := by
  have V := h.2.2.1
  have h1 := XQ.t.mb h (by decide)
  replace H := H _ XQ.t
  have nb := V.nb
  refine bX11_boat_0 (M_isBoat h1.2.1 V (fun l hl ex e => ?_) (fun e => bX11_boat_10 ⟨fun z => absurd rfl z, fun _ => ?_⟩))
  · rw [gBoatQ, e] at H
    simp only at H
    subst ex
    have vl : vp_in (nI l) 16 := vin hl (by omega) (by decide)
    have vl2 : vp_in (nI l) 184 := vin hl (by omega) (by decide)
    have C := h1.2.1
    have e5 := h1.st hl
    have e6 := h1.wt hl
    rw [Nat.mul_zero, Nat.zero_add] at e5 e6
    refine bX11_boat_10 ⟨fun _ => ⟨fun w0 => ⟨vl, ?_⟩, fun w0 => ⟨fun w1 => ⟨vl, ?_⟩, fun w1 => ⟨fun w2 => ⟨vl2, ?_⟩, fun w2 => ⟨fun w3 => ⟨vl2, ?_⟩, fun w3 => ?_⟩⟩⟩⟩, fun z => absurd z (by decide)⟩
    · rw [if_pos w0] at H; rw [cl hl (by omega), C.block hl]; exact H
    · rw [if_neg w0, if_pos w1] at H; rw [cl hl (by omega), C.bfrom hl]; exact H
    · rw [if_neg w0, if_neg w1, if_pos w2] at H; rw [cl hl (by omega), e5]; exact H
    · rw [if_neg w0, if_neg w1, if_neg w2, if_pos w3] at H; rw [cl hl (by omega), e6]; exact H
    · rw [if_neg w0, if_neg w1, if_neg w2, if_neg w3] at H; exact H
  · rw [gBoatQ, e] at H; exact H
/-! the highest -/
theorem gHg_lt {w : Int32} : ∀ (n i f : Nat), i + n = c 0 0 → f < c 0 0 → gHg c s w n i f < c 0 0 := by
  intro n
  induction n with
  | zero => intro i f _ hf; exact hf
  | succ n ih =>
    intro i f hi hf
    refine ih (i + 1) _ (by omega) ?_
    repeat' split
    all_goals omega
theorem S_highest (h : WK σ b c s) {w : Int32} (H : Q (some (iV (gHighest c s w))) σ) : R mj_OC (d + 1) mX10_highest Q 0 [some (rV 0 0), some (iV w), none, none, none] [] σ := by
  have V := h.V
  have n := V.np
  have vb : σ.2.2 0 0 < 2 := by rw [h.1]; exact h.lt
  refine bX10_highest_0 (S_isHalf (fun g _ => bX10_highest_4 ⟨fun _ => ?_, fun z => absurd z (by decide)⟩) (fun g => bX10_highest_4 ⟨fun z => absurd rfl z, fun _ => by rw [gHighest, if_neg (by rw [g]; decide)] at H; exact H⟩))
  rw [gHighest, if_pos g] at H
  by_cases h0 : c 0 0 = 0
  · rw [if_pos h0] at H
    refine bX10_highest_13 ⟨vb, fun _ => ⟨fun z => ?_, fun _ => H⟩, fun z => ?_⟩
    · rw [h.1, h.C.np, h0] at z; exact absurd rfl z
    · rw [h.1, h.C.np, h0] at z; exact absurd (by decide) z
  · rw [if_neg h0] at H
    have L : ∀ (m i f : Nat), i + m = c 0 0 → f < c 0 0 → Q (some (iV (nI (gHg c s w m i f)))) σ → R mj_OC (d + 1) mX10_highest Q 13 [some (rV 0 0), some (iV w), some (iV (nI f)), some (iV (nI i)), none] [] σ := by
      intro m
      induction m with
      | zero =>
        intro i f hi hf H
        refine bX10_highest_13 ⟨vb, fun _ => ⟨fun _ => H, fun z => ?_⟩, fun z => ?_⟩
        · rw [h.1, h.C.np, show (0 : Int32) = nI 0 from rfl, nI_inj (by omega) (by omega)] at z; omega
        · rw [h.1, h.C.np, show c 0 0 = i by omega] at z; exact absurd (Int32.le_refl _) z
      | succ m ih =>
        intro i f hi hf H
        refine bX10_highest_13 ⟨vb, fun z => ?_, fun _ => ?_⟩
        · rw [h.1, h.C.np, nI_le2 (by omega) (by omega)] at z; omega
        · rw [gHg] at H
          refine S_higherBy h.2 (show i < c 0 0 by omega) hf (bX10_highest_33 ⟨fun w0 => ⟨fun z => ?_, fun z => ?_⟩, fun w0 => ⟨fun z => ?_, fun z => ?_⟩⟩)
          · rw [if_neg w0, if_neg (Int32.not_lt.mpr z)] at H; rw [nI_1]; exact ih (i + 1) f (by omega) hf H
          · rw [if_neg w0, if_pos (Int32.not_le.mp z)] at H; rw [nI_1]; exact ih (i + 1) i (by omega) (by omega) H
          · rw [if_pos w0, if_neg (Int32.not_lt.mpr z)] at H; rw [nI_1]; exact ih (i + 1) f (by omega) hf H
          · rw [if_pos w0, if_pos (Int32.not_le.mp z)] at H; rw [nI_1]; exact ih (i + 1) i (by omega) (by omega) H
    exact L (c 0 0 - 1) 1 0 (by omega) (by omega) H
theorem M_highest (h : MB σ 0 c s) {w : Int32} (H : ∀ τ, XQ σ τ → Q (some (iV (gHighest c s w))) τ) : R mj_OM (d + 1 + 1) mX11_highest Q 0 [some (rV 45 0), some (iV w), none, none, none] [] σ := by
  have V := h.2.2.1
  have n := V.np
  have h1 := XQ.t.mb h (by decide)
  replace H := H _ XQ.t
  have v0 : vp_in (0 : Int32) 18 := vin (p := 0) (n := 9) (by omega) (by omega) (by decide)
  refine bX11_highest_0 (M_isPart (fun g _ => bX11_highest_9 ⟨fun _ => ?_, fun z => absurd z (by decide)⟩) (fun g => bX11_highest_9 ⟨fun z => absurd rfl z, fun _ => by rw [gHighest, if_neg (by rw [g]; decide)] at H; exact H⟩))
  rw [gHighest, if_pos g] at H
  by_cases h0 : c 0 0 = 0
  · rw [if_pos h0] at H
    refine bX11_highest_19 ⟨v0, fun _ => H, fun z => ?_⟩
    rw [h1.2.1.np, h0] at z; exact absurd (by decide) z
  · rw [if_neg h0] at H
    have L : ∀ (m i f : Nat), i + m = c 0 0 → f < c 0 0 → Q (some (iV (nI (gHg c s w m i f)))) (uI σ 45 0 0 0) → R mj_OM (d + 1 + 1) mX11_highest Q 19 [some (rV 45 0), some (iV w), some (iV (nI f)), some (iV (nI i)), none] [] (uI σ 45 0 0 0) := by
      intro m
      induction m with
      | zero =>
        intro i f hi hf H
        refine bX11_highest_19 ⟨v0, fun _ => H, fun z => ?_⟩
        rw [h1.2.1.np, show c 0 0 = i by omega] at z; exact absurd (Int32.le_refl _) z
      | succ m ih =>
        intro i f hi hf H
        have fp : ¬ nI f < 0 := nI_pos (by omega)
        refine bX11_highest_19 ⟨v0, fun z => ?_, fun _ => ⟨fun _ => ?_, fun z => absurd (nI_pos' (by omega)) z⟩⟩
        · rw [h1.2.1.np, nI_le2 (by omega) (by omega)] at z; omega
        · rw [gHg] at H
          refine M_higherBy (k := 0) h1 (show i < c 0 0 by omega) hf (bX11_highest_44 ⟨fun z => absurd z fp, fun _ => ⟨fun w0 => ⟨fun z => ?_, fun z => ?_⟩, fun w0 => ⟨fun z => ?_, fun z => ?_⟩⟩⟩)
          · rw [if_neg w0, if_neg (Int32.not_lt.mpr z)] at H; rw [nI_1]; exact ih (i + 1) f (by omega) hf H
          · rw [if_neg w0, if_pos (Int32.not_le.mp z)] at H; rw [nI_1]; exact ih (i + 1) i (by omega) (by omega) H
          · rw [if_pos w0, if_neg (Int32.not_lt.mpr z)] at H; rw [nI_1]; exact ih (i + 1) f (by omega) hf H
          · rw [if_pos w0, if_pos (Int32.not_le.mp z)] at H; rw [nI_1]; exact ih (i + 1) i (by omega) (by omega) H
    refine bX11_highest_19 ⟨v0, fun z => ?_, fun _ => ⟨fun z => absurd z (by decide), fun _ => ⟨fun _ => ?_, fun z => absurd (by decide) z⟩⟩⟩
    · rw [h1.2.1.np, show (0 : Int32) = nI 0 from rfl, nI_le2 (by omega) (by omega)] at z; omega
    · exact L (c 0 0 - 1) 1 0 (by omega) (by omega) H
end Qt
