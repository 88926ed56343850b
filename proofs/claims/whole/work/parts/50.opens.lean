/-! openings: the class's search -/
def hbO (c : CA) (p : Nat) (x : Int32) : SA → Bool := fun s => decide (x * nI (c 2 p) ≤ gFull c s p)
def vlO (fr : Nat) (had : Int32) : SA → Int32 := fun s => imax 0 (had - s 4 fr)
def OPC (σ : MS) (p : Nat) (x : Int32) (fr : Nat) (had : Int32) : Prop := σ.1 8 0 3 = nI p ∧ σ.1 8 0 4 = x ∧ σ.1 8 0 5 = nI fr ∧ σ.1 8 0 6 = had
def OPR (σ : MS) (F : Int32 × Int32) (L : Int32) : Prop := σ.1 8 0 0 = F.1 ∧ σ.1 8 0 1 = F.2 ∧ σ.1 8 0 2 = L
def gFewest (c : CA) (s : SA) (x y w : Int32) : Int32 := match gIx x (c 0 0) with
  | none => -1
  | some p => if gTall y = true then (if gHalf w = true then (if w = 0 then (gFB c (hbO c p y) s 5 0).1 else (gFB c (hbO c p y) s 5 0).2) else -1) else -1
def gDraws (c : CA) (s : SA) (x y z : Int32) : Int32 := match gIx x (c 0 0) with
  | none => -1
  | some p => match gIx z (c 0 0) with
    | none => -1
    | some q => if gTall y = true then (if x = z then -1 else gGL c gUj gNR (hbO c p y) (vlO q (s 4 q)) 4 s (-2)) else -1
theorem imin_top (x : Int32) : imin 2147483647 x = x := by
  unfold imin
  by_cases g : x < 2147483647
  · rw [if_pos g]
  · rw [if_neg g]
    have := i32_b x
    rw [i32_lt] at g
    rw [i32_eq]
    have e : (2147483647 : Int32).toInt = 2147483647 := by decide
    rw [e] at g ⊢
    omega
theorem gMove_back (s : SA) {g t : Nat} (h : g ≠ t) (m : Int32) : gMove (gMove s g t m) t g m = s := by
  funext f j
  unfold gMove sU
  by_cases e4 : f = 4
  · subst e4
    by_cases eg : j = g
    · subst eg
      simp [h, Ne.symm h, Int32.sub_add_cancel]
    · by_cases et : j = t
      · subst et
        simp [h, Ne.symm h, Int32.add_sub_cancel]
      · simp [eg, et]
  · simp [e4]
theorem imax_nn (x : Int32) : 0 ≤ imax 0 x := by
  unfold imax
  by_cases g : 0 < x
  · rw [if_pos g]; exact Int32.le_of_lt g
  · rw [if_neg g]; exact Int32.le_refl _
theorem gNL_a {v L : Int32} (h : L = -2) : gNL v L = v := if_pos (Or.inl h)
theorem gNL_b {v L : Int32} (h : ¬ L = -2) (h2 : L ≤ v) : gNL v L = L := if_neg (fun z => z.elim h (fun z => z h2))
theorem gNL_c {v L : Int32} (h2 : ¬ L ≤ v) : gNL v L = v := if_pos (Or.inr h2)
section Rg
variable {d b : Nat} {c : CA} {p fr : Nat} {x had : Int32}
theorem S_note {Q : Option MV → MS → Prop} {σ : MS} {F : Int32 × Int32} {L left f : Int32} {n : Nat} (h : OPR σ F L) (hd : σ.1 8 0 6 = had) (H : ∀ τ : MS, SB [(8, 0)] σ τ → (∀ j, 3 ≤ j → τ.1 8 0 j = σ.1 8 0 j) → OPR τ (gNF n f F) (gNL (imax 0 (had - left)) L) → Q none τ) : R mj_OC (d + 1) mX6_note Q 0 [some (rV 8 0), some (iV left), some (iV (nI n)), some (iV f), none] [] σ := by
  obtain ⟨h0, h1, h2⟩ := h
  refine bX6_note_0 ?_
  rw [h0, h2, hd]
  have fa : (F.1 = -2 ∨ ¬ F.1 ≤ nI n) → gNF n f F = (nI n, f) := fun g => if_pos g
  have fb : ¬ F.1 = -2 → F.1 ≤ nI n → gNF n f F = F := fun g g2 => if_neg (fun z => z.elim g (fun z => z g2))
  have a3 : (F.1 = -2 ∨ ¬ F.1 ≤ nI n) → gNL (imax 0 (had - left)) L = imax 0 (had - left) → Q none (uI (uI (uI σ 8 0 0 (nI n)) 8 0 1 f) 8 0 2 (imax 0 (had - left))) := fun g g2 => by
    refine H _ (((SB.uI (by simp)).tr (SB.uI (by simp))).tr (SB.uI (by simp))) (fun j hj => ?_) ?_
    · have : ¬ j = 0 ∧ ¬ j = 1 ∧ ¬ j = 2 := by omega
      simp [uI, this]
    · rw [fa g, g2]; exact ⟨by simp [uI], by simp [uI], by simp [uI]⟩
  have a2 : (F.1 = -2 ∨ ¬ F.1 ≤ nI n) → gNL (imax 0 (had - left)) L = L → Q none (uI (uI σ 8 0 0 (nI n)) 8 0 1 f) := fun g g2 => by
    refine H _ ((SB.uI (by simp)).tr (SB.uI (by simp))) (fun j hj => ?_) ?_
    · have : ¬ j = 0 ∧ ¬ j = 1 ∧ ¬ j = 2 := by omega
      simp [uI, this]
    · rw [fa g, g2]; exact ⟨by simp [uI], by simp [uI], by simp [uI]; exact h2⟩
  have a1 : ¬ F.1 = -2 → F.1 ≤ nI n → gNL (imax 0 (had - left)) L = imax 0 (had - left) → Q none (uI σ 8 0 2 (imax 0 (had - left))) := fun g g1 g2 => by
    refine H _ (SB.uI (by simp)) (fun j hj => ?_) ?_
    · have : ¬ j = 0 ∧ ¬ j = 1 ∧ ¬ j = 2 := by omega
      simp [uI, this]
    · rw [fb g g1, g2]; exact ⟨by simp [uI]; exact h0, by simp [uI]; exact h1, by simp [uI]⟩
  have a0 : ¬ F.1 = -2 → F.1 ≤ nI n → gNL (imax 0 (had - left)) L = L → Q none σ := fun g g1 g2 => by
    refine H _ SB.rf (fun j hj => rfl) ?_
    rw [fb g g1, g2]; exact ⟨h0, h1, h2⟩
  exact ⟨fun a => ⟨fun e => a3 (Or.inl a) (gNL_a e), fun e => ⟨fun e2 => a2 (Or.inl a) (gNL_b e e2), fun e2 => a3 (Or.inl a) (gNL_c e2)⟩⟩,
    fun a => ⟨fun q => ⟨fun e => a1 a q (gNL_a e), fun e => ⟨fun e2 => a0 a q (gNL_b e e2), fun e2 => a1 a q (gNL_c e2)⟩⟩,
      fun q => ⟨fun e => a3 (Or.inr q) (gNL_a e), fun e => ⟨fun e2 => a2 (Or.inr q) (gNL_b e e2), fun e2 => a3 (Or.inr q) (gNL_c e2)⟩⟩⟩⟩
theorem OPC.keep {σ τ : MS} (h : OPC σ p x fr had) (e : ∀ j, 3 ≤ j → τ.1 8 0 j = σ.1 8 0 j) : OPC τ p x fr had := by
  unfold OPC; rw [e 3 (by omega), e 4 (by omega), e 5 (by omega), e 6 (by omega)]; exact h
def oqL : List (Nat × Nat) := [(8, 0), (35, 2)]
theorem S_openN (hp : p < c 0 0) (hf : fr < c 0 0) : ∀ (m n : Nat) (s : SA) (f : Int32) (F : Int32 × Int32) (L : Int32) (σ : MS) (Q : Option MV → MS → Prop), n + m = 4 → SC σ 2 b c s → OPC σ p x fr had → OPR σ F L → (∀ τ : MS, SB oqL σ τ → SC τ 2 b c s → OPC τ p x fr had → OPR τ (gOF c (hbO c p x) m n s f F) (gGL c (gMv c) gNL (hbO c p x) (vlO fr had) m s L) → Q none τ) → R mj_OC (d + m + 1 + 1 + 1) mX6_open Q 0 [some (rV 8 0), some (rV 6 2), some (iV (nI n)), some (iV f), none, none, none, none] [] σ := by
  intro m
  induction m with
  | zero =>
    intro n s f F L σ Q hn h hc hr H
    have V := h.2.2.1.2.2.2.2
    have np := V.np
    have n4 : ¬ nI n < 4 := fun z => by
      rw [show (4 : Int32) = nI 4 from rfl, nI_ltI (by omega) (by omega)] at z; omega
    refine bX6_open_0 (by decide) ?_
    rw [hc.1, hc.2.1]
    refine S_isAtLeast h hp (fun g => bX6_open_12 (by decide) ⟨fun z => absurd z (by decide), fun _ => ?_⟩) (fun g => bX6_open_12 (by decide) ⟨fun _ => ⟨fun z => absurd z n4, fun _ => ?_⟩, fun z => absurd rfl z⟩)
    · rw [hc.2.2.1, cl hf (by omega)]
      refine ⟨vin hf (by omega) (by decide), ?_⟩
      rw [h.wr hf]
      refine S_note (had := had) hr hc.2.2.2 (fun τ h1 h2 h3 => bX6_open_30 (by decide) ⟨fun z => absurd z n4, fun _ => ?_⟩)
      refine H τ (h1.wk (by simp [oqL])) (h.keep h1 rfl (by decide)) (hc.keep h2) ?_
      rw [gOF, gGL, if_pos (show hbO c p x s = true from decide_eq_true g), if_pos (show hbO c p x s = true from decide_eq_true g)]; exact h3
    · refine H σ SB.rf h hc ?_
      rw [gOF, gGL, if_neg (by simp [hbO]; exact Int32.not_le.mp g), if_neg (by simp [hbO]; exact Int32.not_le.mp g)]; exact hr
  | succ m ih =>
    intro n s f F L σ Q hn h hc hr H
    have V := h.2.2.1.2.2.2.2
    have np := V.np
    have nk := V.nk
    have n4 : nI n < 4 := (nI_ltI (b := 4) (by omega) (by decide)).mpr (by omega)
    have loop : ∀ (r i : Nat) (φ : MS) (F : Int32 × Int32) (L : Int32), i + r = c 0 2 → SB oqL σ φ → SC φ 2 b c s → OPC φ p x fr had → OPR φ F L → (∀ τ : MS, SB oqL σ τ → SC τ 2 b c s → OPC τ p x fr had → OPR τ (gLp (fun k F => if gMv c s k = true then gOF c (hbO c p x) m (n + 1) (fl c s k) (if n = 0 then nI k else f) F else F) i r F) (gLp (fun k L => if gMv c s k = true then gGL c (gMv c) gNL (hbO c p x) (vlO fr had) m (fl c s k) L else L) i r L) → Q none τ) → R mj_OC (d + (m + 1) + 1 + 1 + 1) mX6_open Q 39 [some (rV 8 0), some (rV 6 2), some (iV (nI n)), some (iV f), some (iV (nI i)), none, none, none] [] φ := by
      intro r
      induction r with
      | zero =>
        intro i φ F L hi hb hs hc hr H
        obtain ⟨_, hcc, ⟨hb2, C, _⟩, _⟩ := id hs
        refine bX6_open_39 (by decide) ⟨by rw [hcc]; exact hb2, fun _ => H φ hb hs hc hr, fun z => ?_⟩
        rw [hcc, C.nk, ← hi] at z; exact absurd (Int32.le_refl _) z
      | succ r ihr =>
        intro i φ F L hi hb hs hc hr H
        obtain ⟨_, hcc, ⟨hb2, C, _⟩, _⟩ := id hs
        have hik : i < c 0 2 := by omega
        have g1 := gGiver_lt (s := s) V hik
        have g2 := gTaker_lt (s := s) V hik
        have skip : ¬ gMv c s i = true → R mj_OC (d + (m + 1) + 1 + 1 + 1) mX6_open Q 39 [some (rV 8 0), some (rV 6 2), some (iV (nI n)), some (iV f), some (iV (nI i + 1)), none, none, none] [] φ := fun g => by
          rw [nI_1]
          refine ihr (i + 1) φ F L (by omega) hb hs hc hr (fun τ a1 a2 a3 a4 => H τ a1 a2 a3 ?_)
          rw [gLp, gLp, if_neg g, if_neg g]; exact a4
        refine bX6_open_39 (by decide) ⟨by rw [hcc]; exact hb2, fun z => ?_, fun _ => S_giver hs hik (bX6_open_57 (by decide) ⟨by rw [hcc]; exact hb2, vin hik nk (by decide), ?_⟩)⟩
        · rw [hcc, C.nk, nI_le2 (by omega) (by omega)] at z; omega
        have et : φ.1 21 (φ.2.2 6 2) (nI i).toNatClampNeg + φ.1 22 (φ.2.2 6 2) (nI i).toNatClampNeg - nI (gGiver c s i) = nI (gTaker c s i) := by
          rw [cl hik (by omega), hcc, C.one hik, C.two hik, gTaker_eq]
        rw [et]
        refine S_isJammed hs (fun g => bX6_open_91 (by decide) ⟨fun z => absurd z (by decide), fun _ => ⟨fun _ => skip ?_, fun z => absurd (by decide) z⟩⟩) (fun g => bX6_open_91 (by decide) ⟨fun _ => S_movable hs hik (bX6_open_104 (by decide) ⟨fun z => skip ?_, fun z => ?_⟩), fun z => absurd rfl z⟩)
        · have : (s 3 0 >>> (nI i &&& 31)) &&& 1 = 1 := g
          simp [gMv, gUj, this]
        · simp [gMv, Int32.not_lt.mpr z]
        · have gm : gMv c s i = true := by
            have : ¬ (s 3 0 >>> (nI i &&& 31)) &&& 1 = 1 := g
            simp [gMv, gUj, this, Int32.not_le.mp z]
          refine bX8_move_0 (by decide) ⟨vin g1 np (by decide), vin g2 np (by decide), ?_⟩
          rw [cl g1 (by omega), cl g2 (by omega)]
          have hm : SC _ 2 b c (gMove s (gGiver c s i) (gTaker c s i) (gRun c s i)) := SR.flowed hs g1 g2 (gRun c s i)
          have efl : fl c s i = gMove s (gGiver c s i) (gTaker c s i) (gRun c s i) := by
            show gMove s (gGiver c s i) (gTaker c s i) (imin 2147483647 (gRun c s i)) = _
            rw [imin_top]
          rw [← efl] at hm
          have sbm : SB [(35, 2)] φ (uI (uI φ 35 2 (gGiver c s i) (φ.1 35 2 (gGiver c s i) - gRun c s i)) 35 2 (gTaker c s i) ((uI φ 35 2 (gGiver c s i) (φ.1 35 2 (gGiver c s i) - gRun c s i)).1 35 2 (gTaker c s i) + gRun c s i)) := (SB.uI (by simp)).tr (SB.uI (by simp))
          have e8 : ∀ {ψ υ : MS}, SB [(35, 2)] ψ υ → ∀ j, υ.1 8 0 j = ψ.1 8 0 j := fun hh j => hh.i (by decide) j
          have sub : ∀ f' : Int32, f' = (if n = 0 then nI i else f) → R mj_OC (d + (m + 1) + 1 + 1) mX6_open (fun r σ' => R mj_OC (d + (m + 1) + 1 + 1 + 1) mX6_open Q 139 [some (rV 8 0), some (rV 6 2), some (iV (nI n)), some (iV f), some (iV (nI i)), some (iV (nI (gGiver c s i))), some (iV (nI (gTaker c s i))), some (iV (gRun c s i))] (r.toList ++ []) σ') 0 [some (rV 8 0), some (rV 6 2), some (iV (nI n + 1)), some (iV f'), none, none, none, none] [] (uI (uI φ 35 2 (gGiver c s i) (φ.1 35 2 (gGiver c s i) - gRun c s i)) 35 2 (gTaker c s i) ((uI φ 35 2 (gGiver c s i) (φ.1 35 2 (gGiver c s i) - gRun c s i)).1 35 2 (gTaker c s i) + gRun c s i)) := by
            intro f' ef'
            rw [nI_1]
            refine ih (n + 1) (fl c s i) f' F L _ _ (by omega) hm (hc.keep (fun j _ => e8 sbm j)) ?_ (fun τ t1 t2 t3 t4 => bX6_open_139 (by decide) (bX8_move_0 (by decide) ⟨vin g2 np (by decide), vin g1 np (by decide), ?_⟩))
            · unfold OPR; rw [e8 sbm, e8 sbm, e8 sbm]; exact hr
            rw [cl g1 (by omega), cl g2 (by omega)]
            have hm2 : SC _ 2 b c (gMove (fl c s i) (gTaker c s i) (gGiver c s i) (gRun c s i)) := SR.flowed t2 g2 g1 (gRun c s i)
            rw [efl, gMove_back s (gGT_ne V hik)] at hm2
            have sb2 : SB [(35, 2)] τ (uI (uI τ 35 2 (gTaker c s i) (τ.1 35 2 (gTaker c s i) - gRun c s i)) 35 2 (gGiver c s i) ((uI τ 35 2 (gTaker c s i) (τ.1 35 2 (gTaker c s i) - gRun c s i)).1 35 2 (gGiver c s i) + gRun c s i)) := (SB.uI (by simp)).tr (SB.uI (by simp))
            refine bX6_open_149 (by decide) ?_
            rw [nI_1]
            refine ihr (i + 1) _ (gOF c (hbO c p x) m (n + 1) (fl c s i) f' F) (gGL c (gMv c) gNL (hbO c p x) (vlO fr had) m (fl c s i) L) (by omega) (((hb.tr (sbm.wk (by simp [oqL]))).tr t1).tr (sb2.wk (by simp [oqL]))) hm2 (t3.keep (fun j _ => e8 sb2 j)) ?_ (fun υ a1 a2 a3 a4 => H υ a1 a2 a3 ?_)
            · unfold OPR; rw [e8 sb2, e8 sb2, e8 sb2]; exact t4
            · rw [gLp, gLp, if_pos gm, if_pos gm, ← ef']; exact a4
          refine bX6_open_121 (by decide) ⟨fun n0 => sub f ?_, fun n0 => sub (nI i) ?_⟩
          · rw [if_neg (fun z => n0 (by rw [z]; rfl))]
          · rw [if_pos ((nI_eq (b := 0) (by omega) (by decide)).mp n0)]
    refine bX6_open_0 (by decide) ?_
    rw [hc.1, hc.2.1]
    refine S_isAtLeast h hp (fun g => bX6_open_12 (by decide) ⟨fun z => absurd z (by decide), fun _ => ?_⟩) (fun g => bX6_open_12 (by decide) ⟨fun _ => ⟨fun _ => ?_, fun z => absurd n4 z⟩, fun z => absurd rfl z⟩)
    · rw [hc.2.2.1, cl hf (by omega)]
      refine ⟨vin hf (by omega) (by decide), ?_⟩
      rw [h.wr hf]
      refine S_note (had := had) hr hc.2.2.2 (fun τ h1 h2 h3 => bX6_open_30 (by decide) ⟨fun _ => ?_, fun z => absurd n4 z⟩)
      refine loop (c 0 2) 0 τ _ _ (by omega) (h1.wk (by simp [oqL])) (h.keep h1 rfl (by decide)) (hc.keep h2) h3 (fun υ a1 a2 a3 a4 => H υ a1 a2 a3 ?_)
      rw [gOF, gGL, if_pos (show hbO c p x s = true from decide_eq_true g), if_pos (show hbO c p x s = true from decide_eq_true g)]; exact a4
    · refine loop (c 0 2) 0 σ _ _ (by omega) SB.rf h hc hr (fun υ a1 a2 a3 a4 => H υ a1 a2 a3 ?_)
      rw [gOF, gGL, if_neg (by simp [hbO]; exact Int32.not_le.mp g), if_neg (by simp [hbO]; exact Int32.not_le.mp g)]; exact a4
theorem S_seek {Q : Option MV → MS → Prop} {σ : MS} {s : SA} (hp : p < c 0 0) (hf : fr < c 0 0) (h : SC σ 2 b c s) (hs : SI c s) (H : ∀ τ : MS, SB oqL σ τ → OPR τ (gFB c (hbO c p x) s 5 0) (gGL c gUj gNR (hbO c p x) (vlO fr (s 4 fr)) 4 s (-2)) → Q none τ) : R mj_OC (d + 4 + 1 + 1 + 1 + 1) mX6_seek Q 0 [some (rV 8 0), some (rV 6 2), some (iV (nI p)), some (iV x), some (iV (nI fr))] [] σ := by
  have V := h.2.2.1.2.2.2.2
  have np := V.np
  refine bX6_seek_0 (by decide) ⟨vin hf np (by decide), ?_⟩
  rw [cl hf (by omega), h.wr hf]
  have sb : SB [(8, 0)] σ (uI (uI (uI (uI (uI (uI (uI σ 8 0 3 (nI p)) 8 0 4 x) 8 0 5 (nI fr)) 8 0 6 (s 4 fr)) 8 0 0 (-2 : Int32)) 8 0 1 (-2 : Int32)) 8 0 2 (-2 : Int32)) := ((((((SB.uI (by simp)).tr (SB.uI (by simp))).tr (SB.uI (by simp))).tr (SB.uI (by simp))).tr (SB.uI (by simp))).tr (SB.uI (by simp))).tr (SB.uI (by simp))
  exact S_openN (d := d) (x := x) (had := s 4 fr) hp hf 4 0 s (-2) (-2, -2) (-2) _ _ rfl (h.keep sb rfl (by decide)) ⟨by simp [uI], by simp [uI], by simp [uI], by simp [uI]⟩ ⟨by simp [uI], by simp [uI], by simp [uI]⟩ (fun τ t1 t2 t3 t4 => bX6_seek_53 (by decide) (H τ ((sb.wk (by simp [oqL])).tr t1) (by rw [gOF_top V hs, gOL_eq (val := vlO fr (s 4 fr)) V hs (fun s => imax_nn _)] at t4; exact t4)))
theorem S_fewest {Q : Option MV → MS → Prop} {σ : MS} {s : SA} (h : WK σ b c s) (hs : SI c s) {x y w : Int32} (H : ∀ τ, SX wqL σ τ → Q (some (iV (gFewest c s x y w))) τ) : R mj_OC (d + 4 + 1 + 1 + 1 + 1 + 1) mX10_fewest Q 0 [some (rV 0 0), some (iV x), some (iV y), some (iV w)] [] σ := by
  have H0 := H σ SX.rf
  refine bX10_fewest_0 (S_isPond h (fun p hp ex e => bX10_fewest_5 ⟨fun z => absurd z (by decide), fun _ => ?_⟩) (fun e => bX10_fewest_5 ⟨fun _ => by rw [gFewest, e] at H0; exact H0, fun z => absurd rfl z⟩))
  refine S_isHeight (fun n hn ey g => bX10_fewest_12 ⟨fun z => absurd z (by decide), fun _ => ?_⟩) (fun g => bX10_fewest_12 ⟨fun _ => by rw [gFewest, e] at H0; simp only at H0; rw [if_neg (by rw [g]; decide)] at H0; exact H0, fun z => absurd rfl z⟩)
  refine S_isHalf (fun g2 _ => bX10_fewest_19 ⟨fun _ => ?_, fun z => absurd z (by decide)⟩) (fun g2 => bX10_fewest_19 ⟨fun z => absurd rfl z, fun _ => by rw [gFewest, e] at H0; simp only at H0; rw [if_pos g, if_neg (by rw [g2]; decide)] at H0; exact H0⟩)
  subst ex
  refine S_trial h (fun τ hτ h1 h2 => bX10_fewest_35 (S_seek hp hp h2 hs (fun υ u1 u2 => bX10_fewest_49 ?_)))
  have := H υ (hτ.tr (u1.x.wq (by decide)))
  rw [gFewest, e] at this
  simp only at this
  rw [if_pos g, if_pos g2] at this
  refine ⟨fun w0 => ?_, fun w0 => ?_⟩
  · rw [if_neg w0] at this; rw [u2.2.1]; exact this
  · rw [if_pos w0] at this; rw [u2.1]; exact this
theorem S_draws {Q : Option MV → MS → Prop} {σ : MS} {s : SA} (h : WK σ b c s) (hs : SI c s) {x y z : Int32} (H : ∀ τ, SX wqL σ τ → Q (some (iV (gDraws c s x y z))) τ) : R mj_OC (d + 4 + 1 + 1 + 1 + 1 + 1) mX10_draws Q 0 [some (rV 0 0), some (iV x), some (iV y), some (iV z)] [] σ := by
  have H0 := H σ SX.rf
  refine bX10_draws_0 (S_isPond h (fun p hp ex e => bX10_draws_5 ⟨fun z => absurd z (by decide), fun _ => ?_⟩) (fun e => bX10_draws_5 ⟨fun _ => by rw [gDraws, e] at H0; exact H0, fun z => absurd rfl z⟩))
  refine S_isHeight (fun n hn ey g => bX10_draws_12 ⟨fun z => absurd z (by decide), fun _ => ?_⟩) (fun g => bX10_draws_12 ⟨fun _ => ?_, fun z => absurd rfl z⟩)
  · refine S_isPond h (fun q hq ez e2 => bX10_draws_20 ⟨fun z => absurd z (by decide), fun _ => ⟨fun ne => ?_, fun eq => ?_⟩⟩) (fun e2 => bX10_draws_20 ⟨fun _ => by rw [gDraws, e] at H0; simp only at H0; rw [e2] at H0; exact H0, fun z => absurd rfl z⟩)
    · subst ex; subst ez
      refine S_trial h (fun τ hτ h1 h2 => bX10_draws_41 (S_seek hp hq h2 hs (fun υ u1 u2 => bX10_draws_55 ?_)))
      have := H υ (hτ.tr (u1.x.wq (by decide)))
      rw [gDraws, e] at this
      simp only at this
      rw [e2] at this
      simp only at this
      rw [if_pos g, if_neg ne] at this
      rw [u2.2.2]; exact this
    · rw [gDraws, e] at H0
      simp only at H0
      rw [e2] at H0
      simp only at H0
      rw [if_pos g, if_pos eq] at H0; exact H0
  · rw [gDraws, e] at H0
    simp only at H0
    cases e2 : gIx z (c 0 0) with
    | none => rw [e2] at H0; exact H0
    | some q => rw [e2] at H0; simp only at H0; rw [if_neg (by rw [g]; decide)] at H0; exact H0
end Rg
