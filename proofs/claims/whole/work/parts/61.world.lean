/-! the world: canal, scene now, image, what can be undone (latest first), facts, fault, tape -/
abbrev WT : Type := CA × SA × (Bool × SA) × (Nat × (Nat → SA)) × FA × (Int32 × Int32) × (Nat × (Nat → Nat))
abbrev wc (w : WT) : CA := w.1
abbrev ws (w : WT) : SA := w.2.1
abbrev wk (w : WT) : Bool := w.2.2.1.1
abbrev wi (w : WT) : SA := w.2.2.1.2
abbrev wn (w : WT) : Nat := w.2.2.2.1.1
abbrev wh (w : WT) : Nat → SA := w.2.2.2.1.2
abbrev wf (w : WT) : FA := w.2.2.2.2.1
abbrev wft (w : WT) : Int32 × Int32 := w.2.2.2.2.2.1
abbrev wtn (w : WT) : Nat := w.2.2.2.2.2.2.1
abbrev wtp (w : WT) : Nat → Nat := w.2.2.2.2.2.2.2
/-- another scene, another history -/
def wS (w : WT) (s : SA) (n : Nat) (h : Nat → SA) : WT := (w.1, s, w.2.2.1, (n, h), w.2.2.2.2)
def psh (s : SA) (h : Nat → SA) : Nat → SA := fun i => if i = 0 then s else h (i - 1)
def HCR (σ : MS) (c : CA) (n : Nat) (h : Nat → SA) : Prop := ∃ nx, nx < 20 ∧ σ.1 10 0 0 = nI n ∧ σ.1 10 0 1 = nI nx ∧ ∀ i, i < n → (∀ p, p < c 0 0 → σ.1 44 0 (8 * ((nx + 19 - i) % 20) + p) = h i 4 p) ∧ σ.1 44 0 (8 * ((nx + 19 - i) % 20) + 7) = h i 3 0
def HMR (σ : MS) (c : CA) (n : Nat) (h : Nat → SA) : Prop := σ.1 45 0 48 = nI n ∧ ∀ i, i < n → MB σ (3 + (n - 1 - i)) c (h i)
/-- but for water and what is jammed alike -/
def eqU (s t : SA) : Prop := ∀ f j : Nat, f ≠ 3 → f ≠ 4 → t f j = s f j
/-- a scene that can be -/
def OKs (c : CA) (s : SA) : Prop := SVt s ∧ gT s ≤ 9800 ∧ SI c s ∧ sIn c s ∧ JB c s
def WI (w : WT) : Prop := CV (wc w) ∧ OKs (wc w) (ws w) ∧ (wk w = true → OKs (wc w) (wi w)) ∧ wn w ≤ 20 ∧ (∀ i, i < wn w → SI (wc w) (wh w i) ∧ JB (wc w) (wh w i) ∧ eqU (ws w) (wh w i)) ∧ FW (wc w) (wf w) ∧ wtn w ≤ 700 ∧ ∀ i, i < wtn w → wtp w i < 256
def CW (σ : MS) (w : WT) : Prop := ∃ b, WK σ b (wc w) (ws w) ∧ σ.2.2 1 0 = 1 - b ∧ σ.1 0 0 10 = i01 (wk w) ∧ (wk w = true → SC σ 1 b (wc w) (wi w)) ∧ HCR σ (wc w) (wn w) (wh w) ∧ FCR σ (wf w) ∧ (σ.1 0 0 11 = (wft w).1 ∧ σ.1 0 0 12 = (wft w).2) ∧ σ.1 2 0 0 = nI (wtn w) ∧ ∀ i, i < wtn w → σ.1 12 0 i = nI (wtp w i)
def MWd (σ : MS) (w : WT) : Prop := MB σ 0 (wc w) (ws w) ∧ MM σ md0 ∧ σ.1 45 0 47 = i01 (wk w) ∧ (wk w = true → MB σ 2 (wc w) (wi w)) ∧ HMR σ (wc w) (wn w) (wh w) ∧ FMR σ (wf w) ∧ (σ.1 45 0 33 = (wft w).1 ∧ σ.1 45 0 34 = (wft w).2) ∧ σ.1 45 0 2 = nI (wtn w) ∧ ∀ i, i < wtn w → σ.1 46 0 i = nI (wtp w i)
section Rt
variable {σ τ : MS} {w : WT} {c : CA} {s : SA} {n : Nat} {h : Nat → SA}
theorem HCR.keep {L : List (Nat × Nat)} (hh : HCR σ c n h) (hs : SX L σ τ) (hL : (10, 0) ∉ L ∧ (44, 0) ∉ L) : HCR τ c n h := by
  unfold HCR
  rw [(hs 10 0 hL.1).1, (hs 44 0 hL.2).1]; exact hh
/-- a question leaves the class's world as it is -/
theorem CW.q (hw : CW σ w) (hq : SX wqL σ τ) : CW τ w := by
  obtain ⟨b, h1, h2, h3, h4, h5, h6, h7, h8, h9⟩ := hw
  have b01 : b = 0 ∨ b = 1 := by have := h1.lt; omega
  refine ⟨b, h1.q hq, by rw [(hq 1 0 (by decide)).2.2]; exact h2, by rw [(hq 0 0 (by decide)).1]; exact h3, fun k => (h4 k).keepX hq ?_ (by decide), h5.keep hq (by decide), h6.keep hq (by decide), by rw [(hq 0 0 (by decide)).1]; exact h7, by rw [(hq 2 0 (by decide)).1]; exact h8, by rw [(hq 12 0 (by decide)).1]; exact h9⟩
  rcases b01 with rfl | rfl <;> decide
theorem MM.xq {md : MD} (hm : MM σ md0) (hq : XQ σ τ) : MM τ md0 := by
  unfold MM at hm ⊢
  rw [hq.1.2 49 (by decide), hq.1.2 51 (by decide)]
  exact ⟨hm.1, hm.2.1, fun z => absurd z (by decide), hm.2.2.2.1, fun p z => by simp [md0] at z⟩
theorem MWd.q (hw : MWd σ w) (hq : XQ σ τ) : MWd τ w := by
  obtain ⟨h1, h2, h3, h4, h5, h6, h7, h8, h9⟩ := hw
  refine ⟨hq.mb h1 (by decide), h2.xq (md := md0) hq, by rw [hq.1.2 47 (by decide)]; exact h3, fun k => hq.mb (h4 k) (by decide), ⟨by rw [hq.1.2 48 (by decide)]; exact h5.1, fun i hi => hq.mb (h5.2 i hi) (by omega)⟩, h6.keepY hq.1 (by decide) (by decide), by rw [hq.1.2 33 (by decide), hq.1.2 34 (by decide)]; exact h7, by rw [hq.1.2 2 (by decide)]; exact h8, fun i hi => by rw [hq.1.1.i (by decide)]; exact h9 i hi⟩
/-- slots from 1 on stay but those of the history; nothing else of the reference changes -/
def XU (σ τ : MS) : Prop := SY mmL [0, 39, 48] σ τ ∧ KS σ τ 2
theorem XU.tr {υ : MS} (h1 : XU σ τ) (h2 : XU τ υ) : XU σ υ := ⟨h1.1.tr h2.1, h1.2.tr h2.2⟩
theorem XU.ofZ (hz : SZ 0 σ τ) : XU σ τ := ⟨hz.1.wk (fun _ q => q) (by decide), hz.2 2 (by decide)⟩
theorem XU.u45 {j : Nat} {v : Int32} (hj : j ∈ [0, 39, 48]) : XU σ (uI σ 45 0 j v) := ⟨SY.u45 hj, KS.of (L := [(45, 0)]) (SB.uI (by simp)) rfl 2⟩
/-- the parts that neither scene nor history are -/
theorem MWd.u (hw : MWd σ w) (hu : XU σ τ) {s' : SA} {n' : Nat} {h' : Nat → SA} (hb : MB τ 0 (wc w) s') (hh : HMR τ (wc w) n' h') : MWd τ (wS w s' n' h') := by
  obtain ⟨h1, h2, h3, h4, h5, h6, h7, h8, h9⟩ := hw
  refine ⟨hb, h2.keepY hu.1 (by decide), by rw [hu.1.2 47 (by decide)]; exact h3, fun k => ⟨(h4 k).1, (h4 k).2.1.keep hu.1.1 (by decide), (h4 k).2.2.1, (h4 k).2.2.2.ks hu.2⟩, hh, h6.keepY hu.1 (by decide) (by decide), by rw [hu.1.2 33 (by decide), hu.1.2 34 (by decide)]; exact h7, by rw [hu.1.2 2 (by decide)]; exact h8, fun i hi => by rw [hu.1.1.i (by decide)]; exact h9 i hi⟩
/-- what a change does in the class -/
def cuL : List (Nat × Nat) := [(6, 0), (35, 0), (36, 0), (37, 0), (7, 0), (38, 0), (34, 0), (34, 1), (10, 0), (44, 0)]
theorem CW.u {b : Nat} (hw : CW σ w) (hk : WK σ b (wc w) (ws w)) (hu : SX cuL σ τ) {s' : SA} {n' : Nat} {h' : Nat → SA} (hb : WK τ b (wc w) s') (hh : HCR τ (wc w) n' h') : CW τ (wS w s' n' h') := by
  obtain ⟨b', h1, h2, h3, h4, h5, h6, h7, h8, h9⟩ := hw
  have eb : b' = b := by rw [← h1.1, ← hk.1]
  subst eb
  have b01 : b' = 0 ∨ b' = 1 := by have := h1.lt; omega
  refine ⟨b', hb, by rw [(hu 1 0 (by decide)).2.2]; exact h2, by rw [(hu 0 0 (by decide)).1]; exact h3, fun k => (h4 k).keepX hu ?_ (by decide), hh, h6.keep hu (by decide), by rw [(hu 0 0 (by decide)).1]; exact h7, by rw [(hu 2 0 (by decide)).1]; exact h8, by rw [(hu 12 0 (by decide)).1]; exact h9⟩
  rcases b01 with rfl | rfl <;> decide
end Rt
section Ru
variable {d b : Nat} {Q : Option MV → MS → Prop} {σ : MS} {c : CA} {s : SA} {n : Nat} {h : Nat → SA}
theorem S_hnote (hw : WK σ b c s) (hh : HCR σ c n h) (hn : n ≤ 20) (H : ∀ τ, SB [(44, 0), (10, 0)] σ τ → HCR τ c (min 20 (n + 1)) (psh s h) → Q none τ) : R mj_OC (d + 1) mX2_note Q 0 [some (rV 10 0), some (rV 6 0), none] [] σ := by
  obtain ⟨nx, x1, x2, x3, x4⟩ := hh
  have V := hw.V
  have np := V.np
  have L : ∀ (r i : Nat) (φ : MS), i + r = 7 → SB [(44, 0)] σ φ → (∀ j, j < i → φ.1 44 0 (8 * nx + j) = σ.1 35 0 j) → (∀ k j, k ≠ nx → j < 8 → φ.1 44 0 (8 * k + j) = σ.1 44 0 (8 * k + j)) → R mj_OC (d + 1) mX2_note Q 2 [some (rV 10 0), some (rV 6 0), some (iV (nI i))] [] φ := by
    intro r
    induction r with
    | zero =>
      intro i φ hi hb hv hk
      obtain rfl : i = 7 := by omega
      have e10 : ∀ j, φ.1 10 0 j = σ.1 10 0 j := fun j => hb.i (by simp) j
      have e6 : φ.1 6 0 2 = σ.1 6 0 2 := hb.i (by simp) 2
      refine bX2_note_2 (by decide) ⟨fun _ => ?_, fun z => absurd (by decide) z⟩
      rw [e10, e10, e6, x2, x3, show nI nx * (8 : Int32) + 7 = nI (8 * nx + 7) from by rw [show (8 : Int32) = nI 8 from rfl, pk_mul, show (7 : Int32) = nI 7 from rfl, nI_add, Nat.mul_comm], nI_clamp (by omega), nI_1, nI_1, show (20 : Int32) = nI 20 from rfl, pk_rem (by omega) (by omega) (by omega)]
      have em : (if nI (n + 1) < nI 20 then nI (n + 1) else nI 20) = nI (min 20 (n + 1)) := by
        by_cases g : n + 1 < 20
        · rw [if_pos ((nI_ltI (by omega) (by omega)).mpr g)]; congr 1; omega
        · rw [if_neg (fun z => g ((nI_ltI (by omega) (by omega)).mp z))]; congr 1; omega
      rw [em]
      refine ⟨vin (show 8 * nx + 7 < 160 by omega) (Nat.le_refl _) (by decide), H _ ((hb.wk (by simp)).tr (((SB.uI (by simp)).tr (SB.uI (by simp))).tr (SB.uI (by simp)))) ⟨(nx + 1) % 20, Nat.mod_lt _ (by omega), by simp [uI], by simp [uI], fun i hi => ?_⟩⟩
      by_cases i0 : i = 0
      · subst i0
        have ix : ((nx + 1) % 20 + 19 - 0) % 20 = nx := by omega
        rw [ix]
        refine ⟨fun p hp => ?_, ?_⟩
        · have : ¬ 8 * nx + p = 8 * nx + 7 := by omega
          simp only [uI, psh, this, if_true, and_false, and_self, if_false, show ¬ (44 : Nat) = 10 by decide, false_and]
          rw [hv p (by omega)]; exact hw.2.wr hp
        · simp only [uI, psh, if_true, and_self, show ¬ (44 : Nat) = 10 by decide, false_and, if_false]
          exact hw.2.jm
      · have ix : ((nx + 1) % 20 + 19 - i) % 20 = (nx + 19 - (i - 1)) % 20 := by omega
        have ne : (nx + 19 - (i - 1)) % 20 ≠ nx := by omega
        rw [ix]
        have x4i := x4 (i - 1) (by omega)
        refine ⟨fun p hp => ?_, ?_⟩
        · have : ¬ 8 * ((nx + 19 - (i - 1)) % 20) + p = 8 * nx + 7 := by omega
          simp only [uI, psh, this, if_neg i0, and_false, if_false, show ¬ (44 : Nat) = 10 by decide, false_and]
          rw [hk _ p ne (by omega)]; exact x4i.1 p hp
        · have : ¬ 8 * ((nx + 19 - (i - 1)) % 20) + 7 = 8 * nx + 7 := by omega
          simp only [uI, psh, this, if_neg i0, and_false, if_false, show ¬ (44 : Nat) = 10 by decide, false_and]
          rw [hk _ 7 ne (by omega)]; exact x4i.2
    | succ r ih =>
      intro i φ hi hb hv hk
      have e10 : ∀ j, φ.1 10 0 j = σ.1 10 0 j := fun j => hb.i (by simp) j
      refine bX2_note_2 (by decide) ⟨fun z => ?_, fun _ => ?_⟩
      · rw [show (7 : Int32) = nI 7 from rfl, nI_le2 (by omega) (by omega)] at z; omega
      · rw [e10, x3, show nI nx * (8 : Int32) + nI i = nI (8 * nx + i) from by rw [show (8 : Int32) = nI 8 from rfl, pk_mul, nI_add, Nat.mul_comm], nI_clamp (by omega), nI_clamp (by omega), nI_1]
        refine ⟨vin (show i < 7 by omega) (by omega) (by decide), vin (show 8 * nx + i < 160 by omega) (Nat.le_refl _) (by decide), ih (i + 1) _ (by omega) (hb.tr (SB.uI (by simp))) (fun j hj => ?_) (fun k j hk2 hj => ?_)⟩
        · by_cases e : j = i
          · subst e
            simp only [uI, and_self, if_true]
            exact hb.i (by simp) _
          · have : ¬ 8 * nx + j = 8 * nx + i := by omega
            simp only [uI, this, and_false, if_false]
            exact hv j (by omega)
        · have : ¬ 8 * k + j = 8 * nx + i := by omega
          simp only [uI, this, and_false, if_false]
          exact hk k j hk2 hj
  exact bX2_note_0 (by decide) (L 7 0 σ rfl SB.rf (fun j hj => by omega) (fun _ _ _ _ => rfl))
theorem S_hclear (hh : HCR σ c n h) (H : ∀ τ, SB [(10, 0)] σ τ → HCR τ c 0 h → Q none τ) : R mj_OC d mX2_clear Q 0 [some (rV 10 0)] [] σ := by
  obtain ⟨nx, x1, x2, x3, x4⟩ := hh
  exact bX2_clear_0 (H _ (SB.uI (by simp)) ⟨nx, x1, by simp [uI]; rfl, by simp [uI]; exact x3, fun i hi => by omega⟩)
theorem S_takeBack (hw : WK σ b c s) (hh : HCR σ c n h) (hn : n ≤ 20) (hq : ∀ i, i < n → eqU s (h i)) (H1 : ∀ τ m, n = m + 1 → SB [(10, 0), (35, 0), (6, 0)] σ τ → WK τ b c (h 0) → HCR τ c m (fun i => h (i + 1)) → Q (some (iV 1)) τ) (H0 : n = 0 → Q (some (iV 0)) σ) : R mj_OC d mX2_takeBack Q 0 [some (rV 10 0), some (rV 6 0), none] [] σ := by
  obtain ⟨nx, x1, x2, x3, x4⟩ := hh
  have V := hw.V
  have np := V.np
  refine bX2_takeBack_0 (by decide) ⟨fun z => ?_, fun z => H0 ?_⟩
  · rw [x2, show (0 : Int32) = nI 0 from rfl, nI_inj (by omega) (by omega)] at z
    obtain ⟨m, rfl⟩ : ∃ m, n = m + 1 := ⟨n - 1, by omega⟩
    rw [x2, x3, nI_pred, show nI nx + (20 : Int32) - 1 = nI (nx + 19) from by rw [show (20 : Int32) = nI 20 from rfl, nI_add, show nx + 20 = (nx + 19) + 1 by omega, nI_pred], show (20 : Int32) = nI 20 from rfl, pk_rem (by omega) (by omega) (by omega)]
    have n19 : (nx + 19) % 20 < 20 := Nat.mod_lt _ (by omega)
    generalize hy : (nx + 19) % 20 = y at n19
    have ey : ∀ i, i < m → (nx + 19 - (i + 1)) % 20 = (y + 19 - i) % 20 := fun i hi => by omega
    have e0 := x4 0 (by omega)
    rw [show (nx + 19 - 0) % 20 = y by omega] at e0
    have L : ∀ (r i : Nat) (φ : MS), i + r = 7 → SB [(10, 0), (35, 0)] σ φ → φ.1 10 0 0 = nI m → φ.1 10 0 1 = nI y → (∀ j, j < i → φ.1 35 0 j = σ.1 44 0 (8 * y + j)) → R mj_OC d mX2_takeBack Q 37 [some (rV 10 0), some (rV 6 0), some (iV (nI i))] [] φ := by
      intro r
      induction r with
      | zero =>
        intro i φ hi hb h1 h2 hv
        obtain rfl : i = 7 := by omega
        refine bX2_takeBack_37 (by decide) ⟨fun _ => ?_, fun z => absurd (by decide) z⟩
        rw [h2, show nI y * (8 : Int32) + 7 = nI (8 * y + 7) from by rw [show (8 : Int32) = nI 8 from rfl, pk_mul, show (7 : Int32) = nI 7 from rfl, nI_add, Nat.mul_comm], nI_clamp (by omega), hb.i (by simp), e0.2]
        have sb : SB [(6, 0)] φ (uI φ 6 0 2 (h 0 3 0)) := SB.uI (by simp)
        have sa : SB [(10, 0), (35, 0), (6, 0)] σ (uI φ 6 0 2 (h 0 3 0)) := (hb.wk (by simp)).tr (sb.wk (by simp))
        refine ⟨vin (show 8 * y + 7 < 160 by omega) (Nat.le_refl _) (by decide), H1 _ m rfl sa ⟨by rw [sa.2]; exact hw.1, ?_⟩ ⟨y, n19, by simp [uI]; exact h1, by simp [uI]; exact h2, fun i hi => ?_⟩⟩
        · obtain ⟨ho, hc, B, q1, q2, q3, q4, q5, q6, q7⟩ := hw.2
          have qq := hq 0 (by omega)
          have k : ∀ kk jj, (kk, 0) ∉ [(10, 0), (35, 0), (6, 0)] → (uI φ 6 0 2 (h 0 3 0)).1 kk 0 jj = σ.1 kk 0 jj := fun kk jj hk => sa.i hk jj
          have k6 : ∀ jj, jj ≠ 2 → (uI φ 6 0 2 (h 0 3 0)).1 6 0 jj = σ.1 6 0 jj := fun jj hj => by
            have : (uI φ 6 0 2 (h 0 3 0)).1 6 0 jj = φ.1 6 0 jj := by simp [uI, hj]
            rw [this]; exact hb.i (by simp) jj
          refine ⟨ho, by rw [sa.2]; exact hc, B.keep sa (by decide), by rw [k6 6 (by decide), q1, qq 0 0 (by decide) (by decide)], by rw [k6 7 (by decide), q2, qq 1 0 (by decide) (by decide)], by rw [k6 5 (by decide), q3, qq 2 0 (by decide) (by decide)], by simp [uI], fun p hp => ?_, fun p hp => ?_, fun p hp => ?_⟩
          · have : (uI φ 6 0 2 (h 0 3 0)).1 35 0 p = φ.1 35 0 p := by simp [uI]
            rw [this, hv p (by omega)]; exact e0.1 p hp
          · rw [k 36 p (by decide), q6 p hp, qq 5 p (by decide) (by decide)]
          · rw [k 37 p (by decide), q7 p hp, qq 6 p (by decide) (by decide)]
        · have x4i := x4 (i + 1) (by omega)
          rw [ey i hi] at x4i
          have e44 : ∀ j, (uI φ 6 0 2 (h 0 3 0)).1 44 0 j = σ.1 44 0 j := fun j => sa.i (by decide) j
          exact ⟨fun p hp => by rw [e44]; exact x4i.1 p hp, by rw [e44]; exact x4i.2⟩
      | succ r ih =>
        intro i φ hi hb h1 h2 hv
        refine bX2_takeBack_37 (by decide) ⟨fun z => ?_, fun _ => ?_⟩
        · rw [show (7 : Int32) = nI 7 from rfl, nI_le2 (by omega) (by omega)] at z; omega
        · rw [h2, show nI y * (8 : Int32) + nI i = nI (8 * y + i) from by rw [show (8 : Int32) = nI 8 from rfl, pk_mul, nI_add, Nat.mul_comm], nI_clamp (by omega), nI_clamp (by omega), nI_1]
          refine ⟨vin (show 8 * y + i < 160 by omega) (Nat.le_refl _) (by decide), vin (show i < 7 by omega) (by omega) (by decide), ih (i + 1) _ (by omega) (hb.tr (SB.uI (by simp))) (by simp [uI]; exact h1) (by simp [uI]; exact h2) (fun j hj => ?_)⟩
          by_cases e : j = i
          · subst e
            simp only [uI, and_self, if_true]
            exact hb.i (by simp) _
          · simp only [uI, e, and_false, if_false]
            exact hv j (by omega)
    exact L 7 0 _ rfl ((SB.uI (by simp)).tr (SB.uI (by simp))) (by simp [uI]) (by simp [uI]) (fun j hj => by omega)
  · rw [x2, show (0 : Int32) = nI 0 from rfl, nI_inj (by omega) (by omega)] at z; exact z
end Ru
