/-! the class's calls that change -/
section Rw
variable {d : Nat} {Q : Option MV → MS → Prop} {σ : MS} {w : WT} {x y : Int32}
theorem WK.cu {τ : MS} {b : Nat} {c : CA} {s s' : SA} (h : WK σ b c s) (hu : SX cuL σ τ) (hs : SC τ 0 b c s') : WK τ b c s' := ⟨by rw [(hu 0 0 (by decide)).2.2]; exact h.1, hs⟩
theorem C_draw (hw : CW σ w) (hi : WI w) (H : ∀ τ, CW τ (uDraw w x y).2 → Q (some (iV (uDraw w x y).1)) τ) : R mj_OC (d + 1 + 1 + 1 + 1) mX10_draw Q 0 [some (rV 0 0), some (iV x), some (iV y)] [] σ := by
  obtain ⟨b, hk, hrest⟩ := id hw
  have hh := hrest.2.2.2.1
  have no : uDraw w x y = (-1, w) → Q (some (iV (-1))) σ := fun e => by have := H σ (by rw [e]; exact hw); rw [e] at this; exact this
  refine bX10_draw_0 (S_isPipe hk (fun k hk2 ex e => bX10_draw_5 ⟨fun z => absurd z (by decide), fun _ => ⟨fun z => no ?_, fun y1 => ⟨fun y9 => ?_, fun z => no ?_⟩⟩⟩) (fun e => bX10_draw_5 ⟨fun _ => no (by unfold uDraw; rw [e]), fun z => absurd rfl z⟩))
  · unfold uDraw; rw [e]; simp only; rw [if_pos (Or.inl z)]
  · subst ex
    have ey : uDraw w (nI k) y = if bt (ws w 3 0) k = true then (-2, w) else ((gFlow (wc w) (ws w) k y).1, wS w (gFlow (wc w) (ws w) k y).2 (min 20 (wn w + 1)) (psh (ws w) (wh w))) := by
      unfold uDraw; rw [e]; simp only; rw [if_neg (fun z => z.elim y1 (fun z => absurd y9 (Int32.not_le.mpr z)))]
    have nk := hi.1.nk
    have ej : gJam (ws w) k ↔ bt (ws w 3 0) k = true := bt_sh (by omega)
    rw [ey] at H
    refine S_isJammed hk.2 (fun g => bX10_draw_30 ⟨fun z => absurd z (by decide), fun _ => ?_⟩) (fun g => bX10_draw_30 ⟨fun _ => ?_, fun z => absurd rfl z⟩)
    · rw [if_pos (ej.mp g)] at H; exact H σ hw
    · rw [if_neg (fun z => g (ej.mpr z))] at H
      refine S_hnote hk hh hi.2.2.2.1 (fun τ t1 t2 => bX10_draw_47 ?_)
      have u1 : SX cuL σ τ := t1.x.wk (by decide)
      have k1 : WK τ b (wc w) (ws w) := hk.cu u1 (hk.2.keep t1 rfl (by decide))
      refine S_run k1.2 hk2 (fun υ v1 v2 => bX10_draw_56 (H υ ?_))
      have u2 : SX cuL σ υ := u1.tr (v1.x.wk (by decide))
      exact hw.u hk u2 (hk.cu u2 v2) (t2.keep v1.x (by decide))
  · unfold uDraw; rw [e]; simp only; rw [if_pos (Or.inr (Int32.not_le.mp z))]
theorem S_isBucket {Q : Option MV → MS → Prop} {z : Int32} (H1 : ∀ m, 1 ≤ m → m ≤ 99 → z = nI m → ¬ (z < 1 ∨ 99 < z) → Q (some (iV 1)) σ) (H0 : (z < 1 ∨ 99 < z) → Q (some (iV 0)) σ) : R mj_OC d mX10_isBucket Q 0 [some (iV z)] [] σ := by
  refine bX10_isBucket_0 ⟨fun q => H0 (Or.inl q), fun q => ⟨fun q2 => H0 (Or.inr q2), fun q2 => ?_⟩⟩
  have z0 : ¬ z < 0 := fun q3 => q (Int32.lt_trans q3 (by decide))
  obtain ⟨m, hm, rfl⟩ := nI_of2 (M := 99) (n := 99) (by decide) z0 (Int32.not_lt.mp q2)
  have m1 : 1 ≤ m := by rw [show (1 : Int32) = nI 1 from rfl, nI_ltI (by omega) (by omega)] at q; omega
  exact H1 m m1 hm rfl (fun q3 => q3.elim q q2)
theorem C_fill (hw : CW σ w) (hi : WI w) (H : ∀ τ, CW τ (uFill w x y).2 → Q (some (iV (uFill w x y).1)) τ) : R mj_OC (d + 1 + 1 + 1) mX10_fill Q 0 [some (rV 0 0), some (iV x), some (iV y)] [] σ := by
  obtain ⟨b, hk, hrest⟩ := id hw
  have hh := hrest.2.2.2.1
  have np := hi.1.np
  have no : uFill w x y = (-1, w) → Q (some (iV (-1))) σ := fun e => by have := H σ (by rw [e]; exact hw); rw [e] at this; exact this
  refine bX10_fill_0 (S_isPond hk (fun p hp ex e => bX10_fill_5 ⟨fun z => absurd z (by decide), fun _ => ?_⟩) (fun e => bX10_fill_5 ⟨fun _ => no (by unfold uFill; rw [e]), fun z => absurd rfl z⟩))
  refine S_isBucket (fun m m1 m9 ey g => bX10_fill_12 ⟨fun _ => ?_, fun z => absurd z (by decide)⟩) (fun g => bX10_fill_12 ⟨fun z => absurd rfl z, fun _ => no (by unfold uFill; rw [e]; simp only; rw [if_pos g])⟩)
  have eu : uFill w x y = (gMore (ws w 4 p) y, wS w (sU (ws w) 4 p (gMore (ws w 4 p) y)) (min 20 (wn w + 1)) (psh (ws w) (wh w))) := by
    unfold uFill; rw [e]; simp only; rw [if_neg g]
  rw [eu] at H
  subst ex; subst ey
  refine S_hnote hk hh hi.2.2.2.1 (fun τ t1 t2 => bX10_fill_28 ?_)
  have u1 : SX cuL σ τ := t1.x.wk (by decide)
  have k1 : WK τ b (wc w) (ws w) := hk.cu u1 (hk.2.keep t1 rfl (by decide))
  refine S_pour k1.2 hp (nI_pos' (by omega)) ((nI_leI (b := 99) (by omega) (by decide)).mpr m9) (fun υ v1 v2 => bX10_fill_37 ⟨vin hp np (by decide), ?_⟩)
  have u2 : SX cuL σ υ := u1.tr (v1.x.wk (by decide))
  rw [cl hp (by omega), v2.wr hp]
  have := H υ (hw.u hk u2 (hk.cu u2 v2) (t2.keep v1.x (by decide)))
  simpa [sU] using this
theorem C_spill (hw : CW σ w) (hi : WI w) (H : ∀ τ, CW τ (uSpill w x y).2 → Q (some (iV (uSpill w x y).1)) τ) : R mj_OC (d + 1 + 1 + 1) mX10_spill Q 0 [some (rV 0 0), some (iV x), some (iV y)] [] σ := by
  obtain ⟨b, hk, hrest⟩ := id hw
  have hh := hrest.2.2.2.1
  have np := hi.1.np
  have no : uSpill w x y = (-1, w) → Q (some (iV (-1))) σ := fun e => by have := H σ (by rw [e]; exact hw); rw [e] at this; exact this
  refine bX10_spill_0 (S_isPond hk (fun p hp ex e => bX10_spill_5 ⟨fun z => absurd z (by decide), fun _ => ?_⟩) (fun e => bX10_spill_5 ⟨fun _ => no (by unfold uSpill; rw [e]), fun z => absurd rfl z⟩))
  refine S_isBucket (fun m m1 m9 ey g => bX10_spill_12 ⟨fun _ => ?_, fun z => absurd z (by decide)⟩) (fun g => bX10_spill_12 ⟨fun z => absurd rfl z, fun _ => no (by unfold uSpill; rw [e]; simp only; rw [if_pos g])⟩)
  have eu : uSpill w x y = if y ≤ ws w 4 p then (ws w 4 p - y, wS w (sU (ws w) 4 p (ws w 4 p - y)) (min 20 (wn w + 1)) (psh (ws w) (wh w))) else (-2, w) := by
    unfold uSpill; rw [e]; simp only; rw [if_neg g]
  rw [eu] at H
  subst ex; subst ey
  rw [cl hp (by omega), hk.2.wr hp]
  refine ⟨vin hp np (by decide), fun le => ?_, fun le => ?_⟩
  · rw [if_pos le] at H
    refine S_hnote hk hh hi.2.2.2.1 (fun τ t1 t2 => bX10_spill_44 ?_)
    have u1 : SX cuL σ τ := t1.x.wk (by decide)
    have k1 : WK τ b (wc w) (ws w) := hk.cu u1 (hk.2.keep t1 rfl (by decide))
    have sb := hi.2.1.2.2.1.sub hi.1 hp (show m ≤ 2000 by omega) le
    have bw := hi.2.1.2.2.1.bd hi.1 hp
    have em : imax 0 (ws w 4 p - nI m) = ws w 4 p - nI m := by
      rw [sb.1]; unfold imax
      by_cases z : 0 < nI (gW (ws w) p - m)
      · rw [if_pos z]
      · rw [if_neg z]
        rw [show (0 : Int32) = nI 0 from rfl, nI_ltI (by omega) (by omega)] at z
        rw [show gW (ws w) p - m = 0 by omega]; rfl
    refine S_lose k1.2 hp (fun υ v1 v2 => bX10_spill_53 ⟨vin hp np (by decide), ?_⟩)
    rw [em] at v2
    have u2 : SX cuL σ υ := u1.tr (v1.x.wk (by decide))
    rw [cl hp (by omega), v2.wr hp]
    have := H υ (hw.u hk u2 (hk.cu u2 v2) (t2.keep v1.x (by decide)))
    simpa [sU] using this
  · rw [if_neg le] at H; exact H σ hw
theorem C_mend (hw : CW σ w) (hi : WI w) (H : ∀ τ, CW τ (uMend w x).2 → Q (some (iV (uMend w x).1)) τ) : R mj_OC (d + 1 + 1) mX10_mend Q 0 [some (rV 0 0), some (iV x)] [] σ := by
  obtain ⟨b, hk, hrest⟩ := id hw
  have hh := hrest.2.2.2.1
  have nk := hi.1.nk
  have no : uMend w x = (0, w) → Q (some (iV 0)) σ := fun e => by have := H σ (by rw [e]; exact hw); rw [e] at this; exact this
  refine bX10_mend_0 (S_isPipe hk (fun k hk2 ex e => bX10_mend_5 ⟨fun z => absurd z (by decide), fun _ => ?_⟩) (fun e => bX10_mend_5 ⟨fun _ => no (by unfold uMend; rw [e]), fun z => absurd rfl z⟩))
  subst ex
  have ej : gJam (ws w) k ↔ bt (ws w 3 0) k = true := bt_sh (by omega)
  refine S_isJammed hk.2 (fun g => bX10_mend_16 ⟨fun _ => ?_, fun z => absurd z (by decide)⟩) (fun g => bX10_mend_16 ⟨fun z => absurd rfl z, fun _ => no ?_⟩)
  · have eu : uMend w (nI k) = (1, wS w (sU (ws w) 3 0 (ws w 3 0 &&& (((1 : Int32) <<< (nI k &&& 31)) ^^^ (-1)))) (min 20 (wn w + 1)) (psh (ws w) (wh w))) := by
      unfold uMend; rw [e]; simp only; rw [if_pos (ej.mp g)]
    rw [eu] at H
    refine S_hnote hk hh hi.2.2.2.1 (fun τ t1 t2 => bX10_mend_32 ?_)
    have u1 : SX cuL σ τ := t1.x.wk (by decide)
    have k1 : WK τ b (wc w) (ws w) := hk.cu u1 (hk.2.keep t1 rfl (by decide))
    rw [k1.2.jm]
    have v2 : SC (uI τ 6 0 2 (ws w 3 0 &&& (((1 : Int32) <<< (nI k &&& 31)) ^^^ (-1)))) 0 b (wc w) (sU (ws w) 3 0 (ws w 3 0 &&& (((1 : Int32) <<< (nI k &&& 31)) ^^^ (-1)))) := k1.2.uI6 (Or.inr (Or.inr (Or.inr ⟨rfl, rfl⟩)))
    have v1 : SB [(6, 0)] τ (uI τ 6 0 2 (ws w 3 0 &&& (((1 : Int32) <<< (nI k &&& 31)) ^^^ (-1)))) := SB.uI (by simp)
    have u2 : SX cuL σ _ := u1.tr (v1.x.wk (by decide))
    exact H _ (hw.u hk u2 (hk.cu u2 v2) (t2.keep v1.x (by decide)))
  · unfold uMend; rw [e]; simp only; rw [if_neg (fun z => g (ej.mpr z))]
theorem C_go (hw : CW σ w) (hi : WI w) (H : ∀ τ, CW τ (uGo w x).2 → Q (some (iV (uGo w x).1)) τ) : R mj_OC (d + 1 + 1 + 1 + 1 + 1 + 1 + 1) mX10_go Q 0 [some (rV 0 0), some (iV x)] [] σ := by
  obtain ⟨b, hk, hrest⟩ := id hw
  have hh := hrest.2.2.2.1
  have no : (x < 0 ∨ 200 < x ∨ ¬ ws w 0 0 + x ≤ 9800) → Q (some (iV (-1))) σ := fun g => by
    have e : uGo w x = (-1, w) := by unfold uGo; rw [if_pos g]
    have := H σ (by rw [e]; exact hw); rw [e] at this; exact this
  refine bX10_go_0 ⟨fun z => no (Or.inl z), fun n0 => ⟨fun z => no (Or.inr (Or.inl z)), fun n2 => ⟨fun n3 => ?_, fun z => no (Or.inr (Or.inr ?_))⟩⟩⟩
  · rw [hk.2.mn] at n3
    have eu : uGo w x = (gMinutes (wc w) md1 x.toNatClampNeg (ws w) 0 0, wS w (gMinutes (wc w) md1 x.toNatClampNeg (ws w)) (if x ≤ 0 then wn w else 0) (wh w)) := by
      unfold uGo; rw [if_neg (fun g => g.elim n0 (fun g => g.elim n2 (fun g => g n3)))]
    rw [eu] at H
    obtain ⟨m, hm, rfl⟩ := nI_of2 (M := 200) (n := 200) (by decide) n0 (Int32.not_lt.mp n2)
    rw [nI_clamp (by omega)] at H
    refine S_asItGoes (fun τ t1 t2 => bX10_go_35 ?_)
    have sb : SB [(7, 0)] τ (uI τ 7 0 0 1) := SB.uI (by simp)
    have u1 : SX cuL σ (uI τ 7 0 0 1) := (t1.x.tr sb.x).wk (by decide)
    have k1 : WK (uI τ 7 0 0 1) b (wc w) (ws w) := hk.cu u1 (hk.2.keep (t1.tr sb) rfl (by decide))
    have tb := hi.2.1.2.1
    refine S_advance k1.2 t2.drawn hi.2.1.1 (MV1 _) (n := m) (by omega) (fun υ v1 v2 => bX10_go_55 ?_)
    have b01 : b = 0 ∨ b = 1 := by have := hk.lt; omega
    have m0 : ∀ z ∈ mL 0 b, z ∈ cuL := by rcases b01 with rfl | rfl <;> decide
    have u2 : SX cuL σ υ := u1.tr (v1.x.wk m0)
    have h2 : HCR υ (wc w) (wn w) (wh w) := (hh.keep (t1.tr sb).x (by decide)).keep v1.x (by simp [mL])
    rw [v2.mn]
    refine ⟨fun z => ?_, fun z => ?_⟩
    · rw [if_pos z] at H
      exact H υ (hw.u hk u2 (hk.cu u2 v2) h2)
    · rw [if_neg z] at H
      refine S_hclear h2 (fun φ f1 f2 => bX10_go_66 ?_)
      have v3 : SC φ 0 b (wc w) (gMinutes (wc w) md1 m (ws w)) := v2.keep f1 rfl (by decide)
      have u3 : SX cuL σ φ := u2.tr (f1.x.wk (by decide))
      rw [v3.mn]
      exact H φ (hw.u hk u3 (hk.cu u3 v3) f2)
  · rw [hk.2.mn] at z; exact z
theorem C_undo (hw : CW σ w) (hi : WI w) (H : ∀ τ, CW τ (uUndo w).2 → Q (some (iV (uUndo w).1)) τ) : R mj_OC (d + 1) mX10_undo Q 0 [some (rV 0 0)] [] σ := by
  obtain ⟨b, hk, hrest⟩ := id hw
  have hh := hrest.2.2.2.1
  refine bX10_undo_0 (S_takeBack hk hh hi.2.2.2.1 (fun i h => (hi.2.2.2.2.1 i h).2.2) (fun τ m hm t1 t2 t3 => bX10_undo_11 ⟨fun z => absurd z (by decide), fun _ => ?_⟩) (fun h0 => bX10_undo_11 ⟨fun _ => ?_, fun z => absurd rfl z⟩))
  · have e : uUndo w = (nI m, wS w (wh w 0) m (fun i => wh w (i + 1))) := by
      unfold uUndo; rw [if_neg (by omega), hm]; rfl
    rw [e] at H
    obtain ⟨_, _, q2, _⟩ := id t3
    rw [q2]
    have u1 : SX cuL σ τ := t1.x.wk (by decide)
    exact H τ (hw.u hk u1 t2 t3)
  · have e : uUndo w = (-1, w) := by unfold uUndo; rw [if_pos h0]
    rw [e] at H; exact H σ hw
theorem C_keep (hw : CW σ w) (H : ∀ τ, CW τ (uKeep w).2 → Q (some (iV (uKeep w).1)) τ) : R mj_OC (d + 1) mX10_keep Q 0 [some (rV 0 0)] [] σ := by
  obtain ⟨b, hk, h2, h3, h4, h5, h6, h7, h8, h9⟩ := id hw
  have b01 : b = 0 ∨ b = 1 := by have := hk.lt; omega
  refine bX10_keep_0 (S_become (o := 1) (o2 := 0) (by decide) (by decide) hk.2 (fun τ t1 t2 t3 => bX10_keep_11 ?_))
  have sb : SB [(0, 0)] τ (uI τ 0 0 10 1) := SB.uI (by simp)
  have e0 : ∀ j, j ≠ 10 → (uI τ 0 0 10 1).1 0 0 j = σ.1 0 0 j := fun j hj => by
    have : (uI τ 0 0 10 1).1 0 0 j = τ.1 0 0 j := by simp [uI, hj]
    rw [this, (t1 0 0 (by decide)).1]
  have sx : SX [(6, 1), (35, 1), (36, 1), (37, 1), (0, 0)] σ (uI τ 0 0 10 1) := (t1.wk (by decide)).tr (sb.x.wk (by decide))
  rw [t3.mn]
  refine H _ ⟨b, ⟨by rw [sb.2, (t1 0 0 (by decide)).2.2]; exact hk.1, t3.keep sb rfl (by decide)⟩, by rw [sb.2, (t1 1 0 (by decide)).2.2]; exact h2, by simp [uI]; rfl, fun _ => t2.keep sb rfl (by decide), h5.keep sx (by decide), h6.keep sx (by decide), by rw [e0 11 (by decide), e0 12 (by decide)]; exact h7, by rw [(sx 2 0 (by decide)).1]; exact h8, by rw [(sx 12 0 (by decide)).1]; exact h9⟩
theorem C_back (hw : CW σ w) (H : ∀ τ, CW τ (uBack w).2 → Q (some (iV (uBack w).1)) τ) : R mj_OC (d + 1) mX10_back Q 0 [some (rV 0 0)] [] σ := by
  obtain ⟨b, hk, h2, h3, h4, h5, h6, h7, h8, h9⟩ := id hw
  refine bX10_back_0 ⟨fun z => ?_, fun z => ?_⟩
  · have k : wk w = true := by
      cases e : wk w with
      | true => rfl
      | false => rw [h3, e] at z; exact absurd rfl z
    have e : uBack w = (wi w 0 0, wS w (wi w) 0 (wh w)) := by unfold uBack; rw [if_pos k]
    rw [e] at H
    refine S_become (o := 0) (o2 := 1) (by decide) (by decide) (h4 k) (fun τ t1 t2 t3 => bX10_back_20 ?_)
    have u1 : SX cuL σ τ := t1.wk (by decide)
    refine S_hclear (h5.keep t1 (by decide)) (fun υ v1 v2 => bX10_back_27 ?_)
    have v3 : SC υ 0 b (wc w) (wi w) := t2.keep v1 rfl (by decide)
    have u2 : SX cuL σ υ := u1.tr (v1.x.wk (by decide))
    rw [v3.mn]
    exact H υ (hw.u hk u2 (hk.cu u2 v3) v2)
  · have k : ¬ wk w = true := fun e => by rw [h3, e] at z; exact absurd z (by decide)
    have e : uBack w = (-1, w) := by unfold uBack; rw [if_neg k]
    rw [e] at H; exact H σ hw
end Rw
