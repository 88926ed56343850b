/-! the reference's calls that change -/
section Rx
variable {d : Nat} {Q : Option MV → MS → Prop} {σ τ : MS} {w : WT} {c : CA} {s : SA} {n : Nat} {h : Nat → SA} {x y : Int32}
theorem MB.kk {L : List (Nat × Nat)} {k : Nat} (hb : MB σ k c s) (hs : SB L σ τ) (hL : L.all (fun x => !mj_mk x.1) = true) (hk : KS σ τ k) : MB τ k c s := ⟨hb.1, hb.2.1.keep hs hL, hb.2.2.1, hb.2.2.2.ks hk⟩
theorem HMR.kk {L : List (Nat × Nat)} (hh : HMR σ c n h) (hs : SB L σ τ) (hL : L.all (fun x => !mj_mk x.1) = true) (h48 : τ.1 45 0 48 = σ.1 45 0 48) (hk : ∀ j, 3 ≤ j → KS σ τ j) : HMR τ c n h := ⟨by rw [h48]; exact hh.1, fun i hi => (hh.2 i hi).kk hs hL (hk _ (by omega))⟩
theorem M_keepNow (hb : MB σ 0 c s) (hh : HMR σ c n h) (hn : n ≤ 20) (H : ∀ τ, SY kL [48] σ τ → (∀ j, j < 3 → KS σ τ j) → HMR τ c (min 20 (n + 1)) (psh s h) → Q none τ) : R mj_OM (d + 1) mX11_keepNow Q 0 [some (rV 45 0), none] [] σ := by
  have a3 : ∀ k, (3 : Int32) + nI k = nI (3 + k) := fun k => by rw [show (3 : Int32) = nI 3 from rfl, nI_add]
  refine bX11_keepNow_0 ⟨fun z => ?_, fun z => ?_⟩
  · rw [hh.1, show (20 : Int32) = nI 20 from rfl, nI_inj (by omega) (by omega)] at z
    rw [hh.1, a3]
    refine M_copies (k := 3 + n) (k2 := 0) (by omega) (by decide) (fun τ t1 t2 t3 => bX11_keepNow_56 ?_)
    rw [t1.i (by decide) 48, hh.1, nI_1]
    have sb : SB [(45, 0)] τ (uI τ 45 0 48 (nI (n + 1))) := SB.uI (by simp)
    have em : min 20 (n + 1) = n + 1 := by omega
    refine H _ ((t1.y (J := [48]) (by decide)).tr (SY.u45 (by simp))) (fun j hj => (t2 j (by omega)).tr (KS.of sb rfl j)) ?_
    rw [em]
    refine ⟨by simp [uI], fun i hi => ?_⟩
    unfold psh
    by_cases g : i = 0
    · subst g
      rw [if_pos rfl, show 3 + (n + 1 - 1 - 0) = 3 + n by omega]
      exact (t3 c s hb).sy sb rfl rfl
    · rw [if_neg g, show 3 + (n + 1 - 1 - i) = 3 + (n - 1 - (i - 1)) by omega]
      exact ((hh.2 (i - 1) (by omega)).kk t1 (by decide) (t2 _ (by omega))).sy sb rfl rfl
  · rw [hh.1, show (20 : Int32) = nI 20 from rfl, nI_inj (by omega) (by omega)] at z
    subst z
    have L : ∀ (r k : Nat) (φ : MS), k + r = 20 → 1 ≤ k → SB kL σ φ → (∀ j, j < 3 → KS σ φ j) → (∀ j, j + 1 < k → MB φ (3 + j) c (h (19 - (j + 1)))) → (∀ j, k - 1 ≤ j → j < 20 → KS σ φ (3 + j)) → R mj_OM (d + 1) mX11_keepNow Q 11 [some (rV 45 0), some (iV (nI k))] [] φ := by
      intro r
      induction r with
      | zero =>
        intro k φ hk k1 hb2 h3 hm hr
        obtain rfl : k = 20 := by omega
        refine bX11_keepNow_11 ⟨fun _ => ?_, fun z => absurd (by decide) z⟩
        rw [hb2.i (by decide) 48, hh.1, show nI 20 - (1 : Int32) = nI 19 from by decide, a3]
        have sb : SB [(45, 0)] φ (uI φ 45 0 48 (nI 19)) := SB.uI (by simp)
        refine M_copies (k := 3 + 19) (k2 := 0) (by omega) (by decide) (fun τ t1 t2 t3 => bX11_keepNow_56 ?_)
        have e48 : τ.1 45 0 48 = nI 19 := by rw [t1.i (by decide) 48]; simp [uI]
        rw [e48, nI_1]
        have sb2 : SB [(45, 0)] τ (uI τ 45 0 48 (nI (19 + 1))) := SB.uI (by simp)
        have m0 : MB φ 0 c s := hb.kk hb2 (by decide) (h3 0 (by decide))
        refine H _ ((((hb2.y (J := [48]) (by decide)).tr (SY.u45 (by simp))).tr (t1.y (J := [48]) (by decide))).tr (SY.u45 (by simp))) (fun j hj => (((h3 j hj).tr (KS.of sb rfl j)).tr (t2 j (by omega))).tr (KS.of sb2 rfl j)) ?_
        have em : min 20 (20 + 1) = 20 := by decide
        rw [em]
        refine ⟨by simp [uI], fun i hi => ?_⟩
        unfold psh
        by_cases g : i = 0
        · subst g
          rw [if_pos rfl]
          exact (t3 c s (m0.sy sb rfl rfl)).sy sb2 rfl rfl
        · rw [if_neg g, show 3 + (20 - 1 - i) = 3 + (19 - i) by omega]
          have := hm (19 - i) (by omega)
          rw [show 19 - (19 - i + 1) = i - 1 by omega] at this
          exact (((this.sy sb rfl rfl)).kk t1 (by decide) (t2 _ (by omega))).sy sb2 rfl rfl
      | succ r ih =>
        intro k φ hk k1 hb2 h3 hm hr
        refine bX11_keepNow_11 ⟨fun z => ?_, fun _ => ?_⟩
        · rw [show (20 : Int32) = nI 20 from rfl, nI_le2 (by omega) (by omega)] at z; omega
        rw [a3, show nI (3 + k) - (1 : Int32) = nI (3 + (k - 1)) from by rw [show 3 + k = (3 + (k - 1)) + 1 by omega, nI_pred]]
        refine M_copies (k := 3 + (k - 1)) (k2 := 3 + k) (by omega) (by omega) (fun τ t1 t2 t3 => bX11_keepNow_29 ?_)
        rw [nI_1]
        refine ih (k + 1) τ (by omega) (by omega) (hb2.tr t1) (fun j hj => (h3 j hj).tr (t2 j (by omega))) (fun j hj => ?_) (fun j h1 h2 => (hr j (by omega) h2).tr (t2 _ (by omega)))
        by_cases e : j = k - 1
        · subst e
          have := (hh.2 (19 - k) (by omega)).kk hb2 (by decide) (by
            rw [show 3 + (20 - 1 - (19 - k)) = 3 + k by omega]; exact hr k (by omega) (by omega))
          rw [show 3 + (20 - 1 - (19 - k)) = 3 + k by omega] at this
          rw [show 19 - (k - 1 + 1) = 19 - k by omega]
          exact t3 c _ this
        · exact (hm j (by omega)).kk t1 (by decide) (t2 _ (by omega))
    have := L 19 1 σ rfl (by omega) SB.rf (fun _ _ => KS.rf) (fun j hj => by omega) (fun _ _ _ => KS.rf)
    exact this
theorem XU.of (h1 : SY kL [48] σ τ) (h2 : ∀ j, j < 3 → KS σ τ j) : XU σ τ := ⟨h1.wk (by decide) (by decide), h2 2 (by decide)⟩
theorem XU.t : XU σ (uI σ 45 0 0 0) := XU.u45 (by decide)
theorem MWd.t (hw : MWd σ w) : MWd (uI σ 45 0 0 0) w := hw.q XQ.t
theorem D_draw (hw : MWd σ w) (hi : WI w) (H : ∀ τ, MWd τ (uDraw w x y).2 → Q (some (iV (uDraw w x y).1)) τ) : R mj_OM (d + 1 + 1 + 1 + 1 + 1 + 1) mX11_draw Q 0 [some (rV 45 0), some (iV x), some (iV y)] [] σ := by
  have hw := hw.t
  have V := hi.1
  have nk := V.nk
  have no : uDraw w x y = (-1, w) → Q (some (iV (-1))) (uI σ 45 0 0 0) := fun e => by have := H _ (by rw [e]; exact hw); rw [e] at this; exact this
  refine bX11_draw_0 (M_isPipe hw.1.2.1 V (fun k hk2 ex e => bX11_draw_10 ⟨fun z => absurd z (by decide), fun _ => ⟨fun z => no ?_, fun y1 => ⟨fun y9 => ?_, fun z => no ?_⟩⟩⟩) (fun e => bX11_draw_10 ⟨fun _ => no (by unfold uDraw; rw [e]), fun z => absurd rfl z⟩))
  · unfold uDraw; rw [e]; simp only; rw [if_pos (Or.inl z)]
  · subst ex
    have ey : uDraw w (nI k) y = if bt (ws w 3 0) k = true then (-2, w) else ((gFlow (wc w) (ws w) k y).1, wS w (gFlow (wc w) (ws w) k y).2 (min 20 (wn w + 1)) (psh (ws w) (wh w))) := by
      unfold uDraw; rw [e]; simp only; rw [if_neg (fun z => z.elim y1 (fun z => absurd y9 (Int32.not_le.mpr z)))]
    have ej : gJam (ws w) k ↔ bt (ws w 3 0) k = true := bt_sh (by omega)
    rw [ey] at H
    refine M_isJammed (k := 0) hw.1 (fun g => bX11_draw_33 ⟨fun z => absurd z (by decide), fun _ => ?_⟩) (fun g => bX11_draw_33 ⟨fun _ => ?_, fun z => absurd rfl z⟩)
    · rw [if_pos (ej.mp g)] at H; exact H _ hw
    · rw [if_neg (fun z => g (ej.mpr z))] at H
      refine M_keepNow hw.1 hw.2.2.2.2.1 hi.2.2.2.1 (fun τ t1 t2 t3 => bX11_draw_43 ?_)
      have m0 : MB τ 0 (wc w) (ws w) := hw.1.kk t1.1 (by decide) (t2 0 (by decide))
      refine M_flows (k := 0) m0 hk2 (fun υ v1 v2 v3 => bX11_draw_50 (H υ ?_))
      exact hw.u ((XU.of t1 t2).tr (XU.ofZ (v1.z (by decide) (by decide) v2))) v3 (t3.kk v1 rfl (v1.i (by decide) 48) (fun j hj => v2 j (by omega)))
  · unfold uDraw; rw [e]; simp only; rw [if_pos (Or.inr (Int32.not_le.mp z))]
theorem MB.s74 (hb : MB σ 0 c s) {p : Nat} (hp : p < c 0 0) (v : Int32) : MB (uI σ 74 0 p v) 0 c (sU s 4 p v) := by
  have := hb.u74 (v := v) hp
  rwa [Nat.mul_zero, Nat.zero_add] at this
theorem SZ.s74 {p : Nat} (hp : p < 7) (v : Int32) : SZ 0 σ (uI σ 74 0 p v) := by
  have := SZ.u74 (k := 0) (σ := σ) (v := v) hp
  rwa [Nat.mul_zero, Nat.zero_add] at this
theorem MB.w0 (hb : MB σ 0 c s) {p : Nat} (hp : p < c 0 0) : σ.1 74 0 p = s 4 p := by
  have := hb.w hp
  rwa [Nat.mul_zero, Nat.zero_add] at this
theorem D_fill (hw : MWd σ w) (hi : WI w) (H : ∀ τ, MWd τ (uFill w x y).2 → Q (some (iV (uFill w x y).1)) τ) : R mj_OM (d + 1 + 1) mX11_fill Q 0 [some (rV 45 0), some (iV x), some (iV y)] [] σ := by
  have hw := hw.t
  have V := hi.1
  have np := V.np
  have no : uFill w x y = (-1, w) → Q (some (iV (-1))) (uI σ 45 0 0 0) := fun e => by have := H _ (by rw [e]; exact hw); rw [e] at this; exact this
  refine bX11_fill_0 (M_isPond hw.1.2.1 V (fun p hp ex e => bX11_fill_10 ⟨fun z => absurd z (by decide), fun _ => ⟨fun z => no ?_, fun y1 => ⟨fun y9 => ?_, fun z => no ?_⟩⟩⟩) (fun e => bX11_fill_10 ⟨fun _ => no (by unfold uFill; rw [e]), fun z => absurd rfl z⟩))
  · unfold uFill; rw [e]; simp only; rw [if_pos (Or.inl z)]
  · have eu : uFill w x y = (gMore (ws w 4 p) y, wS w (sU (ws w) 4 p (gMore (ws w 4 p) y)) (min 20 (wn w + 1)) (psh (ws w) (wh w))) := by
      unfold uFill; rw [e]; simp only; rw [if_neg (fun z => z.elim y1 (fun z => absurd y9 (Int32.not_le.mpr z)))]
    rw [eu] at H
    subst ex
    refine M_keepNow hw.1 hw.2.2.2.2.1 hi.2.2.2.1 (fun τ t1 t2 t3 => bX11_fill_30 ?_)
    have m0 : MB τ 0 (wc w) (ws w) := hw.1.kk t1.1 (by decide) (t2 0 (by decide))
    have vp : vp_in (nI p) 161 := vin hp (by omega) (by decide)
    rw [cl hp (by omega), m0.w0 hp]
    refine ⟨vp, M_more (bX11_fill_46 ⟨vp, vp, ?_⟩)⟩
    rw [cl hp (by omega)]
    have z1 := SZ.s74 (σ := τ) (p := p) (by omega) (gMore (ws w 4 p) y)
    have ev : (uI τ 74 0 p (gMore (ws w 4 p) y)).1 74 0 p = gMore (ws w 4 p) y := by simp [uI]
    rw [ev]
    exact H _ (hw.u ((XU.of t1 t2).tr (XU.ofZ z1)) (m0.s74 hp _) (t3.kk z1.1.1 (by decide) (z1.1.2 48 (by decide)) (fun j hj => z1.2 j (by omega))))
  · unfold uFill; rw [e]; simp only; rw [if_pos (Or.inr (Int32.not_le.mp z))]
theorem D_spill (hw : MWd σ w) (hi : WI w) (H : ∀ τ, MWd τ (uSpill w x y).2 → Q (some (iV (uSpill w x y).1)) τ) : R mj_OM (d + 1 + 1) mX11_spill Q 0 [some (rV 45 0), some (iV x), some (iV y)] [] σ := by
  have hw := hw.t
  have V := hi.1
  have np := V.np
  have no : uSpill w x y = (-1, w) → Q (some (iV (-1))) (uI σ 45 0 0 0) := fun e => by have := H _ (by rw [e]; exact hw); rw [e] at this; exact this
  refine bX11_spill_0 (M_isPond hw.1.2.1 V (fun p hp ex e => bX11_spill_10 ⟨fun z => absurd z (by decide), fun _ => ⟨fun z => no ?_, fun y1 => ⟨fun y9 => ?_, fun z => no ?_⟩⟩⟩) (fun e => bX11_spill_10 ⟨fun _ => no (by unfold uSpill; rw [e]), fun z => absurd rfl z⟩))
  · unfold uSpill; rw [e]; simp only; rw [if_pos (Or.inl z)]
  · have eu : uSpill w x y = if y ≤ ws w 4 p then (ws w 4 p - y, wS w (sU (ws w) 4 p (ws w 4 p - y)) (min 20 (wn w + 1)) (psh (ws w) (wh w))) else (-2, w) := by
      unfold uSpill; rw [e]; simp only; rw [if_neg (fun z => z.elim y1 (fun z => absurd y9 (Int32.not_le.mpr z)))]
    rw [eu] at H
    subst ex
    have vp : vp_in (nI p) 161 := vin hp (by omega) (by decide)
    rw [cl hp (by omega), hw.1.w0 hp]
    refine ⟨vp, fun le => ?_, fun le => ?_⟩
    · rw [if_pos le] at H
      refine M_keepNow hw.1 hw.2.2.2.2.1 hi.2.2.2.1 (fun τ t1 t2 t3 => bX11_spill_43 ?_)
      have m0 : MB τ 0 (wc w) (ws w) := hw.1.kk t1.1 (by decide) (t2 0 (by decide))
      rw [cl hp (by omega), m0.w0 hp]
      have z1 := SZ.s74 (σ := τ) (p := p) (by omega) (ws w 4 p - y)
      have ev : (uI τ 74 0 p (ws w 4 p - y)).1 74 0 p = ws w 4 p - y := by simp [uI]
      rw [ev]
      exact ⟨vp, H _ (hw.u ((XU.of t1 t2).tr (XU.ofZ z1)) (m0.s74 hp _) (t3.kk z1.1.1 (by decide) (z1.1.2 48 (by decide)) (fun j hj => z1.2 j (by omega))))⟩
    · rw [if_neg le] at H; exact H _ hw
  · unfold uSpill; rw [e]; simp only; rw [if_pos (Or.inr (Int32.not_le.mp z))]
theorem D_mend (hw : MWd σ w) (hi : WI w) (H : ∀ τ, MWd τ (uMend w x).2 → Q (some (iV (uMend w x).1)) τ) : R mj_OM (d + 1 + 1) mX11_mend Q 0 [some (rV 45 0), some (iV x)] [] σ := by
  have hw := hw.t
  have V := hi.1
  have nk := V.nk
  have no : uMend w x = (0, w) → Q (some (iV 0)) (uI σ 45 0 0 0) := fun e => by have := H _ (by rw [e]; exact hw); rw [e] at this; exact this
  refine bX11_mend_0 (M_isPipe hw.1.2.1 V (fun k hk2 ex e => bX11_mend_10 ⟨fun z => absurd z (by decide), fun _ => ?_⟩) (fun e => bX11_mend_10 ⟨fun _ => no (by unfold uMend; rw [e]), fun z => absurd rfl z⟩))
  subst ex
  have ej : gJam (ws w) k ↔ bt (ws w 3 0) k = true := bt_sh (by omega)
  refine M_isJammed (k := 0) hw.1 (fun g => bX11_mend_19 ⟨fun _ => ?_, fun z => absurd z (by decide)⟩) (fun g => bX11_mend_19 ⟨fun z => absurd rfl z, fun _ => no ?_⟩)
  · have eu : uMend w (nI k) = (1, wS w (sU (ws w) 3 0 (ws w 3 0 &&& (((1 : Int32) <<< (nI k &&& 31)) ^^^ (-1)))) (min 20 (wn w + 1)) (psh (ws w) (wh w))) := by
      unfold uMend; rw [e]; simp only; rw [if_pos (ej.mp g)]
    rw [eu] at H
    refine M_keepNow hw.1 hw.2.2.2.2.1 hi.2.2.2.1 (fun τ t1 t2 t3 => bX11_mend_28 ?_)
    have m0 : MB τ 0 (wc w) (ws w) := hw.1.kk t1.1 (by decide) (t2 0 (by decide))
    rw [m0.2.2.2.2.2.2.1]
    have z1 := SZ.u70 (k := 0) (σ := τ) (f := 3) (v := ws w 3 0 &&& (((1 : Int32) <<< (nI k &&& 31)) ^^^ (-1))) (by omega)
    exact ⟨vin (p := 0) (n := 1) (by omega) (by omega) (by decide), H _ (hw.u ((XU.of t1 t2).tr (XU.ofZ z1)) (m0.u70 (f := 3) (by omega)) (t3.kk z1.1.1 (by decide) (z1.1.2 48 (by decide)) (fun j hj => z1.2 j (by omega))))⟩
  · unfold uMend; rw [e]; simp only; rw [if_neg (fun z => g (ej.mpr z))]
theorem D_go (hw : MWd σ w) (hi : WI w) (H : ∀ τ, MWd τ (uGo w x).2 → Q (some (iV (uGo w x).1)) τ) : R mj_OM (d + 1 + 1 + 1 + 1 + 1 + 1 + 1 + 1) mX11_go Q 0 [some (rV 45 0), some (iV x), none] [] σ := by
  have hw := hw.t
  have V := hi.1
  have v0 : vp_in (0 : Int32) 23 := vin (p := 0) (n := 1) (by omega) (by omega) (by decide)
  have no : (x < 0 ∨ 200 < x ∨ ¬ ws w 0 0 + x ≤ 9800) → Q (some (iV (-1))) (uI σ 45 0 0 0) := fun g => by
    have e : uGo w x = (-1, w) := by unfold uGo; rw [if_pos g]
    have := H _ (by rw [e]; exact hw); rw [e] at this; exact this
  have e70 : σ.1 70 0 0 = ws w 0 0 := by
    have := hw.1.2.2.2.1
    simpa [uI] using this
  refine bX11_go_0 ⟨fun z => no (Or.inl z), fun n0 => ⟨fun z => no (Or.inr (Or.inl z)), fun n2 => ⟨v0, fun n3 => ?_, fun z => no (Or.inr (Or.inr ?_))⟩⟩⟩
  · rw [e70] at n3
    have eu : uGo w x = (gMinutes (wc w) md1 x.toNatClampNeg (ws w) 0 0, wS w (gMinutes (wc w) md1 x.toNatClampNeg (ws w)) (if x ≤ 0 then wn w else 0) (wh w)) := by
      unfold uGo; rw [if_neg (fun g => g.elim n0 (fun g => g.elim n2 (fun g => g n3)))]
    rw [eu] at H
    obtain ⟨m, hm, rfl⟩ := nI_of2 (M := 200) (n := 200) (by decide) n0 (Int32.not_lt.mp n2)
    rw [nI_clamp (by omega)] at H
    have tb := hi.2.1.2.1
    have L : ∀ (r i : Nat) (s : SA) (n : Nat) (φ : MS), i + r = m → XU (uI σ 45 0 0 0) φ → MB φ 0 (wc w) s → HMR φ (wc w) n (wh w) → SVt s → gT s + r ≤ 100000 → sIn (wc w) s → (∀ τ, MWd τ (wS w (gMinutes (wc w) md1 r s) n (wh w)) → Q (some (iV (gMinutes (wc w) md1 r s 0 0))) τ) → R mj_OM (d + 1 + 1 + 1 + 1 + 1 + 1 + 1 + 1) mX11_go Q 43 [some (rV 45 0), some (iV (nI m)), some (iV (nI i))] [] φ := by
      intro r
      induction r with
      | zero =>
        intro i s n φ hi' hx hb hh ht hg hin H'
        obtain rfl : i = m := by omega
        refine bX11_go_43 ⟨fun _ => ⟨v0, ?_⟩, fun z => absurd (Int32.le_refl _) z⟩
        rw [hb.2.2.2.1]
        exact H' φ (hw.u hx hb hh)
      | succ r ih =>
        intro i s n φ hi' hx hb hh ht hg hin H
        have mφ : MM φ md0 := hw.2.1.keepY hx.1 (by decide)
        refine bX11_go_43 ⟨fun z => ?_, fun _ => M_passes (k := 0) (md := md1) hb mφ.one ht (MV1 _) hin (fun τ t1 t2 => bX11_go_54 ?_)⟩
        · rw [nI_le2 (by omega) (by omega)] at z; omega
        · rw [nI_1]
          have st := ht.step (c := wc w) (md := md1) (by omega)
          exact ih (i + 1) _ n τ (by omega) (hx.tr (XU.ofZ t1)) t2 (hh.kk t1.1.1 (by decide) (t1.1.2 48 (by decide)) (fun j hj => t1.2 j (by omega))) st.1 (by rw [st.2]; omega) (gMinute_in V hin ht) H
    refine ⟨fun z => ?_, fun z => ?_⟩
    · rw [if_pos z] at H
      exact L m 0 (ws w) (wn w) _ (by omega) ⟨SY.rf, KS.rf⟩ hw.1 hw.2.2.2.2.1 hi.2.1.1 (by omega) hi.2.1.2.2.2.1 H
    · rw [if_neg z] at H
      have sb : SB [(45, 0)] (uI σ 45 0 0 0) (uI (uI σ 45 0 0 0) 45 0 48 0) := SB.uI (by simp)
      refine L m 0 (ws w) 0 _ (by omega) (XU.u45 (by decide)) (hw.1.sy sb rfl rfl) ⟨by simp [uI]; rfl, fun i hi => by omega⟩ hi.2.1.1 (by omega) hi.2.1.2.2.2.1 H
  · rw [e70] at z; exact z
theorem D_undo (hw : MWd σ w) (hi : WI w) (H : ∀ τ, MWd τ (uUndo w).2 → Q (some (iV (uUndo w).1)) τ) : R mj_OM (d + 1) mX11_undo Q 0 [some (rV 45 0)] [] σ := by
  have e48 := hw.2.2.2.2.1.1
  have hw := hw.t
  have hn := hi.2.2.2.1
  refine bX11_undo_0 ⟨fun z => ?_, fun z => ?_⟩
  · rw [e48, show (0 : Int32) = nI 0 from rfl, nI_inj (by omega) (by omega)] at z
    obtain ⟨m, hm⟩ : ∃ m, wn w = m + 1 := ⟨wn w - 1, by omega⟩
    have e : uUndo w = (nI m, wS w (wh w 0) m (fun i => wh w (i + 1))) := by
      unfold uUndo; rw [if_neg z, hm]; rfl
    rw [e] at H
    rw [e48, hm, nI_pred, show (3 : Int32) + nI m = nI (3 + m) from by rw [show (3 : Int32) = nI 3 from rfl, nI_add]]
    have sb : SB [(45, 0)] (uI σ 45 0 0 0) (uI (uI σ 45 0 0 0) 45 0 48 (nI m)) := SB.uI (by simp)
    refine M_copies (k := 0) (k2 := 3 + m) (by decide) (by omega) (fun τ t1 t2 t3 => bX11_undo_35 ?_)
    have hh := hw.2.2.2.2.1
    rw [hm] at hh
    have h0 := hh.2 0 (by omega)
    rw [show 3 + (m + 1 - 1 - 0) = 3 + m by omega] at h0
    have q48 : τ.1 45 0 48 = nI m := by rw [t1.i (by decide)]; simp [uI]
    rw [q48]
    have xu : XU (uI σ 45 0 0 0) τ := (XU.u45 (by decide)).tr ⟨(t1.y (J := [0, 39, 48]) (by decide)).wk (by decide) (fun _ q => q), t2 2 (by decide)⟩
    refine H τ (hw.u xu (t3 _ _ (h0.sy sb rfl rfl)) ⟨q48, fun i hi2 => ?_⟩)
    have hi3 := hh.2 (i + 1) (by omega)
    rw [show 3 + (m + 1 - 1 - (i + 1)) = 3 + (m - 1 - i) by omega] at hi3
    exact (hi3.sy sb rfl rfl).kk t1 (by decide) (t2 _ (by omega))
  · rw [e48, show (0 : Int32) = nI 0 from rfl, nI_inj (by omega) (by omega)] at z
    have e : uUndo w = (-1, w) := by unfold uUndo; rw [if_pos z]
    rw [e] at H; exact H _ hw
theorem D_keep (hw : MWd σ w) (H : ∀ τ, MWd τ (uKeep w).2 → Q (some (iV (uKeep w).1)) τ) : R mj_OM (d + 1) mX11_keep Q 0 [some (rV 45 0)] [] σ := by
  have hw := hw.t
  refine bX11_keep_0 (M_copies (k := 2) (k2 := 0) (by decide) (by decide) (fun τ t1 t2 t3 => bX11_keep_11 ⟨vin (p := 0) (n := 1) (by omega) (by omega) (by decide), ?_⟩))
  obtain ⟨h1, h2, h3, h4, h5, h6, h7, h8, h9⟩ := hw
  have sb : SB [(45, 0)] τ (uI τ 45 0 47 1) := SB.uI (by simp)
  have m0 := h1.kk t1 (by decide) (t2 0 (by decide))
  have sy : SY kL [47] (uI σ 45 0 0 0) (uI τ 45 0 47 1) := (t1.y (J := [47]) (by decide)).tr (SY.u45 (by simp))
  rw [m0.2.2.2.1]
  refine H _ ⟨m0.sy sb rfl rfl, h2.keepY sy (by decide), by simp [uI]; rfl, fun _ => (t3 _ _ h1).sy sb rfl rfl, h5.kk sy.1 (by decide) (sy.2 48 (by decide)) (fun j hj => (t2 j (by omega)).tr (KS.of sb rfl j)), h6.keepY sy (by decide) (by decide), by rw [sy.2 33 (by decide), sy.2 34 (by decide)]; exact h7, by rw [sy.2 2 (by decide)]; exact h8, fun i hi => by rw [sy.1.i (by decide)]; exact h9 i hi⟩
theorem D_back (hw : MWd σ w) (H : ∀ τ, MWd τ (uBack w).2 → Q (some (iV (uBack w).1)) τ) : R mj_OM (d + 1) mX11_back Q 0 [some (rV 45 0)] [] σ := by
  have e47 := hw.2.2.1
  have hw := hw.t
  refine bX11_back_0 ⟨fun z => ?_, fun z => ?_⟩
  · have k : wk w = true := by
      cases e : wk w with
      | true => rfl
      | false => rw [e47, e] at z; exact absurd rfl z
    have e : uBack w = (wi w 0 0, wS w (wi w) 0 (wh w)) := by unfold uBack; rw [if_pos k]
    rw [e] at H
    refine M_copies (k := 0) (k2 := 2) (by decide) (by decide) (fun τ t1 t2 t3 => bX11_back_20 ⟨vin (p := 0) (n := 1) (by omega) (by omega) (by decide), ?_⟩)
    have m0 := t3 _ _ (hw.2.2.2.1 k)
    have sb : SB [(45, 0)] τ (uI τ 45 0 48 0) := SB.uI (by simp)
    rw [m0.2.2.2.1]
    have xu : XU (uI σ 45 0 0 0) (uI τ 45 0 48 0) := XU.tr ⟨(t1.y (J := [0, 39, 48]) (by decide)).wk (by decide) (fun _ q => q), t2 2 (by decide)⟩ (XU.u45 (by decide))
    exact H _ (hw.u xu (m0.sy sb rfl rfl) ⟨by simp [uI]; rfl, fun i hi => by omega⟩)
  · have k : ¬ wk w = true := fun e => by rw [e47, e] at z; exact absurd z (by decide)
    have e : uBack w = (-1, w) := by unfold uBack; rw [if_neg k]
    rw [e] at H; exact H _ hw
end Rx
