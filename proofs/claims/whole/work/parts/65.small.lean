/-! count, fault, feed -/
def gCount (w : WT) (x : Int32) : Int32 := if x = 0 then nI (wc w 0 0) else if x = 1 then nI (wc w 0 1) else if x = 2 then nI (wc w 0 2) else if x = 3 then nI (wc w 0 3) else if x = 4 then nI (wc w 0 4) else if x = 5 then nI (wc w 0 8) else if x = 6 then ws w 0 0 else if x = 7 then gSum (fun p => ws w 4 p) (wc w 0 0) else if x = 8 then nI (gBoats (wc w) (ws w) 1) else if x = 9 then nI (gBoats (wc w) (ws w) 2) else if x = 10 then gWait (wc w) (ws w) else if x = 11 then ws w 2 0 else if x = 12 then nI (gBits (ws w 3 0)) else if x = 13 then nI (wf w 0 0) else if x = 14 then nI (gKn (wf w)) else if x = 15 then nI (wn w) else -1
def gFault (w : WT) (x : Int32) : Int32 := if x = 0 then (wft w).1 else if x = 1 then (wft w).2 else -1
def fW (a b c d e : Int32) (k : Nat) : Int32 := if k < 4 then a else if k < 8 then b else if k < 12 then c else if k < 16 then d else e
def fB (v : Int32) (k : Nat) : Nat := (v.toBitVec.toNat / 2 ^ (24 - 8 * (k % 4))) % 256
def wT (w : WT) (n : Nat) (t : Nat → Nat) : WT := (w.1, w.2.1, w.2.2.1, w.2.2.2.1, w.2.2.2.2.1, w.2.2.2.2.2.1, (n, t))
def uFeed (w : WT) (a b c d e : Int32) : Int32 × WT := if 680 < wtn w then (-1, w) else (nI (wtn w + 20), wT w (wtn w + 20) (fun i => if i < wtn w then wtp w i else fB (fW a b c d e (i - wtn w)) (i - wtn w)))
section Ry
variable {d : Nat} {Q : Option MV → MS → Prop} {σ : MS} {w : WT} {x : Int32}
theorem C_count (hw : CW σ w) (hi : WI w) (H : Q (some (iV (gCount w x))) σ) : R mj_OC (d + 1) mX10_count Q 0 [some (rV 0 0), some (iV x)] [] σ := by
  obtain ⟨b, hk, h2, h3, h4, h5, h6, h7, h8, h9⟩ := id hw
  have V := hi.1
  have np := V.np
  have lb : σ.2.2 0 0 < 2 := by rw [hk.1]; exact hk.lt
  have C := hk.C
  obtain ⟨nx, _, n1, _⟩ := h5
  have eb := hk.1
  refine bX10_count_0 ⟨fun z => ⟨lb, ?_⟩, fun z0 => ⟨fun z => ⟨lb, ?_⟩, fun z1 => ⟨fun z => ⟨lb, ?_⟩, fun z2 => ⟨fun z => ⟨lb, ?_⟩, fun z3 => ⟨fun z => ⟨lb, ?_⟩, fun z4 => ⟨fun z => ⟨lb, ?_⟩, fun z5 => ⟨fun z => ?_, fun z6 => ⟨fun z => ⟨lb, ?_⟩, fun z7 => ⟨fun z => ?_, fun z8 => ⟨fun z => ?_, fun z9 => ⟨fun z => ?_, fun z10 => ⟨fun z => ?_, fun z11 => ⟨fun z => ?_, fun z12 => ⟨fun z => ?_, fun z13 => ⟨fun z => ?_, fun z14 => ⟨fun z => ?_, fun z15 => ?_⟩⟩⟩⟩⟩⟩⟩⟩⟩⟩⟩⟩⟩⟩⟩⟩
  · rw [eb, C.np]; rw [gCount, if_pos z] at H; exact H
  · rw [eb, C.nl]; rw [gCount, if_neg z0, if_pos z] at H; exact H
  · rw [eb, C.nk]; rw [gCount, if_neg z0, if_neg z1, if_pos z] at H; exact H
  · rw [eb, C.nt]; rw [gCount, if_neg z0, if_neg z1, if_neg z2, if_pos z] at H; exact H
  · rw [eb, C.nb]; rw [gCount, if_neg z0, if_neg z1, if_neg z2, if_neg z3, if_pos z] at H; exact H
  · rw [eb, C.no]; rw [gCount, if_neg z0, if_neg z1, if_neg z2, if_neg z3, if_neg z4, if_pos z] at H; exact H
  · rw [hk.2.mn]; rw [gCount, if_neg z0, if_neg z1, if_neg z2, if_neg z3, if_neg z4, if_neg z5, if_pos z] at H; exact H
  · rw [gCount, if_neg z0, if_neg z1, if_neg z2, if_neg z3, if_neg z4, if_neg z5, if_neg z6, if_pos z] at H
    rw [eb]
    refine bX0_allPonds_0 hk.lt (bX10_count_156 ?_)
    rw [C.np]
    refine S_waterOf hk.2 (bX10_count_159 ?_)
    have : gWaterOf (wc w) (ws w) (((1 : Int32) <<< (nI (wc w 0 0) &&& 31)) - 1) = gSum (fun p => ws w 4 p) (wc w 0 0) := gSum_congr _ (fun p hp => by rw [if_pos (by rw [bt_all (by omega) (by omega)]; simp [hp])])
    rw [this]; exact H
  · rw [gCount, if_neg z0, if_neg z1, if_neg z2, if_neg z3, if_neg z4, if_neg z5, if_neg z6, if_neg z7, if_pos z] at H
    exact S_boatsThatAre hk.2 (bX10_count_168 H)
  · rw [gCount, if_neg z0, if_neg z1, if_neg z2, if_neg z3, if_neg z4, if_neg z5, if_neg z6, if_neg z7, if_neg z8, if_pos z] at H
    exact S_boatsThatAre hk.2 (bX10_count_177 H)
  · rw [gCount, if_neg z0, if_neg z1, if_neg z2, if_neg z3, if_neg z4, if_neg z5, if_neg z6, if_neg z7, if_neg z8, if_neg z9, if_pos z] at H
    exact S_waitedByAll hk.2 (bX10_count_185 H)
  · rw [hk.2.tl]; rw [gCount, if_neg z0, if_neg z1, if_neg z2, if_neg z3, if_neg z4, if_neg z5, if_neg z6, if_neg z7, if_neg z8, if_neg z9, if_neg z10, if_pos z] at H; exact H
  · rw [gCount, if_neg z0, if_neg z1, if_neg z2, if_neg z3, if_neg z4, if_neg z5, if_neg z6, if_neg z7, if_neg z8, if_neg z9, if_neg z10, if_neg z11, if_pos z] at H
    have e := hi.2.1.2.2.2.2.num V
    rw [hk.2.jm, e.1]
    exact S_bitCount e.2 (bX10_count_204 H)
  · rw [h6.1]; rw [gCount, if_neg z0, if_neg z1, if_neg z2, if_neg z3, if_neg z4, if_neg z5, if_neg z6, if_neg z7, if_neg z8, if_neg z9, if_neg z10, if_neg z11, if_neg z12, if_pos z] at H; exact H
  · rw [gCount, if_neg z0, if_neg z1, if_neg z2, if_neg z3, if_neg z4, if_neg z5, if_neg z6, if_neg z7, if_neg z8, if_neg z9, if_neg z10, if_neg z11, if_neg z12, if_neg z13, if_pos z] at H
    exact S_knownCount hi.2.2.2.2.2.1 h6 (bX10_count_220 H)
  · rw [n1]; rw [gCount, if_neg z0, if_neg z1, if_neg z2, if_neg z3, if_neg z4, if_neg z5, if_neg z6, if_neg z7, if_neg z8, if_neg z9, if_neg z10, if_neg z11, if_neg z12, if_neg z13, if_neg z14, if_pos z] at H; exact H
  · rw [gCount, if_neg z0, if_neg z1, if_neg z2, if_neg z3, if_neg z4, if_neg z5, if_neg z6, if_neg z7, if_neg z8, if_neg z9, if_neg z10, if_neg z11, if_neg z12, if_neg z13, if_neg z14, if_neg z15] at H; exact H
theorem D_count (hw0 : MWd σ w) (hi : WI w) (H : ∀ τ, XQ σ τ → Q (some (iV (gCount w x))) τ) : R mj_OM (d + 1) mX11_count Q 0 [some (rV 45 0), some (iV x)] [] σ := by
  have H := H _ XQ.t
  obtain ⟨h1, h2, h3, h4, h5, h6, h7, h8, h9⟩ := hw0
  obtain ⟨g1, g2, g3, g4, g5, g6, g7, g8, g9⟩ := (show MWd σ w from ⟨h1, h2, h3, h4, h5, h6, h7, h8, h9⟩).t
  have V := hi.1
  have np := V.np
  have nb := V.nb
  have C := h1.2.1
  have v18 : ∀ k : Nat, k < 18 → vp_in (nI k) 18 := fun k hk => vin hk (by omega) (by decide)
  have v0 : vp_in (0 : Int32) 23 := vin (p := 0) (n := 1) (by omega) (by omega) (by decide)
  refine bX11_count_0 ⟨fun z => ⟨v18 0 (by omega), ?_⟩, fun z0 => ⟨fun z => ⟨v18 1 (by omega), ?_⟩, fun z1 => ⟨fun z => ⟨v18 2 (by omega), ?_⟩, fun z2 => ⟨fun z => ⟨v18 3 (by omega), ?_⟩, fun z3 => ⟨fun z => ⟨v18 4 (by omega), ?_⟩, fun z4 => ⟨fun z => ⟨v18 8 (by omega), ?_⟩, fun z5 => ⟨fun z => ⟨v0, ?_⟩, fun z6 => ⟨fun z => ?_, fun z7 => ⟨fun z => ?_, fun z8 => ⟨fun z => ?_, fun z9 => ⟨fun z => ?_, fun z10 => ⟨fun z => ⟨v0, ?_⟩, fun z11 => ⟨fun z => ⟨v0, ?_⟩, fun z12 => ⟨fun z => ?_, fun z13 => ⟨fun z => ?_, fun z14 => ⟨fun z => ?_, fun z15 => ?_⟩⟩⟩⟩⟩⟩⟩⟩⟩⟩⟩⟩⟩⟩⟩⟩
  · rw [C.np]; rw [gCount, if_pos z] at H; exact H
  · rw [C.nl]; rw [gCount, if_neg z0, if_pos z] at H; exact H
  · rw [C.nk]; rw [gCount, if_neg z0, if_neg z1, if_pos z] at H; exact H
  · rw [C.nt]; rw [gCount, if_neg z0, if_neg z1, if_neg z2, if_pos z] at H; exact H
  · rw [C.nb]; rw [gCount, if_neg z0, if_neg z1, if_neg z2, if_neg z3, if_pos z] at H; exact H
  · rw [C.no]; rw [gCount, if_neg z0, if_neg z1, if_neg z2, if_neg z3, if_neg z4, if_pos z] at H; exact H
  · rw [h1.2.2.2.1]; rw [gCount, if_neg z0, if_neg z1, if_neg z2, if_neg z3, if_neg z4, if_neg z5, if_pos z] at H; exact H
  · rw [gCount, if_neg z0, if_neg z1, if_neg z2, if_neg z3, if_neg z4, if_neg z5, if_neg z6, if_pos z] at H
    refine M_sumOf (kk := 74) (n := 161) (wide := 7) (slot := 0) rfl (by decide) (by omega) (by omega) (by omega) (bX11_count_145 ?_)
    have e5 := g1.2.2.2.2.2.2.2.1
    rw [gSum_ext (n := wc w 0 0) 7 (by omega) (fun j a1 a2 => by rw [e5 j a2, if_neg (by omega)]), gSum_congr (q := fun p => ws w 4 p) _ (fun j hj => by rw [e5 j (by omega), if_pos hj])]
    exact H
  · rw [gCount, if_neg z0, if_neg z1, if_neg z2, if_neg z3, if_neg z4, if_neg z5, if_neg z6, if_neg z7, if_pos z] at H
    exact M_boatsOf (k := 0) g1 (bX11_count_152 H)
  · rw [gCount, if_neg z0, if_neg z1, if_neg z2, if_neg z3, if_neg z4, if_neg z5, if_neg z6, if_neg z7, if_neg z8, if_pos z] at H
    exact M_boatsOf (k := 0) g1 (bX11_count_159 H)
  · rw [gCount, if_neg z0, if_neg z1, if_neg z2, if_neg z3, if_neg z4, if_neg z5, if_neg z6, if_neg z7, if_neg z8, if_neg z9, if_pos z] at H
    refine M_sumOf (kk := 76) (n := 184) (wide := 8) (slot := 0) rfl (by decide) (by omega) (by omega) (by omega) (bX11_count_171 ?_)
    have e7 := g1.2.2.2.2.2.2.2.2.2
    rw [gSum_ext (n := wc w 0 4) 8 (by omega) (fun j a1 a2 => by rw [e7 j a2, if_neg (by omega)]), gSum_congr (q := fun q => ws w 6 q) _ (fun j hj => by rw [e7 j (by omega), if_pos hj])]
    exact H
  · rw [h1.2.2.2.2.2.1]; rw [gCount, if_neg z0, if_neg z1, if_neg z2, if_neg z3, if_neg z4, if_neg z5, if_neg z6, if_neg z7, if_neg z8, if_neg z9, if_neg z10, if_pos z] at H; exact H
  · rw [gCount, if_neg z0, if_neg z1, if_neg z2, if_neg z3, if_neg z4, if_neg z5, if_neg z6, if_neg z7, if_neg z8, if_neg z9, if_neg z10, if_neg z11, if_pos z] at H
    have e := hi.2.1.2.2.2.2.num V
    rw [h1.2.2.2.2.2.2.1, e.1]
    exact M_bitsOf e.2 (bX11_count_188 H)
  · rw [h6.1]; rw [gCount, if_neg z0, if_neg z1, if_neg z2, if_neg z3, if_neg z4, if_neg z5, if_neg z6, if_neg z7, if_neg z8, if_neg z9, if_neg z10, if_neg z11, if_neg z12, if_pos z] at H; exact H
  · rw [gCount, if_neg z0, if_neg z1, if_neg z2, if_neg z3, if_neg z4, if_neg z5, if_neg z6, if_neg z7, if_neg z8, if_neg z9, if_neg z10, if_neg z11, if_neg z12, if_neg z13, if_pos z] at H
    exact M_knownMany hi.2.2.2.2.2.1 g6 (bX11_count_198 H)
  · rw [h5.1]; rw [gCount, if_neg z0, if_neg z1, if_neg z2, if_neg z3, if_neg z4, if_neg z5, if_neg z6, if_neg z7, if_neg z8, if_neg z9, if_neg z10, if_neg z11, if_neg z12, if_neg z13, if_neg z14, if_pos z] at H; exact H
  · rw [gCount, if_neg z0, if_neg z1, if_neg z2, if_neg z3, if_neg z4, if_neg z5, if_neg z6, if_neg z7, if_neg z8, if_neg z9, if_neg z10, if_neg z11, if_neg z12, if_neg z13, if_neg z14, if_neg z15] at H; exact H
theorem C_fault (hw : CW σ w) (H : Q (some (iV (gFault w x))) σ) : R mj_OC d mX10_fault Q 0 [some (rV 0 0), some (iV x)] [] σ := by
  obtain ⟨b, hk, h2, h3, h4, h5, h6, h7, h8, h9⟩ := hw
  refine bX10_fault_0 ⟨fun z => ?_, fun z0 => ⟨fun z => ?_, fun z1 => ?_⟩⟩
  · rw [h7.1]; rw [gFault, if_pos z] at H; exact H
  · rw [h7.2]; rw [gFault, if_neg z0, if_pos z] at H; exact H
  · rw [gFault, if_neg z0, if_neg z1] at H; exact H
theorem D_fault (hw : MWd σ w) (H : ∀ τ, XQ σ τ → Q (some (iV (gFault w x))) τ) : R mj_OM d mX11_fault Q 0 [some (rV 45 0), some (iV x)] [] σ := by
  have H := H _ XQ.t
  have h7 := hw.2.2.2.2.2.2.1
  refine bX11_fault_0 ⟨fun z0 => ⟨fun z1 => ?_, fun z => ?_⟩, fun z => ?_⟩
  · rw [gFault, if_neg z0, if_neg z1] at H; exact H
  · rw [h7.2]; rw [gFault, if_neg z0, if_pos z] at H; exact H
  · rw [h7.1]; rw [gFault, if_pos z] at H; exact H
theorem bt_shr (v : Int32) {k i : Nat} (hk : k < 32) (hi : k + i < 32) : bt (v >>> (nI k &&& 31)) i = bt v (k + i) := by
  have e : (v >>> (nI k &&& 31)).toBitVec = v.toBitVec.sshiftRight k := by
    rw [Int32.toBitVec_shiftRight]
    show v.toBitVec.sshiftRight (((nI k &&& 31).toBitVec.smod 32).toNat) = _
    rw [sh_k k hk]
  unfold bt
  rw [e, BitVec.getLsbD_sshiftRight]
  simp [hi]; omega
theorem byte_s (v : Int32) {k : Nat} (hk : k ≤ 24) : (v >>> (nI k &&& 31)) &&& 255 = nI ((v.toBitVec.toNat / 2 ^ k) % 256) := by
  refine bt_ext (fun i hi => ?_)
  rw [bt_and, bt_nI hi, show (256 : Nat) = 2 ^ 8 from rfl, Nat.testBit_mod_two_pow, Nat.testBit_div_two_pow, show (255 : Int32) = nI 255 from rfl, bt_nI hi]
  have e255 : Nat.testBit 255 i = decide (i < 8) := by
    rw [show 255 = 2 ^ 8 - 1 from rfl, Nat.testBit_two_pow_sub_one]
  rw [e255]
  by_cases g : i < 8
  · rw [bt_shr v (by omega) (by omega), bt_bits, Nat.add_comm]; simp [g]
  · simp [g]
theorem fB_lt (v : Int32) (k : Nat) : fB v k < 256 := Nat.mod_lt _ (by omega)
theorem S_append {n : Nat} {v : Int32} (hn : n + 4 ≤ 700) (h : σ.1 2 0 0 = nI n) (H : ∀ τ, SB [(2, 0), (12, 0)] σ τ → τ.1 2 0 0 = nI (n + 4) → (∀ i, i < n → τ.1 12 0 i = σ.1 12 0 i) → (∀ j, j < 4 → τ.1 12 0 (n + j) = nI (fB v j)) → Q none τ) : R mj_OC d mX9_append Q 0 [some (rV 2 0), some (iV v), none] [] σ := by
  have L : ∀ (r j : Nat) (φ : MS), j + r = 4 → SB [(2, 0), (12, 0)] σ φ → φ.1 2 0 0 = nI (n + j) → (∀ i, i < n → φ.1 12 0 i = σ.1 12 0 i) → (∀ i, i < j → φ.1 12 0 (n + i) = nI (fB v i)) → R mj_OC d mX9_append Q 3 [some (rV 2 0), some (iV v), some (iV (24 - nI (8 * j)))] [] φ := by
    intro r
    induction r with
    | zero =>
      intro j φ hj hb h1 h2 h3
      obtain rfl : j = 4 := by omega
      exact bX9_append_3 ⟨fun _ => H φ hb h1 h2 h3, fun z => absurd (by decide) z⟩
    | succ r ih =>
      intro j φ hj hb h1 h2 h3
      have ex : (24 : Int32) - nI (8 * j) = nI (24 - 8 * j) := pk_sub (a := 24) (by omega)
      refine bX9_append_3 ⟨fun z => ?_, fun _ => ⟨fun z => ?_, fun _ => ?_⟩⟩
      · rw [ex] at z; exact absurd z (nI_pos (by omega))
      · rw [h1, show (700 : Int32) = nI 700 from rfl, nI_le2 (by omega) (by omega)] at z; omega
      · rw [h1, nI_clamp (by omega), nI_1]
        have en : (24 : Int32) - nI (8 * j) + (-8) = 24 - nI (8 * (j + 1)) := by
          have : j = 0 ∨ j = 1 ∨ j = 2 ∨ j = 3 := by omega
          rcases this with rfl | rfl | rfl | rfl <;> decide
        have ev : (((v.toUInt32 >>> (((24 : Int32) - nI (8 * j)).toUInt32 &&& Int32.toUInt32 31)).toInt32) &&& (255 : Int32)) = nI (fB v j) := by
          rw [pk_and _ (m := 255) 8 (by decide)]
          have : j = 0 ∨ j = 1 ∨ j = 2 ∨ j = 3 := by omega
          rcases this with rfl | rfl | rfl | rfl
          · rw [pk_ushr v _ 24 (by decide)]; rfl
          · rw [pk_ushr v _ 16 (by decide)]; rfl
          · rw [pk_ushr v _ 8 (by decide)]; rfl
          · rw [pk_ushr v _ 0 (by decide)]; rfl
        rw [en, ev]
        refine ⟨vin (show n + j < 700 by omega) (Nat.le_refl _) (by decide), ih (j + 1) _ (by omega) (hb.tr ((SB.uI (by simp)).tr (SB.uI (by simp)))) (by simp [uI]; rfl) (fun i hi => ?_) (fun i hi => ?_)⟩
        · have : ¬ i = n + j := by omega
          simp [uI, this]; exact h2 i hi
        · by_cases e : i = j
          · subst e; simp [uI]
          · have : ¬ n + i = n + j := by omega
            simp [uI, e]; exact h3 i (by omega)
  exact bX9_append_0 (L 4 0 σ rfl SB.rf h (fun _ _ => rfl) (fun i hi => by omega))
theorem C_feed (hw : CW σ w) (hi : WI w) {x1 x2 x3 x4 x5 : Int32} (H : ∀ τ, CW τ (uFeed w x1 x2 x3 x4 x5).2 → Q (some (iV (uFeed w x1 x2 x3 x4 x5).1)) τ) : R mj_OC (d + 1) mX10_feed Q 0 [some (rV 0 0), some (iV x1), some (iV x2), some (iV x3), some (iV x4), some (iV x5), none] [] σ := by
  obtain ⟨b, hk, h2, h3, h4, h5, h6, h7, h8, h9⟩ := id hw
  have hn := hi.2.2.2.2.2.2.1
  have b01 : b = 0 ∨ b = 1 := by have := hk.lt; omega
  refine bX10_feed_0 (bX9_hasRoom_0 ?_)
  rw [h8, show (20 : Int32) = nI 20 from rfl, nI_add, show (700 : Int32) = nI 700 from rfl, nI_ltI (by omega) (by omega)]
  refine ⟨fun z => bX10_feed_14 ⟨fun q => absurd rfl q, fun _ => ?_⟩, fun z => bX10_feed_14 ⟨fun _ => ?_, fun q => absurd q (by decide)⟩⟩
  · have e : uFeed w x1 x2 x3 x4 x5 = (-1, w) := by unfold uFeed; rw [if_pos (by omega)]
    rw [e] at H; exact H σ hw
  have e : uFeed w x1 x2 x3 x4 x5 = (nI (wtn w + 20), wT w (wtn w + 20) (fun i => if i < wtn w then wtp w i else fB (fW x1 x2 x3 x4 x5 (i - wtn w)) (i - wtn w))) := by unfold uFeed; rw [if_neg (by omega)]
  rw [e] at H
  generalize hN : wtn w = N at *
  refine S_append (n := N) (by omega) h8 (fun a a1 a2 a3 a4 => bX10_feed_25 ?_)
  refine S_append (n := N + 4) (by omega) a2 (fun b' b1 b2 b3 b4 => bX10_feed_31 ?_)
  refine S_append (n := N + 8) (by omega) b2 (fun c' c1 c2 c3 c4 => bX10_feed_37 ?_)
  refine S_append (n := N + 12) (by omega) c2 (fun d' d1 d2 d3 d4 => bX10_feed_44 ?_)
  refine S_append (n := N + 16) (by omega) d2 (fun f f1 f2 f3 f4 => bX10_feed_51 ?_)
  rw [f2]
  have sb : SB [(2, 0), (12, 0)] σ f := (((a1.tr b1).tr c1).tr d1).tr f1
  have sx := sb.x
  refine H f ⟨b, ⟨by rw [sb.2]; exact hk.1, hk.2.keep sb rfl (by decide)⟩, by rw [sb.2]; exact h2, by rw [sb.i (by decide)]; exact h3, fun k => (h4 k).keep sb rfl (by decide), h5.keep sx (by decide), h6.keep sx (by decide), ⟨by rw [sb.i (by decide)]; exact h7.1, by rw [sb.i (by decide)]; exact h7.2⟩, f2, fun i hi2 => ?_⟩
  have hi3 : i < N + 20 := hi2
  show f.1 12 0 i = nI (if i < N then wtp w i else fB (fW x1 x2 x3 x4 x5 (i - N)) (i - N))
  by_cases g : i < N
  · rw [if_pos g, f3 i (by omega), d3 i (by omega), c3 i (by omega), b3 i (by omega), a3 i (by omega)]
    exact h9 i g
  · rw [if_neg g]
    obtain ⟨k, rfl⟩ : ∃ k, i = N + k := ⟨i - N, by omega⟩
    rw [show N + k - N = k by omega]
    have fb : ∀ (v : Int32) (q j : Nat), fB v (4 * q + j) = fB v j := fun v q j => by unfold fB; rw [show (4 * q + j) % 4 = j % 4 by omega]
    have k5 : k < 4 ∨ (4 ≤ k ∧ k < 8) ∨ (8 ≤ k ∧ k < 12) ∨ (12 ≤ k ∧ k < 16) ∨ (16 ≤ k ∧ k < 20) := by omega
    rcases k5 with g | g | g | g | g
    · rw [fW, if_pos g, f3 _ (by omega), d3 _ (by omega), c3 _ (by omega), b3 _ (by omega), a4 k g]
    · obtain ⟨j, rfl⟩ : ∃ j, k = 4 * 1 + j := ⟨k - 4, by omega⟩
      rw [fW, if_neg (by omega), if_pos (by omega), fb, f3 _ (by omega), d3 _ (by omega), c3 _ (by omega), show N + (4 * 1 + j) = N + 4 + j by omega, b4 j (by omega)]
    · obtain ⟨j, rfl⟩ : ∃ j, k = 4 * 2 + j := ⟨k - 8, by omega⟩
      rw [fW, if_neg (by omega), if_neg (by omega), if_pos (by omega), fb, f3 _ (by omega), d3 _ (by omega), show N + (4 * 2 + j) = N + 8 + j by omega, c4 j (by omega)]
    · obtain ⟨j, rfl⟩ : ∃ j, k = 4 * 3 + j := ⟨k - 12, by omega⟩
      rw [fW, if_neg (by omega), if_neg (by omega), if_neg (by omega), if_pos (by omega), fb, f3 _ (by omega), show N + (4 * 3 + j) = N + 12 + j by omega, d4 j (by omega)]
    · obtain ⟨j, rfl⟩ : ∃ j, k = 4 * 4 + j := ⟨k - 16, by omega⟩
      rw [fW, if_neg (by omega), if_neg (by omega), if_neg (by omega), if_neg (by omega), fb, show N + (4 * 4 + j) = N + 16 + j by omega, f4 j (by omega)]
theorem D_feed (hw : MWd σ w) (hi : WI w) {x1 x2 x3 x4 x5 : Int32} (H : ∀ τ, MWd τ (uFeed w x1 x2 x3 x4 x5).2 → Q (some (iV (uFeed w x1 x2 x3 x4 x5).1)) τ) : R mj_OM d mX11_feed Q 0 [some (rV 45 0), some (iV x1), some (iV x2), some (iV x3), some (iV x4), some (iV x5), none, none] [] σ := by
  have e2 := hw.2.2.2.2.2.2.2.1
  have hw := hw.t
  have hn := hi.2.2.2.2.2.2.1
  refine bX11_feed_0 ?_
  rw [e2, show (680 : Int32) = nI 680 from rfl, nI_le2 (by omega) (by omega)]
  refine ⟨fun z => ?_, fun z => ?_⟩
  · have e : uFeed w x1 x2 x3 x4 x5 = (nI (wtn w + 20), wT w (wtn w + 20) (fun i => if i < wtn w then wtp w i else fB (fW x1 x2 x3 x4 x5 (i - wtn w)) (i - wtn w))) := by unfold uFeed; rw [if_neg (by omega)]
    rw [e] at H
    have L : ∀ (r k : Nat) (φ : MS), k + r = 20 → SB [(46, 0)] (uI σ 45 0 0 0) φ → (∀ i, i < wtn w → φ.1 46 0 i = nI (wtp w i)) → (∀ j, j < k → φ.1 46 0 (wtn w + j) = nI (fB (fW x1 x2 x3 x4 x5 j) j)) → R mj_OM d mX11_feed Q 20 [some (rV 45 0), some (iV x1), some (iV x2), some (iV x3), some (iV x4), some (iV x5), some (iV (nI k)), none] [] φ := by
      intro r
      induction r with
      | zero =>
        intro k φ hk hb ht hv
        obtain rfl : k = 20 := by omega
        have q2 : φ.1 45 0 2 = nI (wtn w) := by rw [hb.i (by simp)]; exact hw.2.2.2.2.2.2.2.1
        refine bX11_feed_20 ⟨fun _ => ?_, fun z => absurd (by decide) z⟩
        rw [q2, show (20 : Int32) = nI 20 from rfl, nI_add]
        obtain ⟨g1, g2, g3, g4, g5, g6, g7, g8, g9⟩ := hw
        have sy : SY [(46, 0)] [2] (uI σ 45 0 0 0) (uI φ 45 0 2 (nI (wtn w + 20))) := (hb.y (J := [2]) (by simp)).tr (SY.u45 (by simp))
        have ks : ∀ j, KS (uI σ 45 0 0 0) (uI φ 45 0 2 (nI (wtn w + 20))) j := fun j => KS.of sy.1 rfl j
        refine H _ ⟨g1.kk sy.1 (by decide) (ks 0), g2.keepY sy (by decide), by rw [sy.2 47 (by decide)]; exact g3, fun k => (g4 k).kk sy.1 (by decide) (ks 2), g5.kk sy.1 (by decide) (sy.2 48 (by decide)) (fun j _ => ks j), g6.keepY sy (by decide) (by decide), ⟨by rw [sy.2 33 (by decide)]; exact g7.1, by rw [sy.2 34 (by decide)]; exact g7.2⟩, by simp [uI]; rfl, fun i hi2 => ?_⟩
        have hi3 : i < wtn w + 20 := hi2
        have e46 : (uI φ 45 0 2 (nI (wtn w + 20))).1 46 0 i = φ.1 46 0 i := by simp [uI]
        rw [e46]
        show φ.1 46 0 i = nI (if i < wtn w then wtp w i else fB (fW x1 x2 x3 x4 x5 (i - wtn w)) (i - wtn w))
        by_cases g : i < wtn w
        · rw [if_pos g]; exact ht i g
        · rw [if_neg g]
          have := hv (i - wtn w) (by omega)
          rw [show wtn w + (i - wtn w) = i by omega] at this
          exact this
      | succ r ih =>
        intro k φ hk hb ht hv
        have q2 : φ.1 45 0 2 = nI (wtn w) := by rw [hb.i (by simp)]; exact hw.2.2.2.2.2.2.2.1
        have em : nI k - nI k / (4 : Int32) * 4 = nI (k % 4) := pk_rem (d := 4) (by omega) (by omega) (by omega)
        have es : (24 : Int32) - (8 : Int32) * nI (k % 4) = nI (24 - 8 * (k % 4)) := by
          rw [show (8 : Int32) = nI 8 from rfl, pk_mul]; exact pk_sub (a := 24) (by omega)
        have go : ∀ v, v = fW x1 x2 x3 x4 x5 k → vp_in (φ.1 45 0 2 + nI k) 700 ∧ R mj_OM d mX11_feed Q 20 [some (rV 45 0), some (iV x1), some (iV x2), some (iV x3), some (iV x4), some (iV x5), some (iV (nI k + (1 : Int32))), none] [] (uI φ 46 0 ((φ.1 45 0 2 + nI k).toNatClampNeg) ((v >>> (((24 : Int32) - ((8 : Int32) * (nI k - nI k / (4 : Int32) * (4 : Int32)))) &&& 31)) &&& (255 : Int32))) := by
          intro v ev
          rw [em, es, byte_s v (by omega), q2, nI_add, nI_clamp (by omega), nI_1]
          refine ⟨vin (show wtn w + k < 700 by omega) (Nat.le_refl _) (by decide), ih (k + 1) _ (by omega) (hb.tr (SB.uI (by simp))) (fun i hi2 => ?_) (fun j hj => ?_)⟩
          · have : ¬ i = wtn w + k := by omega
            simp [uI, this]; exact ht i hi2
          · by_cases e : j = k
            · subst e; rw [← ev]; simp [uI, fB]
            · simp [uI, e]; exact hv j (by omega)
        have le : ∀ m : Nat, m ≤ 2000 → ((nI m ≤ nI k) ↔ m ≤ k) := fun m hm => nI_le2 hm (by omega)
        refine bX11_feed_20 ⟨fun z => ?_, fun _ => ⟨fun a4 => ⟨fun a8 => ⟨fun a12 => ⟨fun a16 => go x5 ?_, fun a16 => go x4 ?_⟩, fun a12 => go x3 ?_⟩, fun a8 => go x2 ?_⟩, fun a4 => go x1 ?_⟩⟩
        · rw [show (20 : Int32) = nI 20 from rfl, le 20 (by omega)] at z; omega
        · rw [show (16 : Int32) = nI 16 from rfl, le 16 (by omega)] at a16
          rw [fW, if_neg (by omega), if_neg (by omega), if_neg (by omega), if_neg (by omega)]
        · rw [show (16 : Int32) = nI 16 from rfl, le 16 (by omega)] at a16
          rw [show (12 : Int32) = nI 12 from rfl, le 12 (by omega)] at a12
          rw [fW, if_neg (by omega), if_neg (by omega), if_neg (by omega), if_pos (by omega)]
        · rw [show (12 : Int32) = nI 12 from rfl, le 12 (by omega)] at a12
          rw [show (8 : Int32) = nI 8 from rfl, le 8 (by omega)] at a8
          rw [fW, if_neg (by omega), if_neg (by omega), if_pos (by omega)]
        · rw [show (8 : Int32) = nI 8 from rfl, le 8 (by omega)] at a8
          rw [show (4 : Int32) = nI 4 from rfl, le 4 (by omega)] at a4
          rw [fW, if_neg (by omega), if_pos (by omega)]
        · rw [show (4 : Int32) = nI 4 from rfl, le 4 (by omega)] at a4
          rw [fW, if_pos (by omega)]
    exact L 20 0 _ rfl SB.rf (fun i hi2 => by simp [uI]; exact hw.2.2.2.2.2.2.2.2 i hi2) (fun j hj => by omega)
  · have e : uFeed w x1 x2 x3 x4 x5 = (-1, w) := by unfold uFeed; rw [if_pos (by omega)]
    rw [e] at H; exact H _ hw
theorem uFeed_wi (h : WI w) {x1 x2 x3 x4 x5 : Int32} : WI (uFeed w x1 x2 x3 x4 x5).2 := by
  unfold uFeed
  split
  · exact h
  · rename_i g
    obtain ⟨V, o, im, hn, hh, hf, ht, hb⟩ := h
    refine ⟨V, o, im, hn, hh, hf, by show wtn w + 20 ≤ 700; omega, fun i hi => ?_⟩
    show (if i < wtn w then wtp w i else fB (fW x1 x2 x3 x4 x5 (i - wtn w)) (i - wtn w)) < 256
    split
    · rename_i q; exact hb i q
    · exact fB_lt _ _
end Ry
