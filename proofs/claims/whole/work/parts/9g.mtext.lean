/-! the reference reads a text -/
theorem mLn_hF {c : CA} (V : CV c) {f j : Nat} (h : j < mLn c f) : j < hF f := by
  have f20 := mLn_f h
  have a0 := V.np
  have a1 := V.nl
  have a2 := V.nk
  have a3 := V.nt
  have a4 := V.nb
  have a8 := V.no
  rcases (show f = 0 ∨ f = 1 ∨ f = 2 ∨ f = 3 ∨ f = 4 ∨ f = 5 ∨ f = 6 ∨ f = 7 ∨ f = 8 ∨ f = 9 ∨ f = 10 ∨ f = 11 ∨ f = 12 ∨ f = 13 ∨ f = 14 ∨ f = 15 ∨ f = 16 ∨ f = 17 ∨ f = 18 ∨ f = 19 ∨ f = 20 by omega) with rfl | rfl | rfl | rfl | rfl | rfl | rfl | rfl | rfl | rfl | rfl | rfl | rfl | rfl | rfl | rfl | rfl | rfl | rfl | rfl | rfl
  · exact h
  · exact Nat.lt_of_lt_of_le h a0
  · exact Nat.lt_of_lt_of_le h a0
  · exact Nat.lt_of_lt_of_le h a0
  · exact Nat.lt_of_lt_of_le h a0
  · exact Nat.lt_of_lt_of_le h a0
  · exact Nat.lt_of_lt_of_le h a1
  · exact Nat.lt_of_lt_of_le h a1
  · exact Nat.lt_of_lt_of_le h a1
  · exact Nat.lt_of_lt_of_le h a2
  · exact Nat.lt_of_lt_of_le h a2
  · exact Nat.lt_of_lt_of_le h a2
  · exact Nat.lt_of_lt_of_le h a3
  · exact Nat.lt_of_lt_of_le h a3
  · exact Nat.lt_of_lt_of_le h a3
  · exact Nat.lt_of_lt_of_le h a4
  · exact Nat.lt_of_lt_of_le h a4
  · exact h
  · exact h
  · exact Nat.lt_of_lt_of_le h a8
  · exact Nat.lt_of_lt_of_le h a8
/-- a text's reading changes nothing that the world keeps -/
def FX (σ τ : MS) : Prop := SB rmL σ τ ∧ (∀ f j, f ≤ 20 → j < hF f → τ.1 (47 + f) 0 j = σ.1 (47 + f) 0 j) ∧ ∀ j, ¬ (24 ≤ j ∧ j ≤ 36) → j ≠ 0 → j ≠ 2 → τ.1 45 0 j = σ.1 45 0 j
theorem FX.rf {σ : MS} : FX σ σ := ⟨SB.rf, fun _ _ _ _ => rfl, fun _ _ _ _ => rfl⟩
theorem FX.tr {σ τ υ : MS} (a : FX σ τ) (b : FX τ υ) : FX σ υ := ⟨a.1.tr b.1, fun f j h1 h2 => (b.2.1 f j h1 h2).trans (a.2.1 f j h1 h2), fun j h1 h2 h3 => (b.2.2 j h1 h2 h3).trans (a.2.2 j h1 h2 h3)⟩
theorem XR.fx {σ τ : MS} (h : XR σ τ) : FX σ τ := ⟨h.1, h.2.1, fun j h1 h2 h3 => h.2.2 j (by omega) (by omega) (by omega)⟩
theorem FX.u45 {σ : MS} {j : Nat} {v : Int32} (hj : (24 ≤ j ∧ j ≤ 36) ∨ j = 0 ∨ j = 2) : FX σ (uI σ 45 0 j v) := ⟨SB.uI (by decide), fun f i _ _ => by simp [uI]; intro e; omega, fun i h1 h2 h3 => by simp [uI]; intro e; omega⟩
theorem FX.mb {σ τ : MS} {k : Nat} {c : CA} {s : SA} (fx : FX σ τ) (h : MB σ k c s) : MB τ k c s := ⟨h.1, fun f j hj hn => by rw [fx.2.1 f j (mLn_f hj) (mLn_hF h.2.2.1 hj)]; exact h.2.1 f j hj hn, h.2.2.1, h.2.2.2.keep fx.1 (by decide)⟩
theorem FX.w {σ τ : MS} {w : WT} (fx : FX σ τ) (h : MWd σ w) {f p : Int32} (h1 : τ.1 45 0 33 = f) (h2 : τ.1 45 0 34 = p) (h3 : τ.1 45 0 2 = 0) : MWd τ (wF w f p) := by
  obtain ⟨a1, a2, a3, a4, a5, a6, a7, a8, a9⟩ := h
  have e : ∀ k j, (k, 0) ∉ rmL → τ.1 k 0 j = σ.1 k 0 j := fun k j hk => fx.1.i hk j
  have e45 := fx.2.2
  refine ⟨fx.mb a1, ⟨by rw [e45 49 (by omega) (by omega) (by omega)]; exact a2.1, a2.2.1, fun z => absurd z (by decide), by rw [e45 51 (by omega) (by omega) (by omega)]; exact a2.2.2.2.1, fun p z => by simp [md0] at z⟩, by rw [e45 47 (by omega) (by omega) (by omega)]; exact a3, fun k => fx.mb (a4 k), ⟨by rw [e45 48 (by omega) (by omega) (by omega)]; exact a5.1, fun i hi => fx.mb (a5.2 i hi)⟩, ?_, ⟨h1, h2⟩, h3, fun i hi => absurd (show i < 0 from hi) (Nat.not_lt_zero _)⟩
  unfold FMR
  rw [e45 61 (by omega) (by omega) (by omega), e45 62 (by omega) (by omega) (by omega)]
  refine ⟨a6.1, a6.2.1, fun i hi => ?_⟩
  rw [e 84 i (by decide), e 80 i (by decide), e 81 i (by decide), e 82 i (by decide), e 83 i (by decide)]
  exact a6.2.2 i hi
section Rf
variable {d : Nat} {Q : Option MV → MS → Prop} {σ φ : MS} {t : Nat → Nat} {n T : Nat} {s : CA}
theorem M_half {k0 h2 : Nat} (hk : mj_sch k0 = .inr (0, 2 * h2)) (gk : (k0, 0) ∈ mj_OM) (hb : h2 ≤ 64) (H : ∀ τ : MS, SB [(k0, 0)] σ τ → (∀ j, j < h2 → τ.1 k0 0 j = σ.1 k0 0 (h2 + j)) → (∀ j, h2 ≤ j → τ.1 k0 0 j = σ.1 k0 0 j) → Q none τ) : R mj_OM d mX11_half Q 0 [some (rV k0 0), none, none] [] σ := by
  have L : ∀ (m i : Nat) (τ : MS), i + m = h2 → SB [(k0, 0)] σ τ → (∀ j, j < i → τ.1 k0 0 j = σ.1 k0 0 (h2 + j)) → (∀ j, i ≤ j → τ.1 k0 0 j = σ.1 k0 0 j) → R mj_OM d mX11_half Q 7 [some (rV k0 0), some (iV (nI h2)), some (iV (nI i))] [] τ := by
    intro m
    induction m with
    | zero =>
      intro i τ hi h1 h3 h4
      obtain rfl : i = h2 := by omega
      exact bX11_half_7 hk gk ⟨fun _ => H τ h1 h3 h4, fun z => absurd (Int32.le_refl _) z⟩
    | succ m ih =>
      intro i τ hi h1 h3 h4
      refine bX11_half_7 hk gk ⟨fun z => ?_, fun _ => ?_⟩
      · rw [nI_le2 (by omega) (by omega)] at z; omega
      · rw [nI_add, cl (show h2 + i < 2 * h2 by omega) (by omega), cl (show i < 2 * h2 by omega) (by omega), nI_1]
        refine ⟨vin (show h2 + i < 2 * h2 by omega) (Nat.le_refl _) (by omega), vin (show i < 2 * h2 by omega) (Nat.le_refl _) (by omega), ih (i + 1) _ (by omega) (h1.tr (SB.uI (by simp))) (fun j hj => ?_) (fun j hj => ?_)⟩
        · by_cases e : j = i
          · subst e
            simp [uI]
            exact h4 _ (by omega)
          · simp [uI, e]; exact h3 j (by omega)
        · have : ¬ j = i := by omega
          simp [uI, this]; exact h4 j (by omega)
  refine bX11_half_0 hk gk ?_
  rw [show Int32.ofNat (2 * h2) / (2 : Int32) = nI h2 from by
    rw [show Int32.ofNat (2 * h2) / (2 : Int32) = nI (2 * h2) / nI 2 from rfl, pk_div (by omega) (by omega) (by omega)]
    congr 1; omega]
  exact L h2 0 σ (by omega) SB.rf (fun j hj => by omega) (fun _ _ => rfl)
/-- the first m rows are halved -/
def HV (m : Nat) (σ φ : MS) : Prop := SB rmL.tail σ φ ∧ (∀ f j, f < m → j < hF f → φ.1 (47 + f) 0 j = σ.1 (47 + f) 0 (hF f + j)) ∧ ∀ f j, m ≤ f → φ.1 (47 + f) 0 j = σ.1 (47 + f) 0 j
theorem HV.z : HV 0 σ σ := ⟨SB.rf, fun f j h => absurd h (Nat.not_lt_zero _), fun _ _ _ => rfl⟩
theorem hF_64 : ∀ f, hF f ≤ 64 := fun f => by
  unfold hF
  repeat' split
  all_goals omega
theorem M_hv (m : Nat) (hm : m ≤ 20) (hk : mj_sch (47 + m) = .inr (0, 2 * hF m)) (h : HV m σ φ) (H : ∀ τ, HV (m + 1) σ τ → Q none τ) : R mj_OM d mX11_half Q 0 [some (rV (47 + m) 0), none, none] [] φ := by
  have gk : (47 + m, 0) ∈ mj_OM := by
    have : ∀ g : Fin 21, (47 + g.val, 0) ∈ mj_OM := by decide
    exact this ⟨m, by omega⟩
  have gt : (47 + m, 0) ∈ rmL.tail := by
    have : ∀ g : Fin 21, (47 + g.val, 0) ∈ rmL.tail := by decide
    exact this ⟨m, by omega⟩
  refine M_half hk gk (hF_64 m) (fun τ h1 h2 h3 => H τ ⟨h.1.tr (h1.wk (fun x hx => by simp at hx; subst hx; exact gt)), fun f j hf hj => ?_, fun f j hf => ?_⟩)
  · by_cases e : f = m
    · subst e
      rw [h2 j hj, h.2.2 f _ (Nat.le_refl _)]
    · rw [h1.i (by simp; omega)]
      exact h.2.1 f j (by omega) hj
  · rw [h1.i (by simp; omega)]
    exact h.2.2 f j (by omega)
def mTA (D : Nat) (Q : Option MV → MS → Prop) (x1 x2 : Int32) (τ : MS) : Prop := (τ.1 45 0 31 = 0 → R mj_OM (D + 1 + 1) mX11_half (fun r σ' => R mj_OM (D + 1 + 1 + 1) mX11_text Q 171 [some (rV 45 0), some (iV x1), some (iV x2)] (r.toList ++ []) σ') 0 [some (rV 47 0), none, none] [] (uI (uI τ 45 0 33 (τ.1 45 0 31)) 45 0 34 (τ.1 45 0 32))) ∧ (¬ τ.1 45 0 31 = 0 → Q (some (iV (-1 : Int32))) (uI (uI τ 45 0 33 (τ.1 45 0 31)) 45 0 34 (τ.1 45 0 32)))
theorem M_readLoop {D : Nat} {x1 x2 : Int32} (hT : TF t n T) (hD : 160 ≤ D) : ∀ (m : Nat) (s : CA) (σ : MS), (s 30 1 = 0 → T - s 30 0 ≤ m) → MEn t n σ s → (s 30 1 = 0 → LI s ∧ LT s) → (∀ τ, XR σ τ → MEn t n τ (pRead t n m s) → mTA D Q x1 x2 τ) → R mj_OM (D + 1 + 1 + 1) mX11_text Q 117 [some (rV 45 0), some (iV x1), some (iV x2)] [] σ := by
  intro m
  induction m with
  | zero =>
    intro s σ hm h hL H
    refine bX11_text_117 ⟨fun _ => H σ XR.rf h, fun y => ?_⟩
    have hf := h.z.mp y
    have so := ((h.2 hf).2.2.2 hf).1.so
    have k37 : kd t n s = 37 := by
      show tK t n (s 30 0) = 37
      unfold tK
      rw [if_neg (by have := hm hf; rw [hT.ge _ (show T ≤ s 30 0 by omega)]; omega)]
    exact ⟨fun _ => H σ XR.rf h, fun z => absurd (so.2.2.2.2.mpr k37) z⟩
  | succ m ih =>
    intro s σ hm h hL H
    by_cases hf : s 30 1 = 0
    · have y := h.z.mpr hf
      have hM := h.2 hf
      have so := (hM.2.2.2 hf).1.so
      rw [pRead, if_pos hf] at H
      refine bX11_text_117 ⟨fun z => absurd y z, fun _ => ⟨fun z => ?_, fun z => ?_⟩⟩
      · have k37 : kd t n s = 37 := so.2.2.2.2.mp z
        rw [if_pos k37] at H
        exact H σ XR.rf h
      · have k37 : ¬ kd t n s = 37 := fun e => z (so.2.2.2.2.mpr e)
        rw [if_neg k37] at H
        obtain ⟨l1, l2⟩ := hL hf
        refine M_line hT hM hf l1 l2 hD (fun τ h1 h2 => bX11_text_136 (ih _ τ (fun q => ?_) h2 (fun q => ⟨LI_line hT s hf l1 q, (pt_line hT hf q).2 l2⟩) (fun υ u1 u2 => H υ (h1.tr u1) u2)))
        have := hm hf
        have := (pt_line hT hf q).1
        omega
    · have y : ¬ σ.1 45 0 31 = 0 := fun e => hf (h.z.mp e)
      rw [pRead_f hf] at H
      exact bX11_text_117 ⟨fun _ => H σ XR.rf h, fun z => absurd z y⟩
theorem LT.z : LT pZ := ⟨rfl, fun r _ => ⟨Nat.zero_le _, fun h => absurd h (by show ¬ (0 : Nat) = 1; omega), fun h => absurd h (Nat.lt_irrefl _)⟩⟩
theorem D_text {D : Nat} {w : WT} {x : Int32} (hD : 160 ≤ D) (hw : MWd σ w) (hi : WI w) (H : ∀ τ, MWd τ (uText w x).2 → Q (some (iV (uText w x).1)) τ) : R mj_OM (D + 1 + 1 + 1) mX11_text Q 0 [some (rV 45 0), some (iV x), none] [] σ := by
  obtain ⟨_, _, _, _, _, _, ht, hB⟩ := id hi
  have e2 : σ.1 45 0 2 = nI (wtn w) := hw.2.2.2.2.2.2.2.1
  have e46 := hw.2.2.2.2.2.2.2.2
  have no : uText w x = (-2, w) → Q (some (iV (-2))) (uI σ 45 0 0 0) := fun e => by have := H _ (by rw [e]; exact hw.t); rw [e] at this; exact this
  refine bX11_text_0 ⟨fun z => no (by unfold uText; rw [if_pos (Or.inl z)]), fun z0 => ⟨fun z1 => ?_, fun z => no (by unfold uText; rw [e2] at z; rw [if_pos (Or.inr z)])⟩⟩
  rw [e2] at z1
  obtain ⟨n, hn, rfl⟩ := nI_of2 (M := nI (wtn w)) (n := wtn w) (by rw [nI_toInt (by omega)]) z0 z1
  have eu : uText w (nI n) = if (pRead (wtp w) n 700 pZ) 30 1 = 0 then (nI ((pRead (wtp w) n 700 pZ) 30 8), wNew w (pRead (wtp w) n 700 pZ)) else (-1, wF w (nI ((pRead (wtp w) n 700 pZ) 30 1)) (nI ((pRead (wtp w) n 700 pZ) 30 2))) := by
    unfold uText
    rw [if_neg (fun g => g.elim z0 (fun g => g z1)), nI_clamp (by omega)]
  rw [eu] at H
  obtain ⟨T, hT⟩ := TF.ex (t := wtp w) (n := n) (by omega)
  -- behind the beginning
  have L3 : ∀ (x2 : Int32) (φ : MS), FX σ φ → (φ.1 45 0 26 = nI n ∧ φ.1 45 0 2 = 0 ∧ φ.1 45 0 27 = 0 ∧ φ.1 45 0 31 = 0 ∧ φ.1 45 0 32 = -1) → (∀ j, j < 9 → φ.1 47 0 (9 + j) = 0) → (∀ j, j < 3 → φ.1 64 0 (3 + j) = 0 ∧ φ.1 65 0 (3 + j) = 0) → (φ.1 45 0 24 = 0 ∧ φ.1 45 0 25 = 0 ∧ φ.1 45 0 35 = 0 ∧ φ.1 45 0 36 = 0) → R mj_OM (D + 1 + 1) mX11_token (fun r σ' => R mj_OM (D + 1 + 1 + 1) mX11_text Q 117 [some (rV 45 0), some (iV (nI n)), some (iV x2)] (r.toList ++ []) σ') 0 [some (rV 45 0), none] [] φ := fun x2 φ fx c9 c47 c64 c24 => by
    obtain ⟨D, rfl⟩ : ∃ D', D = D' + 1 + 1 + 1 := ⟨D - 3, by omega⟩
    have hby : MBy φ (wtp w) n := fun i hi' => ⟨by rw [fx.1.i (by decide)]; exact e46 i (by omega), hB i (by omega)⟩
    refine M_token (k := 0) (by omega) hby c9.1 c9.2.2.1 (fun τ h1 h2 => ?_)
    have k : ∀ c j, c ≠ 45 → τ.1 c 0 j = φ.1 c 0 j := fun c j hc => h1.1.i (by simp [hc]) j
    have q : ∀ j, ¬ (27 ≤ j ∧ j ≤ 30) → τ.1 45 0 j = φ.1 45 0 j := h1.2
    have hM : MRd (wtp w) n τ pZ := by
      refine ⟨⟨by rw [q 26 (by omega)]; exact c9.1, hby.keep h1, by omega⟩, ⟨by rw [q 31 (by omega)]; exact c9.2.2.2.1, Nat.zero_le _, fun z => absurd rfl z, fun _ => by rw [q 32 (by omega)]; exact c9.2.2.2.2⟩, ⟨fun j hj => by rw [k 47 _ (by omega)]; exact c47 j (by omega), by rw [k 47 17 (by omega)]; exact c47 8 (by omega), Nat.zero_le _, Nat.zero_le _, Nat.zero_le _, Nat.zero_le _, Nat.zero_le _, Nat.zero_le _⟩, fun _ => ⟨h2, fun f j hj hf => ?_, ⟨by rw [k 47 15 (by omega)]; exact c47 6 (by omega), by rw [k 47 16 (by omega)]; exact c47 7 (by omega)⟩, ⟨?_, fun j _ _ => Nat.zero_le _⟩, by rw [q 25 (by omega)]; exact c24.2.1, by rw [q 35 (by omega)]; exact c24.2.2.1, by rw [q 36 (by omega)]; exact c24.2.2.2, by rw [k 47 14 (by omega)]; exact c47 5 (by omega)⟩⟩
      · have f20 := mLn_f hj
        by_cases f16 : f ≤ 16
        · rw [mLn_o f (by omega) f16] at hj
          exact absurd hj (Nat.not_lt_zero _)
        · rcases (show f = 17 ∨ f = 18 ∨ f = 19 ∨ f = 20 by omega) with rfl | rfl | rfl | rfl
          · rw [k (47 + 17) _ (by omega)]; exact (c64 j hj).1
          · rw [k (47 + 18) _ (by omega)]; exact (c64 j hj).2
          · exact absurd hj (Nat.not_lt_zero _)
          · exact absurd hj (Nat.not_lt_zero _)
      · rw [q 24 (by omega), c24.1]
        unfold FT
        simp [bt_0, pZ]
    refine M_readLoop hT hD 700 pZ τ (fun _ => by have := hT.1; have := hT.2.1; omega) hM.en (fun _ => ⟨LI.z0, LT.z⟩) (fun υ u1 u2 => ?_)
    have fu : FX σ υ := (fx.tr h1.x.fx).tr u1.fx
    have e2u : υ.1 45 0 2 = 0 := by rw [u1.2.2 2 (by omega) (by omega) (by omega), q 2 (by omega)]; exact c9.2.1
    generalize hs : pRead (wtp w) n 700 pZ = s at *
    have cz := u2.z
    refine ⟨fun y => ?_, fun y => ?_⟩
    · have hf := cz.mp y
      rw [if_pos hf] at H
      obtain ⟨⟨g1, g2, g3⟩, ⟨b1, b2, b3, b4⟩, c0, e⟩ := u2.2 hf
      obtain ⟨m1, f1, f2, f3, f4, f5, f6, f7⟩ := e hf
      have V : CV s := by rw [← hs]; exact (LI_read hT 700 pZ (fun _ => LI.z0) (by rw [hs]; exact hf)).1
      rw [y, b4 hf]
      have z45 : ∀ j, j ≠ 33 → j ≠ 34 → (uI (uI υ 45 0 33 0) 45 0 34 (-1)).1 45 0 j = υ.1 45 0 j := fun j h1 h2 => by simp [uI, h1, h2]
      have z33 : (uI (uI υ 45 0 33 0) 45 0 34 (-1)).1 45 0 33 = 0 ∧ (uI (uI υ 45 0 33 0) 45 0 34 (-1)).1 45 0 34 = -1 := by simp [uI]
      have zk : ∀ k j, k ≠ 45 → (uI (uI υ 45 0 33 0) 45 0 34 (-1)).1 k 0 j = υ.1 k 0 j := fun k j hk => by simp [uI, hk]
      have f0 : FX σ (uI (uI υ 45 0 33 0) 45 0 34 (-1)) := (fu.tr (FX.u45 (by omega))).tr (FX.u45 (by omega))
      generalize uI (uI υ 45 0 33 0) 45 0 34 (-1) = ψ0 at *
      refine M_hv 0 (by omega) rfl HV.z (fun p1 v1 => bX11_text_171 (M_hv 1 (by omega) rfl v1 (fun p2 v2 => bX11_text_178 (M_hv 2 (by omega) rfl v2 (fun p3 v3 => bX11_text_185 (M_hv 3 (by omega) rfl v3 (fun p4 v4 => bX11_text_192 (M_hv 4 (by omega) rfl v4 (fun p5 v5 => bX11_text_199 (M_hv 5 (by omega) rfl v5 (fun p6 v6 => bX11_text_206 (M_hv 6 (by omega) rfl v6 (fun p7 v7 => bX11_text_213 (M_hv 7 (by omega) rfl v7 (fun p8 v8 => bX11_text_220 (M_hv 8 (by omega) rfl v8 (fun p9 v9 => bX11_text_227 (M_hv 9 (by omega) rfl v9 (fun p10 v10 => bX11_text_234 (M_hv 10 (by omega) rfl v10 (fun p11 v11 => bX11_text_241 (M_hv 11 (by omega) rfl v11 (fun p12 v12 => bX11_text_248 (M_hv 12 (by omega) rfl v12 (fun p13 v13 => bX11_text_255 (M_hv 13 (by omega) rfl v13 (fun p14 v14 => bX11_text_262 (M_hv 14 (by omega) rfl v14 (fun p15 v15 => bX11_text_269 (M_hv 15 (by omega) rfl v15 (fun p16 v16 => bX11_text_276 (M_hv 16 (by omega) rfl v16 (fun p17 v17 => bX11_text_283 (M_hv 17 (by omega) rfl v17 (fun p18 v18 => bX11_text_290 (M_hv 18 (by omega) rfl v18 (fun p19 v19 => bX11_text_297 (M_hv 19 (by omega) rfl v19 (fun p20 v20 => bX11_text_304 (M_hv 20 (by omega) rfl v20 (fun p21 v21 => bX11_text_311 ?_)))))))))))))))))))))))))))))))))))))))))
      have hv := v21
      clear v1 v2 v3 v4 v5 v6 v7 v8 v9 v10 v11 v12 v13 v14 v15 v16 v17 v18 v19 v20 v21
      generalize p21 = ψ at *
      have a45 : ∀ j, ψ.1 45 0 j = ψ0.1 45 0 j := fun j => hv.1.i (by decide) j
      have w45 : ∀ j, j ≠ 61 → j ≠ 62 → j ≠ 47 → j ≠ 48 → (uI (uI (uI (uI ψ 45 0 61 0) 45 0 62 (-1)) 45 0 47 0) 45 0 48 0).1 45 0 j = ψ0.1 45 0 j := fun j h1 h2 h3 h4 => by rw [← a45]; simp [uI, h1, h2, h3, h4]
      have w4 : (uI (uI (uI (uI ψ 45 0 61 0) 45 0 62 (-1)) 45 0 47 0) 45 0 48 0).1 45 0 61 = 0 ∧ (uI (uI (uI (uI ψ 45 0 61 0) 45 0 62 (-1)) 45 0 47 0) 45 0 48 0).1 45 0 62 = -1 ∧ (uI (uI (uI (uI ψ 45 0 61 0) 45 0 62 (-1)) 45 0 47 0) 45 0 48 0).1 45 0 47 = 0 ∧ (uI (uI (uI (uI ψ 45 0 61 0) 45 0 62 (-1)) 45 0 47 0) 45 0 48 0).1 45 0 48 = 0 := by simp [uI]
      have wk : ∀ f j, (uI (uI (uI (uI ψ 45 0 61 0) 45 0 62 (-1)) 45 0 47 0) 45 0 48 0).1 (47 + f) 0 j = ψ.1 (47 + f) 0 j := fun f j => by
        simp only [uI]
        rw [if_neg (by omega), if_neg (by omega), if_neg (by omega), if_neg (by omega)]
      generalize uI (uI (uI (uI ψ 45 0 61 0) 45 0 62 (-1)) 45 0 47 0) 45 0 48 0 = ω at *
      have C : MC ω s := fun f j hj hne => by
        have f20 := mLn_f hj
        rw [wk, hv.2.1 f j (by omega) (mLn_hF V hj), zk _ _ (by omega)]
        by_cases ff : f = 0
        · subst ff
          have hj9 : j < 9 := hj
          show υ.1 47 0 (9 + j) = _
          by_cases j5 : j < 5
          · exact c0.1 j j5
          · rcases (show j = 6 ∨ j = 7 ∨ j = 8 by omega) with rfl | rfl | rfl
            · exact f2.1
            · exact f2.2
            · exact c0.2.1
        · exact f1 f j hj ff
      refine M_begins C V (fun χ x1 x2' x3 => bX11_text_335 ?_)
      have k45 : ∀ j, χ.1 45 0 j = ω.1 45 0 j := fun j => x1.i (by decide) j
      rw [k45, w45 25 (by omega) (by omega) (by omega) (by omega), z45 25 (by omega) (by omega), f4]
      have fin : ∀ j, j = 49 ∨ j = 51 → χ.1 45 0 j = σ.1 45 0 j := fun j hj => by
        rw [k45, w45 j (by omega) (by omega) (by omega) (by omega), f0.2.2 j (by omega) (by omega) (by omega)]
      have hm := hw.2.1
      refine H χ ⟨x3, ⟨by rw [fin 49 (by omega)]; exact hm.1, hm.2.1, fun z => absurd z (by decide), by rw [fin 51 (by omega)]; exact hm.2.2.2.1, fun p z => by simp [md0] at z⟩, by rw [k45]; exact w4.2.2.1, fun k => absurd k (by show ¬ false = true; decide), ⟨by rw [k45]; exact w4.2.2.2, fun i hi => absurd (show i < 0 from hi) (Nat.not_lt_zero _)⟩, ⟨by rw [k45]; exact w4.1, by rw [k45]; exact w4.2.1, fun i hi => absurd (show i < 0 from hi) (Nat.not_lt_zero _)⟩, ⟨by rw [k45, w45 33 (by omega) (by omega) (by omega) (by omega)]; exact z33.1, by rw [k45, w45 34 (by omega) (by omega) (by omega) (by omega)]; exact z33.2⟩, by rw [k45, w45 2 (by omega) (by omega) (by omega) (by omega), z45 2 (by omega) (by omega)]; exact e2u, fun i hi => absurd (show i < 0 from hi) (Nat.not_lt_zero _)⟩
    · have hf : ¬ s 30 1 = 0 := fun e => y (cz.mpr e)
      rw [if_neg hf] at H
      obtain ⟨⟨b1, b2, b3⟩, _⟩ := u2
      rw [b1, b3 hf]
      exact H _ (((fu.tr (FX.u45 (by omega))).tr (FX.u45 (by omega))).w hw (by simp [uI]) (by simp [uI]) (by simp [uI]; exact e2u))
  have L2 : ∀ (m k : Nat) (φ : MS), k + m = 6 → 3 ≤ k → FX σ φ → (φ.1 45 0 26 = nI n ∧ φ.1 45 0 2 = 0 ∧ φ.1 45 0 27 = 0 ∧ φ.1 45 0 31 = 0 ∧ φ.1 45 0 32 = -1) → (∀ j, j < 9 → φ.1 47 0 (9 + j) = 0) → (∀ j, j + 3 < k → φ.1 64 0 (3 + j) = 0 ∧ φ.1 65 0 (3 + j) = 0) → R mj_OM (D + 1 + 1 + 1) mX11_text Q 67 [some (rV 45 0), some (iV (nI n)), some (iV (nI k))] [] φ := by
    intro m
    induction m with
    | zero =>
      intro k φ hk h3 fx c9 c47 c64
      obtain rfl : k = 6 := by omega
      refine bX11_text_67 ⟨fun _ => L3 _ _ ((((fx.tr (FX.u45 (by omega))).tr (FX.u45 (by omega))).tr (FX.u45 (by omega))).tr (FX.u45 (by omega))) (by simp [uI]; exact c9) (fun j hj => by simp [uI]; exact c47 j hj) (fun j hj => by simp [uI]; exact c64 j (by omega)) (by simp [uI]), fun z => absurd (Int32.le_refl _) z⟩
    | succ m ih =>
      intro k φ hk h3 fx c9 c47 c64
      refine bX11_text_67 ⟨fun z => ?_, fun _ => ?_⟩
      · rw [show (6 : Int32) = nI 6 from rfl, nI_le2 (by omega) (by omega)] at z; omega
      · rw [cl (show k < 6 by omega) (by omega), nI_1]
        refine ⟨vin (show k < 6 by omega) (by omega) (by decide), ih (k + 1) _ (by omega) (by omega) ((fx.tr (XR.uf (f := 17) (by omega) (by simp [hF]; omega)).fx).tr (XR.uf (f := 18) (by omega) (by simp [hF]; omega)).fx) (by simp [uI]; exact c9) (fun j hj => by simp [uI]; exact c47 j hj) (fun j hj => ?_)⟩
        by_cases e : 3 + j = k
        · simp [uI, e]
        · simp [uI, e]; exact c64 j (by omega)
  have L1 : ∀ (m k : Nat) (φ : MS), k + m = 9 → FX σ φ → (φ.1 45 0 26 = nI n ∧ φ.1 45 0 2 = 0 ∧ φ.1 45 0 27 = 0 ∧ φ.1 45 0 31 = 0 ∧ φ.1 45 0 32 = -1) → (∀ j, j < k → φ.1 47 0 (9 + j) = 0) → R mj_OM (D + 1 + 1 + 1) mX11_text Q 47 [some (rV 45 0), some (iV (nI n)), some (iV (nI k))] [] φ := by
    intro m
    induction m with
    | zero =>
      intro k φ hk fx c9 c47
      obtain rfl : k = 9 := by omega
      exact bX11_text_47 ⟨fun _ => L2 3 3 φ rfl (by omega) fx c9 c47 (fun j hj => by omega), fun z => absurd (Int32.le_refl _) z⟩
    | succ m ih =>
      intro k φ hk fx c9 c47
      refine bX11_text_47 ⟨fun z => ?_, fun _ => M_reads (j := k) (by omega) (bX11_text_59 ?_)⟩
      · rw [show (9 : Int32) = nI 9 from rfl, nI_le2 (by omega) (by omega)] at z; omega
      · rw [nI_1]
        refine ih (k + 1) _ (by omega) (fx.tr (XR.uf (f := 0) (i := 9 + k) (by omega) (by simp [hF])).fx) (by simp [uI]; exact c9) (fun j hj => ?_)
        by_cases e : j = k
        · simp [uI, e]
        · simp [uI, e]; exact c47 j (by omega)
  refine L1 9 0 _ rfl ((((((FX.u45 (by omega)).tr (FX.u45 (by omega))).tr (FX.u45 (by omega))).tr (FX.u45 (by omega))).tr (FX.u45 (by omega))).tr (FX.u45 (by omega))) (by simp [uI]) (fun j hj => absurd hj (Nat.not_lt_zero _))
end Rf
