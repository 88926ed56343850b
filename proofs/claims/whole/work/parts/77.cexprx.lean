section Pk
variable {t : Nat → Nat} {n T b : Nat}
theorem kv_23 {s : CA} (k23 : kd t n s = 23) : kv t n s ≤ 1000000 := by
  have e : kd t n s = tK t n (s 30 0) := rfl
  unfold kv tV
  split
  · rename_i lt
    unfold tkV
    split
    · exfalso
      rename_i gl
      rw [e, show tK t n (s 30 0) = tkK t n (tkP t n (s 30 0)) from if_pos lt, tkK, if_pos gl] at k23
      have := kw_le (pkN t (tkP t n (s 30 0)) (rn isL t n (tkP t n (s 30 0)) - tkP t n (s 30 0)))
      split at k23 <;> omega
    · split
      · exact nbC_le _
      · omega
  · omega
theorem kd_le {s : CA} : kd t n s ≤ 38 := tK_le _
/-- one more side behind a sign -/
theorem S_iter {m r D : Nat} {Q : Option MV → MS → Prop} {σ : MS} {s : CA} (hT : TF t n T) (hr : r ≤ 5)
    (A : ∀ (s : CA) (D : Nat) (σ : MS) (Q : Option MV → MS → Prop), (s 30 1 = 0 → 20 * (T - s 30 0) + (13 - (r + 1)) ≤ m) → PBk s 0 → (s 30 1 = 0 → 20 * (8 - s 30 9) + 2 * (7 - (r + 1)) + 6 ≤ D) → 1 ≤ D → SRd t n T b σ s → (∀ τ : MS, SB (rdL b) σ τ → SRd t n T b τ (pX t n m (r + 1) s) → Q none τ) → R mj_OC D mX7_readRanked Q 0 [some (rV 1 0), some (iV (nI (r + 1))), none, none, none] [] σ)
    (hf : s 30 1 = 0) (hfu : 20 * (T - s 30 0) + 1 ≤ m + 1) (hB : PBk s 0) (hD : 20 * (8 - s 30 9) + 2 * (7 - r) + 6 ≤ D + 1) (h : SRd t n T b σ s) {mo i : Nat} (hi : i < mo) (hmo : mo ≤ 700)
    (hno : rkO (kd t n s) ≠ r → Q none σ)
    (K : rkO (kd t n s) = r → ∀ τ : MS, SB (rdL b) σ τ → SRd t n T b τ (pAdd (pX t n m (r + 1) (pKnot t n s)) 2 (sgC (kd t n s))) → R mj_OC (D + 1) mX7_readRanked Q 51 [some (rV 1 0), some (iV (nI r)), some (iV (nI mo)), some (iV (nI (i + 1))), none] [] τ) :
    R mj_OC (D + 1) mX7_readRanked Q 51 [some (rV 1 0), some (iV (nI r)), some (iV (nI mo)), some (iV (nI i)), none] [] σ := by
  have bk := kd_le (t := t) (n := n) (s := s)
  have ff := rkO_f (kd t n s) (by omega)
  refine bX7_readRanked_51 ⟨fun z => ?_, fun _ => ⟨fun z => absurd (h.z.mpr hf) z, fun _ => ?_⟩⟩
  · rw [nI_le2 (by omega) (by omega)] at z; omega
  refine S_kind hT h (fun v hv => ?_)
  rw [hv hf]
  refine bX7_readRanked_70 (S_rankOf (by omega) (fun v2 hv2 => bX7_readRanked_73 ⟨fun y => hno (fun e => y ((hv2 r hr).mpr e)), fun y => ?_⟩))
  have er := (hv2 r hr).mp y
  have k37 := (ff.1 (by omega)).2.1
  refine S_kind hT h (fun v3 hv3 => ?_)
  rw [hv3 hf]
  obtain ⟨D', rfl⟩ : ∃ D', D = D' + 1 := ⟨D - 1, by omega⟩
  refine bX7_readRanked_84 (S_knot hT h (fun _ => ⟨k37, (hB hf).2.2⟩) (fun τ h1 h2 => bX7_readRanked_90 ?_))
  rw [nI_1]
  have tk := h.tk hf
  have ltT := hT.e tk.1 k37
  refine A _ _ τ _ (fun q => ?_) hB.knot.le (fun q => ?_) (by omega) h2 (fun υ u1 u2 => bX7_readRanked_97 ⟨by rw [u2.1.1]; exact u2.1.2.1, ?_⟩)
  · obtain ⟨_, _, e⟩ := pKnot_0 q
    rw [e]
    simp [pAdv, pS]; omega
  · obtain ⟨_, _, e⟩ := pKnot_0 q
    rw [e]
    simp [pAdv, pS]; omega
  · rw [u2.1.1]
    have B2 : PBk (pX t n m (r + 1) (pKnot t n s)) 1 := hB.knot.e (pX_E m (r + 1) _)
    refine S_ladd (so := 2) (v := sgC (kd t n s)) u2 (fun q => by have := B2 q; omega) (fun _ => ⟨by rw [(ff.1 (by omega)).1], fun e => by omega⟩) (fun ω w1 w2 => bX7_readRanked_110 ?_)
    rw [nI_1]
    exact K er ω ((h1.tr u1).tr w1) w2
theorem S_X (hT : TF t n T) : ∀ m : Nat,
    (∀ (q : Nat) (s : CA) (D : Nat) (σ : MS) (Q : Option MV → MS → Prop), q ≤ 6 → (s 30 1 = 0 → 20 * (T - s 30 0) + (13 - q) ≤ m) → PBk s 0 → (s 30 1 = 0 → 20 * (8 - s 30 9) + 2 * (7 - q) + 6 ≤ D) → 1 ≤ D → SRd t n T b σ s → (∀ τ : MS, SB (rdL b) σ τ → SRd t n T b τ (pX t n m q s) → Q none τ) → R mj_OC D mX7_readRanked Q 0 [some (rV 1 0), some (iV (nI q)), none, none, none] [] σ) ∧
    (∀ (r : Nat) (s : CA) (D : Nat) (σ : MS) (Q : Option MV → MS → Prop) (i : Nat), r = 0 ∨ r = 1 ∨ r = 4 ∨ r = 5 → (s 30 1 = 0 → 20 * (T - s 30 0) + 1 ≤ m) → PBk s 0 → (s 30 1 = 0 → i ≤ s 30 10) → i ≤ 65 → (s 30 1 = 0 → 20 * (8 - s 30 9) + 2 * (7 - r) + 6 ≤ D) → 1 ≤ D → SRd t n T b σ s → (∀ τ : MS, SB (rdL b) σ τ → SRd t n T b τ (pX t n m (r + 10) s) → Q none τ) → R mj_OC D mX7_readRanked Q 51 [some (rV 1 0), some (iV (nI r)), some (iV (nI 700)), some (iV (nI i)), none] [] σ) ∧
    (∀ (s : CA) (D : Nat) (σ : MS) (Q : Option MV → MS → Prop), (s 30 1 = 0 → 20 * (T - s 30 0) + 1 ≤ m) → PBk s 0 → (s 30 1 = 0 → 20 * (8 - s 30 9) + 2 * (7 - 3) + 6 ≤ D) → 1 ≤ D → SRd t n T b σ s → (∀ τ : MS, SB (rdL b) σ τ → SRd t n T b τ (pX t n m 13 s) → Q none τ) → R mj_OC D mX7_readRanked Q 51 [some (rV 1 0), some (iV (nI 3)), some (iV (nI 1)), some (iV (nI 0)), none] [] σ) ∧
    (∀ (s : CA) (D : Nat) (σ : MS) (Q : Option MV → MS → Prop) (i : Nat), (s 30 1 = 0 → 20 * (T - s 30 0) + 11 ≤ m) → PBk s i → i ≤ 65 → (s 30 1 = 0 → 20 * (8 - s 30 9) + 2 * (7 - 3) + 7 ≤ D) → 2 ≤ D → SRd t n T b σ s → (∀ τ : MS, SB (rdL b) σ τ → SRd t n T b τ (pAddN i (pX t n m 2 s)) → Q none τ) → R mj_OC D mX7_readDenied Q 2 [some (rV 1 0), some (iV (nI i)), none] [] σ) := by
  intro m
  induction m with
  | zero =>
    have ff : ∀ (q : Nat) (s : CA) (D : Nat) (σ : MS) (Q : Option MV → MS → Prop), s 30 1 ≠ 0 → 1 ≤ D → SRd t n T b σ s → (∀ τ : MS, SB (rdL b) σ τ → SRd t n T b τ s → Q none τ) → R mj_OC D mX7_readRanked Q 0 [some (rV 1 0), some (iV (nI q)), none, none, none] [] σ := by
      intro q s D σ Q hf hD h H
      obtain ⟨D', rfl⟩ : ∃ D', D = D' + 1 := ⟨D - 1, by omega⟩
      exact bX7_readRanked_0 ⟨fun z => absurd (h.z.mp z) hf, fun _ => H σ SB.rf h⟩
    refine ⟨fun q s D σ Q hq hm hB hD h1 h H => ?_, fun r s D σ Q i hr hm hB hi hi2 hD h1 h H => ?_, fun s D σ Q hm hB hD h1 h H => ?_, fun s D σ Q i hm hB hi hD h2 h H => ?_⟩
    · have hf : s 30 1 ≠ 0 := fun e => by have := hm e; omega
      exact ff q s D σ Q hf h1 h H
    · have hf : s 30 1 ≠ 0 := fun e => by have := hm e; omega
      obtain ⟨D', rfl⟩ : ∃ D', D = D' + 1 := ⟨D - 1, by omega⟩
      exact bX7_readRanked_51 ⟨fun _ => H σ SB.rf h, fun _ => ⟨fun _ => H σ SB.rf h, fun z => absurd (h.z.mp z) hf⟩⟩
    · have hf : s 30 1 ≠ 0 := fun e => by have := hm e; omega
      obtain ⟨D', rfl⟩ : ∃ D', D = D' + 1 := ⟨D - 1, by omega⟩
      exact bX7_readRanked_51 ⟨fun _ => H σ SB.rf h, fun _ => ⟨fun _ => H σ SB.rf h, fun z => absurd (h.z.mp z) hf⟩⟩
    · have hf : s 30 1 ≠ 0 := fun e => by have := hm e; omega
      obtain ⟨D', rfl⟩ : ∃ D', D = D' + 1 := ⟨D - 1, by omega⟩
      have go : R mj_OC D' mX7_readRanked (fun r σ' => R mj_OC (D' + 1) mX7_readDenied Q 43 [some (rV 1 0), some (iV (nI i)), none] (r.toList ++ []) σ') 0 [some (rV 1 0), some (iV (3 : Int32)), none, none, none] [] σ := by
        refine ff 3 s D' σ _ hf (by omega) h (fun τ u1 u2 => bX7_readDenied_43 ?_)
        have := S_addN (D := D') (Q := Q) i 0 τ s (by omega) hB u2 (fun υ v1 v2 => H υ (u1.tr v1) v2)
        rw [Nat.zero_add] at this
        exact this
      exact bX7_readDenied_2 ⟨fun _ => go, fun _ => ⟨fun _ => go, fun z => absurd (h.z.mp z) hf⟩⟩
  | succ m ih =>
    obtain ⟨iA, iB, iC, iD⟩ := ih
    -- the denied first
    have DN : ∀ (s : CA) (D : Nat) (σ : MS) (Q : Option MV → MS → Prop) (i : Nat), (s 30 1 = 0 → 20 * (T - s 30 0) + 11 ≤ m + 1) → PBk s i → i ≤ 65 → (s 30 1 = 0 → 20 * (8 - s 30 9) + 2 * (7 - 3) + 7 ≤ D) → 2 ≤ D → SRd t n T b σ s → (∀ τ : MS, SB (rdL b) σ τ → SRd t n T b τ (pAddN i (pX t n (m + 1) 2 s)) → Q none τ) → R mj_OC D mX7_readDenied Q 2 [some (rV 1 0), some (iV (nI i)), none] [] σ := by
      intro s D σ Q i hm hB hi hD h2 h H
      obtain ⟨D', rfl⟩ : ∃ D', D = D' + 1 := ⟨D - 1, by omega⟩
      have go : (pX t n (m + 1) 2 s = pX t n m 3 s) → R mj_OC D' mX7_readRanked (fun r σ' => R mj_OC (D' + 1) mX7_readDenied Q 43 [some (rV 1 0), some (iV (nI i)), none] (r.toList ++ []) σ') 0 [some (rV 1 0), some (iV (3 : Int32)), none, none, none] [] σ := by
        intro e
        refine iA 3 s D' σ _ (by omega) (fun q => by have := hm q; omega) hB.le (fun q => by have := hD q; omega) (by omega) h (fun τ u1 u2 => bX7_readDenied_43 ?_)
        have := S_addN (D := D') (Q := Q) i 0 τ (pX t n m 3 s) (by omega) (hB.e (pX_E m 3 s)) u2 (fun υ v1 v2 => H υ (u1.tr v1) (by rw [e]; exact v2))
        rw [Nat.zero_add] at this
        exact this
      by_cases hf : s 30 1 = 0
      · have hBf := hB hf
        have bk := kd_le (t := t) (n := n) (s := s)
        refine bX7_readDenied_2 ⟨fun z => ?_, fun _ => ⟨fun z => absurd (h.z.mpr hf) z, fun _ => S_kind hT h (fun v hv => ?_)⟩⟩
        · rw [show (700 : Int32) = nI 700 from rfl, nI_le2 (by omega) (by omega)] at z; omega
        · rw [hv hf]
          have e14 : nI (kd t n s) = (14 : Int32) ↔ kd t n s = 14 := nI_inj (b := 14) (by omega) (by omega)
          refine bX7_readDenied_23 ⟨fun y => go ?_, fun y => ?_⟩
          · rw [e14] at y
            rw [pX, if_pos hf, if_neg (by omega), if_pos rfl, if_neg y]
          · rw [e14] at y
            obtain ⟨D'', rfl⟩ : ∃ D'', D' = D'' + 1 := ⟨D' - 1, by omega⟩
            refine S_knot hT h (fun _ => ⟨by omega, hBf.2.2⟩) (fun τ u1 u2 => bX7_readDenied_32 ?_)
            have tk := h.tk hf
            have ltT := hT.e tk.1 (show kd t n s ≠ 37 by omega)
            rw [nI_1]
            refine iD (pKnot t n s) _ τ Q (i + 1) (fun q => ?_) hB.knot (by omega) (fun q => ?_) (by omega) u2 (fun υ v1 v2 => H υ (u1.tr v1) ?_)
            · obtain ⟨_, _, e⟩ := pKnot_0 q
              have := hm hf
              rw [e]; simp [pAdv, pS]; omega
            · obtain ⟨_, _, e⟩ := pKnot_0 q
              have := hD hf
              rw [e]; simp [pAdv, pS]; omega
            · rw [pX, if_pos hf, if_neg (by omega), if_pos rfl, if_pos y]
              exact v2
      · have e : pX t n (m + 1) 2 s = pX t n m 3 s := by rw [pX_f hf, pX_f hf]
        exact bX7_readDenied_2 ⟨fun _ => go e, fun _ => ⟨fun _ => go e, fun z => absurd (h.z.mp z) hf⟩⟩
    refine ⟨fun q s D σ Q hq hm hB hD h1 h H => ?_, fun r s D σ Q i hr hm hB hi hi2 hD h1 h H => ?_, fun s D σ Q hm hB hD h1 h H => ?_, DN⟩
    · obtain ⟨D', rfl⟩ : ∃ D', D = D' + 1 := ⟨D - 1, by omega⟩
      by_cases hf : s 30 1 = 0
      · have hm := hm hf
        have hD := hD hf
        have hBf := hB hf
        have tk := h.tk hf
        refine bX7_readRanked_0 ⟨fun _ => ⟨fun z => ?_, fun z => ?_⟩, fun z => absurd (h.z.mpr hf) z⟩
        · rw [show (6 : Int32) = nI 6 from rfl, nI_ltI (by omega) (by omega)] at z
          refine ⟨fun z2 => ?_, fun z2 => ?_⟩
          · have n2 : q ≠ 2 := fun e => z2 (by rw [e]; rfl)
            have eX : pX t n (m + 1) q s = pX t n m (q + 10) (pX t n m (q + 1) s) := by rw [pX, if_pos hf, if_neg (by omega), if_neg n2, if_pos z]
            rw [eX] at H
            rw [nI_1]
            refine iA (q + 1) s D' σ _ (by omega) (fun _ => by omega) hB (fun _ => by omega) (by omega) h (fun τ u1 u2 => ?_)
            have E := pX_E (t := t) (n := n) m (q + 1) s
            have c3 : nI q = (3 : Int32) ↔ q = 3 := nI_inj (b := 3) (by omega) (by omega)
            refine bX7_readRanked_36 ⟨fun z3 => ?_, fun z3 => ?_⟩
            · rw [c3] at z3
              refine iB q _ (D' + 1) τ Q 0 (by omega) (fun y => ?_) (hB.e E) (fun _ => Nat.zero_le _) (by omega) (fun y => ?_) (by omega) u2 (fun υ v1 v2 => H υ (u1.tr v1) v2)
              · have := E y; omega
              · have := E y; omega
            · rw [c3] at z3
              subst z3
              refine iC _ (D' + 1) τ Q (fun y => ?_) (hB.e E) (fun y => ?_) (by omega) u2 (fun υ v1 v2 => H υ (u1.tr v1) v2)
              · have := E y; omega
              · have := E y; omega
          · have e2 : q = 2 := by
              have : nI q = nI 2 := z2
              exact (nI_inj (by omega) (by omega)).mp this
            subst e2
            obtain ⟨D'', rfl⟩ : ∃ D'', D' = D'' + 1 := ⟨D' - 1, by omega⟩
            refine bX7_readDenied_0 (DN s (D'' + 1) σ _ 0 (fun _ => by omega) hB (by omega) (fun _ => by omega) (by omega) h (fun τ u1 u2 => bX7_readRanked_28 (H τ u1 u2)))
        · rw [show (6 : Int32) = nI 6 from rfl, nI_ltI (by omega) (by omega)] at z
          obtain rfl : q = 6 := by omega
          rw [pX, if_pos hf, if_pos rfl] at H
          obtain ⟨D2, rfl⟩ : ∃ D2, D' = D2 + 1 + 1 + 1 := ⟨D' - 3, by omega⟩
          have bk := kd_le (t := t) (n := n) (s := s)
          refine bX7_readPart_0 (S_kind hT h (fun v hv => bX7_readPart_7 (S_value hT h (fun v2 hv2 => ?_))))
          rw [hv hf, hv2 hf]
          have c25 : nI (kd t n s) = (25 : Int32) ↔ kd t n s = 25 := nI_inj (b := 25) (by omega) (by omega)
          have c23 : nI (kd t n s) = (23 : Int32) ↔ kd t n s = 23 := nI_inj (b := 23) (by omega) (by omega)
          have c15 : nI (kd t n s) < (15 : Int32) ↔ kd t n s < 15 := nI_ltI (b := 15) (by omega) (by omega)
          have c21 : (21 : Int32) < nI (kd t n s) ↔ 21 < kd t n s := nI_ltI (a := 21) (by omega) (by omega)
          have M := h.2.2.2.2.2 hf
          have e9 : σ.1 1 0 9 = nI (s 30 9) := M.2.2.2.2.2.2.2.2
          have c8 : (8 : Int32) ≤ σ.1 1 0 9 ↔ 8 ≤ s 30 9 := by rw [e9]; exact nI_le2 (a := 8) (by omega) (by omega)
          have c99 : kd t n s = 23 → (nI (kv t n s) ≤ (9999 : Int32) ↔ kv t n s ≤ 9999) := fun e => nI_leI (b := 9999) (by have := kv_23 e; omega) (by omega)
          -- what may come of it
          have fail2 : ((kd t n s = 25 ∧ 8 ≤ s 30 9) ∨ (kd t n s = 23 ∧ 9999 < kv t n s)) → R mj_OC (D2 + 1 + 1) mX9_place (fun r σ' => R mj_OC (D2 + 1 + 1 + 1) mX7_readPart (fun r σ' => R mj_OC (D2 + 1 + 1 + 1 + 1) mX7_readRanked Q 18 [some (rV 1 0), some (iV (nI 6)), none, none, none] (r.toList ++ []) σ') 53 [some (rV 1 0), some (iV (nI (kd t n s))), some (iV (nI (kv t n s)))] (r.toList ++ [iV (2 : Int32), rV 1 0]) σ') 0 [some (rV 2 0)] [] σ := fun g => by
            rw [if_pos g] at H
            refine S_place hT h (fun v hv => bX7_readPart_53 ?_)
            rw [hv hf]
            exact S_fail (e := 2) (by omega) h (fun τ u1 u2 => bX7_readPart_56 (bX7_readRanked_18 (H τ u1 u2)))
          have fail1 : ¬ kd t n s = 25 → ¬ kd t n s = 23 → (kd t n s < 15 ∨ 21 < kd t n s) → R mj_OC (D2 + 1 + 1) mX9_place (fun r σ' => R mj_OC (D2 + 1 + 1 + 1) mX7_readPart (fun r σ' => R mj_OC (D2 + 1 + 1 + 1 + 1) mX7_readRanked Q 18 [some (rV 1 0), some (iV (nI 6)), none, none, none] (r.toList ++ []) σ') 152 [some (rV 1 0), some (iV (nI (kd t n s))), some (iV (nI (kv t n s)))] (r.toList ++ [iV (1 : Int32), rV 1 0]) σ') 0 [some (rV 2 0)] [] σ := fun g1 g2 g3 => by
            rw [if_neg (by omega), if_neg g1, if_neg g2, if_neg (by omega)] at H
            refine S_place hT h (fun v hv => bX7_readPart_152 ?_)
            rw [hv hf]
            exact S_fail (e := 1) (by omega) h (fun τ u1 u2 => bX7_readPart_155 (bX7_readRanked_18 (H τ u1 u2)))
          have put : ¬ ((kd t n s = 25 ∧ 8 ≤ s 30 9) ∨ (kd t n s = 23 ∧ 9999 < kv t n s)) → ¬ kd t n s = 25 → (kd t n s = 23 ∨ 15 ≤ kd t n s ∧ kd t n s ≤ 21) → R mj_OC (D2 + 1 + 1) mX7_takeKnot (fun r σ' => R mj_OC (D2 + 1 + 1 + 1) mX7_readPart (fun r σ' => R mj_OC (D2 + 1 + 1 + 1 + 1) mX7_readRanked Q 18 [some (rV 1 0), some (iV (nI 6)), none, none, none] (r.toList ++ []) σ') 128 [some (rV 1 0), some (iV (nI (kd t n s))), some (iV (nI (kv t n s)))] (r.toList ++ []) σ') 0 [some (rV 1 0)] [] σ := fun g1 g2 g3 => by
            rw [if_neg g1, if_neg g2] at H
            refine S_knot hT h (fun _ => ⟨by omega, hBf.2.2⟩) (fun τ u1 u2 => bX7_readPart_128 ⟨by rw [u2.1.1]; exact u2.1.2.1, ?_⟩)
            rw [u2.1.1]
            have B2 : PBk (pKnot t n s) 1 := hB.knot
            by_cases g : kd t n s = 23
            · rw [if_pos g] at H
              exact S_ladd (so := 0) (v := kv t n s) u2 (fun q => by have := B2 q; omega) (fun _ => ⟨by rw [g]; rfl, fun _ => rfl⟩) (fun υ v1 v2 => bX7_readPart_140 (bX7_readRanked_18 (H υ (u1.tr v1) v2)))
            · rw [if_neg g, if_pos (by omega)] at H
              exact S_ladd (so := 1) (v := kd t n s - 15) u2 (fun q => by have := B2 q; omega) (fun _ => ⟨by rw [(rkO_f (kd t n s) (by omega)).2.2 (by omega) (by omega)], fun e => by omega⟩) (fun υ v1 v2 => bX7_readPart_140 (bX7_readRanked_18 (H υ (u1.tr v1) v2)))
          have adv : ¬ ((kd t n s = 25 ∧ 8 ≤ s 30 9) ∨ (kd t n s = 23 ∧ 9999 < kv t n s)) → kd t n s = 25 → R mj_OC (D2 + 1 + 1) mX9_advance (fun r σ' => R mj_OC (D2 + 1 + 1 + 1) mX7_readPart (fun r σ' => R mj_OC (D2 + 1 + 1 + 1 + 1) mX7_readRanked Q 18 [some (rV 1 0), some (iV (nI 6)), none, none, none] (r.toList ++ []) σ') 82 [some (rV 1 0), some (iV (nI (kd t n s))), some (iV (nI (kv t n s)))] (r.toList ++ []) σ') 0 [some (rV 2 0)] [] (uI σ 1 0 9 (σ.1 1 0 9 + 1)) := fun g1 g2 => by
            rw [if_neg g1, if_pos g2] at H
            have ltT := hT.e tk.1 (show kd t n s ≠ 37 by omega)
            rw [e9, nI_1]
            have hu := h.u30 (c := 9) (r := 9) (v := s 30 9 + 1) hf (by unfold rdP; omega)
            refine S_tAdv hT hu (by simp [pS]; exact hf) (by show tK t n _ ≠ 37; simp [pS]; show kd t n s ≠ 37; omega) (fun τ u1 u2 => bX7_readPart_82 ?_)
            have hlt : s 30 9 < 8 := by
              rcases Nat.lt_or_ge (s 30 9) 8 with l | l
              · exact l
              · exact absurd (Or.inl ⟨g2, l⟩) g1
            refine iA 0 _ _ τ _ (by omega) (fun _ => ?_) (fun _ => ?_) (fun _ => ?_) (by omega) u2 (fun υ v1 v2 => bX7_readPart_87 (S_take (K := 26) hT (by omega) v2 (fun ω w1 w2 => bX7_readPart_93 (bX7_readRanked_18 (H _ ((((SB.uI (by simp [rdL])).tr u1).tr (v1.tr w1)).tr (SB.uI (by simp [rdL]))) ?_)))))
            · simp [pAdv, pS]; omega
            · simp [pAdv, pS]; omega
            · simp [pAdv, pS]; omega
            · by_cases gf : pTake t n (pX t n m 0 (pAdv (pS s 30 9 (s 30 9 + 1)))) 26 30 1 = 0
              · have Mw := w2.2.2.2.2.2 gf
                have ew : ω.1 1 0 9 = nI (pTake t n (pX t n m 0 (pAdv (pS s 30 9 (s 30 9 + 1)))) 26 30 9) := Mw.2.2.2.2.2.2.2.2
                have gx : pX t n m 0 (pAdv (pS s 30 9 (s 30 9 + 1))) 30 1 = 0 := by
                  by_cases g : pX t n m 0 (pAdv (pS s 30 9 (s 30 9 + 1))) 30 1 = 0
                  · exact g
                  · rw [pT_f g] at gf; exact absurd gf g
                have E := pX_E (t := t) (n := n) m 0 (pAdv (pS s 30 9 (s 30 9 + 1))) gx
                have hT9 : ∀ u : CA, pTake t n u 26 30 9 = u 30 9 := fun u => by
                  unfold pTake
                  split
                  · split
                    · simp [pAdv, pS]
                    · exact pF_row 30 9 (Or.inr (by omega))
                  · rfl
                have e9' : pTake t n (pX t n m 0 (pAdv (pS s 30 9 (s 30 9 + 1)))) 26 30 9 = s 30 9 + 1 := by
                  rw [hT9, E.2.2.1]; simp [pAdv, pS]
                unfold pBr
                rw [if_pos gf, ew, show (1 : Int32) = nI 1 from rfl, pk_sub (by omega)]
                exact w2.u30 gf (by unfold rdP; omega)
              · unfold pBr
                rw [if_neg gf]
                exact w2.uf gf (by omega)
          refine bX7_readPart_15 ?_
          simp only [c25, c23, c15, c21, c8]
          by_cases g25 : kd t n s = 25
          · by_cases g8 : 8 ≤ s 30 9
            · have r := fail2 (Or.inl ⟨g25, g8⟩)
              simp only [g25, g8, not_true_eq_false, false_implies, true_implies, true_and, and_true, not_false_eq_true, if_true, if_false] at r ⊢
              first | exact r | (simp; exact r)
            · have r := adv (by omega) g25
              simp only [g25, g8, not_true_eq_false, false_implies, true_implies, true_and, and_true, not_false_eq_true, Nat.reduceEqDiff] at r ⊢
              first | exact r | (simp; exact r)
          · by_cases g23 : kd t n s = 23
            · have c := c99 g23
              simp only [c]
              by_cases g99 : kv t n s ≤ 9999
              · have r := put (by omega) g25 (Or.inl g23)
                simp only [g23, g99, not_true_eq_false, false_implies, true_implies, true_and, and_true, not_false_eq_true, Nat.reduceEqDiff] at r ⊢
                first | exact r | (simp; exact r)
              · have r := fail2 (Or.inr ⟨g23, by omega⟩)
                simp only [g23, g99, not_true_eq_false, false_implies, true_implies, true_and, and_true, not_false_eq_true, Nat.reduceEqDiff] at r ⊢
                first | exact r | (simp; exact r)
            · simp only [g25, g23, not_true_eq_false, false_implies, true_implies, true_and, and_true, not_false_eq_true]
              refine ⟨fun y => fail1 g25 g23 (Or.inl y), fun y => ⟨fun y2 => fail1 g25 g23 (Or.inr y2), fun y2 => put (by omega) g25 (Or.inr (by omega))⟩⟩
      · refine bX7_readRanked_0 ⟨fun z => absurd (h.z.mp z) hf, fun _ => H σ SB.rf (by rw [pX_f hf]; exact h)⟩
    · obtain ⟨D', rfl⟩ : ∃ D', D = D' + 1 := ⟨D - 1, by omega⟩
      by_cases hf : s 30 1 = 0
      · have hm := hm hf
        have hBf := hB hf
        have tk := h.tk hf
        have eX : pX t n (m + 1) (r + 10) s = if rkO (kd t n s) = r then pX t n m (r + 10) (pAdd (pX t n m (r + 1) (pKnot t n s)) 2 (sgC (kd t n s))) else s := by
          rw [pX, if_pos hf, if_neg (by omega), if_neg (by omega), if_neg (by omega), show r + 10 - 10 = r by omega, show r + 10 - 9 = r + 1 by omega, if_neg (show ¬ r + 10 = 13 by omega)]
        refine S_iter (m := m) hT (by omega) (fun s D σ Q => iA (r + 1) s D σ Q (by omega)) hf hm hB (hD hf) h (by omega) (by omega) (fun e => H σ SB.rf (by rw [eX, if_neg e]; exact h)) (fun e τ u1 u2 => ?_)
        have ltT : s 30 0 < T := hT.e tk.1 ((rkO_f (kd t n s) (by have := kd_le (t := t) (n := n) (s := s); omega)).1 (by omega)).2.1
        have E : PE s (pAdd (pX t n m (r + 1) (pKnot t n s)) 2 (sgC (kd t n s))) := PE.knot (pX_E m (r + 1) _)
        have E2 := pX_E (t := t) (n := n) m (r + 1) (pKnot t n s)
        have up : pAdd (pX t n m (r + 1) (pKnot t n s)) 2 (sgC (kd t n s)) 30 1 = 0 → s 30 0 + 1 ≤ pAdd (pX t n m (r + 1) (pKnot t n s)) 2 (sgC (kd t n s)) 30 0 ∧ s 30 10 + 1 ≤ pAdd (pX t n m (r + 1) (pKnot t n s)) 2 (sgC (kd t n s)) 30 10 := fun y => by
          rw [pAdd_1] at y
          obtain ⟨a1, a2, a3, a4, a5, a6, a7, a8, a9⟩ := E2 y
          obtain ⟨_, _, ek⟩ := pKnot_0 a1
          have k0 : pKnot t n s 30 0 = s 30 0 + 1 := by rw [ek]; simp [pAdv, pS]
          have k10 : pKnot t n s 30 10 = s 30 10 + 1 := by rw [ek]; simp [pAdv, pS]
          have ea : ∀ j, pAdd (pX t n m (r + 1) (pKnot t n s)) 2 (sgC (kd t n s)) 30 j = pX t n m (r + 1) (pKnot t n s) 30 j := fun j => by
            unfold pAdd; rw [if_pos y]; simp [pS]
          rw [ea, ea]
          omega
        refine iB r _ (D' + 1) τ Q (i + 1) hr (fun y => ?_) (hB.e E) (fun y => ?_) ?_ (fun y => ?_) (by omega) u2 (fun υ v1 v2 => H υ (u1.tr v1) (by rw [eX, if_pos e]; exact v2))
        · have := up y; omega
        · have := up y; have := hi hf; omega
        · have := hi hf; omega
        · have := E y; have := hD hf; omega
      · refine bX7_readRanked_51 ⟨fun _ => H σ SB.rf (by rw [pX_f hf]; exact h), fun _ => ⟨fun _ => H σ SB.rf (by rw [pX_f hf]; exact h), fun z => absurd (h.z.mp z) hf⟩⟩
    · obtain ⟨D', rfl⟩ : ∃ D', D = D' + 1 := ⟨D - 1, by omega⟩
      by_cases hf : s 30 1 = 0
      · have hm := hm hf
        have eX : pX t n (m + 1) 13 s = if rkO (kd t n s) = 3 then pAdd (pX t n m 4 (pKnot t n s)) 2 (sgC (kd t n s)) else s := by
          rw [pX, if_pos hf, if_neg (by omega), if_neg (by omega), if_neg (by omega)]
          rw [if_pos rfl]
        refine S_iter (m := m) hT (by omega) (fun s D σ Q => iA 4 s D σ Q (by omega)) hf hm hB (hD hf) h (by omega) (by omega) (fun e => H σ SB.rf (by rw [eX, if_neg e]; exact h)) (fun e τ u1 u2 => ?_)
        exact bX7_readRanked_51 ⟨fun _ => H τ u1 (by rw [eX, if_pos e]; exact u2), fun z => absurd (Int32.le_refl _) z⟩
      · refine bX7_readRanked_51 ⟨fun _ => H σ SB.rf (by rw [pX_f hf]; exact h), fun _ => ⟨fun _ => H σ SB.rf (by rw [pX_f hf]; exact h), fun z => absurd (h.z.mp z) hf⟩⟩
end Pk
