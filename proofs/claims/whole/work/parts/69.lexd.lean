section Sd
variable {O : List (Nat × Nat)} {d : Nat} {Q : Option MV → MS → Prop} {σ : MS} {t : Nat → Nat} {n p : Nat}
theorem sg_mj : ∀ c, c < 256 → ((nI c).toUInt32 % 65536).toInt32 = nI c ∧ narrow .char (.int (nI c)) = .int (nI c) ∧ ∀ j, j < 10 → ((mj_byt.getD 1 []).getD j 0 = (nI c).toInt8.toInt32 ↔ sgL.getD j 0 = c) := by
  have h : ∀ c : Fin 256, ((nI c.val).toUInt32 % 65536).toInt32 = nI c.val ∧ ∀ j : Fin 10, ((mj_byt.getD 1 []).getD j.val 0 = (nI c.val).toInt8.toInt32 ↔ sgL.getD j.val 0 = c.val) := by decide +kernel
  exact fun c hc => ⟨(h ⟨c, hc⟩).1, (pk_charN (by omega)).1, fun j hj => (h ⟨c, hc⟩).2 ⟨j, hj⟩⟩
theorem J_signAt {c : Nat} (hc : c < 256) (H : ∀ r : Int32, ((0 : Int32) ≤ r ∧ (24 : Int32) + r = nI (sg c)) ∨ (¬ (0 : Int32) ≤ r ∧ sg c = 38) → Q (some (iV r)) σ) : R O (d + 1 + 1 + 1) mJ0_indexOf_0f7a4 Q 0 [some (rV 200 1), some (iV (nI c))] [] σ := by
  have h3 : (1 : Nat) < 3 := by omega
  have el : mj_len.getD 1 0 = 10 := rfl
  have w := (sg_mj c hc).2.2
  refine bJ0_indexOf_0f7a4_0 h3 (bJ0_indexOf_7cf53_0 h3 (bJ0_isLatin1_aae02_0 h3 ⟨fun z => absurd z (by decide), fun _ => ⟨fun z => absurd rfl z, fun _ => bJ0_indexOf_7cf53_4 h3 ⟨fun z => absurd z (by decide), fun _ => ?_⟩⟩⟩))
  refine bJ0_length_8abf5_0 h3 (bJ0_coder_7d493_0 h3 ⟨fun z => absurd z (by decide), fun _ => bJ0_length_8abf5_9 h3 ?_⟩)
  refine bJ0_indexOf_7cf53_17 h3 h3 (bJ1_indexOf_4cfef_0 h3 (bJ1_canEncode_9a6ad_0 ⟨fun z => ?_, fun _ => ⟨fun z => ?_, fun _ => bJ1_indexOf_4cfef_4 h3 ⟨fun _ => ⟨fun _ => ?_, fun z => ?_⟩, fun z => absurd z (by decide)⟩⟩⟩))
  · exact absurd z (nI_pos (by omega))
  · rw [show (255 : Int32) = nI 255 from rfl, nI_ltI (by omega) (by omega)] at z; omega
  · refine bJ1_indexOfChar_4cfef_0 h3 ?_
    have L : ∀ m i, i + m = 10 → sgI c m i = sg c → R O d mJ1_indexOfChar_4cfef (fun r σ' => R O (d + 1) mJ1_indexOf_4cfef (fun r σ' => R O (d + 1 + 1) mJ0_indexOf_7cf53 (fun r σ' => R O (d + 1 + 1 + 1) mJ0_indexOf_0f7a4 Q 6 [some (rV 200 1), some (iV (nI c))] (r.toList ++ []) σ') 20 [some (rV 200 1), some (iV (nI c)), some (iV (0 : Int32))] (r.toList ++ []) σ') 36 [some (rV 201 1), some (iV (nI c)), some (iV (0 : Int32)), some (iV (nI 10))] (r.toList ++ []) σ') 7 [some (rV 201 1), some (iV (nI c)), some (iV (0 : Int32)), some (iV (nI 10)), some (iV (nI c).toInt8.toInt32), some (iV (nI i))] [] σ := by
      intro m
      induction m with
      | zero =>
        intro i hi he
        obtain rfl : i = 10 := by omega
        refine bJ1_indexOfChar_4cfef_7 h3 ⟨fun _ => ?_, fun z => absurd (Int32.le_refl _) z⟩
        exact bJ1_indexOf_4cfef_36 h3 (bJ0_indexOf_7cf53_20 h3 (bJ0_indexOf_0f7a4_6 h3 (H _ (Or.inr ⟨by decide, he.symm⟩))))
      | succ m ih =>
        intro i hi he
        rw [sgI] at he
        refine bJ1_indexOfChar_4cfef_7 h3 ⟨fun z => ?_, fun _ => ?_⟩
        · rw [nI_le2 (by omega) (by omega)] at z; omega
        · rw [el, nI_clamp (by omega)]
          refine ⟨vin (show i < 10 by omega) (by omega) (by decide), fun z => ?_, fun z => ?_⟩
          · rw [w i (by omega)] at z
            rw [if_neg z] at he
            rw [nI_1]
            exact ih (i + 1) (by omega) he
          · rw [w i (by omega)] at z
            rw [if_pos z] at he
            refine bJ1_indexOf_4cfef_36 h3 (bJ0_indexOf_7cf53_20 h3 (bJ0_indexOf_0f7a4_6 h3 (H _ (Or.inl ⟨Int32.not_lt.mp (nI_pos (by omega)), ?_⟩))))
            rw [← he, show (24 : Int32) = nI 24 from rfl, nI_add]
    exact L 10 0 rfl rfl
  · exact absurd (show _ from by decide) z
theorem nbC_le (j : Nat) : nbC t p j ≤ 1000000 := by
  cases j with
  | zero => exact Nat.zero_le _
  | succ j => rw [nbC]; omega
theorem S_addNumber {K : Nat} (hn : n ≤ 700) (hb : TB σ t n) (hK : K ≤ 700) (h5 : σ.1 2 0 5 = nI K) (hT : TKS σ t n K) (hp : tkP t n K < n) (hl : isL (t (tkP t n K)) = false) (hd : isD (t (tkP t n K)) = true) (H : ∀ τ : MS, TA σ τ t n K → Q (some (iV (nI (tkS t n (K + 1))))) τ) : R mj_OC (d + 1) mX9_addNumber Q 0 [some (rV 2 0), some (iV (nI (tkP t n K))), some (iV (nI n)), none, none] [] σ := by
  have hl' : ¬ isL (t (tkP t n K)) = true := by rw [hl]; decide
  have eS : tkS t n (K + 1) = rn isD t n (tkP t n K) := by rw [(tkS_next hp).1, tkE, if_neg hl', if_pos hd]
  have rp := rn_p (P := isD) (t := t) (n := n) (p := tkP t n K) (by omega)
  rw [eS] at H
  generalize hP : tkP t n K = P at *
  generalize hq : rn isD t n P = q0 at *
  have ek : 23 = tK t n K := by unfold tK tkK; rw [hP, if_pos hp, if_neg hl', if_pos hd]
  have ev : tV t n K = nbC t P (q0 - P) := by unfold tV tkV; rw [hP, if_pos hp, if_neg hl', if_pos hd, hq]
  have fin : R mj_OC d mX9_add (fun r σ' => R mj_OC (d + 1) mX9_addNumber Q 59 [some (rV 2 0), some (iV (nI P)), some (iV (nI n)), some (iV (nI (nbC t P (q0 - P)))), some (iV (nI q0))] (r.toList ++ []) σ') 0 [some (rV 2 0), some (iV (23 : Int32)), some (iV (nI P)), some (iV (nI (nbC t P (q0 - P))))] [] σ :=
    S_taddT (k := 23) hK h5 hT ek hP.symm ev.symm (fun τ h1 => bX9_addNumber_59 (H τ h1))
  have L : ∀ (r q : Nat), q + r = q0 → P ≤ q → R mj_OC (d + 1) mX9_addNumber Q 5 [some (rV 2 0), some (iV (nI P)), some (iV (nI n)), some (iV (nI (nbC t P (q - P)))), some (iV (nI q))] [] σ := by
    intro r
    induction r with
    | zero =>
      intro q hqq hPq
      obtain rfl : q = q0 := by omega
      refine bX9_addNumber_5 ⟨fun _ => fin, fun z => ?_⟩
      rw [nI_le2 (by omega) (by omega)] at z
      have lt : q < n := by omega
      rw [cl lt (by omega), (hb q lt).1]
      refine ⟨vin lt (by omega) (by decide), S_isDigit (hb q lt).2 (fun g => ?_) (fun g => bX9_addNumber_21 ⟨fun _ => fin, fun z => absurd rfl z⟩)⟩
      rw [rp.2.2.2 lt] at g; exact absurd g (by decide)
    | succ r ih =>
      intro q hqq hPq
      have lt : q < n := by omega
      have gl := rp.2.2.1 q hPq (by omega)
      have lb : 48 ≤ t q ∧ t q ≤ 57 := by simpa [isD] using gl
      refine bX9_addNumber_5 ⟨fun z => ?_, fun _ => ?_⟩
      · rw [nI_le2 (by omega) (by omega)] at z; omega
      rw [cl lt (by omega), (hb q lt).1]
      refine ⟨vin lt (by omega) (by decide), S_isDigit (hb q lt).2 (fun g => bX9_addNumber_21 ⟨fun z => absurd z (by decide), fun _ => ?_⟩) (fun g => by rw [gl] at g; exact absurd g (by decide))⟩
      rw [cl lt (by omega), (hb q lt).1]
      have nx := ih (q + 1) (by omega) (by omega)
      have bb := nbC_le (t := t) (p := P) (q - P)
      rw [show q + 1 - P = (q - P) + 1 by omega, nbC, show P + (q - P) = q by omega] at nx
      refine ⟨vin lt (by omega) (by decide), ?_⟩
      have e : (nI (nbC t P (q - P)) * (10 : Int32) + nI (t q)) - (48 : Int32) = nI (nbC t P (q - P) * 10 + (t q - 48)) := by
        rw [show (10 : Int32) = nI 10 from rfl, show (48 : Int32) = nI 48 from rfl, pk_mul, nI_add, pk_sub (by omega)]; congr 1; omega
      have e2 : (if nI (nbC t P (q - P) * 10 + (t q - 48)) < (1000000 : Int32) then nI (nbC t P (q - P) * 10 + (t q - 48)) else (1000000 : Int32)) = nI (min 1000000 (nbC t P (q - P) * 10 + (t q - 48))) := by
        rw [show (1000000 : Int32) = nI 1000000 from rfl]
        by_cases g : nbC t P (q - P) * 10 + (t q - 48) < 1000000
        · rw [if_pos ((nI_ltI (by omega) (by omega)).mpr g)]; congr 1; omega
        · rw [if_neg (fun z => g ((nI_ltI (by omega) (by omega)).mp z))]; congr 1; omega
      rw [e, e2, nI_1]
      exact nx
  have := L (q0 - P) P (by omega) (Nat.le_refl _)
  rw [Nat.sub_self] at this
  exact bX9_addNumber_0 this
theorem S_withSecond {s c : Nat} (hs : s < 64) (hc : c < 256) (H : Q (some (iV (nI (sg2 s c)))) σ) : R mj_OC d mX9_withSecond Q 0 [some (iV (nI s)), some (iV (nI c))] [] σ := by
  unfold sg2 at H
  have q1 : nI s = (32 : Int32) ↔ s = 32 := nI_inj (b := 32) (by omega) (by omega)
  have q2 : nI s = (33 : Int32) ↔ s = 33 := nI_inj (b := 33) (by omega) (by omega)
  have q3 : nI c = (61 : Int32) ↔ c = 61 := nI_inj (b := 61) (by omega) (by omega)
  have q4 : nI c = (62 : Int32) ↔ c = 62 := nI_inj (b := 62) (by omega) (by omega)
  refine bX9_withSecond_0 ?_
  simp only [q1, q2, q3, q4]
  by_cases a1 : s = 32
  · by_cases a2 : c = 62
    · rw [if_pos ⟨a1, a2⟩] at H
      simp [a1, a2]; exact H
    · by_cases a3 : c = 61
      · rw [if_neg (by omega), if_pos ⟨a1, a3⟩] at H
        simp [a1, a3]; exact H
      · rw [if_neg (by omega), if_neg (by omega), if_neg (by omega)] at H
        simp [a1, a2, a3]; rw [a1] at H; exact H
  · by_cases a4 : s = 33
    · by_cases a3 : c = 61
      · rw [if_neg (by omega), if_neg (by omega), if_pos ⟨a4, a3⟩] at H
        simp [a4, a3]; exact H
      · rw [if_neg (by omega), if_neg (by omega), if_neg (by omega)] at H
        simp [a4, a3]; rw [a4] at H; exact H
    · rw [if_neg (by omega), if_neg (by omega), if_neg (by omega)] at H
      simp [a1, a4]; exact H
theorem S_addSign {K : Nat} (hn : n ≤ 700) (hb : TB σ t n) (hK : K ≤ 700) (h5 : σ.1 2 0 5 = nI K) (hT : TKS σ t n K) (hp : tkP t n K < n) (hl : isL (t (tkP t n K)) = false) (hd : isD (t (tkP t n K)) = false) (H : ∀ τ : MS, TA σ τ t n K → Q (some (iV (nI (tkS t n (K + 1))))) τ) : R mj_OC (d + 1 + 1 + 1 + 1) mX9_addSign Q 0 [some (rV 2 0), some (iV (nI (tkP t n K))), some (iV (nI n)), none, none, none] [] σ := by
  have hl' : ¬ isL (t (tkP t n K)) = true := by rw [hl]; decide
  have hd' : ¬ isD (t (tkP t n K)) = true := by rw [hd]; decide
  have eS : tkS t n (K + 1) = if sgB t n (tkP t n K) = sg (t (tkP t n K)) then tkP t n K + 1 else tkP t n K + 2 := by rw [(tkS_next hp).1, tkE, if_neg hl', if_neg hd']
  rw [eS] at H
  generalize hP : tkP t n K = P at *
  have ek : sgB t n P = tK t n K := by unfold tK tkK; rw [hP, if_pos hp, if_neg hl', if_neg hd']
  have ev : 0 = tV t n K := by unfold tV tkV; rw [hP, if_pos hp, if_neg hl', if_neg hd']
  have b1 := sg_b (t P)
  have b2 := sgB_b t n P
  have fin : ∀ r : Int32, R mj_OC (d + 1 + 1 + 1) mX9_add (fun r' σ' => R mj_OC (d + 1 + 1 + 1 + 1) mX9_addSign Q 63 [some (rV 2 0), some (iV (nI P)), some (iV (nI n)), some (iV r), some (iV (nI (sg (t P)))), some (iV (nI (sgB t n P)))] (r'.toList ++ []) σ') 0 [some (rV 2 0), some (iV (nI (sgB t n P))), some (iV (nI P)), some (iV (0 : Int32))] [] σ := by
    intro r
    refine S_taddT (v := 0) hK h5 hT ek hP.symm ev (fun τ h1 => bX9_addSign_63 ⟨fun z => ?_, fun z => ?_⟩)
    · rw [nI_inj (by omega) (by omega)] at z
      have := H τ h1
      rw [if_neg z] at this
      rw [show (2 : Int32) = nI 2 from rfl, nI_add]; exact this
    · rw [nI_inj (by omega) (by omega)] at z
      have := H τ h1
      rw [if_pos z] at this
      rw [nI_1]; exact this
  have two : ∀ r : Int32, ((nI n ≤ nI P + 1 → R mj_OC (d + 1 + 1 + 1) mX9_add (fun r' σ' => R mj_OC (d + 1 + 1 + 1 + 1) mX9_addSign Q 63 [some (rV 2 0), some (iV (nI P)), some (iV (nI n)), some (iV r), some (iV (nI (sg (t P)))), some (iV (nI (sg (t P))))] (r'.toList ++ []) σ') 0 [some (rV 2 0), some (iV (nI (sg (t P)))), some (iV (nI P)), some (iV (0 : Int32))] [] σ) ∧ (¬ nI n ≤ nI P + 1 → (vp_in (nI P + 1) 700 ∧ R mj_OC (d + 1 + 1 + 1) mX9_withSecond (fun r' σ' => R mj_OC (d + 1 + 1 + 1 + 1) mX9_addSign Q 48 [some (rV 2 0), some (iV (nI P)), some (iV (nI n)), some (iV r), some (iV (nI (sg (t P)))), none] (r'.toList ++ []) σ') 0 [some (iV (nI (sg (t P)))), some (iV (σ.1 12 0 (nI P + 1).toNatClampNeg))] [] σ))) := by
    intro r
    rw [nI_1]
    refine ⟨fun z => ?_, fun z => ?_⟩
    · rw [nI_le2 (by omega) (by omega)] at z
      have e : sgB t n P = sg (t P) := by unfold sgB; rw [if_neg (by omega)]
      have := fin r
      rw [e] at this; exact this
    · rw [nI_le2 (by omega) (by omega)] at z
      have lt : P + 1 < n := by omega
      have e : sgB t n P = sg2 (sg (t P)) (t (P + 1)) := by unfold sgB; rw [if_pos lt]
      rw [cl lt (by omega), (hb _ lt).1]
      refine ⟨vin lt (by omega) (by decide), S_withSecond (by omega) (hb _ lt).2 (bX9_addSign_48 ?_)⟩
      rw [← e]; exact fin r
  refine bX9_addSign_0 ?_
  rw [cl hp (by omega), (hb P hp).1, (sg_mj _ (hb P hp).2).1]
  refine ⟨vin hp (by omega) (by decide), J_signAt (hb P hp).2 (fun r hr => bX9_addSign_12 ⟨fun z => ?_, fun z => ?_⟩)⟩
  · rcases hr with ⟨_, h2⟩ | ⟨h1, _⟩
    · rw [h2]; exact two r
    · exact absurd z h1
  · rcases hr with ⟨h1, _⟩ | ⟨_, h2⟩
    · exact absurd h1 z
    · rw [show (38 : Int32) = nI (sg (t P)) by rw [h2]; rfl]; exact two r
/-- the tape opened: its tokens are those of the first n bytes, with T ahead of the end -/
def OPN (τ : MS) (t : Nat → Nat) (n T : Nat) : Prop := T ≤ n ∧ tkP t n T = n ∧ (∀ k, k < T → tkP t n k < n) ∧ TKS τ t n (T + 1) ∧ τ.1 2 0 5 = nI (T + 1) ∧ τ.1 2 0 6 = 0 ∧ τ.1 2 0 0 = 0
theorem S_open {h : Nat} (hn : n ≤ h) (hh : h ≤ 700) (hb : TB σ t n) (h0 : σ.1 2 0 0 = nI h) (H : ∀ (τ : MS) (T : Nat), SB tkL σ τ → OPN τ t n T → Q none τ) : R mj_OC (d + 1 + 1 + 1 + 1 + 1 + 1) mX9_open Q 0 [some (rV 2 0), some (iV (nI n)), none, none, none, none] [] σ := by
  have L : ∀ (r q c K : Nat) (τ : MS), n - q ≤ r → q ≤ n → c ≤ q → K ≤ q → tkS t n K ≤ q → q ≤ tkP t n K → (∀ k, k < K → tkP t n k < n) → SB tkL σ τ → TKS τ t n K → τ.1 2 0 5 = nI K → τ.1 2 0 6 = 0 → τ.1 2 0 0 = 0 → R mj_OC (d + 1 + 1 + 1 + 1 + 1 + 1) mX9_open Q 29 [some (rV 2 0), some (iV (nI n)), some (iV (nI n)), some (iV (nI q)), some (iV (nI c)), none] [] τ := by
    intro r
    induction r with
    | zero =>
      intro q c K τ hr hq hc hK hs hp hall hS hT h5 h6 h0'
      obtain rfl : q = n := by omega
      have fin : R mj_OC (d + 1 + 1 + 1 + 1 + 1) mX9_add (fun r' σ' => R mj_OC (d + 1 + 1 + 1 + 1 + 1 + 1) mX9_open Q 127 [some (rV 2 0), some (iV (nI q)), some (iV (nI q)), some (iV (nI q)), some (iV (nI c)), none] (r'.toList ++ []) σ') 0 [some (rV 2 0), some (iV (37 : Int32)), some (iV (nI q)), some (iV (0 : Int32))] [] τ := by
        have e := (tkP_p (t := t) (n := q) K).2
        have eP : tkP t q K = q := by omega
        refine S_taddT (k := 37) (v := 0) (by omega) h5 hT (by unfold tK; rw [if_neg (by omega)]) eP.symm (by unfold tV; rw [if_neg (by omega)]) (fun τ' h1 => bX9_open_127 (H τ' K (hS.tr h1.1) ⟨hK, eP, hall, h1.2.2.2, h1.2.1, ?_, ?_⟩))
        · rw [h1.2.2.1 6 (by decide)]; exact h6
        · rw [h1.2.2.1 0 (by decide)]; exact h0'
      exact bX9_open_29 ⟨fun _ => fin, fun _ => ⟨fun _ => fin, fun z => absurd (Int32.le_refl _) z⟩⟩
    | succ r ih =>
      intro q c K τ hr hq hc hK hs hp hall hS hT h5 h6 h0'
      rcases Nat.lt_or_ge q n with lt | ge
      · have hb' := hb.keep hS
        have rp := rn_p (P := isB) (t := t) (n := n) (p := tkS t n K) (tkS_le K)
        rw [show rn isB t n (tkS t n K) = tkP t n K from rfl] at rp
        refine bX9_open_29 ⟨fun z => ?_, fun _ => ⟨fun z => ?_, fun _ => ?_⟩⟩
        · rw [show (700 : Int32) = nI 700 from rfl, nI_le2 (by omega) (by omega)] at z; omega
        · rw [nI_le2 (by omega) (by omega)] at z; omega
        rw [cl lt (by omega), (hb' q lt).1]
        have bq := (hb' q lt).2
        rw [show (32 : Int32) = nI 32 from rfl, show (10 : Int32) = nI 10 from rfl, nI_inj (by omega) (by omega), nI_inj (by omega) (by omega)]
        have blank : t q = 32 ∨ t q = 10 → R mj_OC (d + 1 + 1 + 1 + 1 + 1 + 1) mX9_open Q 29 [some (rV 2 0), some (iV (nI n)), some (iV (nI n)), some (iV (nI q + 1)), some (iV (nI c + 1)), none] [] τ := by
          intro g
          have ne : q ≠ tkP t n K := fun e => by
            have := rp.2.2.2 (by omega)
            rw [← e] at this
            simp [isB] at this
            omega
          rw [nI_1, nI_1]
          exact ih (q + 1) (c + 1) K τ (by omega) (by omega) (by omega) (by omega) (by omega) (by omega) hall hS hT h5 h6 h0'
        refine ⟨vin lt (by omega) (by decide), fun z => blank (Or.inl z), fun z => ⟨fun z2 => ?_, fun z2 => blank (Or.inr z2)⟩⟩
        have eP : tkP t n K = q := by
          rcases Nat.lt_or_ge q (tkP t n K) with l | l
          · have := rp.2.2.1 q hs l
            simp [isB] at this
            omega
          · omega
        have hp' : tkP t n K < n := by omega
        have nx : ∀ τ' : MS, TA τ τ' t n K → R mj_OC (d + 1 + 1 + 1 + 1 + 1 + 1) mX9_open Q 29 [some (rV 2 0), some (iV (nI n)), some (iV (nI n)), some (iV (nI (tkS t n (K + 1)))), some (iV (nI c + 1)), none] [] τ' := by
          intro τ' h1
          rw [nI_1]
          have s1 := tkS_next hp'
          have s2 := tkS_le (t := t) (n := n) (K + 1)
          refine ih _ (c + 1) (K + 1) τ' (by omega) s2 (by omega) (by omega) (Nat.le_refl _) (tkP_p (K + 1)).1 ?_ (hS.tr h1.1) h1.2.2.2 h1.2.1 ?_ ?_
          · intro k hk
            rcases Nat.lt_or_ge k K with l | l
            · exact hall k l
            · obtain rfl : k = K := by omega
              exact hp'
          · rw [h1.2.2.1 6 (by decide)]; exact h6
          · rw [h1.2.2.1 0 (by decide)]; exact h0'
        refine S_isLetter bq (fun g => bX9_open_75 ⟨fun z => absurd z (by decide), fun _ => ?_⟩) (fun g => bX9_open_75 ⟨fun _ => ?_, fun z => absurd rfl z⟩)
        · rw [← eP] at g ⊢
          exact S_addWord (by omega) hb' (by omega) h5 hT hp' g (fun τ' h1 => bX9_open_84 (nx τ' h1))
        · refine S_isDigit bq (fun g2 => bX9_open_93 ⟨fun z => absurd z (by decide), fun _ => ?_⟩) (fun g2 => bX9_open_93 ⟨fun _ => ?_, fun z => absurd rfl z⟩)
          · rw [← eP] at g g2 ⊢
            exact S_addNumber (by omega) hb' (by omega) h5 hT hp' g g2 (fun τ' h1 => bX9_open_102 (nx τ' h1))
          · rw [← eP] at g g2 ⊢
            exact S_addSign (by omega) hb' (by omega) h5 hT hp' g g2 (fun τ' h1 => bX9_open_112 (nx τ' h1))
      · exact ih q c K τ (by omega) hq hc hK hs hp hall hS hT h5 h6 h0'
  refine bX9_open_0 ?_
  have em : (if σ.1 2 0 0 < nI n then σ.1 2 0 0 else nI n) = nI n := by
    rw [h0]
    rw [if_neg (fun z => absurd ((nI_ltI (by omega) (by omega)).mp z) (by omega))]
  rw [em]
  exact L n 0 0 0 _ (by omega) (Nat.zero_le _) (Nat.le_refl _) (Nat.le_refl _) (Nat.le_refl _) (Nat.zero_le _) (fun k hk => absurd hk (by omega)) (((SB.uI (by simp [tkL])).tr (SB.uI (by simp [tkL]))).tr (SB.uI (by simp [tkL]))) (fun k hk => absurd hk (by omega)) (by simp [uI]; rfl) (by simp [uI]) (by simp [uI])
end Sd
