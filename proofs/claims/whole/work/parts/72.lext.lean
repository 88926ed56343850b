section Mg
variable {d : Nat} {Q : Option MV → MS → Prop} {σ : MS} {t : Nat → Nat} {n : Nat}
theorem hE_m1 {q : Nat} (hb : MBy σ t n) : hE t n q = (-1 : Int32) ↔ ¬ q < n := by
  unfold hE
  by_cases g : q < n
  · have := (hb q g).2
    rw [if_pos g]
    refine ⟨fun e => absurd (nI_pos (n := t q) (by omega)) (by rw [e]; decide), fun e => absurd g e⟩
  · rw [if_neg g]; exact ⟨fun _ => g, fun _ => rfl⟩
theorem nI_m1 {k : Nat} (hk : k < 2 ^ 31) : ¬ nI k = (-1 : Int32) := fun e => absurd (nI_pos (n := k) hk) (by rw [e]; decide)
theorem M_token {k : Nat} (hn : n ≤ 700) (hb : MBy σ t n) (h26 : σ.1 45 0 26 = nI n) (h27 : σ.1 45 0 27 = nI (tkS t n k)) (H : ∀ τ : MS, KM σ τ → MTk τ t n k → Q none τ) : R mj_OM (d + 1 + 1 + 1 + 1 + 1) mX11_token Q 0 [some (rV 45 0), none] [] σ := by
  have sl := tkS_le (t := t) (n := n) k
  have pp := tkP_p (t := t) (n := n) k
  have rpB := rn_p (P := isB) (t := t) (n := n) (p := tkS t n k) sl
  rw [show rn isB t n (tkS t n k) = tkP t n k from rfl] at rpB
  have here : ∀ (dd : Nat) (τ : MS) (q : Nat) {Q' : Option MV → MS → Prop}, KM σ τ → q ≤ n → τ.1 45 0 27 = nI q → Q' (some (iV (hE t n q))) τ → R mj_OM dd mX11_here Q' 0 [some (rV 45 0)] [] τ := fun dd τ q Q' h1 hq h2 h3 => M_here hn hq (hb.keep h1) (by rw [h1.2 26 (by omega)]; exact h26) h2 h3
  -- at the token
  have T : ∀ τ : MS, KM σ τ → τ.1 45 0 27 = nI (tkP t n k) → τ.1 45 0 28 = nI (tkP t n k) → R mj_OM (d + 1 + 1 + 1 + 1 + 1) mX11_token Q 43 [some (rV 45 0), none] [iV (hE t n (tkP t n k))] τ := by
    intro τ k1 e27 e28
    have hbτ := hb.keep k1
    rcases Nat.lt_or_ge (tkP t n k) n with lt | ge
    · have s1 := tkS_next lt
      have s2 := tkS_le (t := t) (n := n) (k + 1)
      have eh : hE t n (tkP t n k) = nI (t (tkP t n k)) := if_pos lt
      have eK : tK t n k = tkK t n (tkP t n k) := if_pos lt
      have eV : tV t n k = tkV t n (tkP t n k) := if_pos lt
      refine bX11_token_43 ⟨fun _ => M_isSmall hbτ (fun _ g => bX11_token_61 ⟨fun z => absurd z (by decide), fun _ => ?_⟩) (fun g => bX11_token_61 ⟨fun _ => ?_, fun z => absurd rfl z⟩), fun z => absurd lt ((hE_m1 hb).mp z)⟩
      · -- a word
        have rp := rn_p (P := isL) (t := t) (n := n) (p := tkP t n k) pp.2
        have eS : tkS t n (k + 1) = rn isL t n (tkP t n k) := by rw [s1.1, tkE, if_pos g]
        rw [← eS] at rp
        have eK2 : tK t n k = if 6 < tkS t n (k + 1) - tkP t n k then 38 else kw (pkN t (tkP t n k) (tkS t n (k + 1) - tkP t n k)) := by rw [eK, tkK, if_pos g, eS]
        have eV2 : tV t n k = pkN t (tkP t n k) (tkS t n (k + 1) - tkP t n k) := by rw [eV, tkV, if_pos g, eS]
        have hg : ∀ j, j < tkS t n (k + 1) - tkP t n k → 97 ≤ t (tkP t n k + j) ∧ t (tkP t n k + j) ≤ 122 := fun j hj => by
          have := rp.2.2.1 (tkP t n k + j) (by omega) (by omega)
          simpa [isL] using this
        -- behind the word
        have B : ∀ υ : MS, KM σ υ → υ.1 45 0 27 = nI (tkS t n (k + 1)) → υ.1 45 0 28 = nI (tkP t n k) → R mj_OM (d + 1 + 1 + 1 + 1) mX11_word (fun r σ' => R mj_OM (d + 1 + 1 + 1 + 1 + 1) mX11_token Q 92 [some (rV 45 0), some (iV (hE t n (tkP t n k)))] (r.toList ++ [rV 45 0]) σ') 0 [some (rV 45 0), none, none, none] [] υ := by
          intro υ k2 u27 u28
          have kb := kw_le (pkN t (tkP t n k) (tkS t n (k + 1) - tkP t n k))
          have u : ∀ (a c : Int32), KM σ (uI (uI υ 45 0 30 a) 45 0 29 c) := fun a c => (k2.tr (KM.u (by omega))).tr (KM.u (by omega))
          refine M_word hn (hb.keep k2) s1.2 s2 hg u27 u28 ?_
          unfold kwM
          by_cases g6 : tkS t n (k + 1) - tkP t n k ≤ 6
          · rw [if_neg (by omega)] at eK2
            rw [if_pos g6, ← eK2]
            rw [← eK2] at kb
            by_cases g22 : tK t n k = 22
            · rw [if_pos g22]
              refine bX11_token_92 ⟨fun _ => ⟨fun _ => ⟨fun z => absurd rfl z, fun _ => ?_⟩, fun z => ?_⟩, fun z => absurd rfl z⟩
              · refine M_name hn (hb.keep (u _ _)) s1.2 s2 g6 hg (by simp [uI]; exact u27) (by simp [uI]; exact u28) (bX11_token_142 (H _ ((u _ _).tr (KM.u (by omega))) ⟨by simp [uI]; exact u27, by simp [uI]; exact u28, Or.inr (Or.inl ⟨g22, by simp [uI], by simp [uI]; rw [eV2]⟩)⟩))
              · rw [u27, u28, pk_sub (by omega), show (6 : Int32) = nI 6 from rfl, nI_le2 (by omega) (by omega)] at z; omega
            · rw [if_neg g22]
              refine bX11_token_92 ⟨fun z => absurd z (nI_m1 (by omega)), fun _ => ⟨fun _ => H _ (u _ _) ⟨by simp [uI]; exact u27, by simp [uI]; exact u28, Or.inl ⟨by omega, by simp [uI], by simp [uI]⟩⟩, fun z => absurd z (by decide)⟩⟩
          · rw [if_pos (by omega)] at eK2
            rw [if_neg g6, if_pos rfl]
            refine bX11_token_92 ⟨fun _ => ⟨fun z => ?_, fun _ => ⟨fun _ => H _ (u _ _) ⟨by simp [uI]; exact u27, by simp [uI]; exact u28, Or.inr (Or.inr (Or.inr (Or.inr (Or.inr ⟨eK2, by simp [uI]⟩))))⟩, fun z => absurd z (by decide)⟩⟩, fun z => absurd rfl z⟩
            rw [u27, u28, pk_sub (by omega), show (6 : Int32) = nI 6 from rfl, nI_le2 (by omega) (by omega)] at z; omega
        have L : ∀ (r q : Nat) (υ : MS), q + r = tkS t n (k + 1) → tkP t n k ≤ q → KM σ υ → υ.1 45 0 27 = nI q → υ.1 45 0 28 = nI (tkP t n k) → R mj_OM (d + 1 + 1 + 1 + 1 + 1) mX11_token Q 64 [some (rV 45 0), some (iV (hE t n (tkP t n k)))] [] υ := by
          intro r
          induction r with
          | zero =>
            intro q υ hq hPq k2 u27 u28
            obtain rfl : q = tkS t n (k + 1) := by omega
            refine bX11_token_64 (here _ υ _ k2 s2 u27 (bX11_token_68 (M_isSmall (hb.keep k2) (fun l gl => ?_) (fun _ => bX11_token_71 ⟨fun _ => B υ k2 u27 u28, fun z => absurd rfl z⟩))))
            rw [rp.2.2.2 l] at gl; exact absurd gl (by decide)
          | succ r ih =>
            intro q υ hq hPq k2 u27 u28
            refine bX11_token_64 (here _ υ _ k2 (by omega) u27 (bX11_token_68 (M_isSmall (hb.keep k2) (fun l gl => bX11_token_71 ⟨fun z => absurd z (by decide), fun _ => ?_⟩) (fun gl => ?_))))
            · exact ih (q + 1) _ (by omega) (by omega) (k2.tr (KM.u (by omega))) (by simp [uI]; rw [u27, nI_1]) (by simp [uI]; exact u28)
            · have := gl (by omega)
              rw [rp.2.2.1 q hPq (by omega)] at this; exact absurd this (by decide)
        exact L (tkS t n (k + 1) - tkP t n k) (tkP t n k) τ (by omega) (Nat.le_refl _) k1 e27 e28
      · have gl := g lt
        have gl' : ¬ isL (t (tkP t n k)) = true := by rw [gl]; decide
        refine M_isDigit hbτ (fun _ gd => bX11_token_149 ⟨fun z => absurd z (by decide), fun _ => ?_⟩) (fun gd => bX11_token_149 ⟨fun _ => ?_, fun z => absurd rfl z⟩)
        · -- a number
          have rp := rn_p (P := isD) (t := t) (n := n) (p := tkP t n k) pp.2
          have eS : tkS t n (k + 1) = rn isD t n (tkP t n k) := by rw [s1.1, tkE, if_neg gl', if_pos gd]
          rw [← eS] at rp
          have eK2 : tK t n k = 23 := by rw [eK, tkK, if_neg gl', if_pos gd]
          have eV2 : tV t n k = nbC t (tkP t n k) (tkS t n (k + 1) - tkP t n k) := by rw [eV, tkV, if_neg gl', if_pos gd, eS]
          have L : ∀ (r q w : Nat) (υ : MS), q + r = tkS t n (k + 1) → tkP t n k ≤ q → ((nbC t (tkP t n k) (q - tkP t n k) ≤ 99999 ∧ w = nbC t (tkP t n k) (q - tkP t n k)) ∨ (99999 < nbC t (tkP t n k) (q - tkP t n k) ∧ 99999 < w ∧ w < 2000000)) → KM σ υ → υ.1 45 0 27 = nI q → υ.1 45 0 28 = nI (tkP t n k) → υ.1 45 0 29 = 2 → υ.1 45 0 30 = nI w → R mj_OM (d + 1 + 1 + 1 + 1 + 1) mX11_token Q 162 [some (rV 45 0), some (iV (hE t n (tkP t n k)))] [] υ := by
            intro r
            induction r with
            | zero =>
              intro q w υ hq hPq hw k2 u27 u28 u29 u30
              obtain rfl : q = tkS t n (k + 1) := by omega
              refine bX11_token_162 (here _ υ _ k2 s2 u27 (bX11_token_166 (M_isDigit (hb.keep k2) (fun l gl => ?_) (fun _ => bX11_token_169 ⟨fun _ => H υ k2 ⟨u27, u28, Or.inr (Or.inr (Or.inl ⟨eK2, u29, ?_⟩))⟩, fun z => absurd rfl z⟩))))
              · rw [rp.2.2.2 l] at gl; exact absurd gl (by decide)
              · rw [eV2]
                rcases hw with ⟨h1, h2⟩ | ⟨h1, h2, h3⟩
                · exact Or.inl ⟨h1, by rw [u30, h2]⟩
                · exact Or.inr ⟨h1, w, h2, h3, u30⟩
            | succ r ih =>
              intro q w υ hq hPq hw k2 u27 u28 u29 u30
              have lq : q < n := by omega
              have gq : 48 ≤ t q ∧ t q ≤ 57 := by
                have := rp.2.2.1 q hPq (by omega)
                simpa [isD] using this
              have eb : nbC t (tkP t n k) (q + 1 - tkP t n k) = min 1000000 (nbC t (tkP t n k) (q - tkP t n k) * 10 + (t q - 48)) := by
                rw [show q + 1 - tkP t n k = (q - tkP t n k) + 1 by omega, nbC, show tkP t n k + (q - tkP t n k) = q by omega]
              have bb := nbC_le (t := t) (p := tkP t n k) (q - tkP t n k)
              refine bX11_token_162 (here _ υ _ k2 (by omega) u27 (bX11_token_166 (M_isDigit (hb.keep k2) (fun l gl => bX11_token_169 ⟨fun z => absurd z (by decide), fun _ => ⟨fun z => ?_, fun z => ?_⟩⟩) (fun gl => ?_))))
              · rw [u30, show (99999 : Int32) = nI 99999 from rfl, nI_leI (by omega) (by omega)] at z
                refine here _ υ _ k2 (by omega) u27 (bX11_token_200 ?_)
                have ev : ((10 : Int32) * υ.1 45 0 30 + hE t n q) - 48 = nI (w * 10 + (t q - 48)) := by
                  rw [show hE t n q = nI (t q) from if_pos lq, u30, show (10 : Int32) = nI 10 from rfl, show (48 : Int32) = nI 48 from rfl, pk_mul, nI_add, pk_sub (by omega)]
                  congr 1; omega
                refine ih (q + 1) (w * 10 + (t q - 48)) _ (by omega) (by omega) ?_ ((k2.tr (KM.u (by omega))).tr (KM.u (by omega))) (by simp [uI]; rw [u27, nI_1]) (by simp [uI]; exact u28) (by simp [uI]; exact u29) ?_
                · rw [eb]; omega
                · rw [ev]; simp [uI]
              · rw [u30, show (99999 : Int32) = nI 99999 from rfl, nI_leI (by omega) (by omega)] at z
                refine ih (q + 1) w _ (by omega) (by omega) ?_ ((k2.tr (KM.u (by omega))).tr (KM.u (by omega))) (by simp [uI]; rw [u27, nI_1]) (by simp [uI]; exact u28) (by simp [uI]; exact u29) (by simp [uI]; exact u30)
                rw [eb]; omega
              · have := gl (by omega)
                rw [rp.2.2.1 q hPq (by omega)] at this; exact absurd this (by decide)
          refine L (tkS t n (k + 1) - tkP t n k) (tkP t n k) 0 _ (by omega) (Nat.le_refl _) (Or.inl ⟨?_, ?_⟩) ((k1.tr (KM.u (by omega))).tr (KM.u (by omega))) (by simp [uI]; exact e27) (by simp [uI]; exact e28) (by simp [uI]) (by simp [uI]; rfl)
          · rw [Nat.sub_self]; exact Nat.zero_le _
          · rw [Nat.sub_self]; rfl
        · -- a sign
          have gd' : ¬ isD (t (tkP t n k)) = true := by rw [gd lt]; decide
          have eK2 : tK t n k = sgB t n (tkP t n k) := by rw [eK, tkK, if_neg gl', if_neg gd']
          have eS : tkS t n (k + 1) = if sgB t n (tkP t n k) = sg (t (tkP t n k)) then tkP t n k + 1 else tkP t n k + 2 := by rw [s1.1, tkE, if_neg gl', if_neg gd']
          rw [eh]
          refine M_sign hn hbτ lt (by rw [k1.2 26 (by omega)]; exact h26) e27 (fun υ k2 u28 hs => bX11_token_225 (H υ (k1.tr k2) ⟨by rw [hs.1, eS], by rw [u28, e28], ?_⟩))
          rw [eK2]
          rcases hs.2 with h | h
          · exact Or.inr (Or.inr (Or.inr (Or.inl h)))
          · exact Or.inr (Or.inr (Or.inr (Or.inr (Or.inr h))))
    · have eP : tkP t n k = n := by omega
      have eS : tkS t n (k + 1) = n := by rw [tkS]; exact if_neg (by show ¬ tkP t n k < n; omega)
      refine bX11_token_43 ⟨fun z => absurd ((hE_m1 hb).mpr (by omega)) z, fun _ => H _ (k1.tr (KM.u (by omega))) ⟨by simp [uI]; rw [e27, eS, eP], by simp [uI]; exact e28, Or.inr (Or.inr (Or.inr (Or.inr (Or.inl ⟨if_neg (by omega), by simp [uI]⟩))))⟩⟩
  -- over the blanks
  have L : ∀ (r q : Nat) (τ : MS), q + r = tkP t n k → tkS t n k ≤ q → KM σ τ → τ.1 45 0 27 = nI q → R mj_OM (d + 1 + 1 + 1 + 1 + 1) mX11_token Q 0 [some (rV 45 0), none] [] τ := by
    intro r
    induction r with
    | zero =>
      intro q τ hq hs k1 e27
      obtain rfl : q = tkP t n k := by omega
      have q10 : ¬ hE t n (tkP t n k) = (10 : Int32) := fun e => by
        have := (hE_eq (k := 10) hb (by omega)).mp e
        have := rpB.2.2.2 this.1
        simp [isB] at this; omega
      have q32 : ¬ hE t n (tkP t n k) = (32 : Int32) := fun e => by
        have := (hE_eq (k := 32) hb (by omega)).mp e
        have := rpB.2.2.2 this.1
        simp [isB] at this; omega
      refine bX11_token_0 (here _ τ _ k1 pp.2 e27 (bX11_token_4 ⟨fun z => absurd z q10, fun _ => here _ τ _ k1 pp.2 e27 (bX11_token_13 ⟨fun _ => ?_, fun z => absurd z q32⟩)⟩))
      exact here _ _ _ (k1.tr (KM.u (by omega))) pp.2 (by simp [uI]; exact e27) (T _ (k1.tr (KM.u (by omega))) (by simp [uI]; exact e27) (by simp [uI]; exact e27))
    | succ r ih =>
      intro q τ hq hs k1 e27
      have lq : q < n := by omega
      have bl := rpB.2.2.1 q hs (by omega)
      have bl2 : t q = 10 ∨ t q = 32 := by simpa [isB] using bl
      have nx := ih (q + 1) (uI τ 45 0 27 (τ.1 45 0 27 + 1)) (by omega) (by omega) (k1.tr (KM.u (by omega))) (by simp [uI]; rw [e27, nI_1])
      refine bX11_token_0 (here _ τ _ k1 (by omega) e27 (bX11_token_4 ⟨fun _ => nx, fun z => here _ τ _ k1 (by omega) e27 (bX11_token_13 ⟨fun z2 => ?_, fun _ => nx⟩)⟩))
      rcases bl2 with e | e
      · exact absurd ((hE_eq (k := 10) hb (by omega)).mpr ⟨lq, e⟩) z
      · exact absurd ((hE_eq (k := 32) hb (by omega)).mpr ⟨lq, e⟩) z2
  exact L (tkP t n k - tkS t n k) (tkS t n k) σ (by omega) (Nat.le_refl _) KM.rfl h27
end Mg
