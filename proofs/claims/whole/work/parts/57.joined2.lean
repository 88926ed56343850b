/-! joined: both programs -/
section Ro
variable {d b : Nat} {Q : Option MV → MS → Prop} {c : CA} {s : SA} {σ : MS} {x w : Int32}
theorem gWaterOf_n (hs : SI c s) : gWaterOf c s x = nI (gWt s x (c 0 0)) := by
  have : ∀ n, n ≤ c 0 0 → gSum (fun p => if bt x p = true then s 4 p else 0) n = nI (gWt s x n) := by
    intro n
    induction n with
    | zero => intro _; rfl
    | succ n ih =>
      intro hn
      have i0 := ih (by omega)
      unfold gWt at i0 ⊢
      rw [gSum, gSN, i0, ← nI_add]
      by_cases g : bt x n = true
      · rw [if_pos g, if_pos g, (hs n (by omega)).1]
      · rw [if_neg g, if_neg g]; rfl
  exact this _ (Nat.le_refl _)
theorem S_bedUpTo (h : CB σ b c) {h' : Nat} (hh : h' ≤ 2000) (H : Q (some (lV (lN (gBd c x h' (c 0 0))))) σ) : R mj_OC d mX0_bedUpTo Q 0 [some (rV 3 b), some (iV x), some (iV (nI h')), none, none, none] [] σ := by
  obtain ⟨hb, C, _, _, V⟩ := h
  have np := V.np
  refine bX0_bedUpTo_0 hb ?_
  refine up_loop (n := c 0 0) (fun i => R mj_OC d mX0_bedUpTo Q 5 [some (rV 3 b), some (iV x), some (iV (nI h')), some (lV (lN (gBd c x h' i))), none, some (iV (nI i))] [] σ) ?_ ?_ 0 (Nat.zero_le _)
  · refine bX0_bedUpTo_5 hb ⟨fun _ => H, fun z => ?_⟩
    rw [C.np] at z; exact absurd (Int32.le_refl _) z
  · intro i hi ih
    have pd := V.pond hi
    have mb := Nat.mul_le_mul pd.2.1 pd.2.2.1
    unfold gBd at ih ⊢
    rw [gSN] at ih
    refine bX0_bedUpTo_5 hb ⟨fun z => ?_, fun _ => ⟨fun z => ?_, fun z => ⟨vin hi np (by decide), fun z2 => ?_, fun z2 => ?_⟩⟩⟩
    · rw [C.np, nI_le2 (by omega) (by omega)] at z; omega
    · rw [bt_sh (by omega)] at z
      rw [nI_1]; rw [if_neg (fun q => z q.1), Nat.add_zero] at ih; exact ih
    · rw [bt_sh (by omega)] at z
      rw [cl hi (by omega), C.floor hi, nI_ltI (by omega) (by omega)] at z2
      rw [nI_1]; rw [if_neg (fun q => by omega), Nat.add_zero] at ih; exact ih
    · rw [bt_sh (by omega)] at z
      rw [cl hi (by omega), C.floor hi, nI_ltI (by omega) (by omega)] at z2
      rw [cl hi (by omega), C.floor hi, C.area hi, nI_1, pk_mul, nI_l (by omega), lN_add]
      rw [if_pos ⟨z, by omega⟩] at ih
      rw [Nat.mul_comm (c 2 i)]; exact ih
theorem S_areaUpTo (h : CB σ b c) {h' : Nat} (hh : h' ≤ 2000) (H : Q (some (lV (lN (gA c x h' (c 0 0))))) σ) : R mj_OC d mX0_areaUpTo Q 0 [some (rV 3 b), some (iV x), some (iV (nI h')), none, none, none] [] σ := by
  obtain ⟨hb, C, _, _, V⟩ := h
  have np := V.np
  refine bX0_areaUpTo_0 hb ?_
  refine up_loop (n := c 0 0) (fun i => R mj_OC d mX0_areaUpTo Q 5 [some (rV 3 b), some (iV x), some (iV (nI h')), some (lV (lN (gA c x h' i))), none, some (iV (nI i))] [] σ) ?_ ?_ 0 (Nat.zero_le _)
  · refine bX0_areaUpTo_5 hb ⟨fun _ => H, fun z => ?_⟩
    rw [C.np] at z; exact absurd (Int32.le_refl _) z
  · intro i hi ih
    have pd := V.pond hi
    unfold gA at ih ⊢
    rw [gSN] at ih
    refine bX0_areaUpTo_5 hb ⟨fun z => ?_, fun _ => ⟨fun z => ?_, fun z => ⟨vin hi np (by decide), fun z2 => ?_, fun z2 => ?_⟩⟩⟩
    · rw [C.np, nI_le2 (by omega) (by omega)] at z; omega
    · rw [bt_sh (by omega)] at z
      rw [nI_1]; rw [if_neg (fun q => z q.1), Nat.add_zero] at ih; exact ih
    · rw [bt_sh (by omega)] at z
      rw [cl hi (by omega), C.floor hi, nI_ltI (by omega) (by omega)] at z2
      rw [nI_1]; rw [if_neg (fun q => by omega), Nat.add_zero] at ih; exact ih
    · rw [bt_sh (by omega)] at z
      rw [cl hi (by omega), C.floor hi, nI_ltI (by omega) (by omega)] at z2
      rw [cl hi (by omega), C.area hi, nI_1, nI_l (by omega), lN_add]
      rw [if_pos ⟨z, by omega⟩] at ih; exact ih
theorem S_joined (h : WK σ b c s) (hs : SI c s) (H : Q (some (iV (gJoined c s x w))) σ) : R mj_OC (d + 1 + 1) mX10_joined Q 0 [some (rV 0 0), some (iV x), some (iV w), none, none, none, none, none, none, none, none, none] [] σ := by
  have V := h.V
  have np := V.np
  refine bX10_joined_0 ⟨fun z => ?_, fun x1 => ⟨by rw [h.1]; exact h.lt, fun z => ?_, fun x2 => ?_⟩⟩
  · rw [gJoined, if_neg (fun q => absurd q.1 (Int32.not_le.mpr z))] at H; exact H
  · rw [h.1, h.C.np, sh_1 _ (by omega)] at z
    rw [gJoined, if_neg (fun q => absurd q.2.1 (Int32.not_lt.mpr z))] at H; exact H
  rw [h.1, h.C.np, sh_1 _ (by omega)] at x2
  refine S_isHalf (fun g _ => bX10_joined_22 ⟨fun _ => ?_, fun z => absurd z (by decide)⟩) (fun g => bX10_joined_22 ⟨fun z => absurd rfl z, fun _ => by rw [gJoined, if_neg (fun q => by rw [g] at q; exact absurd q.2.2 (by decide))] at H; exact H⟩)
  have x1' := Int32.not_lt.mp x1
  have x2' := Int32.not_le.mp x2
  rw [gJoined, if_pos ⟨x1', x2', g⟩] at H
  have ex := bits_ex np x1' x2'
  have fs := gJ_first (s := s) V ex
  have st := gJh_p V 100 _ (by omega) fs.1 fs.2
  have bd := fun h' => gJ_bd (x := x) V hs h'
  have L : ∀ (r i N D : Nat), i + r = c 0 0 → ((D = 0 ∧ N = 0 ∧ ∀ t, t < i → ¬ bt x t = true) ∨ ∃ t, t < i ∧ bt x t = true ∧ N = gTp c s x (c 3 t) ∧ D = gA c x (c 3 t) (c 0 0) ∧ 0 < D ∧ ∀ t', t' < i → bt x t' = true → N * gA c x (c 3 t') (c 0 0) ≤ gTp c s x (c 3 t') * D) → R mj_OC (d + 1 + 1) mX10_joined Q 35 [some (rV 0 0), some (iV x), some (iV w), some (lV (lN N)), none, some (lV (lN D)), none, some (iV (nI i)), none, none, none, none] [] σ := by
    intro r
    induction r with
    | zero =>
      intro i N D hi hI
      obtain rfl : i = c 0 0 := by omega
      refine bX10_joined_35 ⟨by rw [h.1]; exact h.lt, fun _ => ?_, fun z => ?_⟩
      · rcases hI with ⟨_, _, a3⟩ | ⟨t, a1, a2, a3, a4, a5, a6⟩
        · obtain ⟨p, p1, p2⟩ := ex
          exact absurd p2 (a3 p p1)
        · have b1 := (bd (c 3 t))
          refine S_inLeastTerms (by omega) (by omega) a5 (bX10_joined_147 ?_)
          rw [lN_i]
          obtain ⟨⟨p, p1, p2, p3⟩, p4⟩ := st
          have q1 := a6 p p1 p2
          have q2 := p4 (c 3 t)
          rw [p3] at q1
          rw [← a3, ← a4] at q2
          rw [gPart_ratio (u' := gTp c s x (gJh c s x 100 (gLo c x (c 0 0)))) a5 (gA_pos V ⟨p, p1, p2, p3⟩) (by omega) w]
          exact H
      · rw [h.1, h.C.np] at z; exact absurd (Int32.le_refl _) z
    | succ r ih =>
      intro i N D hi hI
      have hip : i < c 0 0 := by omega
      have pd := V.pond hip
      have bN : N ≤ 1500000 ∧ D ≤ 140 := by
        rcases hI with ⟨a1, a2, _⟩ | ⟨t, _, _, a3, a4, _⟩
        · omega
        · have := bd (c 3 t); omega
      refine bX10_joined_35 ⟨by rw [h.1]; exact h.lt, fun z => ?_, fun _ => ⟨fun z => ?_, fun z => ?_⟩⟩
      · rw [h.1, h.C.np, nI_le2 (by omega) (by omega)] at z; omega
      · rw [bt_sh (by omega)] at z
        rw [nI_1]
        refine ih (i + 1) N D (by omega) ?_
        rcases hI with ⟨a1, a2, a3⟩ | ⟨t, a1, a2, a3, a4, a5, a6⟩
        · refine Or.inl ⟨a1, a2, fun t ht bt' => ?_⟩
          by_cases e : t = i
          · subst e; exact z bt'
          · exact a3 t (by omega) bt'
        · refine Or.inr ⟨t, by omega, a2, a3, a4, a5, fun t' ht bt' => ?_⟩
          by_cases e : t' = i
          · subst e; exact absurd bt' z
          · exact a6 t' (by omega) bt'
      · rw [bt_sh (by omega)] at z
        refine S_waterOf h.2 (bX10_joined_65 ⟨by rw [h.1]; exact h.lt, vin hip np (by decide), ?_⟩)
        have wb := (bd (c 3 i)).2.2 (c 0 0) (Nat.le_refl _)
        rw [gWaterOf_n hs, h.1, cl hip (by omega), h.C.floor hip, nI_l (by omega)]
        refine S_bedUpTo h.B (by omega) (bX10_joined_84 ⟨by rw [h.1]; exact h.lt, vin hip np (by decide), ?_⟩)
        rw [h.1, cl hip (by omega), h.C.floor hip, lN_add]
        have pA : 0 < gA c x (c 3 i) (c 0 0) := gA_pos V ⟨i, hip, z, rfl⟩
        have bI := bd (c 3 i)
        have take : (D = 0 ∨ gTp c s x (c 3 i) * D < N * gA c x (c 3 i) (c 0 0)) → R mj_OC (d + 1 + 1) mX10_joined Q 35 [some (rV 0 0), some (iV x), some (iV w), some (lV (lN (gTp c s x (c 3 i)))), none, some (lV (lN (gA c x (c 3 i) (c 0 0)))), none, some (iV (nI i + 1)), none, none, none, none] [] σ := fun g2 => by
          rw [nI_1]
          refine ih (i + 1) _ _ (by omega) (Or.inr ⟨i, by omega, z, rfl, rfl, pA, fun t' ht bt' => ?_⟩)
          by_cases e : t' = i
          · subst e; exact Nat.le_refl _
          · rcases hI with ⟨_, _, a3⟩ | ⟨t, a1, a2, a3, a4, a5, a6⟩
            · exact absurd bt' (a3 t' (by omega))
            · have q1 := a6 t' (by omega) bt'
              have q2 : gTp c s x (c 3 i) * D < N * gA c x (c 3 i) (c 0 0) := g2.resolve_left (by omega)
              -- Ti*D < N*Ai and N*At' ≤ Tt'*D, so Ti*At' ≤ Tt'*Ai
              refine Nat.le_of_mul_le_mul_right (c := D) ?_ a5
              have e1 : gTp c s x (c 3 i) * gA c x (c 3 t') (c 0 0) * D = gTp c s x (c 3 i) * D * gA c x (c 3 t') (c 0 0) := by rw [Nat.mul_assoc, Nat.mul_comm (gA c x (c 3 t') (c 0 0)), ← Nat.mul_assoc]
              have e2 : N * gA c x (c 3 i) (c 0 0) * gA c x (c 3 t') (c 0 0) = N * gA c x (c 3 t') (c 0 0) * gA c x (c 3 i) (c 0 0) := by rw [Nat.mul_assoc, Nat.mul_comm (gA c x (c 3 i) (c 0 0)), ← Nat.mul_assoc]
              have e3 : gTp c s x (c 3 t') * gA c x (c 3 i) (c 0 0) * D = gTp c s x (c 3 t') * D * gA c x (c 3 i) (c 0 0) := by rw [Nat.mul_assoc, Nat.mul_comm (gA c x (c 3 i) (c 0 0)), ← Nat.mul_assoc]
              rw [e1, e3]
              exact Nat.le_trans (Nat.mul_le_mul_right _ (Nat.le_of_lt q2)) (by rw [e2]; exact Nat.mul_le_mul_right _ q1)
        have mb1 : N * gA c x (c 3 i) (c 0 0) ≤ 1500000 * 140 := Nat.mul_le_mul bN.1 bI.2.1
        have mb2 : gTp c s x (c 3 i) * D ≤ 1500000 * 140 := Nat.mul_le_mul bI.1 bN.2
        refine S_areaUpTo h.B (by omega) (bX10_joined_105 ⟨fun q => ?_, fun q => ⟨fun q2 => ?_, fun q2 => ?_⟩⟩)
        · rw [lg_cmp_eq, show (0 : Int64) = lN 0 from rfl, pk_lEQ (by omega) (by omega)] at q
          exact take (Or.inl q)
        · rw [lg_cmp_eq, show (0 : Int64) = lN 0 from rfl, pk_lEQ (by omega) (by omega)] at q
          rw [lg_cmp_ge, lN_mul, lN_mul, pk_lLE (by omega) (by unfold gTp at mb2; omega)] at q2
          rw [nI_1]
          refine ih (i + 1) N D (by omega) ?_
          rcases hI with ⟨a1, _, _⟩ | ⟨t, a1, a2, a3, a4, a5, a6⟩
          · exact absurd a1 q
          · refine Or.inr ⟨t, by omega, a2, a3, a4, a5, fun t' ht bt' => ?_⟩
            by_cases e : t' = i
            · subst e; exact q2
            · exact a6 t' (by omega) bt'
        · rw [lg_cmp_ge, lN_mul, lN_mul, pk_lLE (by omega) (by unfold gTp at mb2; omega)] at q2
          exact take (Or.inr (Nat.lt_of_not_le q2))
  exact L (c 0 0) 0 0 0 (by omega) (Or.inl ⟨rfl, rfl, fun t ht => by omega⟩)
theorem gNf_le (h : Nat) : ∀ n, gNf c x h n ≤ 1000 := by
  intro n
  induction n with
  | zero => exact Nat.le_refl _
  | succ n ih =>
    rw [gNf]
    split
    · split <;> omega
    · exact ih
theorem M_joinedBy (h : MB σ 0 c s) (hs : SI c s) (x1 : 1 ≤ x) (x2 : x < nI (2 ^ c 0 0)) (H : Q (some (iV (nI (gPart (gTp c s x (gJh c s x 100 (gLo c x (c 0 0)))) (gA c x (gJh c s x 100 (gLo c x (c 0 0))) (c 0 0)) w)))) σ) : R mj_OM (d + 1 + 1) mX11_joinedBy Q 0 [some (rV 45 0), some (iV x), some (iV w), none, none, none, none, none, none, none] [] σ := by
  have V := h.2.2.1
  have np := V.np
  have ex := bits_ex np x1 x2
  have fs := gJ_first (s := s) V ex
  have bd := fun h' => gJ_bd (x := x) V hs h'
  have v0 : vp_in (0 : Int32) 18 := vin (p := 0) (n := 1) (by omega) (by omega) (by decide)
  -- the floors that are tried
  have L94 : ∀ (m h' : Nat) (x5 : Int32), 100 ≤ h' + m → (∃ p, p < c 0 0 ∧ bt x p = true ∧ c 3 p = h') → Q (some (iV (nI (gPart (gTp c s x (gJh c s x m h')) (gA c x (gJh c s x m h') (c 0 0)) w)))) σ → R mj_OM (d + 1 + 1) mX11_joinedBy Q 94 [some (rV 45 0), some (iV x), some (iV w), some (iV (nI (gWt s x (c 0 0)))), some (iV (nI h')), some (iV x5), none, none, none, none] [] σ := by
    intro m
    induction m with
    | zero =>
      rintro h' x5 hm ⟨p, p1, p2, p3⟩ _
      have := (V.pond p1).2.2.1
      omega
    | succ m ihm =>
      intro h' x5 hm hp H
      have h9 : h' ≤ 99 := by obtain ⟨p, p1, _, p3⟩ := hp; have := (V.pond p1).2.2.1; omega
      have b1 := bd h'
      have nl := gNf_le (c := c) (x := x) h' (c 0 0)
      refine bX11_joinedBy_94 ?_
      refine up_loop (n := c 0 0) (fun i => R mj_OM (d + 1 + 1) mX11_joinedBy Q 108 [some (rV 45 0), some (iV x), some (iV w), some (iV (nI (gWt s x (c 0 0)))), some (iV (nI h')), some (iV (nI (gWt s x (c 0 0) + gBd c x h' i))), some (iV (nI (gA c x h' i))), some (iV (nI (gNf c x h' i))), some (iV (nI i)), none] [] σ) ?_ ?_ 0 (Nat.zero_le _)
      · have pA := gA_pos V hp
        have mb : gNf c x h' (c 0 0) * gA c x h' (c 0 0) ≤ 1000 * 140 := Nat.mul_le_mul nl b1.2.1
        have part : gJh c s x (m + 1) h' = h' → R mj_OM (d + 1) mX11_part (fun r σ' => R mj_OM (d + 1 + 1) mX11_joinedBy Q 256 [some (rV 45 0), some (iV x), some (iV w), some (iV (nI (gWt s x (c 0 0)))), some (iV (nI h')), some (iV (nI (gWt s x (c 0 0) + gBd c x h' (c 0 0)))), some (iV (nI (gA c x h' (c 0 0)))), some (iV (nI (gNf c x h' (c 0 0)))), some (iV (nI (c 0 0))), none] (r.toList ++ []) σ') 0 [some (iV (nI (gWt s x (c 0 0) + gBd c x h' (c 0 0)))), some (iV (nI (gA c x h' (c 0 0)))), some (iV w), none] [] σ := fun e => by
          rw [e] at H
          unfold gTp at b1
          exact M_part (by omega) (by omega) pA (bX11_joinedBy_256 H)
        have tp : gTp c s x h' = gWt s x (c 0 0) + gBd c x h' (c 0 0) := rfl
        refine bX11_joinedBy_108 ⟨v0, fun _ => ⟨fun z => part ?_, fun z => ⟨fun z2 => ?_, fun z2 => part ?_⟩⟩, fun z => ?_⟩
        · rw [show (1000 : Int32) = nI 1000 from rfl, nI_inj (by omega) (by omega)] at z
          rw [gJh, if_pos (Or.inl z)]
        · rw [show (1000 : Int32) = nI 1000 from rfl, nI_inj (by omega) (by omega)] at z
          rw [pk_mul, nI_ltI (by omega) (by omega), ← tp] at z2
          have g : ¬ (gNf c x h' (c 0 0) = 1000 ∨ gTp c s x h' ≤ gNf c x h' (c 0 0) * gA c x h' (c 0 0)) := fun q => by omega
          rcases gNf_p (c := c) (x := x) (h := h') (c 0 0) (fun p hp => (V.pond hp).2.2.1) with ⟨a1, _⟩ | ⟨p, a1, a2, a3, a4, a5⟩
          · exact absurd a1 z
          · refine ihm _ _ (by omega) ⟨p, a1, a2, a3⟩ ?_
            rw [gJh, if_neg g] at H; exact H
        · rw [pk_mul, nI_ltI (by omega) (by omega), ← tp] at z2
          rw [gJh, if_pos (Or.inr (by omega))]
        · rw [h.2.1.np] at z; exact absurd (Int32.le_refl _) z
      · intro i hi ih
        have pd := V.pond hi
        have nli := gNf_le (c := c) (x := x) h' i
        have eB : gBd c x h' (i + 1) = gBd c x h' i + (if bt x i = true ∧ c 3 i ≤ h' then c 3 i * c 2 i else 0) := rfl
        have eA : gA c x h' (i + 1) = gA c x h' i + (if bt x i = true ∧ c 3 i ≤ h' then c 2 i else 0) := rfl
        rw [eB, eA, gNf] at ih
        refine bX11_joinedBy_108 ⟨v0, fun z => ?_, fun _ => ⟨fun z => ⟨vin hi (by omega) (by decide), fun z2 => ?_, fun z2 => ?_⟩, fun z => ?_⟩⟩
        · rw [h.2.1.np, nI_le2 (by omega) (by omega)] at z; omega
        · rw [cl hi (by omega), h.2.1.floor hi, nI_ltI (by omega) (by omega)] at z2
          have bi : bt x i = true := by
            rw [bit_one (by omega)] at z
            cases e : bt x i with
            | true => rfl
            | false => rw [e] at z; exact absurd rfl z
          rw [if_neg (fun q => by omega), if_neg (fun q => by omega), if_pos ⟨bi, by omega⟩, Nat.add_zero, Nat.add_zero] at ih
          refine ⟨fun _ => ⟨fun _ => ⟨fun _ => ?_, fun q => absurd rfl q⟩, fun q => absurd rfl q⟩, fun q => absurd rfl q⟩
          rw [cl hi (by omega), h.2.1.floor hi, Int32.add_zero, Int32.add_zero, nI_1]
          by_cases q : c 3 i < gNf c x h' i
          · rw [if_pos ((nI_ltI (by omega) (by omega)).mpr q)]; rw [if_pos q] at ih; exact ih
          · rw [if_neg (fun w => q ((nI_ltI (by omega) (by omega)).mp w))]; rw [if_neg q] at ih; exact ih
        · rw [cl hi (by omega), h.2.1.floor hi, nI_ltI (by omega) (by omega)] at z2
          have bi : bt x i = true := by
            rw [bit_one (by omega)] at z
            cases e : bt x i with
            | true => rfl
            | false => rw [e] at z; exact absurd rfl z
          rw [if_pos ⟨bi, by omega⟩, if_pos ⟨bi, by omega⟩, if_neg (fun q => q.2 (by omega))] at ih
          refine ⟨fun q => absurd q (by decide), fun _ => ⟨fun q => absurd q (by decide), fun _ => ⟨fun q => absurd q (by decide), fun _ => ?_⟩⟩⟩
          rw [cl hi (by omega), h.2.1.floor hi, h.2.1.area hi, pk_mul, nI_add, nI_add, nI_1, Nat.add_assoc (gWt s x (c 0 0))]
          exact ih
        · have bi : ¬ bt x i = true := fun e => by
            rw [bit_one (by omega), e] at z; exact absurd z (by decide)
          rw [if_neg (fun q => bi q.1), if_neg (fun q => bi q.1), if_neg (fun q => bi q.1), Nat.add_zero, Nat.add_zero] at ih
          rw [nI_1]; exact ih
  refine bX11_joinedBy_0 ?_
  refine up_loop (n := c 0 0) (fun i => R mj_OM (d + 1 + 1) mX11_joinedBy Q 5 [some (rV 45 0), some (iV x), some (iV w), some (iV (nI (gWt s x i))), some (iV (nI i)), none, none, none, none, none] [] σ) ?_ ?_ 0 (Nat.zero_le _)
  · refine bX11_joinedBy_5 ⟨v0, fun _ => ?_, fun z => ?_⟩
    · refine up_loop (n := c 0 0) (fun i => R mj_OM (d + 1 + 1) mX11_joinedBy Q 53 [some (rV 45 0), some (iV x), some (iV w), some (iV (nI (gWt s x (c 0 0)))), some (iV (nI (gLo c x i))), some (iV (nI i)), none, none, none, none] [] σ) ?_ ?_ 0 (Nat.zero_le _)
      · refine bX11_joinedBy_53 ⟨v0, fun _ => L94 100 _ _ (by omega) fs.1 H, fun z => ?_⟩
        rw [h.2.1.np] at z; exact absurd (Int32.le_refl _) z
      · intro i hi ih
        have pd := V.pond hi
        have ll : ∀ n, gLo c x n ≤ 100 := by
          intro n
          induction n with
          | zero => exact Nat.le_refl _
          | succ n ih =>
            rw [gLo]
            split
            · split <;> omega
            · exact ih
        have lli := ll i
        rw [gLo] at ih
        refine bX11_joinedBy_53 ⟨v0, fun z => ?_, fun _ => ⟨fun z => ?_, fun z => ⟨vin hi (by omega) (by decide), ?_⟩⟩⟩
        · rw [h.2.1.np, nI_le2 (by omega) (by omega)] at z; omega
        · rw [bt_sh (by omega)] at z
          rw [if_neg z] at ih; rw [nI_1]; exact ih
        · rw [bt_sh (by omega)] at z
          rw [if_pos z] at ih
          rw [cl hi (by omega), h.2.1.floor hi, nI_1]
          by_cases q : c 3 i < gLo c x i
          · rw [if_pos ((nI_ltI (by omega) (by omega)).mpr q)]; rw [if_pos q] at ih; exact ih
          · rw [if_neg (fun w => q ((nI_ltI (by omega) (by omega)).mp w))]; rw [if_neg q] at ih; exact ih
    · rw [h.2.1.np] at z; exact absurd (Int32.le_refl _) z
  · intro i hi ih
    have eW : gWt s x (i + 1) = gWt s x i + (if bt x i = true then gW s i else 0) := rfl
    rw [eW] at ih
    refine bX11_joinedBy_5 ⟨v0, fun z => ?_, fun _ => ⟨fun z => ?_, fun z => ⟨vin hi (by omega) (by decide), ?_⟩⟩⟩
    · rw [h.2.1.np, nI_le2 (by omega) (by omega)] at z; omega
    · rw [bt_sh (by omega)] at z
      rw [if_neg z, Nat.add_zero] at ih
      rw [Int32.add_zero, nI_1]; exact ih
    · rw [bt_sh (by omega)] at z
      rw [if_pos z] at ih
      rw [cl hi (by omega), show σ.1 74 0 i = s 4 i from by have := h.w hi; rwa [Nat.mul_zero, Nat.zero_add] at this, (hs i hi).1, nI_add, nI_1]; exact ih
theorem M_joined (h : MB σ 0 c s) (hs : SI c s) (H : ∀ τ, XQ σ τ → Q (some (iV (gJoined c s x w))) τ) : R mj_OM (d + 1 + 1 + 1) mX11_joined Q 0 [some (rV 45 0), some (iV x), some (iV w)] [] σ := by
  have V := h.2.2.1
  have np := V.np
  have h1 := XQ.t.mb h (by decide)
  have H := H _ XQ.t
  have v0 : vp_in (0 : Int32) 18 := vin (p := 0) (n := 1) (by omega) (by omega) (by decide)
  refine bX11_joined_0 ⟨fun z => ?_, fun x1 => ⟨v0, fun z => ?_, fun x2 => ?_⟩⟩
  · rw [gJoined, if_neg (fun q => absurd q.1 (Int32.not_le.mpr z))] at H; exact H
  · rw [h.2.1.np, sh_1 _ (by omega)] at z
    rw [gJoined, if_neg (fun q => absurd q.2.1 (Int32.not_lt.mpr z))] at H; exact H
  rw [h.2.1.np, sh_1 _ (by omega)] at x2
  refine M_isPart (fun g _ => bX11_joined_26 ⟨fun z => absurd z (by decide), fun _ => ?_⟩) (fun g => bX11_joined_26 ⟨fun _ => by rw [gJoined, if_neg (fun q => by rw [g] at q; exact absurd q.2.2 (by decide))] at H; exact H, fun z => absurd rfl z⟩)
  rw [gJoined, if_pos ⟨Int32.not_lt.mp x1, Int32.not_le.mp x2, g⟩] at H
  exact M_joinedBy h1 hs (Int32.not_lt.mp x1) (Int32.not_le.mp x2) (bX11_joined_35 H)
end Ro
