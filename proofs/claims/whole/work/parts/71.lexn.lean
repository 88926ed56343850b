section Mf
variable {d : Nat} {Q : Option MV → MS → Prop} {σ : MS} {t : Nat → Nat} {n : Nat}
theorem sg_in : ∀ c, c < 256 → (c = 59 ∨ c = 40 ∨ c = 41 ∨ c = 43 ∨ c = 45 ∨ c = 42 ∨ c = 47 ∨ c = 61 ∨ c = 60 ∨ c = 62 → 24 ≤ sg c ∧ sg c < 34 ∧ sgV (sg c) = c ∧ (sg c = 32 ↔ c = 60) ∧ (sg c = 33 ↔ c = 62)) ∧ (¬ (c = 59 ∨ c = 40 ∨ c = 41 ∨ c = 43 ∨ c = 45 ∨ c = 42 ∨ c = 47 ∨ c = 61 ∨ c = 60 ∨ c = 62) → sg c = 38) := by
  have h : ∀ c : Fin 256, (c.val = 59 ∨ c.val = 40 ∨ c.val = 41 ∨ c.val = 43 ∨ c.val = 45 ∨ c.val = 42 ∨ c.val = 47 ∨ c.val = 61 ∨ c.val = 60 ∨ c.val = 62 → 24 ≤ sg c.val ∧ sg c.val < 34 ∧ sgV (sg c.val) = c.val ∧ (sg c.val = 32 ↔ c.val = 60) ∧ (sg c.val = 33 ↔ c.val = 62)) ∧ (¬ (c.val = 59 ∨ c.val = 40 ∨ c.val = 41 ∨ c.val = 43 ∨ c.val = 45 ∨ c.val = 42 ∨ c.val = 47 ∨ c.val = 61 ∨ c.val = 60 ∨ c.val = 62) → sg c.val = 38) := by decide +kernel
  exact fun c hc => h ⟨c, hc⟩
/-- what a sign leaves -/
def MSg (τ : MS) (t : Nat → Nat) (n P : Nat) : Prop := τ.1 45 0 27 = nI (if sgB t n P = sg (t P) then P + 1 else P + 2) ∧ ((24 ≤ sgB t n P ∧ sgB t n P < 37 ∧ τ.1 45 0 29 = 3 ∧ τ.1 45 0 30 = nI (sgV (sgB t n P))) ∨ (sgB t n P = 38 ∧ τ.1 45 0 29 = 5))
theorem M_sign {P : Nat} (hn : n ≤ 700) (hb : MBy σ t n) (hP : P < n) (h26 : σ.1 45 0 26 = nI n) (h27 : σ.1 45 0 27 = nI P) (H : ∀ τ : MS, KM σ τ → τ.1 45 0 28 = σ.1 45 0 28 → MSg τ t n P → Q none τ) : R mj_OM (d + 1) mX11_sign Q 0 [some (rV 45 0), some (iV (nI (t P)))] [] σ := by
  have hc := (hb P hP).2
  have si := sg_in (t P) hc
  have i : ∀ k : Nat, k < 2000 → (nI (t P) = nI k ↔ t P = k) := fun k hk => nI_inj (by omega) (by omega)
  have i60 : nI (t P) = (60 : Int32) ↔ t P = 60 := i 60 (by omega)
  have i62 : nI (t P) = (62 : Int32) ↔ t P = 62 := i 62 (by omega)
  -- the end: with the kind found and the value of it
  have fin : ∀ (τ : MS) (k : Nat), KM σ τ → τ.1 45 0 28 = σ.1 45 0 28 → τ.1 45 0 27 = nI (P + 1) → k = sgB t n P → ((24 ≤ k ∧ k < 37 ∧ τ.1 45 0 29 = 3 ∧ τ.1 45 0 30 = nI (sgV k)) ∨ (k = 38 ∧ τ.1 45 0 29 = 5 ∧ τ.1 45 0 30 = nI (t P))) → (k = sg (t P) ∧ (24 ≤ k ∧ k < 34 ∨ k = 38) ∨ k ≠ sg (t P) ∧ 34 ≤ k ∧ k < 37) → R mj_OM (d + 1) mX11_sign Q 150 [some (rV 45 0), some (iV (nI (t P)))] [] τ := by
    intro τ k h1 h2 h3 hk h4 h5
    have vs : ∀ m, 24 ≤ m → m < 34 → sgV m < 256 := by
      have : ∀ m : Fin 34, 24 ≤ m.val → sgV m.val < 256 := by decide
      exact fun m h1 h2 => this ⟨m, h2⟩ h1
    have vb : ∀ m, 34 ≤ m → m < 37 → 256 ≤ sgV m ∧ sgV m < 300 := by
      have : ∀ m : Fin 37, 34 ≤ m.val → 256 ≤ sgV m.val ∧ sgV m.val < 300 := by decide
      exact fun m h1 h2 => this ⟨m, h2⟩ h1
    have cmp : τ.1 45 0 30 < (256 : Int32) ↔ k = sg (t P) := by
      rcases h5 with ⟨e, h5⟩ | ⟨e, h5⟩
      · refine ⟨fun _ => e, fun _ => ?_⟩
        rcases h4 with ⟨a1, a2, a3, a4⟩ | ⟨a1, a2, a3⟩
        · have := vs k (by omega) (by omega)
          rw [a4, show (256 : Int32) = nI 256 from rfl, nI_ltI (by omega) (by omega)]; omega
        · rw [a3, show (256 : Int32) = nI 256 from rfl, nI_ltI (by omega) (by omega)]; omega
      · refine ⟨fun z => ?_, fun z => absurd z e⟩
        rcases h4 with ⟨a1, a2, a3, a4⟩ | ⟨a1, a2, a3⟩
        · have := vb k (by omega) (by omega)
          rw [a4, show (256 : Int32) = nI 256 from rfl, nI_ltI (by omega) (by omega)] at z; omega
        · omega
    refine bX11_sign_150 ⟨fun z => bX11_sign_170 (H τ h1 h2 ⟨?_, ?_⟩), fun z => bX11_sign_170 (H _ (h1.tr (KM.u (by omega))) (by simp [uI]; exact h2) ⟨?_, ?_⟩)⟩
    · rw [cmp] at z; rw [h3, if_pos (by omega)]
    · rw [← hk]; rcases h4 with h4 | h4
      · exact Or.inl h4
      · exact Or.inr ⟨h4.1, h4.2.1⟩
    · rw [cmp] at z; rw [if_neg (by omega)]; simp [uI]; rw [h3, nI_1]
    · rw [← hk]; rcases h4 with h4 | h4
      · exact Or.inl (by simp [uI]; exact h4)
      · exact Or.inr (by simp [uI]; exact ⟨h4.1, h4.2.1⟩)
  -- from where a second sign is looked for
  have F : ∀ s : Int32, (24 ≤ sg (t P) ∧ sg (t P) < 34 ∧ sgV (sg (t P)) = t P ∧ s = 3 ∨ sg (t P) = 38 ∧ s = 5) → (t P = 60 → sg (t P) = 32) ∧ (t P = 62 → sg (t P) = 33) ∧ (sg (t P) = 32 → t P = 60) ∧ (sg (t P) = 33 → t P = 62) → ((¬ nI (t P) = (60 : Int32) → R mj_OM (d + 1) mX11_sign Q 106 [some (rV 45 0), some (iV (nI (t P)))] [] (uI (uI (uI σ 45 0 27 (σ.1 45 0 27 + 1)) 45 0 29 s) 45 0 30 (nI (t P)))) ∧ (nI (t P) = (60 : Int32) → R mj_OM d mX11_here (fun r σ' => R mj_OM (d + 1) mX11_sign Q 94 [some (rV 45 0), some (iV (nI (t P)))] (r.toList ++ []) σ') 0 [some (rV 45 0)] [] (uI (uI (uI σ 45 0 27 (σ.1 45 0 27 + 1)) 45 0 29 s) 45 0 30 (nI (t P))))) := by
    intro s hs hq
    have k0 : KM σ (uI (uI (uI σ 45 0 27 (σ.1 45 0 27 + 1)) 45 0 29 s) 45 0 30 (nI (t P))) := ((KM.u (by omega)).tr (KM.u (by omega))).tr (KM.u (by omega))
    have e28 : (uI (uI (uI σ 45 0 27 (σ.1 45 0 27 + 1)) 45 0 29 s) 45 0 30 (nI (t P))).1 45 0 28 = σ.1 45 0 28 := by simp [uI]
    have e27 : (uI (uI (uI σ 45 0 27 (σ.1 45 0 27 + 1)) 45 0 29 s) 45 0 30 (nI (t P))).1 45 0 27 = nI (P + 1) := by simp [uI]; rw [h27, nI_1]
    have e29 : (uI (uI (uI σ 45 0 27 (σ.1 45 0 27 + 1)) 45 0 29 s) 45 0 30 (nI (t P))).1 45 0 29 = s := by simp [uI]
    have e30 : (uI (uI (uI σ 45 0 27 (σ.1 45 0 27 + 1)) 45 0 29 s) 45 0 30 (nI (t P))).1 45 0 30 = nI (t P) := by simp [uI]
    generalize uI (uI (uI σ 45 0 27 (σ.1 45 0 27 + 1)) 45 0 29 s) 45 0 30 (nI (t P)) = υ at *
    have here : ∀ (τ : MS) {Q' : Option MV → MS → Prop}, KM σ τ → τ.1 45 0 27 = nI (P + 1) → Q' (some (iV (hE t n (P + 1)))) τ → R mj_OM d mX11_here Q' 0 [some (rV 45 0)] [] τ := fun τ Q' h1 h2 h3 => M_here hn (by omega) (hb.keep h1) (by rw [h1.2 26 (by omega)]; exact h26) h2 h3
    have q61 : hE t n (P + 1) = (61 : Int32) ↔ P + 1 < n ∧ t (P + 1) = 61 := hE_eq (q := P + 1) (k := 61) hb (by omega)
    have q62 : hE t n (P + 1) = (62 : Int32) ↔ P + 1 < n ∧ t (P + 1) = 62 := hE_eq (q := P + 1) (k := 62) hb (by omega)
    -- the value as it is
    have same : sgB t n P = sg (t P) → R mj_OM (d + 1) mX11_sign Q 150 [some (rV 45 0), some (iV (nI (t P)))] [] υ := fun e => fin υ _ k0 e28 e27 rfl (by
        rw [e]
        rcases hs with ⟨a1, a2, a3, a4⟩ | ⟨a1, a2⟩
        · exact Or.inl ⟨a1, by omega, by rw [e29, a4], by rw [e30, a3]⟩
        · exact Or.inr ⟨a1, by rw [e29, a2], e30⟩) (Or.inl ⟨e, by omega⟩)
    have oth : ∀ (w : Nat), sgB t n P = w → 34 ≤ w → w < 37 → s = 3 → R mj_OM (d + 1) mX11_sign Q 150 [some (rV 45 0), some (iV (nI (t P)))] [] (uI υ 45 0 30 (nI (sgV w))) := fun w e h1 h2 h3 => fin _ w (k0.tr (KM.u (by omega))) (by simp [uI]; exact e28) (by simp [uI]; exact e27) e.symm (Or.inl ⟨by omega, h2, by simp [uI]; rw [e29, h3], by simp [uI]⟩) (Or.inr ⟨by omega, h1, h2⟩)
    refine ⟨fun z => ?_, fun z => ?_⟩
    · rw [i60] at z
      refine bX11_sign_106 ⟨fun _ => bX11_sign_128 ⟨fun z2 => ?_, fun z2 => ?_⟩, fun z2 => absurd (i60.mp z2) z⟩
      · rw [i62] at z2
        refine same ?_
        unfold sgB
        split
        · unfold sg2
          rw [if_neg (fun e => z (hq.2.2.1 e.1)), if_neg (fun e => z (hq.2.2.1 e.1)), if_neg (fun e => z2 (hq.2.2.2 e.1))]
        · rfl
      · rw [i62] at z2
        have e33 := hq.2.1 z2
        refine here υ k0 e27 (bX11_sign_138 ⟨fun z3 => ?_, fun z3 => ?_⟩)
        · refine same ?_
          unfold sgB
          split
          · rename_i g
            unfold sg2
            rw [if_neg (by omega), if_neg (by omega), if_neg (fun e => z3 (q61.mpr ⟨g, e.2⟩))]
          · rfl
        · have g := q61.mp z3
          refine oth 35 ?_ (by omega) (by omega) (by rcases hs with h | h; exact h.2.2.2; omega)
          unfold sgB sg2
          rw [if_pos g.1, if_neg (by omega), if_neg (by omega), if_pos ⟨e33, g.2⟩]
    · rw [i60] at z
      have e32 := hq.1 z
      have s3 : s = 3 := by rcases hs with h | h; exact h.2.2.2; omega
      have n62 : ¬ nI (t P) = (62 : Int32) := fun e => by have := i62.mp e; omega
      refine here υ k0 e27 (bX11_sign_94 ⟨fun z3 => ?_, fun z3 => ?_⟩)
      · refine bX11_sign_106 ⟨fun z4 => absurd (i60.mpr z) z4, fun _ => here υ k0 e27 (bX11_sign_116 ⟨fun z4 => ?_, fun z4 => ?_⟩)⟩
        · refine bX11_sign_128 ⟨fun _ => same ?_, fun z5 => absurd z5 n62⟩
          unfold sgB
          split
          · rename_i g
            unfold sg2
            rw [if_neg (fun e => z4 (q62.mpr ⟨g, e.2⟩)), if_neg (fun e => z3 (q61.mpr ⟨g, e.2⟩)), if_neg (by omega)]
          · rfl
        · have g := q62.mp z4
          refine bX11_sign_128 ⟨fun _ => oth 36 ?_ (by omega) (by omega) s3, fun z5 => absurd z5 n62⟩
          unfold sgB sg2
          rw [if_pos g.1, if_pos ⟨e32, g.2⟩]
      · have g := q61.mp z3
        refine bX11_sign_106 ⟨fun z4 => absurd (i60.mpr z) z4, fun _ => here _ (k0.tr (KM.u (by omega))) (by simp [uI]; exact e27) (bX11_sign_116 ⟨fun z4 => ?_, fun z4 => ?_⟩)⟩
        · refine bX11_sign_128 ⟨fun _ => oth 34 ?_ (by omega) (by omega) s3, fun z5 => absurd z5 n62⟩
          unfold sgB sg2
          rw [if_pos g.1, if_neg (by omega), if_pos ⟨e32, g.2⟩]
        · have := (q62.mp z4).2; omega
  have F3 : (t P = 59 ∨ t P = 40 ∨ t P = 41 ∨ t P = 43 ∨ t P = 45 ∨ t P = 42 ∨ t P = 47 ∨ t P = 61 ∨ t P = 60 ∨ t P = 62) → _ := fun h => F 3 (Or.inl ⟨(si.1 h).1, (si.1 h).2.1, (si.1 h).2.2.1, rfl⟩) ⟨(si.1 h).2.2.2.1.mpr, (si.1 h).2.2.2.2.mpr, (si.1 h).2.2.2.1.mp, (si.1 h).2.2.2.2.mp⟩
  have F5 : ¬ (t P = 59 ∨ t P = 40 ∨ t P = 41 ∨ t P = 43 ∨ t P = 45 ∨ t P = 42 ∨ t P = 47 ∨ t P = 61 ∨ t P = 60 ∨ t P = 62) → _ := fun h => F 5 (Or.inr ⟨si.2 h, rfl⟩) ⟨fun e => absurd (Or.inr (Or.inr (Or.inr (Or.inr (Or.inr (Or.inr (Or.inr (Or.inr (Or.inl e))))))))) h, fun e => absurd (Or.inr (Or.inr (Or.inr (Or.inr (Or.inr (Or.inr (Or.inr (Or.inr (Or.inr e))))))))) h, fun e => by have := si.2 h; omega, fun e => by have := si.2 h; omega⟩
  refine bX11_sign_0 ⟨fun z => F3 ?_, fun z1 => ⟨fun z => F3 ?_, fun z2 => ⟨fun z => F3 ?_, fun z3 => ⟨fun z => F3 ?_, fun z4 => ⟨fun z => F3 ?_, fun z5 => ⟨fun z => F3 ?_, fun z6 => ⟨fun z => F3 ?_, fun z7 => ⟨fun z => F3 ?_, fun z8 => ⟨fun z => F3 ?_, fun z9 => ⟨fun za => F5 ?_, fun z => F3 ?_⟩⟩⟩⟩⟩⟩⟩⟩⟩⟩
  · have := (i 59 (by omega)).mp z; omega
  · have := (i 40 (by omega)).mp z; omega
  · have := (i 41 (by omega)).mp z; omega
  · have := (i 43 (by omega)).mp z; omega
  · have := (i 45 (by omega)).mp z; omega
  · have := (i 42 (by omega)).mp z; omega
  · have := (i 47 (by omega)).mp z; omega
  · have := (i 60 (by omega)).mp z; omega
  · have := (i 61 (by omega)).mp z; omega
  · have a1 : ¬ t P = 59 := fun e => z1 ((i 59 (by omega)).mpr e)
    have a2 : ¬ t P = 40 := fun e => z2 ((i 40 (by omega)).mpr e)
    have a3 : ¬ t P = 41 := fun e => z3 ((i 41 (by omega)).mpr e)
    have a4 : ¬ t P = 43 := fun e => z4 ((i 43 (by omega)).mpr e)
    have a5 : ¬ t P = 45 := fun e => z5 ((i 45 (by omega)).mpr e)
    have a6 : ¬ t P = 42 := fun e => z6 ((i 42 (by omega)).mpr e)
    have a7 : ¬ t P = 47 := fun e => z7 ((i 47 (by omega)).mpr e)
    have a8 : ¬ t P = 61 := fun e => z9 ((i 61 (by omega)).mpr e)
    have a9 : ¬ t P = 60 := fun e => z8 ((i 60 (by omega)).mpr e)
    have aa : ¬ t P = 62 := fun e => za ((i 62 (by omega)).mpr e)
    omega
  · have := (i 62 (by omega)).mp z; omega
end Mf
