/-! the fewest openings: the class's search finds what the reference's finds -/
def Up (f : Int32) (F F' : Int32 × Int32) : Prop := F' = F ∨ (F'.2 = f ∧ 0 ≤ F'.1 ∧ (F.1 = -2 ∨ F'.1 < F.1))
theorem Up.rf {f : Int32} {F : Int32 × Int32} : Up f F F := Or.inl rfl
theorem Up.tr {f : Int32} {F G H : Int32 × Int32} (h1 : Up f F G) (h2 : Up f G H) : Up f F H := by
  rcases h1 with rfl | ⟨a1, a2, a3⟩
  · exact h2
  · rcases h2 with rfl | ⟨b1, b2, b3⟩
    · exact Or.inr ⟨a1, a2, a3⟩
    · refine Or.inr ⟨b1, b2, ?_⟩
      rcases b3 with b3 | b3
      · rw [b3] at a2; exact absurd a2 m2_nle
      · exact a3.elim Or.inl (fun q => Or.inr (Int32.lt_trans b3 q))
theorem gNF_1 (n : Nat) (f : Int32) (F : Int32 × Int32) : (gNF n f F).1 = gNL (nI n) F.1 := by
  unfold gNF gNL; split <;> rfl
theorem gNF_up {n : Nat} (hn : n < 2 ^ 31) (f : Int32) (F : Int32 × Int32) : Up f F (gNF n f F) := by
  unfold gNF
  by_cases g : F.1 = -2 ∨ ¬ F.1 ≤ nI n
  · rw [if_pos g]
    exact Or.inr ⟨rfl, nI_pos' hn, g.elim Or.inl (fun q => Or.inr (Int32.not_le.mp q))⟩
  · rw [if_neg g]; exact Up.rf
section Rf
variable {c : CA} {hb : SA → Bool} {s : SA}
theorem gOF_st {n : Nat} (hn : n < 2 ^ 31) (s : SA) (f : Int32) {F : Int32 × Int32} (hF : okL F.1) : (okL (if hb s = true then gNF n f F else F).1 ∧ Up f F (if hb s = true then gNF n f F else F)) ∧ ∀ x, (TL x (if hb s = true then gNF n f F else F).1 ↔ TL x F.1 ∨ (nI n ≤ x ∧ hb s = true)) := by
  by_cases g : hb s = true
  · rw [if_pos g, gNF_1]
    have := gNL_t (v := nI n) (nI_pos' hn) hF
    exact ⟨⟨this.1, gNF_up hn f F⟩, fun x => by rw [this.2 x]; simp [g]⟩
  · rw [if_neg g]
    exact ⟨⟨hF, Up.rf⟩, fun x => ⟨Or.inl, fun h => h.elim id (fun h => absurd h.2 g)⟩⟩
theorem gOF_t : ∀ (m n : Nat) (s : SA) (f : Int32) (F : Int32 × Int32), 1 ≤ n → n + m ≤ 100 → okL F.1 → (okL (gOF c hb m n s f F).1 ∧ Up f F (gOF c hb m n s f F)) ∧ ∀ x, (TL x (gOF c hb m n s f F).1 ↔ TL x F.1 ∨ ∃ j, j ≤ m ∧ nI (n + j) ≤ x ∧ rwP c (gMv c) j s (fun t => hb t = true)) := by
  intro m
  induction m with
  | zero =>
    intro n s f F h1 h2 hF
    have := gOF_st (hb := hb) (n := n) (by omega) s f hF
    refine ⟨this.1, fun x => ?_⟩
    rw [gOF, this.2 x]
    constructor
    · rintro (q | q)
      · exact Or.inl q
      · exact Or.inr ⟨0, Nat.le_refl _, q⟩
    · rintro (q | ⟨j, hj, q⟩)
      · exact Or.inl q
      · obtain rfl : j = 0 := by omega
        exact Or.inr q
  | succ m ih =>
    intro n s f F h1 h2 hF
    have st := gOF_st (hb := hb) (n := n) (by omega) s f hF
    have lp := gLp_or (T := fun x (a : Int32 × Int32) => TL x a.1) (ok := fun a => okL a.1 ∧ Up f F a) (N := c 0 2) (Sb := fun x k => gMv c s k = true ∧ ∃ j, j ≤ m ∧ nI (n + 1 + j) ≤ x ∧ rwP c (gMv c) j (fl c s k) (fun t => hb t = true)) (f := fun k F => if gMv c s k = true then gOF c hb m (n + 1) (fl c s k) (if n = 0 then nI k else f) F else F) (fun i a _ ha => by
      by_cases g : gMv c s i = true
      · rw [if_pos g, if_neg (show ¬ n = 0 by omega)]
        have := ih (n + 1) (fl c s i) f a (by omega) (by omega) ha.1
        exact ⟨⟨this.1.1, ha.2.tr this.1.2⟩, fun x => by rw [this.2 x]; simp [g]⟩
      · rw [if_neg g]
        exact ⟨ha, fun x => ⟨Or.inl, fun h => h.elim id (fun h => absurd h.1 g)⟩⟩) (c 0 2) 0 _ (by omega) st.1
    refine ⟨lp.1, fun x => ?_⟩
    rw [gOF, lp.2 x, st.2 x]
    constructor
    · rintro ((q | q) | ⟨k, a1, a2, a3, j, a4, a5, a6⟩)
      · exact Or.inl q
      · exact Or.inr ⟨0, by omega, q⟩
      · exact Or.inr ⟨j + 1, by omega, by rw [show n + (j + 1) = n + 1 + j by omega]; exact a5, k, by omega, a3, a6⟩
    · rintro (q | ⟨j, hj, q0, q⟩)
      · exact Or.inl (Or.inl q)
      · cases j with
        | zero => exact Or.inl (Or.inr ⟨q0, q⟩)
        | succ j =>
          obtain ⟨k, a1, a2, a3⟩ := q
          exact Or.inr ⟨k, by omega, by omega, a2, j, by omega, by rw [show n + 1 + j = n + (j + 1) by omega]; exact q0, a3⟩
theorem gFB_none : ∀ (m i : Nat), (∀ j, i ≤ j → j < i + m → gRO c hb j s = false) → gFB c hb s m i = (-2, -2) := by
  intro m
  induction m with
  | zero => intro i _; rfl
  | succ m ih =>
    intro i h
    rw [gFB, if_neg (by rw [h i (by omega) (by omega)]; decide)]
    exact ih (i + 1) (fun j h1 h2 => h j (by omega) (by omega))
theorem gFB_some {a : Nat} (ha : gRO c hb a s = true) : ∀ (m i : Nat), i ≤ a → a < i + m → (∀ j, i ≤ j → j < a → gRO c hb j s = false) → gFB c hb s m i = (nI a, if a = 0 then -2 else gRF c hb (a - 1) s) := by
  intro m
  induction m with
  | zero => intro i h1 h2; omega
  | succ m ih =>
    intro i h1 h2 h
    by_cases e : i = a
    · subst e; rw [gFB, if_pos ha]
    · rw [gFB, if_neg (by rw [h i (by omega) (by omega)]; decide)]
      exact ih (i + 1) (by omega) (by omega) (fun j h1 h2 => h j (by omega) h2)
theorem gOF_top (V : CV c) (hs : SI c s) : gOF c hb 4 0 s (-2) (-2, -2) = gFB c hb s 5 0 := by
  have nk := V.nk
  let E : Int32 → Nat → Prop := fun x k => gMv c s k = true ∧ ∃ j, j ≤ 3 ∧ nI (1 + j) ≤ x ∧ rwP c (gMv c) j (fl c s k) (fun t => hb t = true)
  have hE : ∀ {x k}, k < c 0 2 → E x k → ∃ j, j ≤ 3 ∧ nI (1 + j) ≤ x ∧ rwP c (gMv c) (j + 1) s (fun t => hb t = true) := fun hk h => by
    obtain ⟨h1, j, h2, h3, h4⟩ := h
    exact ⟨j, h2, h3, _, hk, h1, h4⟩
  have ok0 : okL (if hb s = true then gNF 0 (-2) (-2, -2) else ((-2, -2) : Int32 × Int32)).1 := (gOF_st (hb := hb) (n := 0) (by decide) s (-2) (F := (-2, -2)) (Or.inl rfl)).1.1
  have inv := gLp_inv (N := c 0 2) (P := fun i (a : Int32 × Int32) => okL a.1 ∧ (∀ x, TL x a.1 ↔ TL x (if hb s = true then gNF 0 (-2) (-2, -2) else ((-2, -2) : Int32 × Int32)).1 ∨ ∃ k, k < i ∧ E x k) ∧ (a = (if hb s = true then gNF 0 (-2) (-2, -2) else (-2, -2)) ∨ ∃ k, k < i ∧ a.2 = nI k ∧ 0 ≤ a.1 ∧ E a.1 k ∧ ∀ j, j < k → ¬ E a.1 j))
    (f := fun k F => if gMv c s k = true then gOF c hb 3 (0 + 1) (fl c s k) (if 0 = 0 then nI k else -2) F else F) (fun i a hi ⟨i1, i2, i3⟩ => by
      by_cases g : gMv c s i = true
      · rw [if_pos g, if_pos rfl]
        have t := gOF_t (c := c) (hb := hb) 3 (0 + 1) (fl c s i) (nI i) a (by omega) (by omega) i1
        have t2 : ∀ x, TL x (gOF c hb 3 (0 + 1) (fl c s i) (nI i) a).1 ↔ TL x a.1 ∨ E x i := fun x => by
          rw [t.2 x]
          exact ⟨fun q => q.elim Or.inl (fun q => Or.inr ⟨g, q⟩), fun q => q.elim Or.inl (fun q => Or.inr q.2)⟩
        refine ⟨t.1.1, fun x => ?_, ?_⟩
        · rw [t2 x, i2 x]
          constructor
          · rintro ((q | ⟨k, q1, q2⟩) | q)
            · exact Or.inl q
            · exact Or.inr ⟨k, by omega, q2⟩
            · exact Or.inr ⟨i, by omega, q⟩
          · rintro (q | ⟨k, q1, q2⟩)
            · exact Or.inl (Or.inl q)
            · by_cases e : k = i
              · subst e; exact Or.inr q2
              · exact Or.inl (Or.inr ⟨k, by omega, q2⟩)
        · rcases t.1.2 with e | ⟨u1, u2, u3⟩
          · rw [e]
            rcases i3 with q | ⟨k, q1, q2⟩
            · exact Or.inl q
            · exact Or.inr ⟨k, by omega, q2⟩
          · have nt : ¬ TL (gOF c hb 3 (0 + 1) (fl c s i) (nI i) a).1 a.1 := fun q => by
              rcases u3 with u3 | u3
              · rw [u3] at q; exact m2_nle q.1
              · exact Int32.lt_irrefl (Int32.lt_of_lt_of_le u3 q.2)
            refine Or.inr ⟨i, by omega, u1, u2, ?_, fun j hj q => nt ((i2 _).mpr (Or.inr ⟨j, hj, q⟩))⟩
            exact ((t2 _).mp ⟨u2, Int32.le_refl _⟩).resolve_left nt
      · rw [if_neg g]
        refine ⟨i1, fun x => ?_, ?_⟩
        · rw [i2 x]
          constructor
          · rintro (q | ⟨k, q1, q2⟩)
            · exact Or.inl q
            · exact Or.inr ⟨k, by omega, q2⟩
          · rintro (q | ⟨k, q1, q2⟩)
            · exact Or.inl q
            · by_cases e : k = i
              · subst e; exact absurd q2.1 g
              · exact Or.inr ⟨k, by omega, q2⟩
        · rcases i3 with q | ⟨k, q1, q2⟩
          · exact Or.inl q
          · exact Or.inr ⟨k, by omega, q2⟩) (c 0 2) 0 (if hb s = true then gNF 0 (-2) (-2, -2) else (-2, -2)) (by omega) ⟨ok0, fun x => ⟨Or.inl, fun q => q.elim id (fun ⟨k, h, _⟩ => absurd h (Nat.not_lt_zero _))⟩, Or.inl rfl⟩
  rw [gOF]
  generalize hres : gLp (fun k F => if gMv c s k = true then gOF c hb 3 (0 + 1) (fl c s k) (if 0 = 0 then nI k else -2) F else F) 0 (c 0 2) (if hb s = true then gNF 0 (-2) (-2, -2) else (-2, -2)) = res at inv ⊢
  obtain ⟨r1, r2, r3⟩ := inv
  by_cases g : ∃ j, j < 5 ∧ gRO c hb j s = true
  · obtain ⟨a, ⟨a1, a2⟩, a3⟩ := pk_least (fun j => j < 5 ∧ gRO c hb j s = true) g
    have lo : ∀ j, j < a → gRO c hb j s = false := fun j hj => by
      have := a3 j hj
      simp only [not_and, Bool.not_eq_true] at this
      exact this (by omega)
    have le : ∀ j, rwP c (gMv c) j s (fun t => hb t = true) → a ≤ j := fun j q => by
      rcases Nat.lt_or_ge j a with z | z
      · have := (gRO_rw nk j s).mpr (rw_sub j s q)
        rw [lo j z] at this; exact absurd this (by decide)
      · exact z
    rw [gFB_some a2 5 0 (by omega) (by omega) (fun j _ h => lo j h)]
    obtain ⟨j0, hj0, ej0⟩ := rw_eff V a s hs ((gRO_rw nk a s).mp a2)
    obtain rfl : j0 = a := by have := le j0 ej0; omega
    cases j0 with
    | zero =>
      have hb0 : hb s = true := a2
      rw [if_pos hb0] at r2 r3
      have e0 : gNF 0 (-2) (-2, -2) = (nI 0, -2) := by simp [gNF]
      rw [e0] at r2 r3
      have t0 := (r2 (nI 0)).mpr (Or.inl ⟨by decide, Int32.le_refl _⟩)
      rcases r3 with q | ⟨k, q1, q2, q3, q4, _⟩
      · rw [q]; rfl
      · obtain ⟨_, j, _, q5, _⟩ := q4
        have := Int32.le_trans q5 t0.2
        rw [nI_leI (by omega) (by omega)] at this; omega
    | succ a' =>
      have hb0 : ¬ hb s = true := fun z => by
        have : gRO c hb 0 s = false := lo 0 (by omega)
        rw [show gRO c hb 0 s = hb s from rfl, z] at this; exact absurd this (by decide)
      rw [if_neg hb0] at r2 r3
      have nT : ∀ x, ¬ TL x (-2) := fun x q => m2_nle q.1
      obtain ⟨k0, k1, k2, k3⟩ := ej0
      have t0 := (r2 (nI (a' + 1))).mpr (Or.inr ⟨k0, k1, k2, a', by omega, by rw [show 1 + a' = a' + 1 by omega]; exact Int32.le_refl _, k3⟩)
      rcases r3 with q | ⟨k, q1, q2, q3, q4, q5⟩
      · rw [q] at t0; exact absurd t0 (nT _)
      · have er : res.1 = nI (a' + 1) := by
          obtain ⟨j, j1, j2, j3⟩ := hE q1 q4
          have := le _ j3
          exact Int32.le_antisymm t0.2 (Int32.le_trans (nI_le (by omega) (by omega)) j2)
        have ef : gRF c hb (a' + 1 - 1) s = nI k := by
          rw [er] at q4 q5
          obtain ⟨g1, j, g2, g3, g4⟩ := q4
          have lj := le (j + 1) ⟨k, q1, g1, g4⟩
          rw [nI_leI (by omega) (by omega)] at g3
          obtain rfl : j = a' := by omega
          refine gFd_some ?_ (c 0 2) 0 (by omega) (by omega) (fun i _ hi => ?_)
          · simp only [Nat.add_sub_cancel, Bool.and_eq_true]
            refine ⟨?_, (gRO_rw nk j _).mpr (rw_sub j _ g4)⟩
            simp only [gMv, Bool.and_eq_true] at g1; exact g1.1
          · cases hp : (gUj s i && gRO c hb (j + 1 - 1) (fl c s i)) with
            | false => rfl
            | true =>
              exfalso
              simp only [Nat.add_sub_cancel, Bool.and_eq_true] at hp
              obtain ⟨l, l1, l2⟩ := rw_eff V j _ (fl_si V hs (show i < c 0 2 by omega)) ((gRO_rw nk j _).mp hp.2)
              by_cases gm : gMv c s i = true
              · exact q5 i hi ⟨gm, l, by omega, nI_le (by omega) (by omega), l2⟩
              · rw [fl_id V hs (show i < c 0 2 by omega) hp.1 gm] at l2
                have := le l l2
                omega
        rw [if_neg (by omega), ef, ← er, ← q2]
  · have lo : ∀ j, j < 5 → gRO c hb j s = false := fun j hj => by
      cases e : gRO c hb j s with
      | false => rfl
      | true => exact absurd ⟨j, hj, e⟩ g
    rw [gFB_none 5 0 (fun j _ h => lo j (by omega))]
    have hb0 : ¬ hb s = true := fun z => by
      have : gRO c hb 0 s = false := lo 0 (by omega)
      rw [show gRO c hb 0 s = hb s from rfl, z] at this; exact absurd this (by decide)
    rw [if_neg hb0] at r3
    rcases r3 with q | ⟨k, q1, q2, q3, q4, q5⟩
    · exact q
    · obtain ⟨j, j1, _, j3⟩ := hE q1 q4
      have := (gRO_rw nk _ s).mpr (rw_sub _ s j3)
      rw [lo (j + 1) (by omega)] at this; exact absurd this (by decide)
end Rf
