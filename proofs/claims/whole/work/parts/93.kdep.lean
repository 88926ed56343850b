def vKn (s : CA) (i : Nat) : Prop := (s 19 i = 0 ∧ s 20 i ≤ 9999) ∨ (s 19 i = 1 ∧ s 20 i ≤ 6) ∨ (s 19 i = 2 ∧ ksign (s 20 i))
/-- the knots put from s to u: from depth z they make one more than z less one .. -/
def PQ (z : Nat) (s u : CA) : Prop := u 30 1 = 0 → (∀ dp, kdep u (s 0 8) (u 0 8 - s 0 8) (dp + z) = some (dp + 1)) ∧ ∀ i, s 0 8 ≤ i → i < u 0 8 → vKn u i
section Py
variable {t : Nat → Nat} {n : Nat} {s : CA}
theorem kdep_split (c : CA) : ∀ (a i b dp : Nat), kdep c i (a + b) dp = (kdep c i a dp).bind (fun e => kdep c (i + a) b e) := by
  intro a
  induction a with
  | zero => intro i b dp; rw [Nat.zero_add]; rfl
  | succ a ih =>
    intro i b dp
    rw [show a + 1 + b = (a + b) + 1 by omega, kdep, kdep, ih, ih, ih, show i + 1 + a = i + (a + 1) by omega]
    split
    · rfl
    · split
      · split <;> rfl
      · split <;> rfl
theorem kdep_cg {c c' : CA} : ∀ (m i dp : Nat), (∀ j, i ≤ j → j < i + m → c' 19 j = c 19 j ∧ c' 20 j = c 20 j) → kdep c' i m dp = kdep c i m dp := by
  intro m
  induction m with
  | zero => intro i dp _; rfl
  | succ m ih =>
    intro i dp h
    have h0 := h i (Nat.le_refl _) (by omega)
    have hs : ∀ e, kdep c' (i + 1) m e = kdep c (i + 1) m e := fun e => ih (i + 1) e (fun j h1 h2 => h j (by omega) (by omega))
    rw [kdep, kdep, h0.1, h0.2, hs, hs, hs]
theorem PQ.tr {z : Nat} {u v : CA} (a : PQ z s u) (e : PE s u) (b : PQ 1 u v) (e2 : PE u v) : PQ z s v := fun hv => by
  obtain ⟨f1, _, _, _, _, _, g7, _, g9⟩ := e2 hv
  obtain ⟨_, _, _, _, _, _, l7, _, _⟩ := e f1
  obtain ⟨a1, a2⟩ := a f1
  obtain ⟨b1, b2⟩ := b hv
  refine ⟨fun dp => ?_, fun i h1 h2 => ?_⟩
  · rw [show v 0 8 - s 0 8 = (u 0 8 - s 0 8) + (v 0 8 - u 0 8) by omega, kdep_split, kdep_cg (c := u) (c' := v) (u 0 8 - s 0 8) (s 0 8) (dp + z) (fun j h1 h2 => g9 j (by omega)), a1 dp]
    show kdep v (s 0 8 + (u 0 8 - s 0 8)) (v 0 8 - u 0 8) (dp + 1) = some (dp + 1)
    rw [show s 0 8 + (u 0 8 - s 0 8) = u 0 8 by omega]
    exact b1 dp
  · rcases Nat.lt_or_ge i (u 0 8) with l | l
    · have := a2 i h1 l
      have g := g9 i l
      unfold vKn at this ⊢
      rw [g.1, g.2]; exact this
    · exact b2 i l h2
/-- a knot of so and v put behind u -/
theorem PQ.add {z w so v : Nat} {k u : CA} (hk : k 30 1 = 0 → k 0 8 = s 0 8) (e : PE k u) (hv : (so = 0 ∧ v ≤ 9999) ∨ (so = 1 ∧ v ≤ 6) ∨ (so = 2 ∧ ksign v)) (a : u 30 1 = 0 → (∀ dp, kdep u (k 0 8) (u 0 8 - k 0 8) (dp + z) = some (dp + w)) ∧ ∀ i, k 0 8 ≤ i → i < u 0 8 → vKn u i) (hw : ((so = 0 ∨ so = 1) ∧ w = 0) ∨ (so = 2 ∧ v = 260 ∧ w = 1) ∨ (so = 2 ∧ v ≠ 260 ∧ w = 2)) : PQ z s (pAdd u so v) := fun hf => by
  have fu : u 30 1 = 0 := by rw [pAdd_1] at hf; exact hf
  obtain ⟨f1, _, _, _, _, _, g7, _, g9⟩ := e fu
  obtain ⟨a1, a2⟩ := a fu
  rw [hk f1] at a1 a2 g7
  have eq : pAdd u so v = pS (pS (pS u 19 (u 0 8) so) 20 (u 0 8) v) 0 8 (u 0 8 + 1) := by unfold pAdd; rw [if_pos fu]
  have e8 : pAdd u so v 0 8 = u 0 8 + 1 := by rw [eq]; simp [pS]
  have e19 : ∀ j, pAdd u so v 19 j = if j = u 0 8 then so else u 19 j := fun j => by rw [eq]; simp [pS]
  have e20 : ∀ j, pAdd u so v 20 j = if j = u 0 8 then v else u 20 j := fun j => by rw [eq]; simp [pS]
  rw [e8]
  refine ⟨fun dp => ?_, fun i h1 h2 => ?_⟩
  · rw [show u 0 8 + 1 - s 0 8 = (u 0 8 - s 0 8) + 1 by omega, kdep_split, kdep_cg (c := u) (c' := pAdd u so v) (u 0 8 - s 0 8) (s 0 8) (dp + z) (fun j h1 h2 => by rw [e19, e20, if_neg (by omega), if_neg (by omega)]; exact ⟨rfl, rfl⟩), a1 dp]
    show kdep (pAdd u so v) (s 0 8 + (u 0 8 - s 0 8)) 1 (dp + w) = some (dp + 1)
    rw [show s 0 8 + (u 0 8 - s 0 8) = u 0 8 by omega, kdep, e19, e20, if_pos rfl, if_pos rfl]
    rcases hw with ⟨h1, rfl⟩ | ⟨h1, h2, rfl⟩ | ⟨h1, h2, rfl⟩
    · rw [if_pos h1]; rfl
    · rw [if_neg (by omega), if_pos h2, if_pos (by omega)]; rfl
    · rw [if_neg (by omega), if_neg h2, if_pos (by omega)]; rfl
  · unfold vKn
    rw [e19, e20]
    by_cases g : i = u 0 8
    · rw [if_pos g, if_pos g]; exact hv
    · rw [if_neg g, if_neg g]; exact a2 i h1 (by omega)
theorem sgC_s : ∀ k, k < 39 → rkO k ≤ 5 → sgC k ≠ 260 ∧ ksign (sgC k) := by
  have h : ∀ k : Fin 39, rkO k.val ≤ 5 → sgC k.val ≠ 260 ∧ (sgC k.val = 43 ∨ sgC k.val = 45 ∨ sgC k.val = 42 ∨ sgC k.val = 47 ∨ sgC k.val = 61 ∨ sgC k.val = 60 ∨ sgC k.val = 62 ∨ sgC k.val = 256 ∨ sgC k.val = 258 ∨ sgC k.val = 257 ∨ sgC k.val = 260 ∨ sgC k.val = 261 ∨ sgC k.val = 262) := by decide +kernel
  exact fun k hk => h ⟨k, hk⟩
theorem pKnot_8 (h : pKnot t n s 30 1 = 0) : pKnot t n s 0 8 = s 0 8 := by
  obtain ⟨_, _, e⟩ := pKnot_0 h
  rw [e]; simp [pAdv, pS]
/-- a side behind a binary sign -/
theorem PQ.bin {u : CA} {k : Nat} (hk : k < 39) (hr : rkO k ≤ 5) (e : PE (pKnot t n s) u) (a : PQ 0 (pKnot t n s) u) : PQ 1 s (pAdd u 2 (sgC k)) := by
  have g := sgC_s k hk hr
  refine PQ.add (z := 1) (w := 2) pKnot_8 e (Or.inr (Or.inr ⟨rfl, g.2⟩)) (fun fu => ⟨fun dp => ?_, (a fu).2⟩) (Or.inr (Or.inr ⟨rfl, g.1, rfl⟩))
  have := (a fu).1 (dp + 1)
  exact this
theorem PQ.lf {so v : Nat} (hv : (so = 0 ∧ v ≤ 9999) ∨ (so = 1 ∧ v ≤ 6)) : PQ 0 s (pAdd (pKnot t n s) so v) :=
  PQ.add (z := 0) (w := 0) pKnot_8 PE.rf (by omega) (fun _ => ⟨fun dp => by rw [Nat.sub_self]; rfl, fun i h1 h2 => by omega⟩) (Or.inl ⟨by omega, rfl⟩)
theorem pX_Q : ∀ (m q : Nat) (s : CA), q ≤ 15 → (s 30 1 = 0 → 20 * (700 - s 30 0) + (if q ≤ 6 then 13 - q else 1) ≤ m) → (∀ u : CA, kd t n u ≠ 37 → u 30 0 < 700) → PQ (if q ≤ 6 then 0 else 1) s (pX t n m q s) := by
  intro m
  induction m with
  | zero =>
    intro q s _ hm _ hf
    have := hm hf
    split at this <;> omega
  | succ m ih =>
    intro q s hq15 hm hT
    by_cases hf : s 30 1 = 0
    · have hm := hm hf
      have k38 := kd_le (t := t) (n := n) (s := s)
      rw [pX, if_pos hf]
      by_cases q6 : q = 6
      · subst q6
        rw [if_pos rfl, if_pos (by omega)]
        split
        · exact fun h => by rw [(pF_0 hf).1] at h; omega
        · split
          · rename_i g1 g25
            have ltT := hT s (by omega)
            have a := ih 0 (pAdv (pS s 30 9 (s 30 9 + 1))) (by omega) (fun _ => by simp [pAdv, pS]; rw [if_pos (by omega)] at hm; omega) hT
            rw [if_pos (by omega)] at a
            intro h
            generalize pX t n m 0 (pAdv (pS s 30 9 (s 30 9 + 1))) = u at *
            have r : ∀ f j, f < 30 → pBr (pTake t n u 26) f j = u f j := fun f j hj => by
              unfold pBr
              split
              · simp only [pS]
                rw [if_neg (by omega)]
                unfold pTake
                split
                · split
                  · exact pA_row f j (by omega)
                  · exact pF_row f j (by omega)
                · rfl
              · unfold pTake
                split
                · split
                  · exact pA_row f j (by omega)
                  · exact pF_row f j (by omega)
                · rfl
            have fu : u 30 1 = 0 := by
              by_cases g : u 30 1 = 0
              · exact g
              · rw [pT_f g] at h; unfold pBr at h; rw [if_neg g] at h; exact absurd h g
            obtain ⟨a1, a2⟩ := a fu
            have k8 : pAdv (pS s 30 9 (s 30 9 + 1)) 0 8 = s 0 8 := by simp [pAdv, pS]
            rw [k8] at a1 a2
            rw [r 0 8 (by omega)]
            refine ⟨fun dp => ?_, fun i h1 h2 => ?_⟩
            · rw [kdep_cg (c := u) _ _ _ (fun j _ _ => ⟨r 19 j (by omega), r 20 j (by omega)⟩)]
              exact a1 dp
            · have := a2 i h1 h2
              unfold vKn at this ⊢
              rw [r 19 i (by omega), r 20 i (by omega)]; exact this
          · split
            · exact PQ.lf (by omega)
            · split
              · exact PQ.lf (by omega)
              · exact fun h => by rw [(pF_0 hf).1] at h; omega
      · rw [if_neg q6]
        by_cases q2 : q = 2
        · subst q2
          rw [if_pos rfl, if_pos (by omega)]
          rw [if_pos (by omega)] at hm
          split
          · rename_i g14
            have ltT := hT s (by omega)
            have a := ih 2 (pKnot t n s) (by omega) (fun e => by have := pKnot_u e; rw [if_pos (by omega)]; omega) hT
            rw [if_pos (by omega)] at a
            exact PQ.add (z := 0) (w := 1) pKnot_8 (pX_E m 2 _) (Or.inr (Or.inr ⟨rfl, by unfold ksign; omega⟩)) (fun fu => a fu) (Or.inr (Or.inl ⟨rfl, rfl, rfl⟩))
          · have a := ih 3 s (by omega) (fun _ => by rw [if_pos (by omega)]; omega) hT
            rw [if_pos (by omega)] at a
            exact a
        · rw [if_neg q2]
          by_cases q5 : q < 6
          · rw [if_pos q5, if_pos (by omega)]
            rw [if_pos (by omega)] at hm
            have a := ih (q + 1) s (by omega) (fun _ => by rw [if_pos (by omega)]; omega) hT
            rw [if_pos (by omega)] at a
            have E := pX_E (t := t) (n := n) m (q + 1) s
            have b := ih (q + 10) (pX t n m (q + 1) s) (by omega) (fun e => by rw [if_neg (by omega)]; obtain ⟨_, x, _⟩ := E e; omega) hT
            rw [if_neg (by omega)] at b
            exact a.tr E b (pX_E m _ _)
          · rw [if_neg q5, if_neg (by omega)]
            rw [if_neg (by omega)] at hm
            split
            · rename_i gr
              · have kne : kd t n s ≠ 37 := ((rkO_f (kd t n s) (by omega)).1 (by omega)).2.1
                have ltT := hT s kne
                have a := ih (q - 9) (pKnot t n s) (by omega) (fun e => by have := pKnot_u e; rw [if_pos (by omega)]; omega) hT
                rw [if_pos (by omega)] at a
                have B : PQ 1 s (pAdd (pX t n m (q - 9) (pKnot t n s)) 2 (sgC (kd t n s))) := PQ.bin (by omega) (by omega) (pX_E m _ _) a
                split
                · exact B
                · have b := ih q (pAdd (pX t n m (q - 9) (pKnot t n s)) 2 (sgC (kd t n s))) (by omega) (fun e => by have := pIt_u e; rw [if_neg (by omega)]; omega) hT
                  rw [if_neg (by omega)] at b
                  exact B.tr (PE.knot (pX_E m _ _)) b (pX_E m _ _)
            · exact fun _ => ⟨fun dp => by rw [Nat.sub_self]; rfl, fun i h1 h2 => by omega⟩
    · rw [pX_f hf]
      exact fun h => absurd h hf
end Py
