section Pz
variable {t : Nat → Nat} {n T : Nat} {s : CA}
theorem LI.mk' {u x : CA} (hx : LI x) (hV : CV u) (h8 : u 0 8 = x 0 8) (h30 : ∀ j, 3 ≤ j → j ≠ 11 → u 30 j = x 30 j) (h11 : u 30 11 < 2 ^ 31) (h1 : u 30 1 = x 30 1) : LI u := by
  obtain ⟨a1, a2, a3, a4, a5⟩ := hx
  refine ⟨hV, fun hf => ?_, h11, by rw [h30 3 (by omega) (by omega)]; exact a4, by rw [h30 4 (by omega) (by omega)]; exact a5⟩
  rw [h1] at hf
  have := a2 hf
  rw [h30 10 (by omega) (by omega), h8]
  exact this
theorem LI.nx {x : CA} (hs : LI s) (hf : s 30 1 = 0) (h : ∀ f j, f < 30 ∨ 3 ≤ j → x f j = s f j) (h1 : x 30 1 = 0) : LI x :=
  hs.mk' (hs.1.r (fun f hf => funext fun j => h f j (Or.inl hf))) (h 0 8 (by omega)) (fun j hj _ => h 30 j (Or.inr hj)) (by rw [h 30 11 (by omega)]; exact hs.2.2.1) (by rw [h1, hf])
theorem LI.pond (hs : LI s) (h7 : s 0 0 < 7) (hf : (pPondL t n s) 30 1 = 0) : LI (pPondL t n s) := by
  have e1 : ∀ (x : CA) (a b c e : Nat), pAddP x a b c e 30 1 = x 30 1 := fun x a b c e => by unfold pAddP; split <;> simp [pS]
  unfold pPondL at hf ⊢
  rw [e1] at hf
  have f2 := pNum_0 hf
  have f1 := pNum_0 f2.1
  have f0 := pNum_0 f1.1
  have g := pO_0 f0.1
  have row : ∀ f j, f < 30 ∨ 3 ≤ j → pNum t n (pNum t n (pNum t n (pOwnN t n s) 1 20) 0 99) 0 999 f j = s f j := fun f j h => by rw [pN_row f j h, pN_row f j h, pN_row f j h, pO_row f j h]
  have hx := hs.nx g.1 row hf
  refine hx.mk' (hx.1.addP hf (by rw [row 0 0 (by omega)]; exact h7) ⟨f0.2.2.1, f0.2.2.2.1⟩ f1.2.2.2.1 f2.2.2.2.1 (kv_22 g.2)) ?_ (fun j h1 h2 => ?_) ?_ (e1 _ _ _ _ _)
  · unfold pAddP; rw [if_pos hf]; simp [pS]
  · unfold pAddP; rw [if_pos hf]; simp [pS]
  · have : pAddP (pNum t n (pNum t n (pNum t n (pOwnN t n s) 1 20) 0 99) 0 999) (kv t n s) (kv t n (pOwnN t n s)) (kv t n (pNum t n (pOwnN t n s) 1 20)) (kv t n (pNum t n (pNum t n (pOwnN t n s) 1 20) 0 99)) 30 11 = s 30 11 := by
      rw [← row 30 11 (by omega)]; unfold pAddP; rw [if_pos hf]; simp [pS]
    rw [this]; exact hs.2.2.1
theorem pLkN_0 (h : pLkN t n s 30 1 = 0) : s 30 1 = 0 ∧ pd t n s < s 0 0 := by
  have g : pPond t n s 30 1 = 0 := by
    by_cases g : pPond t n s 30 1 = 0
    · exact g
    · rw [pLkN_f g] at h; exact absurd h g
  obtain ⟨a, _, b, _⟩ := pPond_0 g
  exact ⟨a, gNm_lt b⟩
theorem LI.lock (hs : LI s) (h3 : s 0 1 < 3) (hf : (pLockL t n s) 30 1 = 0) : LI (pLockL t n s) := by
  have e1 : ∀ (x : CA) (a b c : Nat), pAddL x a b c 30 1 = x 30 1 := fun x a b c => by unfold pAddL; split <;> simp [pS]
  unfold pLockL at hf ⊢
  rw [e1] at hf
  have f1 := pNum_0 hf
  have f0 := pNum_0 f1.1
  have g := pLkN_0 f0.1
  have row : ∀ f j, f < 30 ∨ 3 ≤ j → pNum t n (pNum t n (pLkN t n s) 0 199) 0 199 f j = s f j := fun f j h => by rw [pN_row f j h, pN_row f j h, pLkN_row f j h]
  have hx := hs.nx g.1 row hf
  refine hx.mk' (hx.1.addL hf (by rw [row 0 1 (by omega)]; exact h3) (by rw [row 0 0 (by omega)]; exact g.2) f0.2.2.2.1 f1.2.2.2.1) ?_ (fun j h1 h2 => ?_) ?_ (e1 _ _ _ _)
  · unfold pAddL; rw [if_pos hf]; simp [pS]
  · unfold pAddL; rw [if_pos hf]; simp [pS]
  · have : pAddL (pNum t n (pNum t n (pLkN t n s) 0 199) 0 199) (pd t n s) (kv t n (pLkN t n s)) (kv t n (pNum t n (pLkN t n s) 0 199)) 30 11 = s 30 11 := by
      rw [← row 30 11 (by omega)]; unfold pAddL; rw [if_pos hf]; simp [pS]
    rw [this]; exact hs.2.2.1
theorem LI.turn (hs : LI s) (h3 : s 0 3 < 12) (hf : (pTurnL t n s) 30 1 = 0) : LI (pTurnL t n s) := by
  have e1 : ∀ (x : CA) (a b c : Nat), pAddT x a b c 30 1 = x 30 1 := fun x a b c => by unfold pAddT; split <;> simp [pS]
  unfold pTurnL at hf ⊢
  rw [e1] at hf
  have f1 := pNum_0 hf
  have f0 := pNum_0 f1.1
  have g : s 30 1 = 0 ∧ kv t n s < s 0 2 := by
    have h := f0.1
    unfold pTnN at h
    by_cases g : s 30 1 = 0
    · rw [if_pos g] at h
      by_cases k : kd t n s = 23
      · rw [if_pos k] at h
        by_cases k9 : 9 < kv t n s
        · rw [if_pos k9, (pF_0 g).1] at h; omega
        · rw [if_neg k9] at h
          by_cases k2 : s 0 2 ≤ kv t n s
          · rw [if_pos k2, (pF_0 g).1] at h; omega
          · exact ⟨g, by omega⟩
      · rw [if_neg k, (pF_0 g).1] at h; omega
    · rw [if_neg g] at h; exact absurd h g
  have row : ∀ f j, f < 30 ∨ 3 ≤ j → pNum t n (pNum t n (pTnN t n s) 0 99) 1 20 f j = s f j := fun f j h => by rw [pN_row f j h, pN_row f j h, pTnN_row f j h]
  have hx := hs.nx g.1 row hf
  refine hx.mk' (hx.1.addT hf (by rw [row 0 3 (by omega)]; exact h3) (by rw [row 0 2 (by omega)]; exact g.2) f0.2.2.2.1 ⟨f1.2.2.1, f1.2.2.2.1⟩) ?_ (fun j h1 h2 => ?_) ?_ (e1 _ _ _ _)
  · unfold pAddT; rw [if_pos hf]; simp [pS]
  · unfold pAddT; rw [if_pos hf]; simp [pS]
  · have : pAddT (pNum t n (pNum t n (pTnN t n s) 0 99) 1 20) (kv t n s) (kv t n (pTnN t n s)) (kv t n (pNum t n (pTnN t n s) 0 99)) 30 11 = s 30 11 := by
      rw [← row 30 11 (by omega)]; unfold pAddT; rw [if_pos hf]; simp [pS]
    rw [this]; exact hs.2.2.1
end Pz
