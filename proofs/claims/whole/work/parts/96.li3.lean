section Qb
variable {t : Nat → Nat} {n T : Nat} {s : CA}
theorem LI.law (hT : TF t n T) (hs : LI s) (hf0 : s 30 1 = 0) (hf : (pLawL t n s) 30 1 = 0) : LI (pLawL t n s) := by
  unfold pLawL at hf ⊢
  by_cases g1 : kd t n s < 9 ∨ 11 < kd t n s
  · rw [if_pos g1, (pF_0 hf0).1] at hf; omega
  rw [if_neg g1] at hf ⊢
  by_cases g2 : s 17 (kd t n s - 9) < s 18 (kd t n s - 9)
  · rw [if_pos g2, (pF_0 hf0).1] at hf; omega
  rw [if_neg g2] at hf ⊢
  have r3 : kd t n s - 9 < 3 := by omega
  generalize kd t n s - 9 = r at *
  obtain ⟨q1, q2, q3, q4⟩ := pLawB_row (s := s) r3
  have hz : ∀ f, f ≠ 17 → f ≠ 30 → pLawB s r f = s f := fun f h1 h2 => by
    funext j; simp only [pLawB, pAdv, pS]; rw [if_neg (by omega), if_neg (by omega), if_neg (by omega), if_neg (by omega)]
  have hz17 : ∀ j, pLawB s r 17 j = if j = r then s 0 8 else s 17 j := fun j => by simp [pLawB, pAdv, pS]
  by_cases gb : pX t n 14100 0 (pLawB s r) 30 1 = 0
  · rw [if_pos gb]
    have Q0 := pX_Q (t := t) (n := n) 14100 0 (pLawB s r) (by omega) (fun _ => by rw [if_pos (by omega)]; omega) (fun u hu => by have := hT.lt hu; have := hT.1; have := hT.2.1; omega)
    rw [if_pos (by omega)] at Q0
    obtain ⟨k1, k2⟩ := Q0 gb
    obtain ⟨_, _, p3, p4, p5, p6, p7, p8, p9⟩ := pX_E (t := t) (n := n) 14100 0 (pLawB s r) gb
    have ef : ∀ f, f ≠ 0 → f ≠ 17 → f ≠ 19 → f ≠ 20 → f ≠ 30 → pX t n 14100 0 (pLawB s r) f = s f := fun f h0 h1 h2 h3 h4 => by
      funext j; rw [p4 f j h2 h3 h4 (by omega), hz f h1 h4]
    have e0 : ∀ j, j ≠ 8 → pX t n 14100 0 (pLawB s r) 0 j = s 0 j := fun j hj => by rw [p4 0 j (by omega) (by omega) (by omega) (by omega), q4]
    have e17 : ∀ j, pX t n 14100 0 (pLawB s r) 17 j = if j = r then s 0 8 else s 17 j := fun j => by rw [p4 17 j (by omega) (by omega) (by omega) (by omega), hz17]
    rw [q4] at k1 k2 p6 p7 p9
    rw [q3] at p3
    obtain ⟨b2, b3⟩ := hs.2.1 hf0
    have c10 : pLawB s r 30 10 = s 30 10 := q1 10 (by omega) (by omega) (by omega)
    rw [c10] at p6 p8
    have b10 := p8 b3
    have c11 : pX t n 14100 0 (pLawB s r) 30 11 = s 30 11 := by rw [p5 11 (by omega) (by omega) (by omega), q1 11 (by omega) (by omega) (by omega)]
    have c3 : pX t n 14100 0 (pLawB s r) 30 3 = s 30 3 := by rw [p5 3 (by omega) (by omega) (by omega), q1 3 (by omega) (by omega) (by omega)]
    have c4 : pX t n 14100 0 (pLawB s r) 30 4 = s 30 4 := by rw [p5 4 (by omega) (by omega) (by omega), q1 4 (by omega) (by omega) (by omega)]
    have old : ∀ i, i < s 0 8 → pX t n 14100 0 (pLawB s r) 19 i = s 19 i ∧ pX t n 14100 0 (pLawB s r) 20 i = s 20 i := fun i hi => by
      have := p9 i hi
      rw [hz 19 (by omega) (by omega), hz 20 (by omega) (by omega)] at this
      exact this
    generalize pX t n 14100 0 (pLawB s r) = u at *
    have f18 : ∀ j, pS u 18 r (u 0 8) 18 j = if j = r then u 0 8 else s 18 j := fun j => by
      rw [← ef 18 (by omega) (by omega) (by omega) (by omega) (by omega)]; simp [pS]
    have fo : ∀ f, f ≠ 18 → pS u 18 r (u 0 8) f = u f := fun f hf => by funext j; simp only [pS]; rw [if_neg (by omega)]
    obtain ⟨⟨n0, n1, n2, n3, n4, n6, n7, n8⟩, cp, cl', ck, ct, cb, cw, cx⟩ := hs.1
    refine ⟨?_, fun _ => ?_, by rw [fo 30 (by omega), c11]; exact hs.2.2.1, by rw [fo 30 (by omega), c3]; exact hs.2.2.2.1, by rw [fo 30 (by omega), c4]; exact hs.2.2.2.2⟩
    · unfold CV
      simp only [fo 0 (by omega), fo 1 (by omega), fo 2 (by omega), fo 3 (by omega), fo 4 (by omega), fo 5 (by omega), fo 6 (by omega), fo 7 (by omega), fo 8 (by omega), fo 9 (by omega), fo 10 (by omega), fo 11 (by omega), fo 12 (by omega), fo 13 (by omega), fo 14 (by omega), fo 15 (by omega), fo 16 (by omega), fo 17 (by omega), kdep_r (fo 19 (by omega)) (fo 20 (by omega))]
      rw [fo 19 (by omega), fo 20 (by omega), e0 0 (by omega), e0 1 (by omega), e0 2 (by omega), e0 3 (by omega), e0 4 (by omega), e0 6 (by omega), e0 7 (by omega)]
      have em : ∀ f, f ≠ 0 → f ≠ 17 → f ≠ 19 → f ≠ 20 → f ≠ 30 → u f = s f := ef
      simp only [em 1 (by omega) (by omega) (by omega) (by omega) (by omega), em 2 (by omega) (by omega) (by omega) (by omega) (by omega), em 3 (by omega) (by omega) (by omega) (by omega) (by omega), em 4 (by omega) (by omega) (by omega) (by omega) (by omega), em 5 (by omega) (by omega) (by omega) (by omega) (by omega), em 6 (by omega) (by omega) (by omega) (by omega) (by omega), em 7 (by omega) (by omega) (by omega) (by omega) (by omega), em 8 (by omega) (by omega) (by omega) (by omega) (by omega), em 9 (by omega) (by omega) (by omega) (by omega) (by omega), em 10 (by omega) (by omega) (by omega) (by omega) (by omega), em 11 (by omega) (by omega) (by omega) (by omega) (by omega), em 12 (by omega) (by omega) (by omega) (by omega) (by omega), em 13 (by omega) (by omega) (by omega) (by omega) (by omega), em 14 (by omega) (by omega) (by omega) (by omega) (by omega), em 15 (by omega) (by omega) (by omega) (by omega) (by omega), em 16 (by omega) (by omega) (by omega) (by omega) (by omega)]
      refine ⟨⟨n0, n1, n2, n3, n4, n6, n7, by omega⟩, cp, cl', ck, ct, cb, fun r' hr' => ?_, fun i hi => ?_⟩
      · rw [e17, f18]
        by_cases g : r' = r
        · rw [if_pos g, if_pos g]
          exact ⟨by omega, Nat.le_refl _, fun _ => k1 0⟩
        · rw [if_neg g, if_neg g]
          obtain ⟨w1, w2, w3⟩ := cw r' hr'
          refine ⟨w1, by omega, fun hlt => ?_⟩
          rw [kdep_cg (c := s) _ _ _ (fun j h1 h2 => old j (by omega))]
          exact w3 hlt
      · rcases Nat.lt_or_ge i (s 0 8) with l | l
        · rw [(old i l).1, (old i l).2]; exact cx i l
        · exact k2 i l hi
    · rw [fo 30 (by omega), fo 0 (by omega)]
      exact ⟨by omega, b10⟩
  · rw [if_neg gb] at hf; exact absurd hf gb
theorem pT_0 {K : Nat} {u : CA} (h : pTake t n u K 30 1 = 0) : u 30 1 = 0 ∧ pTake t n u K = pAdv u := by
  by_cases g : u 30 1 = 0
  · unfold pTake at h ⊢
    rw [if_pos g] at h ⊢
    by_cases k : kd t n u = K
    · rw [if_pos k]; exact ⟨g, rfl⟩
    · rw [if_neg k, (pF_0 g).1] at h; omega
  · rw [pT_f g] at h; exact absurd h g
theorem LI_line (hT : TF t n T) (s : CA) (hf0 : s 30 1 = 0) (hs : LI s) (hf : (pLine t n s) 30 1 = 0) : LI (pLine t n s) := by
  unfold pLine at hf ⊢
  by_cases g8 : 8 < kd t n s
  · rw [if_pos g8, (pF_0 hf0).1] at hf; omega
  rw [if_neg g8] at hf ⊢
  by_cases gf : pFull s (kd t n s)
  · rw [if_pos gf, (pF_0 hf0).1] at hf; omega
  rw [if_neg gf] at hf ⊢
  by_cases gt : pTold s (kd t n s)
  · rw [if_pos gt, (pF_0 hf0).1] at hf; omega
  rw [if_neg gt] at hf ⊢
  have ft : pTake t n (pBody t n (kd t n s) (pAdv s)) 24 30 1 = 0 := by
    unfold pEnd at hf
    by_cases g : pTake t n (pBody t n (kd t n s) (pAdv s)) 24 30 1 = 0
    · exact g
    · rw [if_neg g] at hf; exact absurd hf g
  obtain ⟨fb, eT⟩ := pT_0 ft
  have fa : pAdv s 30 1 = 0 := by rw [pAdv_1]; exact hf0
  have ha : LI (pAdv s) := hs.nx hf0 (fun f j h => pA_row f j (by omega)) fa
  have e0 : ∀ j, pAdv s 0 j = s 0 j := fun j => pA_row 0 j (by omega)
  unfold pFull at gf
  have hb : LI (pBody t n (kd t n s) (pAdv s)) := by
    unfold pBody at fb ⊢
    by_cases k0 : kd t n s = 0
    · rw [if_pos k0] at fb ⊢; exact ha.pond (by rw [e0]; omega) fb
    rw [if_neg k0] at fb ⊢
    by_cases k1 : kd t n s = 1
    · rw [if_pos k1] at fb ⊢; exact ha.lock (by rw [e0]; omega) fb
    rw [if_neg k1] at fb ⊢
    by_cases k2 : kd t n s = 2
    · rw [if_pos k2] at fb ⊢; exact ha.pipe (by rw [e0]; omega) fb
    rw [if_neg k2] at fb ⊢
    by_cases k3 : kd t n s = 3
    · rw [if_pos k3] at fb ⊢; exact ha.turn (by rw [e0]; omega) fb
    rw [if_neg k3] at fb ⊢
    by_cases k4 : kd t n s = 4
    · rw [if_pos k4] at fb ⊢; exact ha.boat (by rw [e0]; omega) fb
    rw [if_neg k4] at fb ⊢
    by_cases k5 : kd t n s = 5
    · rw [if_pos k5] at fb ⊢; exact ha.spr fb
    rw [if_neg k5] at fb ⊢
    by_cases k6 : kd t n s = 6
    · rw [if_pos k6] at fb ⊢; exact ha.jam fa fb
    rw [if_neg k6] at fb ⊢
    by_cases k7 : kd t n s = 7
    · rw [if_pos k7] at fb ⊢; exact ha.seed fa fb
    rw [if_neg k7] at fb ⊢
    exact ha.law hT fa fb
  have hc : LI (pTake t n (pBody t n (kd t n s) (pAdv s)) 24) := by
    rw [eT]
    exact hb.nx fb (fun f j h => pA_row f j (by omega)) (by rw [pAdv_1]; exact fb)
  unfold pEnd
  rw [if_pos ft]
  have e : ∀ f j, ¬ (f = 30 ∧ j = 8) → pS (pTake t n (pBody t n (kd t n s) (pAdv s)) 24) 30 8 (pTake t n (pBody t n (kd t n s) (pAdv s)) 24 30 8 + 1) f j = pTake t n (pBody t n (kd t n s) (pAdv s)) 24 f j := fun f j h => by simp only [pS]; rw [if_neg h]
  obtain ⟨a1, a2, a3, a4, a5⟩ := hc
  refine ⟨a1.r (fun f h => funext fun j => e f j (by omega)), fun q => ?_, by rw [e 30 11 (by omega)]; exact a3, by rw [e 30 3 (by omega)]; exact a4, by rw [e 30 4 (by omega)]; exact a5⟩
  rw [e 30 1 (by omega)] at q
  rw [e 0 8 (by omega), e 30 10 (by omega)]
  exact a2 q
end Qb
