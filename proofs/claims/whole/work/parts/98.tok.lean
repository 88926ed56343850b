/-! the cell of open brackets doesn't matter where a text begins; a line goes on by a token; which laws are told -/
def E9 (s u : CA) : Prop := ∀ f j, ¬ (f = 30 ∧ j = 9) → u f j = s f j
section Qd
variable {t : Nat → Nat} {n : Nat} {s u : CA}
theorem e9_pS (h : E9 s u) {f j v : Nat} : E9 (pS s f j v) (pS u f j v) := fun g i hi => by
  simp only [pS]
  rw [h g i hi]
theorem e9_0 (h : E9 s u) (j : Nat) : u 0 j = s 0 j := h 0 j (by omega)
theorem e9_1 (h : E9 s u) : u 30 1 = s 30 1 := h 30 1 (by omega)
theorem e9_kd (h : E9 s u) : kd t n u = kd t n s := by unfold kd; rw [h 30 0 (by omega)]
theorem e9_kv (h : E9 s u) : kv t n u = kv t n s := by unfold kv; rw [h 30 0 (by omega)]
theorem e9_kp (h : E9 s u) : kp t n u = kp t n s := by unfold kp; rw [h 30 0 (by omega)]
theorem e9_nm (h : E9 s u) (v : Nat) : gNm u v = gNm s v := by
  have : ∀ m p, gNmG u v m p = gNmG s v m p := by
    intro m
    induction m with
    | zero => intro p; rfl
    | succ m ih => intro p; rw [gNmG, gNmG, h 1 p (by omega), ih]
  unfold gNm
  rw [e9_0 h, this]
theorem e9_lk (h : E9 s u) (v : Nat) : qLk u v = qLk s v := by
  have : ∀ m p, qLkG u v m p = qLkG s v m p := by
    intro m
    induction m with
    | zero => intro p; rfl
    | succ m ih => intro p; rw [qLkG, qLkG, h 6 p (by omega), ih]
  unfold qLk
  rw [e9_0 h, this]
theorem e9_pp (h : E9 s u) (p q : Nat) : gPp u p q = gPp s p q := by
  have : ∀ m k, gPpG u p q m k = gPpG s p q m k := by
    intro m
    induction m with
    | zero => intro k; rfl
    | succ m ih => intro k; rw [gPpG, gPpG, h 9 k (by omega), h 10 k (by omega), ih]
  unfold gPp
  rw [e9_0 h, this]
theorem e9_pd (h : E9 s u) : pd t n u = pd t n s := by unfold pd; rw [e9_kv h, e9_nm h]
theorem e9_fail (h : E9 s u) {e pl : Nat} : E9 (pFail s e pl) (pFail u e pl) := by
  unfold pFail
  rw [e9_1 h]
  split
  · exact e9_pS (e9_pS h)
  · exact h
theorem e9_adv (h : E9 s u) : E9 (pAdv s) (pAdv u) := by
  unfold pAdv
  rw [h 30 0 (by omega)]
  exact e9_pS h
theorem e9_take (h : E9 s u) {K : Nat} : E9 (pTake t n s K) (pTake t n u K) := by
  unfold pTake
  rw [e9_1 h, e9_kd h, e9_kp h]
  split
  · split
    · exact e9_adv h
    · exact e9_fail h
  · exact h
theorem e9_num (h : E9 s u) {lo hi : Nat} : E9 (pNum t n s lo hi) (pNum t n u lo hi) := by
  unfold pNum
  rw [e9_1 h, e9_kd h, e9_kp h, e9_kv h]
  split
  · split
    · split
      · exact e9_fail h
      · exact e9_adv h
    · exact e9_fail h
  · exact h
theorem e9_po (h : E9 s u) : E9 (pPond t n s) (pPond t n u) := by
  unfold pPond
  rw [e9_1 h, e9_kd h, e9_kp h, e9_kv h, e9_nm h]
  split
  · split
    · split
      · exact e9_fail h
      · exact e9_adv h
    · exact e9_fail h
  · exact h
theorem e9_own (h : E9 s u) : E9 (pOwnN t n s) (pOwnN t n u) := by
  unfold pOwnN
  rw [e9_1 h, e9_kd h, e9_kp h, e9_kv h, e9_nm h]
  split
  · split
    · split
      · exact e9_adv h
      · exact e9_fail h
    · exact e9_fail h
  · exact h
theorem e9_pond (h : E9 s u) : E9 (pPondL t n s) (pPondL t n u) := by
  have h1 := e9_own (t := t) (n := n) h
  have h2 := e9_num (t := t) (n := n) h1 (lo := 1) (hi := 20)
  have h3 := e9_num (t := t) (n := n) h2 (lo := 0) (hi := 99)
  have h4 := e9_num (t := t) (n := n) h3 (lo := 0) (hi := 999)
  unfold pPondL
  rw [e9_kv h, e9_kv h1, e9_kv h2, e9_kv h3]
  unfold pAddP
  rw [e9_1 h4, e9_0 h4]
  split
  · exact e9_pS (e9_pS (e9_pS (e9_pS (e9_pS (e9_pS h4)))))
  · exact h4
theorem e9_lkn (h : E9 s u) : E9 (pLkN t n s) (pLkN t n u) := by
  unfold pLkN
  rw [e9_1 h, e9_kd h, e9_kp h, e9_kv h, e9_nm h, e9_pd h, e9_lk h]
  split
  · split
    · split
      · exact e9_fail h
      · split
        · exact e9_adv h
        · exact e9_fail h
    · exact e9_fail h
  · exact h
theorem e9_lock (h : E9 s u) : E9 (pLockL t n s) (pLockL t n u) := by
  have h1 := e9_lkn (t := t) (n := n) h
  have h2 := e9_num (t := t) (n := n) h1 (lo := 0) (hi := 199)
  have h3 := e9_num (t := t) (n := n) h2 (lo := 0) (hi := 199)
  unfold pLockL
  rw [e9_pd h, e9_kv h1, e9_kv h2]
  unfold pAddL
  rw [e9_1 h3, e9_0 h3]
  split
  · exact e9_pS (e9_pS (e9_pS (e9_pS h3)))
  · exact h3
theorem e9_ppn (h : E9 s u) {p : Nat} : E9 (pPpN t n s p) (pPpN t n u p) := by
  unfold pPpN
  rw [e9_1 h, e9_kd h, e9_kp h, e9_kv h, e9_nm h, e9_pd h, e9_pp h]
  split
  · split
    · split
      · exact e9_fail h
      · split
        · exact e9_fail h
        · split
          · exact e9_fail h
          · exact e9_adv h
    · exact e9_fail h
  · exact h
theorem e9_pipe (h : E9 s u) : E9 (pPipeL t n s) (pPipeL t n u) := by
  have h1 := e9_po (t := t) (n := n) h
  have h2 := e9_ppn (t := t) (n := n) h1 (p := pd t n s)
  have h3 := e9_num (t := t) (n := n) h2 (lo := 1) (hi := 99)
  unfold pPipeL
  rw [e9_pd h, e9_pd h1, e9_kv h2]
  unfold pAddK
  rw [e9_1 h3, e9_0 h3]
  split
  · exact e9_pS (e9_pS (e9_pS (e9_pS h3)))
  · exact h3
theorem e9_tnn (h : E9 s u) : E9 (pTnN t n s) (pTnN t n u) := by
  unfold pTnN
  rw [e9_1 h, e9_kd h, e9_kp h, e9_kv h, e9_0 h]
  split
  · split
    · split
      · exact e9_fail h
      · split
        · exact e9_fail h
        · exact e9_adv h
    · exact e9_fail h
  · exact h
theorem e9_turn (h : E9 s u) : E9 (pTurnL t n s) (pTurnL t n u) := by
  have h1 := e9_tnn (t := t) (n := n) h
  have h2 := e9_num (t := t) (n := n) h1 (lo := 0) (hi := 99)
  have h3 := e9_num (t := t) (n := n) h2 (lo := 1) (hi := 20)
  unfold pTurnL
  rw [e9_kv h, e9_kv h1, e9_kv h2]
  unfold pAddT
  rw [e9_1 h3, e9_0 h3]
  split
  · exact e9_pS (e9_pS (e9_pS (e9_pS h3)))
  · exact h3
theorem e9_btn (h : E9 s u) : E9 (pBtN t n s) (pBtN t n u) := by
  unfold pBtN
  rw [e9_1 h, e9_kd h, e9_kp h, e9_kv h, e9_nm h, e9_pd h, e9_lk h]
  split
  · split
    · split
      · exact e9_fail h
      · split
        · exact e9_fail h
        · exact e9_adv h
    · exact e9_fail h
  · exact h
theorem e9_boat (h : E9 s u) : E9 (pBoatL t n s) (pBoatL t n u) := by
  have h1 := e9_btn (t := t) (n := n) h
  have h2 := e9_num (t := t) (n := n) h1 (lo := 0) (hi := 99)
  unfold pBoatL
  rw [e9_pd h, e9_lk h, e9_kv h1]
  unfold pAddB
  rw [e9_1 h2, e9_0 h2]
  split
  · exact e9_pS (e9_pS (e9_pS h2))
  · exact h2
theorem e9_spn (h : E9 s u) : E9 (pSpN t n s) (pSpN t n u) := by
  unfold pSpN
  rw [e9_1 h, e9_kd h, e9_kp h, e9_kv h, e9_nm h, e9_pd h, h 30 11 (by omega)]
  split
  · split
    · split
      · exact e9_fail h
      · split
        · exact e9_fail h
        · exact e9_adv h
    · exact e9_fail h
  · exact h
theorem e9_spr (h : E9 s u) : E9 (pSprL t n s) (pSprL t n u) := by
  have h1 := e9_spn (t := t) (n := n) h
  have h2 := e9_num (t := t) (n := n) h1 (lo := 0) (hi := 9)
  unfold pSprL
  rw [e9_pd h, e9_kv h1]
  unfold pAddS
  rw [e9_1 h2, h2 30 11 (by omega)]
  split
  · exact e9_pS (e9_pS h2)
  · exact h2
theorem e9_jam (h : E9 s u) : E9 (pJamL t n s) (pJamL t n u) := by
  have h2 := e9_num (t := t) (n := n) (e9_pS h (f := 30) (j := 3) (v := 1)) (lo := 0) (hi := 100)
  unfold pJamL
  rw [e9_1 h2, e9_kv h]
  split
  · exact e9_pS h2
  · exact h2
theorem e9_seed (h : E9 s u) : E9 (pSeedL t n s) (pSeedL t n u) := by
  have h2 := e9_num (t := t) (n := n) (e9_pS h (f := 30) (j := 4) (v := 1)) (lo := 0) (hi := 99999)
  unfold pSeedL
  rw [e9_1 h2, e9_kv h]
  split
  · exact e9_pS h2
  · exact h2
theorem e9_law (h : E9 s u) : E9 (pLawL t n s) (pLawL t n u) := by
  have eB : ∀ r, pLawB u r = pLawB s r := fun r => by
    funext f j
    simp only [pLawB, pAdv, pS]
    rw [h 30 0 (by omega), e9_0 h]
    by_cases g : f = 30 ∧ j = 9
    · rw [if_pos g, if_pos g]
    · rw [h f j g]
  unfold pLawL
  rw [e9_kd h, e9_kp h, h 17 _ (by omega), h 18 _ (by omega), eB]
  split
  · exact e9_fail h
  · split
    · exact e9_fail h
    · exact fun _ _ _ => rfl
theorem e9_body (h : E9 s u) {k : Nat} : E9 (pBody t n k s) (pBody t n k u) := by
  unfold pBody
  split
  · exact e9_pond h
  split
  · exact e9_lock h
  split
  · exact e9_pipe h
  split
  · exact e9_turn h
  split
  · exact e9_boat h
  split
  · exact e9_spr h
  split
  · exact e9_jam h
  split
  · exact e9_seed h
  · exact e9_law h
theorem e9_line (h : E9 s u) : E9 (pLine t n s) (pLine t n u) := by
  have h1 := e9_take (t := t) (n := n) (e9_body (t := t) (n := n) (e9_adv h) (k := kd t n s)) (K := 24)
  unfold pLine
  unfold pFull pTold
  rw [e9_kd h, e9_kp h, e9_0 h, e9_0 h, e9_0 h, e9_0 h, e9_0 h, h 30 3 (by omega), h 30 4 (by omega)]
  split
  · exact e9_fail h
  split
  · exact e9_fail h
  split
  · exact e9_fail h
  · unfold pEnd
    rw [e9_1 h1, h1 30 8 (by omega)]
    split
    · exact e9_pS h1
    · exact h1
theorem e9_read : ∀ (m : Nat) (s u : CA), E9 s u → E9 (pRead t n m s) (pRead t n m u) := by
  intro m
  induction m with
  | zero => intro s u h; exact h
  | succ m ih =>
    intro s u h
    rw [pRead, pRead, e9_1 h, e9_kd h]
    split
    · split
      · exact h
      · exact ih _ _ (e9_line h)
    · exact h
end Qd
/-- what a line's body but a law's leaves: the token goes on, nothing of laws -/
def PT (s u : CA) : Prop := u 30 1 = 0 → s 30 1 = 0 ∧ s 30 0 ≤ u 30 0 ∧ (∀ j, (5 ≤ j ∧ j ≤ 7) ∨ j = 9 → u 30 j = s 30 j) ∧ ∀ f j, f = 17 ∨ f = 18 → u f j = s f j
section Qe
variable {t : Nat → Nat} {n : Nat} {s u : CA}
theorem PT.rf : PT s s := fun h => ⟨h, Nat.le_refl _, fun _ _ => rfl, fun _ _ _ => rfl⟩
theorem PT.tr {v : CA} (a : PT s u) (b : PT u v) : PT s v := fun h => by
  obtain ⟨b1, b2, b3, b4⟩ := b h
  obtain ⟨a1, a2, a3, a4⟩ := a b1
  exact ⟨a1, by omega, fun j h1 => (b3 j h1).trans (a3 j h1), fun f j h => (b4 f j h).trans (a4 f j h)⟩
theorem pt_fail {e pl : Nat} (he : 1 ≤ e) : PT s (pFail s e pl) := by
  by_cases hf : s 30 1 = 0
  · exact fun h => by rw [(pF_0 hf).1] at h; omega
  · rw [pFail_f hf]; exact PT.rf
theorem pt_adv : PT s (pAdv s) := fun h => by
  rw [pAdv_1] at h
  exact ⟨h, by simp [pAdv, pS], fun j h1 => pA_row 30 j (by omega), fun f j h => pA_row f j (by omega)⟩
theorem pt_put {f j v : Nat} (h : ¬ (f = 30 ∧ j ≤ 1)) (h2 : ¬ (f = 30 ∧ 5 ≤ j ∧ j ≤ 7) ∧ ¬ (f = 30 ∧ j = 9)) (h3 : f ≠ 17 ∧ f ≠ 18) : PT s (pS s f j v) := fun hf => by
  have e : ∀ g i, ¬ (g = f ∧ i = j) → pS s f j v g i = s g i := fun g i hg => by simp only [pS]; rw [if_neg hg]
  rw [e 30 1 (by omega)] at hf
  exact ⟨hf, by rw [e 30 0 (by omega)]; exact Nat.le_refl _, fun i h1 => e 30 i (by omega), fun g i hg => e g i (by omega)⟩
theorem pt_addP {a b c e : Nat} : PT s (pAddP s a b c e) := by
  unfold pAddP
  split
  · exact ((((pt_put (by omega) (by omega) (by omega)).tr (pt_put (by omega) (by omega) (by omega))).tr (pt_put (by omega) (by omega) (by omega))).tr (pt_put (by omega) (by omega) (by omega))).tr ((pt_put (by omega) (by omega) (by omega)).tr (pt_put (by omega) (by omega) (by omega)))
  · exact PT.rf
theorem pt_addL {a b c : Nat} : PT s (pAddL s a b c) := by
  unfold pAddL
  split
  · exact (((pt_put (by omega) (by omega) (by omega)).tr (pt_put (by omega) (by omega) (by omega))).tr (pt_put (by omega) (by omega) (by omega))).tr (pt_put (by omega) (by omega) (by omega))
  · exact PT.rf
theorem pt_addK {a b c : Nat} : PT s (pAddK s a b c) := by
  unfold pAddK
  split
  · exact (((pt_put (by omega) (by omega) (by omega)).tr (pt_put (by omega) (by omega) (by omega))).tr (pt_put (by omega) (by omega) (by omega))).tr (pt_put (by omega) (by omega) (by omega))
  · exact PT.rf
theorem pt_addT {a b c : Nat} : PT s (pAddT s a b c) := by
  unfold pAddT
  split
  · exact (((pt_put (by omega) (by omega) (by omega)).tr (pt_put (by omega) (by omega) (by omega))).tr (pt_put (by omega) (by omega) (by omega))).tr (pt_put (by omega) (by omega) (by omega))
  · exact PT.rf
theorem pt_addB {a b : Nat} : PT s (pAddB s a b) := by
  unfold pAddB
  split
  · exact ((pt_put (by omega) (by omega) (by omega)).tr (pt_put (by omega) (by omega) (by omega))).tr (pt_put (by omega) (by omega) (by omega))
  · exact PT.rf
theorem pt_addS {a b : Nat} : PT s (pAddS s a b) := by
  unfold pAddS
  split
  · exact (pt_put (by omega) (by omega) (by omega)).tr (pt_put (by omega) (by omega) (by omega))
  · exact PT.rf
theorem pt_take {K : Nat} : PT s (pTake t n s K) := by
  unfold pTake
  split
  · split
    · exact pt_adv
    · exact pt_fail (by omega)
  · exact PT.rf
theorem pt_num {lo hi : Nat} : PT s (pNum t n s lo hi) := by
  unfold pNum
  split
  · split
    · split
      · exact pt_fail (by omega)
      · exact pt_adv
    · exact pt_fail (by omega)
  · exact PT.rf
theorem pt_po : PT s (pPond t n s) := by
  unfold pPond
  split
  · split
    · split
      · exact pt_fail (by omega)
      · exact pt_adv
    · exact pt_fail (by omega)
  · exact PT.rf
theorem pt_pond : PT s (pPondL t n s) := by
  have h1 : PT s (pOwnN t n s) := by
    unfold pOwnN
    split
    · split
      · split
        · exact pt_adv
        · exact pt_fail (by omega)
      · exact pt_fail (by omega)
    · exact PT.rf
  unfold pPondL
  exact (((h1.tr pt_num).tr pt_num).tr pt_num).tr pt_addP
theorem pt_lock : PT s (pLockL t n s) := by
  have h1 : PT s (pLkN t n s) := by
    unfold pLkN
    split
    · split
      · split
        · exact pt_fail (by omega)
        · split
          · exact pt_adv
          · exact pt_fail (by omega)
      · exact pt_fail (by omega)
    · exact PT.rf
  unfold pLockL
  exact ((h1.tr pt_num).tr pt_num).tr pt_addL
theorem pt_pipe : PT s (pPipeL t n s) := by
  have h1 : ∀ (s : CA) (p : Nat), PT s (pPpN t n s p) := fun s p => by
    unfold pPpN
    split
    · split
      · split
        · exact pt_fail (by omega)
        · split
          · exact pt_fail (by omega)
          · split
            · exact pt_fail (by omega)
            · exact pt_adv
      · exact pt_fail (by omega)
    · exact PT.rf
  unfold pPipeL
  exact ((pt_po.tr (h1 _ _)).tr pt_num).tr pt_addK
theorem pt_turn : PT s (pTurnL t n s) := by
  have h1 : PT s (pTnN t n s) := by
    unfold pTnN
    split
    · split
      · split
        · exact pt_fail (by omega)
        · split
          · exact pt_fail (by omega)
          · exact pt_adv
      · exact pt_fail (by omega)
    · exact PT.rf
  unfold pTurnL
  exact ((h1.tr pt_num).tr pt_num).tr pt_addT
theorem pt_boat : PT s (pBoatL t n s) := by
  have h1 : PT s (pBtN t n s) := by
    unfold pBtN
    split
    · split
      · split
        · exact pt_fail (by omega)
        · split
          · exact pt_fail (by omega)
          · exact pt_adv
      · exact pt_fail (by omega)
    · exact PT.rf
  unfold pBoatL
  exact (h1.tr pt_num).tr pt_addB
theorem pt_spr : PT s (pSprL t n s) := by
  have h1 : PT s (pSpN t n s) := by
    unfold pSpN
    split
    · split
      · split
        · exact pt_fail (by omega)
        · split
          · exact pt_fail (by omega)
          · exact pt_adv
      · exact pt_fail (by omega)
    · exact PT.rf
  unfold pSprL
  exact (h1.tr pt_num).tr pt_addS
theorem pt_jam : PT s (pJamL t n s) := by
  have h1 : PT s (pNum t n (pS s 30 3 1) 0 100) := (pt_put (by omega) (by omega) (by omega)).tr pt_num
  unfold pJamL
  split
  · exact h1.tr (pt_put (by omega) (by omega) (by omega))
  · exact h1
theorem pt_seed : PT s (pSeedL t n s) := by
  have h1 : PT s (pNum t n (pS s 30 4 1) 0 99999) := (pt_put (by omega) (by omega) (by omega)).tr pt_num
  unfold pSeedL
  split
  · exact h1.tr (pt_put (by omega) (by omega) (by omega))
  · exact h1
end Qe
/-- the laws told have knots -/
def LT (s : CA) : Prop := s 30 9 = 0 ∧ ∀ r, r < 3 → s 30 (5 + r) ≤ 1 ∧ (s 30 (5 + r) = 1 ↔ s 17 r < s 18 r)
section Qf
variable {t : Nat → Nat} {n T : Nat} {s u : CA}
theorem PT.lt (h : PT s u) (hf : u 30 1 = 0) (hs : LT s) : LT u := by
  obtain ⟨_, _, h3, h4⟩ := h hf
  refine ⟨by rw [h3 9 (by omega)]; exact hs.1, fun r hr => ?_⟩
  rw [h3 (5 + r) (by omega), h4 17 r (by omega), h4 18 r (by omega)]
  exact hs.2 r hr
theorem pt_law (hT : TF t n T) (hf0 : s 30 1 = 0) (hf : (pLawL t n s) 30 1 = 0) : s 30 0 ≤ (pLawL t n s) 30 0 ∧ (LT s → LT (pLawL t n s)) := by
  unfold pLawL at hf ⊢
  by_cases g1 : kd t n s < 9 ∨ 11 < kd t n s
  · rw [if_pos g1, (pF_0 hf0).1] at hf; omega
  rw [if_neg g1] at hf ⊢
  by_cases g2 : s 17 (kd t n s - 9) < s 18 (kd t n s - 9)
  · rw [if_pos g2, (pF_0 hf0).1] at hf; omega
  rw [if_neg g2] at hf ⊢
  have r3 : kd t n s - 9 < 3 := by omega
  generalize kd t n s - 9 = r at *
  obtain ⟨q1, q2, q3, q4⟩ := pLawB_row (s := s) r3
  by_cases gb : pX t n 14100 0 (pLawB s r) 30 1 = 0
  · rw [if_pos gb]
    have Q0 := pX_Q (t := t) (n := n) 14100 0 (pLawB s r) (by omega) (fun _ => by rw [if_pos (by omega)]; omega) (fun u hu => by have := hT.lt hu; have := hT.1; have := hT.2.1; omega)
    rw [if_pos (by omega)] at Q0
    obtain ⟨k1, k2⟩ := Q0 gb
    obtain ⟨_, p2, p3, p4, p5, p6, p7, p8, p9⟩ := pX_E (t := t) (n := n) 14100 0 (pLawB s r) gb
    have b5 : ∀ j, j < 3 → pLawB s r 30 (5 + j) = if j = r then 1 else s 30 (5 + j) := fun j hj => by
      simp only [pLawB, pAdv, pS]
      by_cases g : j = r
      · subst g; simp
      · rw [if_neg (by omega), if_neg (by omega), if_neg (by omega), if_neg (by omega), if_neg g]
    have b17 : ∀ j, pLawB s r 17 j = if j = r then s 0 8 else s 17 j := fun j => by simp [pLawB, pAdv, pS]
    have b18 : ∀ j, pLawB s r 18 j = s 18 j := fun j => by simp [pLawB, pAdv, pS]
    rw [q4] at k1 p7
    have lt8 : s 0 8 < pX t n 14100 0 (pLawB s r) 0 8 := by
      have k := k1 0
      rcases Nat.lt_or_ge (s 0 8) (pX t n 14100 0 (pLawB s r) 0 8) with l | l
      · exact l
      · rw [show pX t n 14100 0 (pLawB s r) 0 8 - s 0 8 = 0 by omega] at k
        simp [kdep] at k
    generalize pX t n 14100 0 (pLawB s r) = x at *
    have e30 : ∀ j, pS x 18 r (x 0 8) 30 j = x 30 j := fun j => by simp [pS]
    have e17 : ∀ j, pS x 18 r (x 0 8) 17 j = x 17 j := fun j => by simp [pS]
    have e18 : ∀ j, pS x 18 r (x 0 8) 18 j = if j = r then x 0 8 else x 18 j := fun j => by simp [pS]
    refine ⟨by rw [e30]; omega, fun hL => ⟨by rw [e30, p3, q3], fun r' hr' => ?_⟩⟩
    rw [e30, e17, e18, p5 (5 + r') (by omega) (by omega) (by omega), b5 r' hr', p4 17 r' (by omega) (by omega) (by omega) (by omega), p4 18 r' (by omega) (by omega) (by omega) (by omega), b17, b18]
    by_cases g : r' = r
    · rw [if_pos g, if_pos g, if_pos g]
      exact ⟨Nat.le_refl _, fun _ => lt8, fun _ => rfl⟩
    · rw [if_neg g, if_neg g, if_neg g]
      exact hL.2 r' hr'
  · rw [if_neg gb] at hf; exact absurd hf gb
theorem pt_line (hT : TF t n T) (hf0 : s 30 1 = 0) (hf : (pLine t n s) 30 1 = 0) : s 30 0 + 1 ≤ (pLine t n s) 30 0 ∧ (LT s → LT (pLine t n s)) := by
  unfold pLine at hf ⊢
  by_cases g8 : 8 < kd t n s
  · rw [if_pos g8, (pF_0 hf0).1] at hf; omega
  rw [if_neg g8] at hf ⊢
  by_cases gf : pFull s (kd t n s)
  · rw [if_pos gf, (pF_0 hf0).1] at hf; omega
  rw [if_neg gf] at hf ⊢
  by_cases gt : pTold s (kd t n s)
  · rw [if_pos gt, (pF_0 hf0).1] at hf; omega
  rw [if_neg gt] at hf ⊢
  have ft : pTake t n (pBody t n (kd t n s) (pAdv s)) 24 30 1 = 0 := by
    unfold pEnd at hf
    by_cases g : pTake t n (pBody t n (kd t n s) (pAdv s)) 24 30 1 = 0
    · exact g
    · rw [if_neg g] at hf; exact absurd hf g
  obtain ⟨fb, eT⟩ := pT_0 ft
  have fa : pAdv s 30 1 = 0 := by rw [pAdv_1]; exact hf0
  have a0 : pAdv s 30 0 = s 30 0 + 1 := by simp [pAdv, pS]
  have la : LT s → LT (pAdv s) := fun h => pt_adv.lt fa h
  have key : (pAdv s) 30 0 ≤ (pBody t n (kd t n s) (pAdv s)) 30 0 ∧ (LT (pAdv s) → LT (pBody t n (kd t n s) (pAdv s))) := by
    have go : PT (pAdv s) (pBody t n (kd t n s) (pAdv s)) → (pAdv s) 30 0 ≤ (pBody t n (kd t n s) (pAdv s)) 30 0 ∧ (LT (pAdv s) → LT (pBody t n (kd t n s) (pAdv s))) := fun h => ⟨(h fb).2.1, h.lt fb⟩
    unfold pBody at fb go ⊢
    by_cases k0 : kd t n s = 0
    · rw [if_pos k0] at go ⊢; exact go pt_pond
    rw [if_neg k0] at fb go ⊢
    by_cases k1 : kd t n s = 1
    · rw [if_pos k1] at go ⊢; exact go pt_lock
    rw [if_neg k1] at fb go ⊢
    by_cases k2 : kd t n s = 2
    · rw [if_pos k2] at go ⊢; exact go pt_pipe
    rw [if_neg k2] at fb go ⊢
    by_cases k3 : kd t n s = 3
    · rw [if_pos k3] at go ⊢; exact go pt_turn
    rw [if_neg k3] at fb go ⊢
    by_cases k4 : kd t n s = 4
    · rw [if_pos k4] at go ⊢; exact go pt_boat
    rw [if_neg k4] at fb go ⊢
    by_cases k5 : kd t n s = 5
    · rw [if_pos k5] at go ⊢; exact go pt_spr
    rw [if_neg k5] at fb go ⊢
    by_cases k6 : kd t n s = 6
    · rw [if_pos k6] at go ⊢; exact go pt_jam
    rw [if_neg k6] at fb go ⊢
    by_cases k7 : kd t n s = 7
    · rw [if_pos k7] at go ⊢; exact go pt_seed
    rw [if_neg k7] at fb go ⊢
    exact pt_law hT fa fb
  unfold pEnd
  rw [if_pos ft, eT]
  have b : PT (pBody t n (kd t n s) (pAdv s)) (pS (pAdv (pBody t n (kd t n s) (pAdv s))) 30 8 (pAdv (pBody t n (kd t n s) (pAdv s)) 30 8 + 1)) := pt_adv.tr (pt_put (by omega) (by omega) (by omega))
  have fz : pS (pAdv (pBody t n (kd t n s) (pAdv s))) 30 8 (pAdv (pBody t n (kd t n s) (pAdv s)) 30 8 + 1) 30 1 = 0 := by
    simp only [pS]; rw [if_neg (by omega), pAdv_1]; exact fb
  exact ⟨by have := (b fz).2.1; omega, fun h => b.lt fz (key.2 (la h))⟩
end Qf
