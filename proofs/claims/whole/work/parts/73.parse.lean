/-! the pure reader: what is told so far is a canal; row 30 holds 0 token, 1 fault, 2 place, 3 jam told, 4 seed told, 5.. laws told, 8 lines, 9 brackets, 10 knots, 11 springs told -/
def pS (s : CA) (f j v : Nat) : CA := fun f' j' => if f' = f ∧ j' = j then v else s f' j'
def pFail (s : CA) (e pl : Nat) : CA := if s 30 1 = 0 then pS (pS s 30 1 e) 30 2 pl else s
def pAdv (s : CA) : CA := pS s 30 0 (s 30 0 + 1)
def pAdd (s : CA) (so v : Nat) : CA := if s 30 1 = 0 then pS (pS (pS s 19 (s 0 8) so) 20 (s 0 8) v) 0 8 (s 0 8 + 1) else s
def gNmG (s : CA) (v : Nat) : Nat → Nat → Option Nat
  | 0, _ => none
  | m + 1, p => if s 1 p = v then some p else gNmG s v m (p + 1)
/-- the pond of a name -/
def gNm (s : CA) (v : Nat) : Option Nat := gNmG s v (s 0 0) 0
section Pd
variable (t : Nat → Nat) (n : Nat)
def kd (s : CA) : Nat := tK t n (s 30 0)
def kv (s : CA) : Nat := tV t n (s 30 0)
def kp (s : CA) : Nat := tkP t n (s 30 0)
def pTake (s : CA) (K : Nat) : CA := if s 30 1 = 0 then (if kd t n s = K then pAdv s else pFail s 1 (kp t n s)) else s
def pNum (s : CA) (lo hi : Nat) : CA := if s 30 1 = 0 then (if kd t n s = 23 then (if kv t n s < lo ∨ hi < kv t n s then pFail s 2 (kp t n s) else pAdv s) else pFail s 1 (kp t n s)) else s
def pPond (s : CA) : CA := if s 30 1 = 0 then (if kd t n s = 22 then (if gNm s (kv t n s) = none then pFail s 4 (kp t n s) else pAdv s) else pFail s 1 (kp t n s)) else s
def pKnot (s : CA) : CA := if s 30 1 = 0 then (if s 30 10 < 64 then pAdv (pS s 30 10 (s 30 10 + 1)) else pFail s 2 (kp t n s)) else s
end Pd
/-- what stands of the tokens -/
def TF (t : Nat → Nat) (n T : Nat) : Prop := n ≤ 700 ∧ T ≤ n ∧ tkP t n T = n ∧ ∀ k, k < T → tkP t n k < n
theorem TF.e {t : Nat → Nat} {n T k : Nat} (h : TF t n T) (hk : k ≤ T) (hn : tK t n k ≠ 37) : k < T := by
  rcases Nat.lt_or_ge k T with l | l
  · exact l
  · obtain rfl : k = T := by omega
    exact absurd (by unfold tK; rw [if_neg (by rw [h.2.2.1]; omega)]) hn
/-! the class while it reads, into canal b -/
def rdL (b : Nat) : List (Nat × Nat) := [(1, 0), (2, 0), (3, b), (4, b), (5, b), (16, b), (17, b), (18, b), (19, b), (20, b), (21, b), (22, b), (23, b), (24, b), (25, b), (26, b), (27, b), (28, b), (29, b), (30, b), (31, b), (32, b), (33, b)]
def CKT (σ : MS) (b : Nat) (s : CA) : Prop := CR σ b s ∧ KR σ b s ∧ TR σ b s ∧ σ.1 1 0 4 = nI (s 30 8) ∧ σ.1 1 0 5 = nI (s 30 11) ∧ σ.1 1 0 6 = nI (s 30 3) ∧ σ.1 1 0 7 = nI (s 30 4) ∧ σ.1 1 0 8 = nI (s 30 10) ∧ σ.1 1 0 9 = nI (s 30 9)
def SRd (t : Nat → Nat) (n T b : Nat) (σ : MS) (s : CA) : Prop :=
  (σ.2.2 1 0 = b ∧ b < 2 ∧ TKS σ t n (T + 1) ∧ σ.1 2 0 5 = nI (T + 1) ∧ σ.1 2 0 0 = 0) ∧
  (σ.1 1 0 2 = nI (s 30 1) ∧ s 30 1 ≤ 5 ∧ (s 30 1 ≠ 0 → σ.1 1 0 3 = nI (s 30 2)) ∧ (s 30 1 = 0 → σ.1 1 0 3 = -1)) ∧
  (∃ k, k ≤ T ∧ σ.1 2 0 6 = nI k ∧ (s 30 1 = 0 → k = s 30 0)) ∧
  (s 0 0 ≤ 7 ∧ σ.1 3 b 0 = nI (s 0 0)) ∧
  (∃ L, L ≤ 64 ∧ σ.1 5 b 0 = nI L) ∧
  (s 30 1 = 0 → CKT σ b s)
theorem CKT.keep {σ τ : MS} {b : Nat} {s s' : CA} (h : CKT σ b s) (hq : ∀ k : Nat, mj_ck k = true → ∀ j, τ.1 k b j = σ.1 k b j) (hs : ∀ f j, f < 30 → s' f j = s f j) (h4 : τ.1 1 0 4 = nI (s' 30 8)) (h5 : τ.1 1 0 5 = nI (s' 30 11)) (h6 : τ.1 1 0 6 = nI (s' 30 3)) (h7 : τ.1 1 0 7 = nI (s' 30 4)) (h8 : τ.1 1 0 8 = nI (s' 30 10)) (h9 : τ.1 1 0 9 = nI (s' 30 9)) : CKT τ b s' := by
  obtain ⟨C, K, T, _⟩ := h
  have hq' : ∀ k : Nat, mj_ck k = true → τ.1 k b = σ.1 k b := fun k hk => funext (hq k hk)
  have eL : ∀ f, cL s' f = cL s f := fun f => by
    unfold cL
    simp only [hs 0 _ (by omega)]
  refine ⟨fun f j hj => ?_, fun i hi => ?_, fun m hm => ?_, h4, h5, h6, h7, h8, h9⟩
  · rw [eL] at hj
    have hf : f < 30 := by
      rcases Nat.lt_or_ge f 30 with l | l
      · exact l
      · have : cL s f = 0 := by
          match f, l with
          | f + 30, _ => rfl
        omega
    rw [hs f j hf, ← C f j hj]
    unfold cCv
    rw [hq' 3 rfl, hq' 4 rfl, hq' 5 rfl, hq' 16 rfl, hq' 17 rfl, hq' 18 rfl, hq' 19 rfl, hq' 20 rfl, hq' 21 rfl, hq' 22 rfl, hq' 23 rfl, hq' 25 rfl, hq' 26 rfl, hq' 27 rfl, hq' 28 rfl, hq' 29 rfl, hq' 32 rfl, hq' 33 rfl]
  · rw [hs 0 8 (by omega)] at hi
    rw [hq' 30 rfl, hq' 31 rfl, hs 19 i (by omega), hs 20 i (by omega)]; exact K i hi
  · rw [hq' 24 rfl, hs 0 3 (by omega)]
    obtain ⟨w, h1, h2, h3⟩ := T m hm
    refine ⟨w, h1, h2, fun k => ?_⟩
    rw [h3 k]
    simp only [hs 12 _ (by omega : 12 < 30), hs 13 _ (by omega : 13 < 30), hs 14 _ (by omega : 14 < 30)]
section Pe
variable {d : Nat} {Q : Option MV → MS → Prop} {σ : MS} {t : Nat → Nat} {n T b : Nat} {s : CA}
theorem pF_row {e pl : Nat} (f j : Nat) (h : f < 30 ∨ j ≠ 1 ∧ j ≠ 2) : pFail s e pl f j = s f j := by
  unfold pFail
  split
  · simp only [pS]
    rw [if_neg (by omega), if_neg (by omega)]
  · rfl
theorem pF_0 {e pl : Nat} (h : s 30 1 = 0) : pFail s e pl 30 1 = e ∧ pFail s e pl 30 2 = pl := by
  unfold pFail
  rw [if_pos h]
  exact ⟨by simp [pS], by simp [pS]⟩
theorem SRd.tk (h : SRd t n T b σ s) (hf : s 30 1 = 0) : s 30 0 ≤ T ∧ σ.1 2 0 6 = nI (s 30 0) := by
  obtain ⟨k, h1, h2, h3⟩ := h.2.2.1
  rw [← h3 hf]; exact ⟨h1, h2⟩
theorem S_fail {e pl : Nat} (he : 1 ≤ e ∧ e ≤ 5) (h : SRd t n T b σ s) (H : ∀ τ : MS, SB (rdL b) σ τ → SRd t n T b τ (pFail s e pl) → Q none τ) : R mj_OC d mX7_fail Q 0 [some (rV 1 0), some (iV (nI e)), some (iV (nI pl))] [] σ := by
  obtain ⟨⟨a1, a2, a3, a4⟩, ⟨c1, c2, c3, c4⟩, g, i, l, m⟩ := h
  have z : σ.1 1 0 2 = 0 ↔ s 30 1 = 0 := by rw [c1, show (0 : Int32) = nI 0 from rfl, nI_inj (by omega) (by omega)]
  refine bX7_fail_0 ⟨fun y => ?_, fun y => ?_⟩
  · have y' : ¬ s 30 1 = 0 := fun q => y (z.mpr q)
    exact H σ SB.rf (by unfold pFail; rw [if_neg y']; exact ⟨⟨a1, a2, a3, a4⟩, ⟨c1, c2, c3, c4⟩, g, i, l, m⟩)
  · have y' := z.mp y
    have p0 := pF_0 (s := s) (e := e) (pl := pl) y'
    refine H _ ((SB.uI (by simp [rdL])).tr (SB.uI (by simp [rdL]))) ⟨⟨a1, a2, fun k hk => ?_, by simp [uI]; exact a4⟩, ⟨by rw [p0.1]; simp [uI], by rw [p0.1]; omega, fun _ => by rw [p0.2]; simp [uI], fun q => by rw [p0.1] at q; omega⟩, ?_, ?_, ?_, fun q => by rw [p0.1] at q; omega⟩
    · have := a3 k hk
      simp [uI]; exact this
    · obtain ⟨k, k1, k2, k3⟩ := g
      exact ⟨k, k1, by simp [uI]; exact k2, fun q => by rw [p0.1] at q; omega⟩
    · rw [pF_row 0 0 (Or.inl (by omega))]
      exact ⟨i.1, by simp [uI]; exact i.2⟩
    · obtain ⟨L, l1, l2⟩ := l
      exact ⟨L, l1, by simp [uI]; exact l2⟩
theorem SRd.z (h : SRd t n T b σ s) : σ.1 1 0 2 = 0 ↔ s 30 1 = 0 := by
  have := h.2.1.2.1
  rw [h.2.1.1, show (0 : Int32) = nI 0 from rfl, nI_inj (by omega) (by omega)]
/-- what the class sees at hand: in a fault it may be anything -/
theorem S_kind (hT : TF t n T) (h : SRd t n T b σ s) (H : ∀ v : Int32, (s 30 1 = 0 → v = nI (kd t n s)) → Q (some (iV v)) σ) : R mj_OC d mX9_kind Q 0 [some (rV 2 0)] [] σ := by
  obtain ⟨k, h1, h2, h3⟩ := h.2.2.1
  have := hT.1
  have := hT.2.1
  refine bX9_kind_0 ?_
  rw [h2, cl (show k < 701 by omega) (by omega)]
  refine ⟨vin (show k < 701 by omega) (by omega) (by decide), H _ (fun hf => ?_)⟩
  rw [h3 hf] at h1 ⊢
  exact (h.1.2.2.1 _ (by omega)).1
theorem S_place (hT : TF t n T) (h : SRd t n T b σ s) (H : ∀ v : Nat, (s 30 1 = 0 → v = kp t n s) → Q (some (iV (nI v))) σ) : R mj_OC d mX9_place Q 0 [some (rV 2 0)] [] σ := by
  obtain ⟨k, h1, h2, h3⟩ := h.2.2.1
  have := hT.1
  have := hT.2.1
  refine bX9_place_0 ?_
  rw [h2, cl (show k < 701 by omega) (by omega), (h.1.2.2.1 k (by omega)).2.1]
  refine ⟨vin (show k < 701 by omega) (by omega) (by decide), H _ (fun hf => ?_)⟩
  rw [h3 hf]; rfl
theorem S_value (hT : TF t n T) (h : SRd t n T b σ s) (H : ∀ v : Int32, (s 30 1 = 0 → v = nI (kv t n s)) → Q (some (iV v)) σ) : R mj_OC d mX9_value Q 0 [some (rV 2 0)] [] σ := by
  obtain ⟨k, h1, h2, h3⟩ := h.2.2.1
  have := hT.1
  have := hT.2.1
  refine bX9_value_0 ?_
  rw [h2, cl (show k < 701 by omega) (by omega)]
  refine ⟨vin (show k < 701 by omega) (by omega) (by decide), H _ (fun hf => ?_)⟩
  rw [h3 hf] at h1 ⊢
  exact (h.1.2.2.1 _ (by omega)).2.2
theorem S_tAdv (hT : TF t n T) (h : SRd t n T b σ s) (hf : s 30 1 = 0) (hk : kd t n s ≠ 37) (H : ∀ τ : MS, SB (rdL b) σ τ → SRd t n T b τ (pAdv s) → Q none τ) : R mj_OC d mX9_advance Q 0 [some (rV 2 0)] [] σ := by
  have tk := h.tk hf
  have lt := hT.e tk.1 hk
  have := hT.1
  have := hT.2.1
  have r : ∀ f j, ¬ (f = 30 ∧ j = 0) → pAdv s f j = s f j := fun f j hj => by simp only [pAdv, pS]; rw [if_neg hj]
  refine bX9_advance_0 ⟨fun z => ?_, fun _ => ?_⟩
  · rw [h.1.2.2.2.1, tk.2, nI_1, nI_le2 (by omega) (by omega)] at z; omega
  · obtain ⟨⟨a1, a2, a3, a4⟩, ⟨c1, c2, c3, c4⟩, g, i, l, m⟩ := h
    refine H _ (SB.uI (by simp [rdL])) ⟨⟨a1, a2, fun k hk => ?_, by simp [uI]; exact a4⟩, ⟨?_, ?_, fun q => ?_, fun q => ?_⟩, ⟨s 30 0 + 1, by omega, by simp [uI]; rw [tk.2, nI_1], fun _ => by simp [pAdv, pS]⟩, ?_, ?_, fun q => ?_⟩
    · have := a3 k hk
      simp [uI]; exact this
    · rw [r 30 1 (by omega)]; simp [uI]; exact c1
    · rw [r 30 1 (by omega)]; exact c2
    · rw [r 30 1 (by omega)] at q; exact absurd hf q
    · simp [uI]; exact c4 hf
    · rw [r 0 0 (by omega)]
      exact ⟨i.1, by simp [uI]; exact i.2⟩
    · obtain ⟨L, l1, l2⟩ := l
      exact ⟨L, l1, by simp [uI]; exact l2⟩
    · have M := m hf
      refine M.keep (fun k hk j => ?_) (fun f j hj => r f j (by omega)) ?_ ?_ ?_ ?_ ?_ ?_
      · have : k ≠ 2 := fun e => by subst e; exact absurd hk (by decide)
        simp [uI, this]
      all_goals rw [r 30 _ (by omega)]; simp [uI]
      · exact M.2.2.2.1
      · exact M.2.2.2.2.1
      · exact M.2.2.2.2.2.1
      · exact M.2.2.2.2.2.2.1
      · exact M.2.2.2.2.2.2.2.1
      · exact M.2.2.2.2.2.2.2.2
theorem S_take {K : Nat} (hT : TF t n T) (hK : K < 37) (h : SRd t n T b σ s) (H : ∀ τ : MS, SB (rdL b) σ τ → SRd t n T b τ (pTake t n s K) → Q none τ) : R mj_OC (d + 1) mX7_take Q 0 [some (rV 1 0), some (iV (nI K))] [] σ := by
  have z := h.z
  refine bX7_take_0 ⟨fun y => ?_, fun y => ?_⟩
  · have hf := z.mp y
    have bk := tK_le (t := t) (n := n) (s 30 0)
    refine S_kind hT h (fun v hv => ?_)
    rw [hv hf]
    have ee : nI (kd t n s) = nI K ↔ kd t n s = K := nI_inj (by unfold kd; omega) (by omega)
    refine bX7_take_15 ⟨fun q => ?_, fun q => ?_⟩
    · rw [ee] at q
      refine S_tAdv hT h hf (by omega) (fun τ h1 h2 => bX7_take_39 (H τ h1 ?_))
      unfold pTake; rw [if_pos hf, if_pos q]; exact h2
    · rw [ee] at q
      refine S_place hT h (fun v hv => bX7_take_28 ?_)
      rw [hv hf]
      refine S_fail (e := 1) (by omega) h (fun τ h1 h2 => bX7_take_31 (H τ h1 ?_))
      unfold pTake; rw [if_pos hf, if_neg q]; exact h2
  · have hf : ¬ s 30 1 = 0 := fun q => y (z.mpr q)
    refine H σ SB.rf ?_
    unfold pTake; rw [if_neg hf]; exact h
theorem pT_f {K : Nat} (h : ¬ s 30 1 = 0) : pTake t n s K = s := by unfold pTake; rw [if_neg h]
theorem pN_f {lo hi : Nat} (h : ¬ s 30 1 = 0) : pNum t n s lo hi = s := by unfold pNum; rw [if_neg h]
theorem pFail_f {e pl : Nat} (h : ¬ s 30 1 = 0) : pFail s e pl = s := by unfold pFail; rw [if_neg h]
theorem pAdv_1 : pAdv s 30 1 = s 30 1 := by simp [pAdv, pS]
theorem S_number {lo hi : Nat} (hT : TF t n T) (hlo : lo ≤ hi) (hh : hi ≤ 99999) (h : SRd t n T b σ s) (H : ∀ (τ : MS) (v : Int32), SB (rdL b) σ τ → SRd t n T b τ (pNum t n s lo hi) → ((pNum t n s lo hi) 30 1 = 0 → v = nI (kv t n s) ∧ lo ≤ kv t n s ∧ kv t n s ≤ hi) → Q (some (iV v)) τ) : R mj_OC (d + 1 + 1) mX7_number Q 0 [some (rV 1 0), some (iV (nI lo)), some (iV (nI hi)), none, none] [] σ := by
  refine bX7_number_0 (S_place hT h (fun pl hpl => bX7_number_7 (S_value hT h (fun v hv => bX7_number_15 (S_take (K := 23) hT (by omega) h (fun τ h1 h2 => ?_))))))
  have fin : ∀ υ : MS, SB (rdL b) σ υ → SRd t n T b υ (pNum t n s lo hi) → (s 30 1 = 0 → (pNum t n s lo hi) 30 1 = 0 → lo ≤ kv t n s ∧ kv t n s ≤ hi) → (¬ υ.1 1 0 2 = 0 → Q (some (iV 0)) υ) ∧ (υ.1 1 0 2 = 0 → Q (some (iV v)) υ) := fun υ u1 u2 u3 => by
    refine ⟨fun y => H υ _ u1 u2 (fun q => absurd (u2.z.mpr q) y), fun y => H υ _ u1 u2 (fun q => ?_)⟩
    by_cases hf : s 30 1 = 0
    · exact ⟨hv hf, u3 hf q⟩
    · rw [pN_f hf] at q; exact absurd q hf
  by_cases hf : s 30 1 = 0
  · rw [hv hf] at fin ⊢
    rw [hpl hf]
    by_cases k23 : kd t n s = 23
    · have vb : kv t n s ≤ 1000000 := by
        have e : kd t n s = tK t n (s 30 0) := rfl
        unfold kv tV
        split
        · rename_i lt
          unfold tkV
          split
          · exfalso
            rename_i gl
            rw [e, show tK t n (s 30 0) = tkK t n (tkP t n (s 30 0)) from if_pos lt, tkK, if_pos gl] at k23
            have := kw_le (pkN t (tkP t n (s 30 0)) (rn isL t n (tkP t n (s 30 0)) - tkP t n (s 30 0)))
            split at k23 <;> omega
          · split
            · exact nbC_le _
            · omega
        · omega
      have eT : pTake t n s 23 = pAdv s := by unfold pTake; rw [if_pos hf, if_pos k23]
      rw [eT] at h2
      have c1 : nI (kv t n s) < nI lo ↔ kv t n s < lo := nI_ltI (by omega) (by omega)
      have c2 : nI (kv t n s) ≤ nI hi ↔ kv t n s ≤ hi := nI_leI (by omega) (by omega)
      have bad : kv t n s < lo ∨ hi < kv t n s → R mj_OC (d + 1) mX7_fail (fun r σ' => R mj_OC (d + 1 + 1) mX7_number Q 41 [some (rV 1 0), some (iV (nI lo)), some (iV (nI hi)), some (iV (nI (kp t n s))), some (iV (nI (kv t n s)))] (r.toList ++ []) σ') 0 [some (rV 1 0), some (iV (2 : Int32)), some (iV (nI (kp t n s)))] [] τ := fun g => by
        refine S_fail (e := 2) (by omega) h2 (fun υ u1 u2 => bX7_number_41 (fin υ (h1.tr u1) ?_ (fun _ q => ?_)))
        · have hf2 : pAdv s 30 1 = 0 := by rw [pAdv_1]; exact hf
          have p0 := pF_0 (s := pAdv s) (e := 2) (pl := kp t n s) hf2
          have p1 := pF_0 (s := s) (e := 2) (pl := kp t n s) hf
          have eN : pNum t n s lo hi = pFail s 2 (kp t n s) := by unfold pNum; rw [if_pos hf, if_pos k23, if_pos g]
          rw [eN]
          obtain ⟨a, ⟨c1, c2, c3, c4⟩, ⟨k, k1, k2, k3⟩, i, l, m⟩ := u2
          rw [p0.1] at c1 c3 c4
          rw [p0.2] at c3
          refine ⟨a, ⟨by rw [p1.1]; exact c1, by rw [p1.1]; omega, fun _ => by rw [p1.2]; exact c3 (by omega), fun q => by rw [p1.1] at q; omega⟩, ⟨k, k1, k2, fun q => by rw [p1.1] at q; omega⟩, ?_, l, fun q => by rw [p1.1] at q; omega⟩
          rw [pF_row 0 0 (Or.inl (by omega))] at i ⊢
          exact i
        · exfalso
          have p1 := pF_0 (s := s) (e := 2) (pl := kp t n s) hf
          unfold pNum at q
          rw [if_pos hf, if_pos k23, if_pos g, p1.1] at q
          omega
      refine bX7_number_23 ⟨fun y => bad (Or.inl (c1.mp y)), fun y => ⟨fun y2 => ?_, fun y2 => bad (Or.inr ?_)⟩⟩
      · rw [c1] at y
        rw [c2] at y2
        have eN : pNum t n s lo hi = pAdv s := by unfold pNum; rw [if_pos hf, if_pos k23, if_neg (by omega)]
        exact fin τ h1 (by rw [eN]; exact h2) (fun _ _ => ⟨by omega, y2⟩)
      · rw [c2] at y2; omega
    · have eT : pTake t n s 23 = pFail s 1 (kp t n s) := by unfold pTake; rw [if_pos hf, if_neg k23]
      have eN : pNum t n s lo hi = pFail s 1 (kp t n s) := by unfold pNum; rw [if_pos hf, if_neg k23]
      have p1 := pF_0 (s := s) (e := 1) (pl := kp t n s) hf
      have nf : ¬ pFail s 1 (kp t n s) 30 1 = 0 := by rw [p1.1]; omega
      rw [eT] at h2
      have go : R mj_OC (d + 1) mX7_fail (fun r σ' => R mj_OC (d + 1 + 1) mX7_number Q 41 [some (rV 1 0), some (iV (nI lo)), some (iV (nI hi)), some (iV (nI (kp t n s))), some (iV (nI (kv t n s)))] (r.toList ++ []) σ') 0 [some (rV 1 0), some (iV (2 : Int32)), some (iV (nI (kp t n s)))] [] τ := by
        refine S_fail (e := 2) (by omega) h2 (fun υ u1 u2 => bX7_number_41 (fin υ (h1.tr u1) ?_ (fun _ q => ?_)))
        · rw [pFail_f nf] at u2; rw [eN]; exact u2
        · rw [eN] at q; exact absurd q nf
      refine bX7_number_23 ⟨fun _ => go, fun _ => ⟨fun _ => fin τ h1 (by rw [eN]; exact h2) (fun _ q => by rw [eN] at q; exact absurd q nf), fun _ => go⟩⟩
  · rw [pT_f hf] at h2
    have go : R mj_OC (d + 1) mX7_fail (fun r σ' => R mj_OC (d + 1 + 1) mX7_number Q 41 [some (rV 1 0), some (iV (nI lo)), some (iV (nI hi)), some (iV (nI pl)), some (iV v)] (r.toList ++ []) σ') 0 [some (rV 1 0), some (iV (2 : Int32)), some (iV (nI pl))] [] τ := by
      refine S_fail (e := 2) (by omega) h2 (fun υ u1 u2 => bX7_number_41 (fin υ (h1.tr u1) ?_ (fun q => absurd q hf)))
      rw [pFail_f hf] at u2; rw [pN_f hf]; exact u2
    exact bX7_number_23 ⟨fun _ => go, fun _ => ⟨fun _ => fin τ h1 (by rw [pN_f hf]; exact h2) (fun q => absurd q hf), fun _ => go⟩⟩
end Pe
