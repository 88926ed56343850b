/-! the class reads a text -/
theorem nI_any (x : Int32) : ∃ v, x = nI v := ⟨x.toBitVec.toNat, Int32.toBitVec_inj.mp (by show x.toBitVec = BitVec.ofNat 32 x.toBitVec.toNat; simp)⟩
theorem cL_30 {c : CA} {f j : Nat} (h : j < cL c f) : f < 30 := by
  rcases Nat.lt_or_ge f 30 with l | l
  · exact l
  · have : cL c f = 0 := by
      match f, l with
      | f + 30, _ => rfl
    omega
theorem E9.sy {s u : CA} (h : E9 s u) : E9 u s := fun f j hj => (h f j hj).symm
section Qg
variable {σ : MS} {b : Nat} {s u : CA}
theorem CR.e9 (h : CR σ b u) (e : E9 s u) : CR σ b s := fun f j hj => by
  have eL : cL u f = cL s f := by unfold cL; simp only [e9_0 e]
  have := cL_30 hj
  rw [← e f j (by omega)]
  exact h f j (by rw [eL]; exact hj)
theorem KR.e9 (h : KR σ b u) (e : E9 s u) : KR σ b s := fun i hi => by
  have := h i (by rw [e9_0 e]; exact hi)
  rw [e 19 i (by omega), e 20 i (by omega)] at this
  exact this
theorem TR.e9 (h : TR σ b u) (e : E9 s u) : TR σ b s := fun m hm => by
  have e12 : u 12 = s 12 := funext fun j => e 12 j (by omega)
  have e13 : u 13 = s 13 := funext fun j => e 13 j (by omega)
  have e14 : u 14 = s 14 := funext fun j => e 14 j (by omega)
  obtain ⟨w, h1, h2, h3⟩ := h m hm
  refine ⟨w, h1, h2, fun k => ?_⟩
  rw [h3 k]
  simp only [e12, e13, e14, e9_0 e]
end Qg
theorem CV.z : CV pZ := ⟨⟨Nat.zero_le _, Nat.zero_le _, Nat.zero_le _, Nat.zero_le _, Nat.zero_le _, Nat.zero_le _, Nat.zero_le _, Nat.zero_le _⟩, fun p hp => absurd hp (Nat.not_lt_zero _), fun p hp => absurd hp (Nat.not_lt_zero _), fun p hp => absurd hp (Nat.not_lt_zero _), fun p hp => absurd hp (Nat.not_lt_zero _), fun p hp => absurd hp (Nat.not_lt_zero _), fun _ _ => ⟨Nat.le_refl _, Nat.le_refl _, fun h => absurd h (Nat.lt_irrefl _)⟩, fun p hp => absurd hp (Nat.not_lt_zero _)⟩
theorem LI.z {v : Nat} : LI (pS pZ 30 9 v) := by
  refine ⟨CV.z.r (fun f hf => funext fun j => by simp only [pS]; rw [if_neg (by omega)]), fun _ => ⟨?_, ?_⟩, ?_, ?_, ?_⟩ <;> simp [pS, pZ]
theorem LI.z0 : LI pZ := ⟨CV.z, fun _ => ⟨Nat.zero_le _, Nat.zero_le _⟩, Nat.two_pow_pos _, Nat.zero_le _, Nat.zero_le _⟩
theorem LI_read {t : Nat → Nat} {n T : Nat} (hT : TF t n T) : ∀ (m : Nat) (s : CA), (s 30 1 = 0 → LI s) → (pRead t n m s) 30 1 = 0 → LI (pRead t n m s) := by
  intro m
  induction m with
  | zero => intro s h hf; exact h hf
  | succ m ih =>
    intro s h hf
    rw [pRead] at hf ⊢
    by_cases f0 : s 30 1 = 0
    · rw [if_pos f0] at hf ⊢
      by_cases k : kd t n s = 37
      · rw [if_pos k] at hf ⊢; exact h hf
      · rw [if_neg k] at hf ⊢
        exact ih _ (fun q => LI_line hT s f0 (h f0) q) hf
    · rw [if_neg f0] at hf; exact absurd hf f0
def txL (b : Nat) : List (Nat × Nat) := (13, 0) :: (14, 0) :: (15, 0) :: rdL b
def RDN (τ : MS) (b : Nat) (s : CA) : Prop := τ.1 2 0 0 = 0 ∧ τ.1 1 0 2 = nI (s 30 1) ∧ s 30 1 ≤ 5 ∧ (¬ s 30 1 = 0 → τ.1 1 0 3 = nI (s 30 2)) ∧ (s 30 1 = 0 → τ.1 1 0 3 = -1 ∧ CB τ b s ∧ τ.1 1 0 4 = nI (s 30 8))
section Qh
variable {Q : Option MV → MS → Prop} {σ : MS} {t : Nat → Nat} {n b : Nat}
theorem S_read {h D : Nat} (hb : b < 2) (hc : σ.2.2 1 0 = b) (hn : n ≤ h) (hh : h ≤ 700) (hB : TB σ t n) (h0 : σ.1 2 0 0 = nI h) (hD : 181 ≤ D) (H : ∀ τ : MS, SB (txL b) σ τ → RDN τ b (pRead t n 700 pZ) → Q none τ) : R mj_OC (D + 1 + 1) mX7_read Q 0 [some (rV 1 0), some (iV (nI n)), none] [] σ := by
  obtain ⟨D, rfl⟩ : ∃ D', D = D' + 1 + 1 + 1 + 1 + 1 := ⟨D - 5, by omega⟩
  refine bX7_read_0 ⟨by rw [hc]; exact hb, ?_⟩
  rw [hc]
  refine S_clear hb (fun τ t1 C K Tt => bX7_read_42 ?_)
  have e1 : ∀ k i, (k, i) ∉ clrL b → ¬ (k = 1 ∧ i = 0) → ∀ j, τ.1 k i j = σ.1 k i j := fun k i h1 h2 j => by
    rw [t1.i h1]
    simp only [uI]
    rw [if_neg (by omega), if_neg (by omega), if_neg (by omega), if_neg (by omega), if_neg (by omega), if_neg (by omega), if_neg (by omega)]
  have ec : τ.2.2 = σ.2.2 := t1.2
  refine S_open hn hh (fun i hi => by rw [e1 12 0 (by simp [clrL]) (by omega)]; exact hB i hi) (by rw [e1 2 0 (by simp [clrL]) (by omega)]; exact h0) (fun υ T u1 u2 => bX7_read_50 ?_)
  obtain ⟨o1, o2, o3, o4, o5, o6, o7⟩ := u2
  have hT : TF t n T := ⟨by omega, o1, o2, o3⟩
  obtain ⟨v, hv⟩ := nI_any (σ.1 1 0 9)
  have c1 : ∀ j, υ.1 1 0 j = (uI (uI (uI (uI (uI (uI (uI σ 1 0 2 (0 : Int32)) 1 0 3 (-1 : Int32)) 1 0 4 (0 : Int32)) 1 0 5 (0 : Int32)) 1 0 6 (0 : Int32)) 1 0 7 (0 : Int32)) 1 0 8 (0 : Int32)).1 1 0 j := fun j => by
    rw [u1.i (by simp [tkL]), t1.i (by simp [clrL])]
  obtain ⟨_, C', K', T', _⟩ := (show CB τ b pZ from ⟨hb, C, K, Tt, CV.z⟩).keep u1 (by decide)
  have e : E9 pZ (pS pZ 30 9 v) := fun f j hj => by simp only [pS]; rw [if_neg hj]
  have z : ∀ f j, ¬ (f = 30 ∧ j = 9) → pS pZ 30 9 v f j = 0 := fun f j hj => e f j hj
  have f1 : SB (txL b) σ υ := by
    have a : SB (txL b) σ (uI (uI (uI (uI (uI (uI (uI σ 1 0 2 (0 : Int32)) 1 0 3 (-1 : Int32)) 1 0 4 (0 : Int32)) 1 0 5 (0 : Int32)) 1 0 6 (0 : Int32)) 1 0 7 (0 : Int32)) 1 0 8 (0 : Int32)) := ((((((SB.uI (by simp [txL, rdL])).tr (SB.uI (by simp [txL, rdL]))).tr (SB.uI (by simp [txL, rdL]))).tr (SB.uI (by simp [txL, rdL]))).tr (SB.uI (by simp [txL, rdL]))).tr (SB.uI (by simp [txL, rdL]))).tr (SB.uI (by simp [txL, rdL]))
    refine (a.tr (t1.wk (fun x hx => ?_))).tr (u1.wk (fun x hx => ?_))
    · simp only [clrL, List.mem_cons, List.not_mem_nil, or_false] at hx
      rcases hx with rfl | rfl | rfl | rfl | rfl | rfl <;> simp [txL, rdL]
    · simp only [tkL, List.mem_cons, List.not_mem_nil, or_false] at hx
      rcases hx with rfl | rfl | rfl | rfl <;> simp [txL, rdL]
  have hS : SRd t n T b υ (pS pZ 30 9 v) := by
    refine ⟨⟨by rw [u1.2, ec]; exact hc, hb, o4, o5, o7⟩, ⟨?_, ?_, fun q => ?_, fun _ => ?_⟩, ⟨0, Nat.zero_le _, by rw [o6]; rfl, fun _ => (z 30 0 (by omega)).symm⟩, ⟨by rw [z 0 0 (by omega)]; omega, by rw [z 0 0 (by omega)]; exact C'.np⟩, ⟨0, by omega, C'.no⟩, fun _ => ⟨C'.e9 e.sy, K'.e9 e.sy, T'.e9 e.sy, ?_, ?_, ?_, ?_, ?_, ?_⟩⟩
    · rw [c1, z 30 1 (by omega)]; simp [uI]; rfl
    · rw [z 30 1 (by omega)]; omega
    · rw [z 30 1 (by omega)] at q; exact absurd rfl q
    · rw [c1]; simp [uI]
    · rw [c1, z 30 8 (by omega)]; simp [uI]; rfl
    · rw [c1, z 30 11 (by omega)]; simp [uI]; rfl
    · rw [c1, z 30 3 (by omega)]; simp [uI]; rfl
    · rw [c1, z 30 4 (by omega)]; simp [uI]; rfl
    · rw [c1, z 30 10 (by omega)]; simp [uI]; rfl
    · rw [c1, show pS pZ 30 9 v 30 9 = v by simp [pS]]; simp [uI]; exact hv
  refine S_readLoop hT hD (fun s a b c => LI_line hT s a b c) 700 0 _ υ rfl hS (fun _ => LI.z) (fun φ g1 g2 => H φ (f1.tr (g1.wk (fun x hx => List.mem_cons_of_mem _ (List.mem_cons_of_mem _ (List.mem_cons_of_mem _ hx))))) ?_)
  have E := e9_read (t := t) (n := n) 700 _ _ e
  obtain ⟨⟨_, _, _, _, a5⟩, ⟨q1, q2, q3, q4⟩, _, _, _, m⟩ := g2
  rw [e9_1 E] at q1 q2 q3 q4 m
  rw [E 30 2 (by omega)] at q3
  refine ⟨a5, q1, q2, q3, fun hf => ⟨q4 hf, ?_, ?_⟩⟩
  · obtain ⟨m1, m2, m3, _⟩ := m hf
    exact ⟨hb, m1.e9 E, m2.e9 E, m3.e9 E, (LI_read hT 700 pZ (fun _ => LI.z0) hf).1⟩
  · rw [(m hf).2.2.2.1, E 30 8 (by omega)]
end Qh
