/-! a text: what is answered, and the world behind it; the class's -/
def wF (w : WT) (f p : Int32) : WT := (w.1, w.2.1, w.2.2.1, w.2.2.2.1, w.2.2.2.2.1, (f, p), (0, wtp w))
def wNew (w : WT) (s : CA) : WT := (s, gBegin s, (false, wi w), (0, wh w), pZ, (0, -1), (0, wtp w))
def uText (w : WT) (x : Int32) : Int32 × WT :=
  if x < 0 ∨ ¬ x ≤ nI (wtn w) then (-2, w)
  else if (pRead (wtp w) x.toNatClampNeg 700 pZ) 30 1 = 0 then (nI ((pRead (wtp w) x.toNatClampNeg 700 pZ) 30 8), wNew w (pRead (wtp w) x.toNatClampNeg 700 pZ))
  else (-1, wF w (nI ((pRead (wtp w) x.toNatClampNeg 700 pZ) 30 1)) (nI ((pRead (wtp w) x.toNatClampNeg 700 pZ) 30 2)))
theorem TF.ex {t : Nat → Nat} {n : Nat} (hn : n ≤ 700) : ∃ T, TF t n T := by
  have key : ∀ m, (∃ T, T ≤ m ∧ tkP t n T = n ∧ ∀ k, k < T → tkP t n k < n) ∨ ∀ k, k ≤ m → tkP t n k < n := by
    intro m
    induction m with
    | zero =>
      by_cases g : tkP t n 0 = n
      · exact Or.inl ⟨0, Nat.le_refl _, g, fun k hk => absurd hk (Nat.not_lt_zero _)⟩
      · refine Or.inr (fun k hk => ?_)
        obtain rfl : k = 0 := by omega
        have := (tkP_p (t := t) (n := n) 0).2
        omega
    | succ m ih =>
      rcases ih with ⟨T, h1, h2, h3⟩ | h
      · exact Or.inl ⟨T, by omega, h2, h3⟩
      · by_cases g : tkP t n (m + 1) = n
        · exact Or.inl ⟨m + 1, Nat.le_refl _, g, fun k hk => h k (by omega)⟩
        · refine Or.inr (fun k hk => ?_)
          by_cases e : k = m + 1
          · subst e
            have := (tkP_p (t := t) (n := n) (m + 1)).2
            omega
          · exact h k (by omega)
  rcases key n with ⟨T, h1, h2, h3⟩ | h
  · exact ⟨T, hn, h1, h2, h3⟩
  · have a := h n (Nat.le_refl _)
    have b := tkP_ge (t := t) (n := n) n
    omega
section Qi
variable {Q : Option MV → MS → Prop} {σ : MS} {w : WT} {x : Int32}
theorem gBegin_ok {c : CA} (V : CV c) : OKs c (gBegin c) := ⟨⟨by show (0 : Int32) = nI ((0 : Int32).toNatClampNeg); decide, by show (0 : Int32).toNatClampNeg ≤ 100000; decide⟩, by show (0 : Int32).toNatClampNeg ≤ 9800; decide, gBegin_si V, fun q _ h => absurd h (by show ¬ (0 : Int32) = 1; decide), fun k h => absurd h (by show ¬ bt 0 k = true; rw [bt_0]; decide)⟩
theorem uText_wi (h : WI w) : WI (uText w x).2 := by
  unfold uText
  split
  · exact h
  · rename_i g
    obtain ⟨V, o, im, hn, hh, hf, ht, hb⟩ := h
    have x0 : ¬ x < 0 := fun z => g (Or.inl z)
    have x1 : x ≤ nI (wtn w) := Decidable.not_not.mp (fun z => g (Or.inr z))
    obtain ⟨n, hn2, rfl⟩ := nI_of2 (M := nI (wtn w)) (n := wtn w) (by rw [nI_toInt (by omega)]) x0 x1
    rw [nI_clamp (by omega)]
    split
    · rename_i f0
      obtain ⟨T, hT⟩ := TF.ex (t := wtp w) (n := n) (by omega)
      have L := LI_read hT 700 pZ (fun _ => LI.z0) f0
      exact ⟨L.1, gBegin_ok L.1, fun k => absurd k (by show ¬ false = true; decide), Nat.zero_le _, fun i hi => absurd (show i < 0 from hi) (Nat.not_lt_zero _), ⟨Nat.zero_le _, Nat.zero_le _, fun i hi => absurd (show i < 0 from hi) (Nat.not_lt_zero _)⟩, Nat.zero_le _, fun i hi => absurd (show i < 0 from hi) (Nat.not_lt_zero _)⟩
    · exact ⟨V, o, im, hn, hh, hf, Nat.zero_le _, fun i hi => absurd (show i < 0 from hi) (Nat.not_lt_zero _)⟩
theorem C_text {D : Nat} (hD : 181 ≤ D) (hw : CW σ w) (hi : WI w) (H : ∀ τ, CW τ (uText w x).2 → Q (some (iV (uText w x).1)) τ) : R mj_OC (D + 1 + 1 + 1) mX10_text Q 0 [some (rV 0 0), some (iV x), none] [] σ := by
  obtain ⟨b, hk, h2, h3, h4, h5, h6, h7, h8, h9⟩ := id hw
  obtain ⟨_, _, _, _, _, _, ht, hB⟩ := id hi
  have b01 : b = 0 ∨ b = 1 := by have := hk.lt; omega
  refine bX10_text_0 ⟨fun z => ?_, fun z0 => ⟨fun z1 => ?_, fun z => ?_⟩⟩
  · have e : uText w x = (-2, w) := by unfold uText; rw [if_pos (Or.inl z)]
    rw [e] at H; exact H σ hw
  · rw [h8] at z1
    obtain ⟨n, hn, rfl⟩ := nI_of2 (M := nI (wtn w)) (n := wtn w) (by rw [nI_toInt (by omega)]) z0 z1
    have eu : uText w (nI n) = if (pRead (wtp w) n 700 pZ) 30 1 = 0 then (nI ((pRead (wtp w) n 700 pZ) 30 8), wNew w (pRead (wtp w) n 700 pZ)) else (-1, wF w (nI ((pRead (wtp w) n 700 pZ) 30 1)) (nI ((pRead (wtp w) n 700 pZ) 30 2))) := by
      unfold uText
      rw [if_neg (fun g => g.elim z0 (fun g => g z1)), nI_clamp (by omega)]
    rw [eu] at H
    refine S_read (h := wtn w) (t := wtp w) (b := 1 - b) (by omega) h2 hn ht (fun i hi' => ⟨h9 i (by omega), hB i (by omega)⟩) h8 hD (fun τ t1 r => ?_)
    generalize pRead (wtp w) n 700 pZ = s at *
    obtain ⟨r1, r2, r3, r4, r5⟩ := r
    have tx := t1.x
    have z0 : τ.1 1 0 2 = 0 ↔ s 30 1 = 0 := by rw [r2, show (0 : Int32) = nI 0 from rfl, nI_inj (by omega) (by omega)]
    have e00 : τ.2.2 0 0 = b := by rw [t1.2]; exact hk.1
    have e10 : τ.2.2 1 0 = 1 - b := by rw [t1.2]; exact h2
    refine bX10_text_29 ⟨fun z => ?_, fun z => ?_⟩
    · have hf := z0.mp z
      rw [if_pos hf] at H
      obtain ⟨q3, qB, q8⟩ := r5 hf
      rw [e00, e10, r2, q3, hf]
      have s4 : SX [(0, 0), (1, 0)] τ (uC (uC (uI (uI τ 0 0 11 (nI 0)) 0 0 12 (-1)) 1 0 b) 0 0 (1 - b)) := (((SX.uI (by simp)).tr (SX.uI (by simp))).tr (SX.uC (by simp))).tr (SX.uC (by simp))
      have c4 : (uC (uC (uI (uI τ 0 0 11 (nI 0)) 0 0 12 (-1)) 1 0 b) 0 0 (1 - b)).2.2 1 0 = b ∧ (uC (uC (uI (uI τ 0 0 11 (nI 0)) 0 0 12 (-1)) 1 0 b) 0 0 (1 - b)).2.2 0 0 = 1 - b := by simp [uC]
      have d4 : (uC (uC (uI (uI τ 0 0 11 (nI 0)) 0 0 12 (-1)) 1 0 b) 0 0 (1 - b)).1 0 0 11 = 0 ∧ (uC (uC (uI (uI τ 0 0 11 (nI 0)) 0 0 12 (-1)) 1 0 b) 0 0 (1 - b)).1 0 0 12 = -1 ∧ (uC (uC (uI (uI τ 0 0 11 (nI 0)) 0 0 12 (-1)) 1 0 b) 0 0 (1 - b)).1 1 0 4 = τ.1 1 0 4 := by simp [uC, uI]; rfl
      rw [c4.2]
      generalize uC (uC (uI (uI τ 0 0 11 (nI 0)) 0 0 12 (-1)) 1 0 b) 0 0 (1 - b) = φ at *
      have qB4 : CB φ (1 - b) s := qB.keepX s4 (by rcases b01 with rfl | rfl <;> decide)
      refine S_begin (o := 0) (by decide) qB4 (fun υ v1 v2 => bX10_text_95 (by omega) (bX1_clear_0 (bX10_text_107 (by omega) (bX2_clear_0 (bX10_text_114 (by omega) ?_)))))
      have s5 : SB [(0, 0), (9, 0), (10, 0)] υ (uI (uI (uI (uI υ 0 0 10 0) 9 0 0 0) 9 0 1 (-1)) 10 0 0 0) := (((SB.uI (by simp)).tr (SB.uI (by simp))).tr (SB.uI (by simp))).tr (SB.uI (by simp))
      have d5 : (uI (uI (uI (uI υ 0 0 10 0) 9 0 0 0) 9 0 1 (-1)) 10 0 0 0).1 0 0 10 = 0 ∧ (uI (uI (uI (uI υ 0 0 10 0) 9 0 0 0) 9 0 1 (-1)) 10 0 0 0).1 0 0 11 = υ.1 0 0 11 ∧ (uI (uI (uI (uI υ 0 0 10 0) 9 0 0 0) 9 0 1 (-1)) 10 0 0 0).1 0 0 12 = υ.1 0 0 12 ∧ (uI (uI (uI (uI υ 0 0 10 0) 9 0 0 0) 9 0 1 (-1)) 10 0 0 0).1 9 0 0 = 0 ∧ (uI (uI (uI (uI υ 0 0 10 0) 9 0 0 0) 9 0 1 (-1)) 10 0 0 0).1 9 0 1 = -1 ∧ (uI (uI (uI (uI υ 0 0 10 0) 9 0 0 0) 9 0 1 (-1)) 10 0 0 0).1 10 0 0 = 0 ∧ (uI (uI (uI (uI υ 0 0 10 0) 9 0 0 0) 9 0 1 (-1)) 10 0 0 0).1 10 0 1 = υ.1 10 0 1 := by simp [uI]
      generalize uI (uI (uI (uI υ 0 0 10 0) 9 0 0 0) 9 0 1 (-1)) 10 0 0 0 = ω at *
      have eo : ∀ k j, (k, 0) ∉ oL 0 → (k, 0) ∉ [(0, 0), (9, 0), (10, 0)] → ω.1 k 0 j = φ.1 k 0 j := fun k j h1 h2 => by rw [s5.i h2, (v1 k 0 h1).1]
      obtain ⟨nx, x1, _, x3, _⟩ := h5
      rw [eo 1 4 (by decide) (by decide), d4.2.2, q8]
      refine H ω ⟨1 - b, ⟨?_, v2.keep s5 (by decide) (by decide)⟩, ?_, d5.1, fun k => absurd k (by show ¬ false = true; decide), ⟨nx, x1, d5.2.2.2.2.2.1, ?_, fun i hi => absurd (show i < 0 from hi) (Nat.not_lt_zero _)⟩, ⟨d5.2.2.2.1, d5.2.2.2.2.1, fun i hi => absurd (show i < 0 from hi) (Nat.not_lt_zero _)⟩, ⟨?_, ?_⟩, ?_, fun i hi => absurd (show i < 0 from hi) (Nat.not_lt_zero _)⟩
      · rw [s5.2, (v1 0 0 (by decide)).2.2]; exact c4.2
      · rw [s5.2, (v1 1 0 (by decide)).2.2, c4.1]; omega
      · rw [d5.2.2.2.2.2.2, (v1 10 0 (by decide)).1, (s4 10 0 (by decide)).1, t1.i (by simp [txL, rdL])]; exact x3
      · rw [d5.2.1, (v1 0 0 (by decide)).1]; exact d4.1
      · rw [d5.2.2.1, (v1 0 0 (by decide)).1]; exact d4.2.1
      · rw [eo 2 0 (by decide) (by decide), (s4 2 0 (by decide)).1]; exact r1
    · have hf : ¬ s 30 1 = 0 := fun q => z (z0.mpr q)
      rw [if_neg hf] at H
      rw [r2, r4 hf]
      have s4 : SB [(0, 0)] τ (uI (uI τ 0 0 11 (nI (s 30 1))) 0 0 12 (nI (s 30 2))) := (SB.uI (by simp)).tr (SB.uI (by simp))
      have d4 : (uI (uI τ 0 0 11 (nI (s 30 1))) 0 0 12 (nI (s 30 2))).1 0 0 11 = nI (s 30 1) ∧ (uI (uI τ 0 0 11 (nI (s 30 1))) 0 0 12 (nI (s 30 2))).1 0 0 12 = nI (s 30 2) ∧ (uI (uI τ 0 0 11 (nI (s 30 1))) 0 0 12 (nI (s 30 2))).1 0 0 10 = τ.1 0 0 10 := by simp [uI]
      generalize uI (uI τ 0 0 11 (nI (s 30 1))) 0 0 12 (nI (s 30 2)) = ω at *
      have sx : SX ((0, 0) :: txL (1 - b)) σ ω := (tx.wk (fun x hx => List.mem_cons_of_mem _ hx)).tr (s4.x.wk (fun x hx => by simp at hx; subst hx; exact List.mem_cons_self))
      have ck : ((0, 0) :: txL (1 - b)).all (fun x => !(mj_ck x.1 && x.2 == b)) = true := by rcases b01 with rfl | rfl <;> decide
      have n10 : (10, 0) ∉ (0, 0) :: txL (1 - b) ∧ (44, 0) ∉ (0, 0) :: txL (1 - b) := by rcases b01 with rfl | rfl <;> decide
      have n9 : (9, 0) ∉ (0, 0) :: txL (1 - b) ∧ (39, 0) ∉ (0, 0) :: txL (1 - b) ∧ (40, 0) ∉ (0, 0) :: txL (1 - b) ∧ (41, 0) ∉ (0, 0) :: txL (1 - b) ∧ (42, 0) ∉ (0, 0) :: txL (1 - b) := by rcases b01 with rfl | rfl <;> decide
      refine H ω ⟨b, ⟨by rw [s4.2]; exact e00, hk.2.keepX sx ck (by rcases b01 with rfl | rfl <;> decide)⟩, by rw [s4.2]; exact e10, ?_, fun k => (h4 k).keepX sx ck (by rcases b01 with rfl | rfl <;> decide), h5.keep sx n10, h6.keep sx n9, ⟨d4.1, d4.2.1⟩, ?_, fun i hi => absurd (show i < 0 from hi) (Nat.not_lt_zero _)⟩
      · rw [d4.2.2, t1.i (by simp [txL, rdL])]; exact h3
      · rw [s4.i (by decide)]; exact r1
  · have e : uText w x = (-2, w) := by unfold uText; rw [h8] at z; rw [if_pos (Or.inr z)]
    rw [e] at H; exact H σ hw
end Qi
