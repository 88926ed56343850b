/-! what the calls that change answer, and the world behind them -/
def uDraw (w : WT) (x y : Int32) : Int32 × WT := match gIx x (wc w 0 2) with
  | none => (-1, w)
  | some k => if y < 1 ∨ 999 < y then (-1, w) else if bt (ws w 3 0) k = true then (-2, w) else ((gFlow (wc w) (ws w) k y).1, wS w (gFlow (wc w) (ws w) k y).2 (min 20 (wn w + 1)) (psh (ws w) (wh w)))
def uFill (w : WT) (x y : Int32) : Int32 × WT := match gIx x (wc w 0 0) with
  | none => (-1, w)
  | some p => if y < 1 ∨ 99 < y then (-1, w) else (gMore (ws w 4 p) y, wS w (sU (ws w) 4 p (gMore (ws w 4 p) y)) (min 20 (wn w + 1)) (psh (ws w) (wh w)))
def uSpill (w : WT) (x y : Int32) : Int32 × WT := match gIx x (wc w 0 0) with
  | none => (-1, w)
  | some p => if y < 1 ∨ 99 < y then (-1, w) else if y ≤ ws w 4 p then (ws w 4 p - y, wS w (sU (ws w) 4 p (ws w 4 p - y)) (min 20 (wn w + 1)) (psh (ws w) (wh w))) else (-2, w)
def uMend (w : WT) (x : Int32) : Int32 × WT := match gIx x (wc w 0 2) with
  | none => (0, w)
  | some k => if bt (ws w 3 0) k = true then (1, wS w (sU (ws w) 3 0 (ws w 3 0 &&& (((1 : Int32) <<< (nI k &&& 31)) ^^^ (-1)))) (min 20 (wn w + 1)) (psh (ws w) (wh w))) else (0, w)
def uGo (w : WT) (n : Int32) : Int32 × WT := if n < 0 ∨ 200 < n ∨ ¬ ws w 0 0 + n ≤ 9800 then (-1, w) else (gMinutes (wc w) md1 n.toNatClampNeg (ws w) 0 0, wS w (gMinutes (wc w) md1 n.toNatClampNeg (ws w)) (if n ≤ 0 then wn w else 0) (wh w))
def uUndo (w : WT) : Int32 × WT := if wn w = 0 then (-1, w) else (nI (wn w - 1), wS w (wh w 0) (wn w - 1) (fun i => wh w (i + 1)))
def uKeep (w : WT) : Int32 × WT := (ws w 0 0, (w.1, w.2.1, (true, w.2.1), w.2.2.2))
def uBack (w : WT) : Int32 × WT := if wk w = true then (wi w 0 0, wS w (wi w) 0 (wh w)) else (-1, w)
section Rv
variable {w : WT} {c : CA} {s : SA} {x y n : Int32}
theorem OKs.of {s' : SA} (h : OKs c s) (he : ∀ f j, f ≠ 3 → f ≠ 4 → s' f j = s f j) (hs : SI c s') (hj : JB c s') : OKs c s' := by
  obtain ⟨h1, h2, _, h4, _⟩ := h
  have e0 := he 0 0 (by decide) (by decide)
  exact ⟨h1.of e0, by unfold gT at h2 ⊢; rw [e0]; exact h2, hs, h4.of e0 (fun q => he 5 q (by decide) (by decide)), hj⟩
/-- one more is kept for undoing -/
theorem WI.push (h : WI w) {s' : SA} (he : ∀ f j, f ≠ 3 → f ≠ 4 → s' f j = ws w f j) (hs : SI (wc w) s') (hj : JB (wc w) s') : WI (wS w s' (min 20 (wn w + 1)) (psh (ws w) (wh w))) := by
  obtain ⟨V, o, im, hn, hh, rest⟩ := h
  refine ⟨V, o.of he hs hj, im, Nat.min_le_left _ _, fun i hi => ?_, rest⟩
  show SI (wc w) (psh (ws w) (wh w) i) ∧ JB (wc w) (psh (ws w) (wh w) i) ∧ eqU s' (psh (ws w) (wh w) i)
  have hi' : i < min 20 (wn w + 1) := hi
  unfold psh
  by_cases g : i = 0
  · rw [if_pos g]
    exact ⟨o.2.2.1, o.2.2.2.2, fun f j a b => (he f j a b).symm⟩
  · rw [if_neg g]
    have := hh (i - 1) (by omega)
    exact ⟨this.1, this.2.1, fun f j a b => (this.2.2 f j a b).trans (he f j a b).symm⟩
theorem gMinutes_t (c : CA) (md : MD) : ∀ (n : Nat) (s : SA), SVt s → gT s + n ≤ 100000 → SVt (gMinutes c md n s) ∧ gT (gMinutes c md n s) = gT s + n := by
  intro n
  induction n with
  | zero => intro s h _; exact ⟨h, rfl⟩
  | succ n ih =>
    intro s h hn
    have st := h.step (c := c) (md := md) (by omega)
    have := ih (gMinute c md s) st.1 (by omega)
    exact ⟨this.1, by rw [gMinutes, this.2, st.2]; omega⟩
theorem gMinutes_in {md : MD} (V : CV c) : ∀ (n : Nat) (s : SA), SVt s → gT s + n ≤ 100000 → sIn c s → sIn c (gMinutes c md n s) := by
  intro n
  induction n with
  | zero => intro s _ _ h; exact h
  | succ n ih =>
    intro s h hn hin
    have st := h.step (c := c) (md := md) (by omega)
    exact ih _ st.1 (by omega) (gMinute_in V hin h)
theorem uDraw_wi (h : WI w) : WI (uDraw w x y).2 := by
  unfold uDraw
  cases e : gIx x (wc w 0 2) with
  | none => exact h
  | some k =>
    have hk := (gIx_some e).2
    simp only
    split
    · exact h
    · rename_i g
      split
      · exact h
      · have y0 : ¬ y < 0 := fun z => g (Or.inl (Int32.lt_trans z (by decide)))
        obtain ⟨m, _, _, _, hs⟩ := h.2.1.2.2.1.flow h.1 hk y0
        exact h.push (fun f j _ b => by simp [gFlow, gMove, sU, b]) hs (h.2.1.2.2.2.2.of (by simp [gFlow, gMove, sU]))
theorem uFill_wi (h : WI w) : WI (uFill w x y).2 := by
  unfold uFill
  cases e : gIx x (wc w 0 0) with
  | none => exact h
  | some p =>
    have hp := (gIx_some e).2
    simp only
    split
    · exact h
    · rename_i g
      have y0 : ¬ y < 0 := fun z => g (Or.inl (Int32.lt_trans z (by decide)))
      obtain ⟨m, hm, rfl⟩ := nI_of2 (M := 99) (n := 99) (by decide) y0 (Int32.not_lt.mp (fun z => g (Or.inr z)))
      exact h.push (fun f j _ b => by simp [sU, b]) (h.2.1.2.2.1.more h.1 hp (by omega)) (h.2.1.2.2.2.2.of (by simp [sU]))
theorem SI.sub (h : SI c s) (V : CV c) {p m : Nat} (hp : p < c 0 0) (hm : m ≤ 2000) (hle : nI m ≤ s 4 p) : s 4 p - nI m = nI (gW s p - m) ∧ m ≤ gW s p := by
  have b := h.bd V hp
  rw [(h p hp).1] at hle ⊢
  rw [nI_leI (by omega) (by omega)] at hle
  exact ⟨pk_sub hle, hle⟩
theorem uSpill_wi (h : WI w) : WI (uSpill w x y).2 := by
  unfold uSpill
  cases e : gIx x (wc w 0 0) with
  | none => exact h
  | some p =>
    have hp := (gIx_some e).2
    simp only
    split
    · exact h
    · rename_i g
      split
      · rename_i g2
        have y0 : ¬ y < 0 := fun z => g (Or.inl (Int32.lt_trans z (by decide)))
        obtain ⟨m, hm, rfl⟩ := nI_of2 (M := 99) (n := 99) (by decide) y0 (Int32.not_lt.mp (fun z => g (Or.inr z)))
        have sb := h.2.1.2.2.1.sub h.1 hp (by omega) g2
        refine h.push (fun f j _ b => by simp [sU, b]) ?_ (h.2.1.2.2.2.2.of (by simp [sU]))
        rw [sb.1]
        refine h.2.1.2.2.1.set h.1 hp ?_
        have u := (h.2.1.2.2.1 p hp).2
        unfold gU at u
        omega
      · exact h
theorem uMend_wi (h : WI w) : WI (uMend w x).2 := by
  unfold uMend
  cases e : gIx x (wc w 0 2) with
  | none => exact h
  | some k =>
    simp only
    split
    · refine h.push (fun f j a _ => by simp [sU, a]) (h.2.1.2.2.1.of (fun p => by simp [sU])) (fun q hq => h.2.1.2.2.2.2 q ?_)
      have : bt (ws w 3 0 &&& (((1 : Int32) <<< (nI k &&& 31)) ^^^ (-1))) q = true := by simpa [sU] using hq
      rw [bt_and, Bool.and_eq_true] at this
      exact this.1
    · exact h
theorem uGo_wi (h : WI w) : WI (uGo w n).2 := by
  unfold uGo
  split
  · exact h
  · rename_i g
    obtain ⟨V, o, im, hn, hh, rest⟩ := h
    have n0 : ¬ n < 0 := fun z => g (Or.inl z)
    obtain ⟨m, hm, rfl⟩ := nI_of2 (M := 200) (n := 200) (by decide) n0 (Int32.not_lt.mp (fun z => g (Or.inr (Or.inl z))))
    have g3 : ws w 0 0 + nI m ≤ 9800 := Decidable.not_not.mp (fun z => g (Or.inr (Or.inr z)))
    rw [o.1.1, nI_add, show (9800 : Int32) = nI 9800 from rfl, nI_leI (by have := o.2.1; omega) (by omega)] at g3
    have t := gMinutes_t (wc w) md1 m (ws w) o.1 (by omega)
    rw [nI_clamp (by omega)]
    refine ⟨V, ⟨t.1, by show gT (gMinutes (wc w) md1 m (ws w)) ≤ 9800; rw [t.2]; exact g3, gMinutes_si V (MV1 _) m _ o.2.2.1, gMinutes_in V m _ o.1 (by omega) o.2.2.2.1, gMinutes_jb V m _ o.2.2.2.2⟩, im, ?_, fun i hi => ?_, rest⟩
    · show (if nI m ≤ 0 then wn w else 0) ≤ 20
      split
      · exact hn
      · omega
    · have hi' : i < (if nI m ≤ 0 then wn w else 0) := hi
      by_cases z : nI m ≤ 0
      · rw [if_pos z] at hi'
        rw [show (0 : Int32) = nI 0 from rfl, nI_leI (by omega) (by omega)] at z
        obtain rfl : m = 0 := by omega
        exact hh i hi'
      · rw [if_neg z] at hi'; omega
theorem uUndo_wi (h : WI w) : WI (uUndo w).2 := by
  unfold uUndo
  split
  · exact h
  · rename_i g
    obtain ⟨V, o, im, hn, hh, rest⟩ := h
    have h0 := hh 0 (by omega)
    refine ⟨V, o.of h0.2.2 h0.1 h0.2.1, im, by show wn w - 1 ≤ 20; omega, fun i hi => ?_, rest⟩
    have hi' : i < wn w - 1 := hi
    have := hh (i + 1) (by omega)
    exact ⟨this.1, this.2.1, fun f j a b => (this.2.2 f j a b).trans (h0.2.2 f j a b).symm⟩
theorem uKeep_wi (h : WI w) : WI (uKeep w).2 := ⟨h.1, h.2.1, fun _ => h.2.1, h.2.2.2⟩
theorem uBack_wi (h : WI w) : WI (uBack w).2 := by
  unfold uBack
  split
  · rename_i g
    obtain ⟨V, o, im, hn, hh, rest⟩ := h
    exact ⟨V, im g, im, by show (0 : Nat) ≤ 20; omega, fun i hi => absurd (show i < 0 from hi) (Nat.not_lt_zero _), rest⟩
  · exact h
end Rv
