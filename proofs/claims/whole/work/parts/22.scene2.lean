/-! counts, sums, searches -/
def gCnt (p : Nat → Bool) : Nat → Nat
  | 0 => 0
  | n + 1 => gCnt p n + (if p n then 1 else 0)
def gSum (f : Nat → Int32) : Nat → Int32
  | 0 => 0
  | n + 1 => gSum f n + f n
def gFd (p : Nat → Bool) : Nat → Nat → Int32
  | _, 0 => -1
  | i, m + 1 => if p i then nI i else gFd p (i + 1) m
theorem gFd_step {p : Nat → Bool} {i n : Nat} (h : i < n) : gFd p i (n - i) = if p i then nI i else gFd p (i + 1) (n - (i + 1)) := by
  rw [show n - i = (n - (i + 1)) + 1 by omega]; rfl
theorem gCnt_le (p : Nat → Bool) : ∀ n, gCnt p n ≤ n := by
  intro n; induction n with
  | zero => exact Nat.le_refl _
  | succ n ih => rw [gCnt]; split <;> omega
theorem gCnt_congr {p q : Nat → Bool} : ∀ n, (∀ i, i < n → p i = q i) → gCnt p n = gCnt q n := by
  intro n; induction n with
  | zero => intro _; rfl
  | succ n ih => intro h; rw [gCnt, gCnt, ih (fun i hi => h i (by omega)), h n (by omega)]
theorem gSum_congr {p q : Nat → Int32} : ∀ n, (∀ i, i < n → p i = q i) → gSum p n = gSum q n := by
  intro n; induction n with
  | zero => intro _; rfl
  | succ n ih => intro h; rw [gSum, gSum, ih (fun i hi => h i (by omega)), h n (by omega)]
theorem gFd_congr {p q : Nat → Bool} : ∀ m i, (∀ j, i ≤ j → j < i + m → p j = q j) → gFd p i m = gFd q i m := by
  intro m; induction m with
  | zero => intro i _; rfl
  | succ m ih => intro i h; rw [gFd, gFd, h i (by omega) (by omega), ih (i + 1) (fun j h1 h2 => h j (by omega) (by omega))]
/-- which boat is in a lock; how many are so; who has waited -/
def gBoatIn (c : CA) (s : SA) (l : Nat) : Int32 := gFd (fun q => decide (s 5 q = 1 ∧ c 15 q = l)) 0 (c 0 4)
def gBoats (c : CA) (s : SA) (how : Int32) : Nat := gCnt (fun q => decide (s 5 q = how)) (c 0 4)
def gWait (c : CA) (s : SA) : Int32 := gSum (fun q => s 6 q) (c 0 4)
def gNext (s : SA) : Int32 := (s 1 0 * 1103515245 + 12345) &&& 2147483647
def gLetIn (c : CA) (s : SA) (q l : Nat) : SA := if s 5 q = 0 ∧ gBoatIn c s l = -1 ∧ gFull c s (c 6 l) ≤ nI (c 7 l) * nI (c 2 (c 6 l)) then sU s 5 q 1 else s
theorem nI_inj {a b : Nat} (ha : a ≤ 2000) (hb : b ≤ 2000) : nI a = nI b ↔ a = b := nI_eq (by omega) (by omega)
theorem nI_le2 {a b : Nat} (ha : a ≤ 2000) (hb : b ≤ 2000) : nI a ≤ nI b ↔ a ≤ b := nI_leI (by omega) (by omega)
theorem SC.uI35 {σ : MS} {o b : Nat} {c : CA} {s : SA} (h : SC σ o b c s) {p : Nat} {v : Int32} : SC (uI σ 35 o p v) o b c (sU s 4 p v) := by
  obtain ⟨ho, hc, B, s1, s2, s3, s4, s5, s6, s7⟩ := h
  refine ⟨ho, hc, B.keep (L := [(35, o)]) (SB.uI (by simp)) rfl, by simp [uI, sU, s1], by simp [uI, sU, s2], by simp [uI, sU, s3], by simp [uI, sU, s4], fun q hq => by simp only [uI, sU, true_and, s5 q hq], fun q hq => by simp [uI, sU, s6 q hq], fun q hq => by simp [uI, sU, s7 q hq]⟩
theorem SC.uI36 {σ : MS} {o b : Nat} {c : CA} {s : SA} (h : SC σ o b c s) {p : Nat} {v : Int32} : SC (uI σ 36 o p v) o b c (sU s 5 p v) := by
  obtain ⟨ho, hc, B, s1, s2, s3, s4, s5, s6, s7⟩ := h
  refine ⟨ho, hc, B.keep (L := [(36, o)]) (SB.uI (by simp)) rfl, by simp [uI, sU, s1], by simp [uI, sU, s2], by simp [uI, sU, s3], by simp [uI, sU, s4], fun q hq => by simp [uI, sU, s5 q hq], fun q hq => by simp only [uI, sU, true_and, s6 q hq], fun q hq => by simp [uI, sU, s7 q hq]⟩
theorem SC.uI37 {σ : MS} {o b : Nat} {c : CA} {s : SA} (h : SC σ o b c s) {p : Nat} {v : Int32} : SC (uI σ 37 o p v) o b c (sU s 6 p v) := by
  obtain ⟨ho, hc, B, s1, s2, s3, s4, s5, s6, s7⟩ := h
  refine ⟨ho, hc, B.keep (L := [(37, o)]) (SB.uI (by simp)) rfl, by simp [uI, sU, s1], by simp [uI, sU, s2], by simp [uI, sU, s3], by simp [uI, sU, s4], fun q hq => by simp [uI, sU, s5 q hq], fun q hq => by simp [uI, sU, s6 q hq], fun q hq => by simp only [uI, sU, true_and, s7 q hq]⟩
theorem SC.uI6 {σ : MS} {o b : Nat} {c : CA} {s : SA} (h : SC σ o b c s) {j f : Nat} {v : Int32} (hj : (j = 6 ∧ f = 0) ∨ (j = 7 ∧ f = 1) ∨ (j = 5 ∧ f = 2) ∨ (j = 2 ∧ f = 3)) : SC (uI σ 6 o j v) o b c (sU s f 0 v) := by
  obtain ⟨ho, hc, B, s1, s2, s3, s4, s5, s6, s7⟩ := h
  refine ⟨ho, hc, B.keep (L := [(6, o)]) (SB.uI (by simp)) rfl, ?_⟩
  rcases hj with ⟨rfl, rfl⟩ | ⟨rfl, rfl⟩ | ⟨rfl, rfl⟩ | ⟨rfl, rfl⟩ <;>
  exact ⟨by simp [uI, sU, s1], by simp [uI, sU, s2], by simp [uI, sU, s3], by simp [uI, sU, s4], fun q hq => by simp [uI, sU, s5 q hq], fun q hq => by simp [uI, sU, s6 q hq], fun q hq => by simp [uI, sU, s7 q hq]⟩
theorem addI {x y : Int32} (h1 : -2147483648 ≤ x.toInt + y.toInt) (h2 : x.toInt + y.toInt < 2147483648) : (x + y).toInt = x.toInt + y.toInt := by
  rw [Int32.toInt_add]
  exact Int.bmod_eq_of_le (by omega) (by omega)
theorem subI {x y : Int32} (h1 : -2147483648 ≤ x.toInt - y.toInt) (h2 : x.toInt - y.toInt < 2147483648) : (x - y).toInt = x.toInt - y.toInt := by
  rw [Int32.toInt_sub]
  exact Int.bmod_eq_of_le (by omega) (by omega)
theorem mulI {x y : Int32} (h1 : -2147483648 ≤ x.toInt * y.toInt) (h2 : x.toInt * y.toInt < 2147483648) : (x * y).toInt = x.toInt * y.toInt := by
  rw [Int32.toInt_mul]
  exact Int.bmod_eq_of_le (by omega) (by omega)
theorem i32_le {x y : Int32} : x ≤ y ↔ x.toInt ≤ y.toInt := Int32.le_iff_toInt_le
theorem i32_lt {x y : Int32} : x < y ↔ x.toInt < y.toInt := Int32.lt_iff_toInt_lt
theorem i32_b (x : Int32) : -2147483648 ≤ x.toInt ∧ x.toInt < 2147483648 := ⟨Int32.le_toInt x, Int32.toInt_lt x⟩
theorem i32_eq {x y : Int32} : x = y ↔ x.toInt = y.toInt := ⟨fun h => by rw [h], fun h => Int32.toInt_inj.mp h⟩
theorem imin_toInt (x y : Int32) : (imin x y).toInt = min x.toInt y.toInt := by
  unfold imin; split <;> (rename_i h; rw [i32_lt] at h; omega)
theorem imax_toInt (x y : Int32) : (imax x y).toInt = max x.toInt y.toInt := by
  unfold imax; split <;> (rename_i h; rw [i32_lt] at h; omega)
theorem gMore_full {w x : Int32} (h : 9999 ≤ w) : gMore w x = w := by
  rw [i32_le, show (9999 : Int32).toInt = 9999 by decide] at h
  rw [i32_eq, gMore, imax_toInt, imin_toInt, show (9999 : Int32).toInt = 9999 by decide]
  omega
theorem gMore_less {w x : Int32} (h : w < 9999) (h0 : 0 ≤ x) (h9 : x ≤ 99) : gMore w x = if (w + x) < (9999 : Int32) then (w + x) else (9999 : Int32) := by
  show imax w (imin 9999 (w + x)) = imin 9999 (w + x)
  rw [i32_lt, show (9999 : Int32).toInt = 9999 by decide] at h
  rw [i32_le, show (0 : Int32).toInt = 0 by decide] at h0
  rw [i32_le, show (99 : Int32).toInt = 99 by decide] at h9
  have hb := i32_b w
  rw [i32_eq, imax_toInt, imin_toInt, addI (by omega) (by omega), show (9999 : Int32).toInt = 9999 by decide]
  omega
section Scm
variable {d : Nat} {Q : Option MV → MS → Prop} {σ : MS} {o b : Nat} {c : CA} {s : SA}
theorem S_pour (h : SC σ o b c s) {p : Nat} (hp : p < c 0 0) {x : Int32} (hx0 : 0 ≤ x) (hx : x ≤ 99) (H : ∀ τ : MS, SB [(35, o)] σ τ → SC τ o b c (sU s 4 p (gMore (s 4 p) x)) → Q none τ) : R mj_OC (d + 1) mX8_pour Q 0 [some (rV 6 o), some (iV (nI p)), some (iV x)] [] σ := by
  obtain ⟨ho, hc, ⟨hb, C, K, T, V⟩, S⟩ := id h
  have e1 := cl hp (by have := V.np; omega)
  refine bX8_pour_0 ho ⟨vin hp V.np (by decide), fun q => ?_, fun q => ?_⟩
  · rw [e1, S.2.2.2.2.1 p hp] at q
    have e2 : gMore (s 4 p) x = s 4 p := gMore_full q
    rw [e2] at H
    refine H σ SB.rf ⟨ho, hc, ⟨hb, C, K, T, V⟩, ?_⟩
    obtain ⟨s1, s2, s3, s4, s5, s6, s7⟩ := S
    refine ⟨by simp [sU, s1], by simp [sU, s2], by simp [sU, s3], by simp [sU, s4], fun q hq => ?_, fun q hq => by simp [sU, s6 q hq], fun q hq => by simp [sU, s7 q hq]⟩
    unfold sU; split
    · rename_i g; rw [g.2]; exact s5 p hp
    · exact s5 q hq
  · rw [e1, S.2.2.2.2.1 p hp] at q ⊢
    have e3 : (if (s 4 p + x) < (9999 : Int32) then (s 4 p + x) else (9999 : Int32)) = gMore (s 4 p) x := (gMore_less (Int32.not_le.mp q) hx0 hx).symm
    rw [e3]
    exact H _ (SB.uI (by simp)) (SC.uI35 h)
theorem S_lose (h : SC σ o b c s) {p : Nat} (hp : p < c 0 0) {x : Int32} (H : ∀ τ : MS, SB [(35, o)] σ τ → SC τ o b c (sU s 4 p (imax 0 (s 4 p - x))) → Q none τ) : R mj_OC (d + 1) mX8_lose Q 0 [some (rV 6 o), some (iV (nI p)), some (iV x)] [] σ := by
  obtain ⟨ho, hc, ⟨hb, C, K, T, V⟩, S⟩ := id h
  refine bX8_lose_0 ho ⟨vin hp V.np (by decide), ?_⟩
  rw [cl hp (by have := V.np; omega), S.2.2.2.2.1 p hp]
  exact H _ (SB.uI (by simp)) (SC.uI35 h)
theorem S_boatIn (h : SC σ o b c s) {l : Nat} (hl : l ≤ 2000) (H : Q (some (iV (gBoatIn c s l))) σ) : R mj_OC d mX8_boatIn Q 0 [some (rV 6 o), some (iV (nI l)), none] [] σ := by
  obtain ⟨ho, hc, ⟨hb, C, K, T, V⟩, S⟩ := id h
  have nb := V.nb
  refine bX8_boatIn_0 ho ?_
  have L := up_loop (n := c 0 4) (fun i => Q (some (iV (gFd (fun q => decide (s 5 q = 1 ∧ c 15 q = l)) i (c 0 4 - i)))) σ → R mj_OC d mX8_boatIn Q 2 [some (rV 6 o), some (iV (nI l)), some (iV (nI i))] [] σ) ?_ ?_ 0 (Nat.zero_le _) H
  · exact L
  · intro H
    refine bX8_boatIn_2 ho ⟨by rw [hc]; exact hb, fun q => ?_, fun q => ?_⟩
    · rw [Nat.sub_self] at H; exact H
    · rw [hc, C.nb] at q; exact absurd (Int32.le_refl _) q
  · intro i hi ih H
    rw [gFd_step hi] at H
    refine bX8_boatIn_2 ho ⟨by rw [hc]; exact hb, fun q => ?_, fun q => ⟨vin hi nb (by decide), fun q1 => ?_, fun q1 => ⟨fun q2 => ?_, fun q2 => ?_⟩⟩⟩
    · rw [hc, C.nb, nI_le2 (by omega) (by omega)] at q; omega
    · rw [cl hi (by omega), S.2.2.2.2.2.1 i hi] at q1
      rw [if_neg (by simp [q1])] at H
      rw [show nI i + (1 : Int32) = nI (i + 1) from nI_1 i]
      exact ih H
    · rw [cl hi (by omega), S.2.2.2.2.2.1 i hi] at q1
      rw [cl hi (by omega), hc, C.block hi, nI_inj (by have := (V.boat hi).1; have := V.nl; omega) hl] at q2
      rw [if_neg (by simp [q2])] at H
      rw [show nI i + (1 : Int32) = nI (i + 1) from nI_1 i]
      exact ih H
    · rw [cl hi (by omega), S.2.2.2.2.2.1 i hi] at q1
      rw [cl hi (by omega), hc, C.block hi, nI_inj (by have := (V.boat hi).1; have := V.nl; omega) hl] at q2
      rw [if_pos (by simp [q1, q2])] at H
      exact H
theorem S_boatsThatAre (h : SC σ o b c s) {x : Int32} (H : Q (some (iV (nI (gBoats c s x)))) σ) : R mj_OC d mX8_boatsThatAre Q 0 [some (rV 6 o), some (iV x), none, none] [] σ := by
  obtain ⟨ho, hc, ⟨hb, C, K, T, V⟩, S⟩ := id h
  have nb := V.nb
  refine bX8_boatsThatAre_0 ho ?_
  refine up_loop (n := c 0 4) (fun i => R mj_OC d mX8_boatsThatAre Q 4 [some (rV 6 o), some (iV x), some (iV (nI (gCnt (fun q => decide (s 5 q = x)) i))), some (iV (nI i))] [] σ) ?_ ?_ 0 (Nat.zero_le _)
  · refine bX8_boatsThatAre_4 ho ⟨by rw [hc]; exact hb, fun q => H, fun q => ?_⟩
    rw [hc, C.nb] at q; exact absurd (Int32.le_refl _) q
  · intro i hi ih
    refine bX8_boatsThatAre_4 ho ⟨by rw [hc]; exact hb, fun q => ?_, fun q => ⟨vin hi nb (by decide), fun q1 => ?_, fun q1 => ?_⟩⟩
    · rw [hc, C.nb, nI_le2 (by omega) (by omega)] at q; omega
    · rw [cl hi (by omega), S.2.2.2.2.2.1 i hi] at q1
      rw [gCnt, if_neg (by simp [q1])] at ih
      rw [nI_1]
      exact ih
    · rw [cl hi (by omega), S.2.2.2.2.2.1 i hi] at q1
      rw [gCnt, if_pos (by simp [q1])] at ih
      rw [nI_1, nI_1]
      exact ih
theorem S_waitedByAll (h : SC σ o b c s) (H : Q (some (iV (gWait c s))) σ) : R mj_OC d mX8_waitedByAll Q 0 [some (rV 6 o), none, none] [] σ := by
  obtain ⟨ho, hc, ⟨hb, C, K, T, V⟩, S⟩ := id h
  have nb := V.nb
  refine bX8_waitedByAll_0 ho ?_
  refine up_loop (n := c 0 4) (fun i => R mj_OC d mX8_waitedByAll Q 4 [some (rV 6 o), some (iV (gSum (fun q => s 6 q) i)), some (iV (nI i))] [] σ) ?_ ?_ 0 (Nat.zero_le _)
  · refine bX8_waitedByAll_4 ho ⟨by rw [hc]; exact hb, fun q => H, fun q => ?_⟩
    rw [hc, C.nb] at q; exact absurd (Int32.le_refl _) q
  · intro i hi ih
    refine bX8_waitedByAll_4 ho ⟨by rw [hc]; exact hb, fun q => ?_, fun q => ⟨vin hi nb (by decide), ?_⟩⟩
    · rw [hc, C.nb, nI_le2 (by omega) (by omega)] at q; omega
    · rw [cl hi (by omega), S.2.2.2.2.2.2 i hi, nI_1]
      exact ih
theorem S_letIn (h : SC σ o b c s) {q l : Nat} (hq : q < c 0 4) (hl : l < c 0 1) (H : ∀ τ : MS, SB [(36, o)] σ τ → SC τ o b c (gLetIn c s q l) → Q none τ) : R mj_OC (d + 1 + 1) mX8_letIn Q 0 [some (rV 6 o), some (iV (nI q)), some (iV (nI l))] [] σ := by
  obtain ⟨ho, hc, ⟨hb, C, K, T, V⟩, S⟩ := id h
  have nb := V.nb
  have nl := V.nl
  have same : ∀ _ : ¬ (s 5 q = 0 ∧ gBoatIn c s l = -1 ∧ gFull c s (c 6 l) ≤ nI (c 7 l) * nI (c 2 (c 6 l))), Q none σ := fun g => H σ SB.rf (by rw [gLetIn, if_neg g]; exact h)
  refine bX8_letIn_0 ho ⟨vin hq nb (by decide), fun g => ?_, fun g => ?_⟩
  · rw [cl hq (by omega), S.2.2.2.2.2.1 q hq] at g
    exact same (fun z => g z.1)
  · rw [cl hq (by omega), S.2.2.2.2.2.1 q hq] at g
    refine S_boatIn h (by omega) ?_
    refine bX8_letIn_14 ho ⟨fun g2 => same (fun z => g2 z.2.1), fun g2 => ⟨by rw [hc]; exact hb, vin hl nl (by decide), ?_⟩⟩
    rw [cl hl (by omega), hc, C.lpond hl, C.low hl]
    refine S_isAtMost h (V.lock hl).1 (fun g3 => ?_) (fun g3 => ?_)
    · refine bX8_letIn_46 ho ⟨fun g4 => absurd g4 (by decide), fun _ => ⟨vin hq nb (by decide), ?_⟩⟩
      rw [cl hq (by omega)]
      exact H _ (SB.uI (by simp)) (by rw [gLetIn, if_pos ⟨g, g2, g3⟩]; exact SC.uI36 h)
    · refine bX8_letIn_46 ho ⟨fun _ => same (fun z => g3 z.2.2), fun g4 => absurd rfl g4⟩
theorem S_canGoUp (h : SC σ o b c s) {q l : Nat} (hq : q < c 0 4) (hl : l < c 0 1) (H1 : s 5 q = 1 ∧ nI (c 8 l) * nI (c 2 (c 6 l)) ≤ gFull c s (c 6 l) → Q (some (iV 1)) σ) (H0 : ¬ (s 5 q = 1 ∧ nI (c 8 l) * nI (c 2 (c 6 l)) ≤ gFull c s (c 6 l)) → Q (some (iV 0)) σ) : R mj_OC (d + 1 + 1) mX8_canGoUp Q 0 [some (rV 6 o), some (iV (nI q)), some (iV (nI l))] [] σ := by
  obtain ⟨ho, hc, ⟨hb, C, K, T, V⟩, S⟩ := id h
  have nb := V.nb
  have nl := V.nl
  refine bX8_canGoUp_0 ho ⟨vin hq nb (by decide), fun g => ?_, fun g => ⟨by rw [hc]; exact hb, vin hl nl (by decide), ?_⟩⟩
  · rw [cl hq (by omega), S.2.2.2.2.2.1 q hq] at g
    exact H0 (fun z => g z.1)
  · rw [cl hq (by omega), S.2.2.2.2.2.1 q hq] at g
    rw [cl hl (by omega), hc, C.lpond hl, C.high hl]
    refine S_isAtLeast h (V.lock hl).1 (fun g3 => ?_) (fun g3 => ?_)
    · exact bX8_canGoUp_38 ho ⟨fun g4 => absurd g4 (by decide), fun _ => H1 ⟨g, g3⟩⟩
    · exact bX8_canGoUp_38 ho ⟨fun _ => H0 (fun z => g3 z.2), fun g4 => absurd rfl g4⟩
theorem gNext64 (x : Int32) : ((x.toInt64 * (1103515245 : Int64) + (12345 : Int64)) &&& (2147483647 : Int64)).toInt32 = (x * 1103515245 + 12345) &&& 2147483647 := by
  rw [Int64.toInt32_and, Int64.toInt32_add, Int64.toInt32_mul, Int32.toInt32_toInt64]; rfl
theorem S_nextNumber (h : SC σ o b c s) (H : ∀ τ : MS, SB [(6, o)] σ τ → SC τ o b c (sU s 1 0 (gNext s)) → Q (some (iV (gNext s >>> ((16 : Int32) &&& 31)))) τ) : R mj_OC d mX8_nextNumber Q 0 [some (rV 6 o)] [] σ := by
  refine bX8_nextNumber_0 h.1 ?_
  rw [gNext64, h.2.2.2.2.1]
  exact H _ (SB.uI (by simp)) (SC.uI6 h (Or.inr (Or.inl ⟨rfl, rfl⟩)))
end Scm
