/-! the language's words, by their characters -/
def wL : List Nat := [112, 111, 110, 100, 32, 108, 111, 99, 107, 32, 112, 105, 112, 101, 32, 116, 117, 114, 110, 32, 98, 111, 97, 116, 32, 115, 112, 114, 105, 110, 103, 32, 106, 97, 109, 32, 115, 101, 101, 100, 32, 108, 97, 119, 32, 102, 108, 111, 119, 32, 108, 101, 97, 107, 32, 116, 111, 108, 108, 32, 111, 114, 32, 97, 110, 100, 32, 110, 111, 116, 32, 97, 114, 101, 97, 32, 102, 108, 111, 111, 114, 32, 119, 97, 116, 101, 114, 32, 119, 105, 100, 101, 32, 111, 112, 101, 110, 32, 98, 111, 97, 116, 115, 32, 109, 105, 110, 117, 116, 101, 32]
def wl (i : Nat) : Nat := wL.getD i 0
/-- word, its start, what is packed of it ahead of place i -/
def ksT : Nat → Nat × Nat × Nat
  | 0 => (0, 0, 0)
  | i + 1 => if wl i = 32 then ((ksT i).1 + 1, i + 1, 0) else ((ksT i).1, (ksT i).2.1, (ksT i).2.2 + (wl i - 96) * 2 ^ (5 * (5 - (i - (ksT i).2.1))))
def kwG (v : Nat) : Nat → Nat → Nat
  | 0, _ => 22
  | m + 1, i => if wl i = 32 then (if (ksT i).2.2 = v then (ksT i).1 else kwG v m (i + 1)) else kwG v m (i + 1)
def kw (v : Nat) : Nat := kwG v 111 0
theorem ksT_f : ∀ i, i < 111 → (wl i = 32 ∨ (97 ≤ wl i ∧ wl i ≤ 122 ∧ i - (ksT i).2.1 < 6)) ∧ (ksT i).2.1 ≤ i ∧ (ksT i).1 < 22 ∧ (ksT i).2.2 < 2 ^ 30 ∧ (wl i = 32 ∨ (ksT i).2.2 % 2 ^ (5 * (5 - (i - (ksT i).2.1)) + 5) = 0) := by
  have h : ∀ i : Fin 111, (wl i.val = 32 ∨ (97 ≤ wl i.val ∧ wl i.val ≤ 122 ∧ i.val - (ksT i.val).2.1 < 6)) ∧ (ksT i.val).2.1 ≤ i.val ∧ (ksT i.val).1 < 22 ∧ (ksT i.val).2.2 < 2 ^ 30 ∧ (wl i.val = 32 ∨ (ksT i.val).2.2 % 2 ^ (5 * (5 - (i.val - (ksT i.val).2.1)) + 5) = 0) := by decide +kernel
  exact fun i hi => h ⟨i, hi⟩
theorem wl_mj : ∀ i, i < 111 → ((mj_byt.getD 0 []).getD i 0 = nI (wl i) ∧ (mj_byt.getD 2 []).getD i 0 = nI (wl i)) ∧ ((nI (wl i) &&& (255 : Int32)).toUInt32 % 65536).toInt32 = nI (wl i) ∧ wl i < 128 := by
  have h : ∀ i : Fin 111, ((mj_byt.getD 0 []).getD i.val 0 = nI (wl i.val) ∧ (mj_byt.getD 2 []).getD i.val 0 = nI (wl i.val)) ∧ ((nI (wl i.val) &&& (255 : Int32)).toUInt32 % 65536).toInt32 = nI (wl i.val) ∧ wl i.val < 128 := by decide +kernel
  exact fun i hi => h ⟨i, hi⟩
section Sa
variable {O : List (Nat × Nat)} {d : Nat} {Q : Option MV → MS → Prop} {σ : MS}
theorem J_charAt {u k : Nat} (hu : u = 0 ∨ u = 2) (hk : k < 111) (H : Q (some (iV (nI (wl k)))) σ) : R O (d + 1 + 1 + 1) mJ0_charAt_5068e Q 0 [some (rV 200 u), some (iV (nI k))] [] σ := by
  have hu3 : u < 3 := by omega
  have el : mj_len.getD u 0 = 111 := by rcases hu with rfl | rfl <;> rfl
  have w := wl_mj k hk
  have eb : (mj_byt.getD u []).getD (nI k).toNatClampNeg 0 = nI (wl k) := by
    rw [nI_clamp (by omega)]
    rcases hu with rfl | rfl
    · exact w.1.1
    · exact w.1.2
  have en : narrow .char (.int (nI (wl k))) = .int (nI (wl k)) := (pk_charN (by omega)).1
  refine bJ0_charAt_5068e_0 hu3 (bJ0_isLatin1_aae02_0 hu3 ⟨fun z => absurd z (by decide), fun _ => ⟨fun z => absurd rfl z, fun _ => bJ0_charAt_5068e_4 hu3 ⟨fun z => absurd z (by decide), fun _ => bJ1_charAt_3b067_0 hu3 ?_⟩⟩⟩)
  rw [el]
  refine J_checkIndex (nI_pos (by omega)) ((nI_ltI (b := 111) (by omega) (by decide)).mpr hk) (bJ1_charAt_3b067_6 hu3 ?_)
  rw [eb, w.2.1, el]
  exact ⟨vin hk (by omega) (by decide), en, bJ0_charAt_5068e_15 hu3 ⟨en, H⟩⟩
theorem J_length {u : Nat} (hu : u = 0 ∨ u = 2) (H : Q (some (iV (nI 111))) σ) : R O (d + 1) mJ0_length_8abf5 Q 0 [some (rV 200 u)] [] σ := by
  have hu3 : u < 3 := by omega
  have el : mj_len.getD u 0 = 111 := by rcases hu with rfl | rfl <;> rfl
  refine bJ0_length_8abf5_0 hu3 (bJ0_coder_7d493_0 hu3 ⟨fun z => absurd z (by decide), fun _ => bJ0_length_8abf5_9 hu3 ?_⟩)
  rw [el]
  exact H
end Sa
/-! the pure lexer: t the bytes, n how many -/
def isL (c : Nat) : Bool := decide (97 ≤ c ∧ c ≤ 122)
def isD (c : Nat) : Bool := decide (48 ≤ c ∧ c ≤ 57)
def isB (c : Nat) : Bool := decide (c = 10 ∨ c = 32)
def rE (P : Nat → Bool) (t : Nat → Nat) : Nat → Nat → Nat
  | 0, p => p
  | m + 1, p => if P (t p) = true then rE P t m (p + 1) else p
/-- the end of a run -/
def rn (P : Nat → Bool) (t : Nat → Nat) (n p : Nat) : Nat := rE P t (n - p) p
theorem rE_le (P : Nat → Bool) (t : Nat → Nat) : ∀ m p, p ≤ rE P t m p ∧ rE P t m p ≤ p + m ∧ (∀ i, p ≤ i → i < rE P t m p → P (t i) = true) ∧ (rE P t m p < p + m → P (t (rE P t m p)) = false) := by
  intro m
  induction m with
  | zero => intro p; exact ⟨Nat.le_refl _, Nat.le_refl _, fun i h1 h2 => absurd h2 (by rw [rE]; omega), fun h => absurd h (by rw [rE]; omega)⟩
  | succ m ih =>
    intro p
    rw [rE]
    by_cases g : P (t p) = true
    · rw [if_pos g]
      have := ih (p + 1)
      refine ⟨by omega, by omega, fun i h1 h2 => ?_, fun h => this.2.2.2 (by omega)⟩
      by_cases e : i = p
      · subst e; exact g
      · exact this.2.2.1 i (by omega) h2
    · rw [if_neg g]
      exact ⟨Nat.le_refl _, by omega, fun i h1 h2 => by omega, fun _ => by simpa using g⟩
theorem rn_p {P : Nat → Bool} {t : Nat → Nat} {n p : Nat} (hp : p ≤ n) : p ≤ rn P t n p ∧ rn P t n p ≤ n ∧ (∀ i, p ≤ i → i < rn P t n p → P (t i) = true) ∧ (rn P t n p < n → P (t (rn P t n p)) = false) := by
  have := rE_le P t (n - p) p
  unfold rn
  refine ⟨this.1, by omega, this.2.2.1, fun h => this.2.2.2 (by omega)⟩
theorem rn_step {P : Nat → Bool} {t : Nat → Nat} {n p : Nat} (hp : p < n) : rn P t n p = if P (t p) = true then rn P t n (p + 1) else p := by
  unfold rn
  rw [show n - p = (n - (p + 1)) + 1 by omega, rE]
theorem rn_end {P : Nat → Bool} {t : Nat → Nat} {n : Nat} : rn P t n n = n := by unfold rn; rw [Nat.sub_self]; rfl
def hN (g : Nat → Nat) : Nat → Nat
  | 0 => 0
  | k + 1 => hN g k * 32 + g k
/-- letters packed, so many of them (six at most count) -/
def pkN (t : Nat → Nat) (p len : Nat) : Nat := hN (fun k => t (p + k) - 96) (min len 6) * 2 ^ (5 * (6 - min len 6))
/-- a number's value, as the class has it -/
def nbC (t : Nat → Nat) (p : Nat) : Nat → Nat
  | 0 => 0
  | j + 1 => min 1000000 (nbC t p j * 10 + (t (p + j) - 48))
def sgL : List Nat := [59, 40, 41, 43, 45, 42, 47, 61, 60, 62]
def sgI (c : Nat) : Nat → Nat → Nat
  | 0, _ => 38
  | m + 1, i => if sgL.getD i 0 = c then 24 + i else sgI c m (i + 1)
def sg (c : Nat) : Nat := sgI c 10 0
def sg2 (s c : Nat) : Nat := if s = 32 ∧ c = 62 then 36 else if s = 32 ∧ c = 61 then 34 else if s = 33 ∧ c = 61 then 35 else s
/-- a sign with what stands behind it -/
def sgB (t : Nat → Nat) (n p : Nat) : Nat := if p + 1 < n then sg2 (sg (t p)) (t (p + 1)) else sg (t p)
def tkK (t : Nat → Nat) (n p : Nat) : Nat := if isL (t p) = true then (if 6 < rn isL t n p - p then 38 else kw (pkN t p (rn isL t n p - p))) else if isD (t p) = true then 23 else sgB t n p
def tkV (t : Nat → Nat) (n p : Nat) : Nat := if isL (t p) = true then pkN t p (rn isL t n p - p) else if isD (t p) = true then nbC t p (rn isD t n p - p) else 0
def tkE (t : Nat → Nat) (n p : Nat) : Nat := if isL (t p) = true then rn isL t n p else if isD (t p) = true then rn isD t n p else if sgB t n p = sg (t p) then p + 1 else p + 2
/-- where the k-th token is looked for; its place, kind, value -/
def tkS (t : Nat → Nat) (n : Nat) : Nat → Nat
  | 0 => 0
  | k + 1 => if rn isB t n (tkS t n k) < n then tkE t n (rn isB t n (tkS t n k)) else n
def tkP (t : Nat → Nat) (n k : Nat) : Nat := rn isB t n (tkS t n k)
def tK (t : Nat → Nat) (n k : Nat) : Nat := if tkP t n k < n then tkK t n (tkP t n k) else 37
def tV (t : Nat → Nat) (n k : Nat) : Nat := if tkP t n k < n then tkV t n (tkP t n k) else 0
section Sb
variable {t : Nat → Nat} {n p : Nat}
theorem sg2_b (s c : Nat) (hs : s ≤ 38) : sg2 s c ≤ 38 ∧ (sg2 s c ≠ s → 33 < sg2 s c ∧ sg2 s c < 37) := by
  unfold sg2
  repeat' split
  all_goals omega
theorem sg_b (c : Nat) : sg c ≤ 38 := by
  have : ∀ m i, i + m ≤ 10 → sgI c m i ≤ 38 := by
    intro m
    induction m with
    | zero => intro i _; exact Nat.le_refl _
    | succ m ih =>
      intro i hi
      rw [sgI]
      split
      · omega
      · exact ih (i + 1) (by omega)
  exact this 10 0 (by omega)
theorem sgB_b (t : Nat → Nat) (n p : Nat) : sgB t n p ≤ 38 := by
  unfold sgB
  split
  · exact (sg2_b _ _ (sg_b _)).1
  · exact sg_b _
theorem tkE_p (hp : p < n) : p < tkE t n p ∧ tkE t n p ≤ n := by
  unfold tkE
  by_cases g : isL (t p) = true
  · rw [if_pos g, rn_step hp, if_pos g]
    have := rn_p (P := isL) (t := t) (n := n) (p := p + 1) (by omega)
    omega
  · rw [if_neg g]
    by_cases g2 : isD (t p) = true
    · rw [if_pos g2, rn_step hp, if_pos g2]
      have := rn_p (P := isD) (t := t) (n := n) (p := p + 1) (by omega)
      omega
    · rw [if_neg g2]
      by_cases g3 : sgB t n p = sg (t p)
      · rw [if_pos g3]; omega
      · rw [if_neg g3]
        have : p + 1 < n := by
          rcases Nat.lt_or_ge (p + 1) n with q | q
          · exact q
          · exact absurd (by unfold sgB; rw [if_neg (by omega)]) g3
        omega
theorem tkS_le : ∀ k, tkS t n k ≤ n := by
  intro k
  induction k with
  | zero => exact Nat.zero_le _
  | succ k ih =>
    rw [tkS]
    split
    · rename_i g; exact (tkE_p g).2
    · exact Nat.le_refl _
theorem tkP_p (k : Nat) : tkS t n k ≤ tkP t n k ∧ tkP t n k ≤ n := by
  have := rn_p (P := isB) (t := t) (n := n) (p := tkS t n k) (tkS_le k)
  unfold tkP; exact ⟨this.1, this.2.1⟩
theorem tkS_next {k : Nat} (h : tkP t n k < n) : tkS t n (k + 1) = tkE t n (tkP t n k) ∧ tkP t n k < tkS t n (k + 1) := by
  have e : tkS t n (k + 1) = tkE t n (tkP t n k) := by rw [tkS]; exact if_pos h
  exact ⟨e, by rw [e]; exact (tkE_p h).1⟩
theorem tkP_ge (k : Nat) : k ≤ tkP t n k ∨ tkP t n k = n := by
  induction k with
  | zero => exact Or.inl (Nat.zero_le _)
  | succ k ih =>
    by_cases h : tkP t n k < n
    · have := tkS_next h
      have := tkP_p (t := t) (n := n) (k + 1)
      omega
    · have p0 := tkP_p (t := t) (n := n) k
      have e : tkS t n (k + 1) = n := by rw [tkS]; exact if_neg h
      have := tkP_p (t := t) (n := n) (k + 1)
      omega
theorem hN_lt {g : Nat → Nat} (h : ∀ k, k < 6 → g k < 32) : ∀ k, k ≤ 6 → hN g k < 32 ^ k := by
  intro k
  induction k with
  | zero => intro _; exact Nat.one_pos
  | succ k ih =>
    intro hk
    have := ih (by omega)
    have := h k (by omega)
    rw [hN, Nat.pow_succ]
    omega
theorem kw_le (v : Nat) : kw v ≤ 22 := by
  have : ∀ m i, i + m ≤ 111 → kwG v m i ≤ 22 := by
    intro m
    induction m with
    | zero => intro i _; exact Nat.le_refl _
    | succ m ih =>
      intro i hi
      have := ksT_f i (by omega)
      rw [kwG]
      repeat' split
      · omega
      · exact ih (i + 1) (by omega)
      · exact ih (i + 1) (by omega)
  exact this 111 0 (by omega)
theorem tK_le (k : Nat) : tK t n k ≤ 38 := by
  unfold tK tkK
  have := kw_le (pkN t (tkP t n k) (rn isL t n (tkP t n k) - tkP t n k))
  have := sgB_b t n (tkP t n k)
  repeat' split
  all_goals omega
end Sb
