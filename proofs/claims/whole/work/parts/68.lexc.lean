/-! the class's lexer -/
def TB (σ : MS) (t : Nat → Nat) (n : Nat) : Prop := ∀ i, i < n → σ.1 12 0 i = nI (t i) ∧ t i < 256
def TKS (σ : MS) (t : Nat → Nat) (n K : Nat) : Prop := ∀ k, k < K → σ.1 13 0 k = nI (tK t n k) ∧ σ.1 14 0 k = nI (tkP t n k) ∧ σ.1 15 0 k = nI (tV t n k)
def tkL : List (Nat × Nat) := [(13, 0), (14, 0), (15, 0), (2, 0)]
theorem nI_or (a b : Nat) : nI a ||| nI b = nI (a ||| b) := bt_ext (fun k hk => by rw [bt_or, bt_nI hk, bt_nI hk, bt_nI hk, Nat.testBit_or])
theorem or_add {v w i : Nat} (hv : v % 2 ^ i = 0) (hw : w < 2 ^ i) : v ||| w = v + w := by
  obtain ⟨a, ha⟩ := Nat.dvd_of_mod_eq_zero hv
  rw [ha, ← Nat.two_pow_add_eq_or_of_lt hw]
section Sc
variable {d : Nat} {Q : Option MV → MS → Prop} {σ : MS} {t : Nat → Nat} {n p : Nat}
theorem pk_step (hg : ∀ i, p ≤ i → i < p + n → isL (t i) = true) {j : Nat} (hj : j ≤ n) : pkN t p j < 2 ^ 30 ∧ (j < 6 → pkN t p j % 2 ^ (5 * (5 - j) + 5) = 0 ∧ pkN t p (j + 1) = pkN t p j + (t (p + j) - 96) * 2 ^ (5 * (5 - j))) ∧ (6 ≤ j → pkN t p (j + 1) = pkN t p j) := by
  have hb : ∀ k, k < min j 6 → (fun k => t (p + k) - 96) k < 32 := fun k hk => by
    have := hg (p + k) (by omega) (by omega)
    simp only [isL, decide_eq_true_eq] at this
    show t (p + k) - 96 < 32
    omega
  have hl : ∀ k, k ≤ min j 6 → hN (fun k => t (p + k) - 96) k < 32 ^ k := by
    intro k
    induction k with
    | zero => intro _; exact Nat.one_pos
    | succ k ih =>
      intro hk
      have := ih (by omega)
      have hbk : t (p + k) - 96 < 32 := hb k (by omega)
      rw [hN, Nat.pow_succ]
      show _ * 32 + (t (p + k) - 96) < _
      omega
  refine ⟨?_, fun h => ?_, fun h => ?_⟩
  · have := hl (min j 6) (Nat.le_refl _)
    unfold pkN
    have e : 32 ^ (min j 6) * 2 ^ (5 * (6 - min j 6)) = 2 ^ 30 := by
      rw [show (32 : Nat) = 2 ^ 5 from rfl, ← Nat.pow_mul, ← Nat.pow_add]
      congr 1
      omega
    rw [← e]
    exact Nat.mul_lt_mul_of_pos_right this (Nat.two_pow_pos _)
  · unfold pkN
    rw [show min j 6 = j by omega, show min (j + 1) 6 = j + 1 by omega, hN]
    refine ⟨by rw [show 5 * (5 - j) + 5 = 5 * (6 - j) by omega]; exact Nat.mul_mod_left _ _, ?_⟩
    rw [show 5 * (6 - j) = 5 + 5 * (6 - (j + 1)) by omega, Nat.pow_add, show 5 * (5 - j) = 5 * (6 - (j + 1)) by omega, Nat.add_mul, Nat.mul_assoc]
  · unfold pkN
    rw [show min j 6 = 6 by omega, show min (j + 1) 6 = 6 by omega]
theorem S_isLetter {c : Nat} (hc : c < 256) (H1 : isL c = true → Q (some (iV 1)) σ) (H0 : isL c = false → Q (some (iV 0)) σ) : R mj_OC d mX9_isLetter Q 0 [some (iV (nI c))] [] σ := by
  refine bX9_isLetter_0 ⟨fun z => H0 ?_, fun z => ⟨fun z2 => H0 ?_, fun z2 => H1 ?_⟩⟩
  · rw [show (97 : Int32) = nI 97 from rfl, nI_ltI (by omega) (by omega)] at z
    simp [isL]; omega
  · rw [show (122 : Int32) = nI 122 from rfl, nI_ltI (by omega) (by omega)] at z2
    simp [isL]; omega
  · rw [show (97 : Int32) = nI 97 from rfl, nI_ltI (by omega) (by omega)] at z
    rw [show (122 : Int32) = nI 122 from rfl, nI_ltI (by omega) (by omega)] at z2
    simp [isL]; omega
theorem S_isDigit {c : Nat} (hc : c < 256) (H1 : isD c = true → Q (some (iV 1)) σ) (H0 : isD c = false → Q (some (iV 0)) σ) : R mj_OC d mX9_isDigit Q 0 [some (iV (nI c))] [] σ := by
  refine bX9_isDigit_0 ⟨fun z => H0 ?_, fun z => ⟨fun z2 => H0 ?_, fun z2 => H1 ?_⟩⟩
  · rw [show (48 : Int32) = nI 48 from rfl, nI_ltI (by omega) (by omega)] at z
    simp [isD]; omega
  · rw [show (57 : Int32) = nI 57 from rfl, nI_ltI (by omega) (by omega)] at z2
    simp [isD]; omega
  · rw [show (48 : Int32) = nI 48 from rfl, nI_ltI (by omega) (by omega)] at z
    rw [show (57 : Int32) = nI 57 from rfl, nI_ltI (by omega) (by omega)] at z2
    simp [isD]; omega
theorem S_packed {v j c : Nat} (hc : 97 ≤ c ∧ c ≤ 122) (hj : j ≤ 2000) (hv : j < 6 → v % 2 ^ (5 * (5 - j) + 5) = 0) (H1 : 6 ≤ j → Q (some (iV (nI v))) σ) (H0 : j < 6 → Q (some (iV (nI (v + (c - 96) * 2 ^ (5 * (5 - j)))))) σ) : R mj_OC d mX9_packed Q 0 [some (iV (nI v)), some (iV (nI j)), some (iV (nI c))] [] σ := by
  refine bX9_packed_0 ⟨fun z => H1 ?_, fun z => ?_⟩
  · rw [show (6 : Int32) = nI 6 from rfl, nI_le2 (by omega) (by omega)] at z; exact z
  · rw [show (6 : Int32) = nI 6 from rfl, nI_le2 (by omega) (by omega)] at z
    have e1 : nI c - (97 : Int32) + 1 = nI (c - 96) := by
      rw [show (97 : Int32) = nI 97 from rfl, pk_sub (by omega), nI_1]; congr 1; omega
    have e2 : (5 : Int32) * ((5 : Int32) - nI j) = nI (5 * (5 - j)) := by
      rw [show (5 : Int32) = nI 5 from rfl, pk_sub (by omega), pk_mul]
    have p2 : 2 ^ (5 * (5 - j)) ≤ 2 ^ 25 := Nat.pow_le_pow_right (by omega) (by omega)
    have mb : (c - 96) * 2 ^ (5 * (5 - j)) ≤ 26 * 2 ^ 25 := Nat.mul_le_mul (by omega) p2
    have lt : (c - 96) * 2 ^ (5 * (5 - j)) < 2 ^ (5 * (5 - j) + 5) := by
      rw [Nat.pow_add, Nat.mul_comm]
      exact Nat.mul_lt_mul_of_pos_left (by omega) (Nat.two_pow_pos _)
    rw [e1, e2, pk_shlN (nI (5 * (5 - j)) &&& 31) (5 * (5 - j)) (sh_k _ (by omega)) (by omega), nI_or, or_add (hv (by omega)) lt]
    exact H0 (by omega)
theorem S_kindOfWord {v : Nat} (hv : v < 2 ^ 30) (H : Q (some (iV (nI (kw v)))) σ) : R mj_OC (d + 1 + 1 + 1 + 1) mX9_kindOfWord Q 0 [some (iV (nI v)), none, none, none, none] [] σ := by
  have L : ∀ (r i : Nat), i + r = 111 → Q (some (iV (nI (kwG v r i)))) σ → R mj_OC (d + 1 + 1 + 1 + 1) mX9_kindOfWord Q 9 [some (iV (nI v)), some (iV (nI (ksT i).1)), some (iV (nI (ksT i).2.1)), some (iV (nI (ksT i).2.2)), some (iV (nI i))] [] σ := by
    intro r
    induction r with
    | zero =>
      intro i hi H
      obtain rfl : i = 111 := by omega
      exact bX9_kindOfWord_9 (J_length (Or.inl rfl) (bX9_kindOfWord_16 ⟨fun _ => H, fun z => absurd (Int32.le_refl _) z⟩))
    | succ r ih =>
      intro i hi H
      have f := ksT_f i (by omega)
      have w := wl_mj i (by omega)
      rw [kwG] at H
      refine bX9_kindOfWord_9 (J_length (Or.inl rfl) (bX9_kindOfWord_16 ⟨fun z => ?_, fun _ => J_charAt (Or.inl rfl) (show i < 111 by omega) (bX9_kindOfWord_26 ⟨fun z => ⟨fun z2 => ?_, fun z2 => ?_⟩, fun z => ?_⟩)⟩))
      · rw [nI_le2 (by omega) (by omega)] at z; omega
      · rw [show (32 : Int32) = nI 32 from rfl, nI_inj (by omega) (by omega)] at z
        rw [nI_eq (by omega) (by omega)] at z2
        rw [if_pos z, if_neg z2] at H
        have := ih (i + 1) (by omega) H
        rw [ksT, if_pos z] at this
        rw [nI_1, nI_1]; exact this
      · rw [show (32 : Int32) = nI 32 from rfl, nI_inj (by omega) (by omega)] at z
        rw [nI_eq (by omega) (by omega)] at z2
        rw [if_pos z, if_pos z2] at H; exact H
      · rw [show (32 : Int32) = nI 32 from rfl, nI_inj (by omega) (by omega)] at z
        rw [if_neg z] at H
        have lt := f.1.resolve_left z
        refine J_charAt (Or.inl rfl) (show i < 111 by omega) (bX9_kindOfWord_43 ?_)
        rw [pk_sub f.2.1]
        refine S_packed (j := i - (ksT i).2.1) ⟨lt.1, lt.2.1⟩ (by omega) (fun _ => f.2.2.2.2.resolve_left z) (fun h => by omega) (fun _ => bX9_kindOfWord_46 ?_)
        rw [nI_1]
        have := ih (i + 1) (by omega) H
        rw [ksT, if_neg z] at this
        exact this
  exact bX9_kindOfWord_0 (L 111 0 rfl H)
theorem S_tadd {K k pl v : Nat} (hK : K ≤ 700) (h5 : σ.1 2 0 5 = nI K) (H : ∀ τ : MS, SB tkL σ τ → τ.1 2 0 5 = nI (K + 1) → (∀ j, j ≠ 5 → τ.1 2 0 j = σ.1 2 0 j) → (∀ j, j ≠ K → τ.1 13 0 j = σ.1 13 0 j ∧ τ.1 14 0 j = σ.1 14 0 j ∧ τ.1 15 0 j = σ.1 15 0 j) → τ.1 13 0 K = nI k ∧ τ.1 14 0 K = nI pl ∧ τ.1 15 0 K = nI v → Q none τ) : R mj_OC d mX9_add Q 0 [some (rV 2 0), some (iV (nI k)), some (iV (nI pl)), some (iV (nI v))] [] σ := by
  refine bX9_add_0 ⟨fun z => ?_, fun _ => ?_⟩
  · rw [h5, show (700 : Int32) = nI 700 from rfl, nI_ltI (by omega) (by omega)] at z; omega
  · rw [h5, nI_clamp (by omega), nI_1]
    refine ⟨vin (show K < 701 by omega) (Nat.le_refl _) (by decide), H _ ((((SB.uI (by simp [tkL])).tr (SB.uI (by simp [tkL]))).tr (SB.uI (by simp [tkL]))).tr (SB.uI (by simp [tkL]))) (by simp [uI]) (fun j hj => by simp [uI, hj]) (fun j hj => by simp [uI, hj]) (by simp [uI])⟩
theorem TB.keep {τ : MS} (h : TB σ t n) (hs : SB tkL σ τ) : TB τ t n := fun i hi => by rw [hs.i (by decide)]; exact h i hi
/-- behind a token more -/
def TA (σ τ : MS) (t : Nat → Nat) (n K : Nat) : Prop := SB tkL σ τ ∧ τ.1 2 0 5 = nI (K + 1) ∧ (∀ j, j ≠ 5 → τ.1 2 0 j = σ.1 2 0 j) ∧ TKS τ t n (K + 1)
theorem S_taddT {K pl v k : Nat} (hK : K ≤ 700) (h5 : σ.1 2 0 5 = nI K) (hT : TKS σ t n K) (e1 : k = tK t n K) (e2 : pl = tkP t n K) (e3 : v = tV t n K) (H : ∀ τ : MS, TA σ τ t n K → Q none τ) : R mj_OC d mX9_add Q 0 [some (rV 2 0), some (iV (nI k)), some (iV (nI pl)), some (iV (nI v))] [] σ := by
  subst e1; subst e2; subst e3
  refine S_tadd hK h5 (fun τ h1 h2 h3 h4 h6 => H τ ⟨h1, h2, h3, fun j hj => ?_⟩)
  by_cases e : j = K
  · subst e; exact h6
  · have := h4 j e
    rw [this.1, this.2.1, this.2.2]
    exact hT j (by omega)
theorem S_addWord {K : Nat} (hn : n ≤ 700) (hb : TB σ t n) (hK : K ≤ 700) (h5 : σ.1 2 0 5 = nI K) (hT : TKS σ t n K) (hp : tkP t n K < n) (hl : isL (t (tkP t n K)) = true) (H : ∀ τ : MS, TA σ τ t n K → Q (some (iV (nI (tkS t n (K + 1))))) τ) : R mj_OC (d + 1 + 1 + 1 + 1 + 1) mX9_addWord Q 0 [some (rV 2 0), some (iV (nI (tkP t n K))), some (iV (nI n)), none, none] [] σ := by
  have eS : tkS t n (K + 1) = rn isL t n (tkP t n K) := by rw [(tkS_next hp).1, tkE, if_pos hl]
  have rp := rn_p (P := isL) (t := t) (n := n) (p := tkP t n K) (by omega)
  rw [eS] at H
  generalize hP : tkP t n K = P at *
  generalize hq : rn isL t n P = q0 at *
  have ek : tK t n K = if 6 < q0 - P then 38 else kw (pkN t P (q0 - P)) := by unfold tK tkK; rw [hP, if_pos hp, if_pos hl, hq]
  have ev : tV t n K = pkN t P (q0 - P) := by unfold tV tkV; rw [hP, if_pos hp, if_pos hl, hq]
  have st : ∀ j, j ≤ q0 - P → _ := fun j hj => pk_step (t := t) (p := P) (n := q0 - P) (fun i h1 h2 => rp.2.2.1 i h1 (by omega)) hj
  have fin : ((((nI q0) - (nI P)) ≤ (6 : Int32) → R mj_OC (d + 1 + 1 + 1 + 1) mX9_kindOfWord (fun r σ' => R mj_OC (d + 1 + 1 + 1 + 1 + 1) mX9_addWord Q 65 [some (rV 2 0), some (iV (nI P)), some (iV (nI n)), some (iV (nI (pkN t P (q0 - P)))), some (iV (nI q0))] (r.toList ++ [rV 2 0]) σ') 0 [some (iV (nI (pkN t P (q0 - P)))), none, none, none, none] [] σ) ∧ (¬ ((nI q0) - (nI P)) ≤ (6 : Int32) → R mj_OC (d + 1 + 1 + 1 + 1) mX9_add (fun r σ' => R mj_OC (d + 1 + 1 + 1 + 1 + 1) mX9_addWord Q 70 [some (rV 2 0), some (iV (nI P)), some (iV (nI n)), some (iV (nI (pkN t P (q0 - P)))), some (iV (nI q0))] (r.toList ++ []) σ') 0 [some (rV 2 0), some (iV (38 : Int32)), some (iV (nI P)), some (iV (nI (pkN t P (q0 - P))))] [] σ)) := by
    rw [pk_sub rp.1, show (6 : Int32) = nI 6 from rfl, nI_le2 (by omega) (by omega)]
    refine ⟨fun z => S_kindOfWord (st _ (Nat.le_refl _)).1 (bX9_addWord_65 (S_taddT hK h5 hT (by rw [ek, if_neg (by omega)]) hP.symm ev.symm (fun τ h1 => bX9_addWord_70 (H τ h1)))), fun z => ?_⟩
    exact S_taddT (k := 38) hK h5 hT (by rw [ek, if_pos (by omega)]) hP.symm ev.symm (fun τ h1 => bX9_addWord_70 (H τ h1))
  have L : ∀ (r q : Nat), q + r = q0 → P ≤ q → R mj_OC (d + 1 + 1 + 1 + 1 + 1) mX9_addWord Q 5 [some (rV 2 0), some (iV (nI P)), some (iV (nI n)), some (iV (nI (pkN t P (q - P)))), some (iV (nI q))] [] σ := by
    intro r
    induction r with
    | zero =>
      intro q hqq hPq
      obtain rfl : q = q0 := by omega
      refine bX9_addWord_5 ⟨fun _ => fin, fun z => ?_⟩
      rw [nI_le2 (by omega) (by omega)] at z
      have lt : q < n := by omega
      rw [cl lt (by omega), (hb q lt).1]
      refine ⟨vin lt (by omega) (by decide), S_isLetter (hb q lt).2 (fun g => ?_) (fun g => bX9_addWord_21 ⟨fun _ => fin, fun z => absurd rfl z⟩)⟩
      rw [rp.2.2.2 lt] at g; exact absurd g (by decide)
    | succ r ih =>
      intro q hqq hPq
      have lt : q < n := by omega
      have gl := rp.2.2.1 q hPq (by omega)
      have lb : 97 ≤ t q ∧ t q ≤ 122 := by simpa [isL] using gl
      refine bX9_addWord_5 ⟨fun z => ?_, fun _ => ?_⟩
      · rw [nI_le2 (by omega) (by omega)] at z; omega
      rw [cl lt (by omega), (hb q lt).1]
      refine ⟨vin lt (by omega) (by decide), S_isLetter (hb q lt).2 (fun g => bX9_addWord_21 ⟨fun z => absurd z (by decide), fun _ => ?_⟩) (fun g => by rw [gl] at g; exact absurd g (by decide))⟩
      rw [cl lt (by omega), (hb q lt).1, pk_sub hPq]
      have s1 := st (q - P) (by omega)
      have eq1 : P + (q - P) = q := by omega
      rw [eq1] at s1
      have nx := ih (q + 1) (by omega) (by omega)
      rw [show q + 1 - P = (q - P) + 1 by omega] at nx
      refine ⟨vin lt (by omega) (by decide), S_packed lb (by omega) (fun h => (s1.2.1 h).1) (fun h => bX9_addWord_39 ?_) (fun h => bX9_addWord_39 ?_)⟩
      · rw [nI_1]; rw [s1.2.2 h] at nx; exact nx
      · rw [nI_1]; rw [(s1.2.1 h).2] at nx; exact nx
  have := L (q0 - P) P (by omega) (Nat.le_refl _)
  rw [Nat.sub_self, show pkN t P 0 = 0 by simp [pkN, hN]] at this
  exact bX9_addWord_0 this
end Sc
