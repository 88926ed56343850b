/-! the reference's lexer -/
def MBy (σ : MS) (t : Nat → Nat) (n : Nat) : Prop := ∀ i, i < n → σ.1 46 0 i = nI (t i) ∧ t i < 256
def KM (σ τ : MS) : Prop := SB [(45, 0)] σ τ ∧ ∀ j, ¬ (27 ≤ j ∧ j ≤ 30) → τ.1 45 0 j = σ.1 45 0 j
theorem KM.rfl {σ : MS} : KM σ σ := ⟨SB.rf, fun _ _ => Eq.refl _⟩
theorem KM.tr {σ τ υ : MS} (a : KM σ τ) (b : KM τ υ) : KM σ υ := ⟨a.1.tr b.1, fun j hj => (b.2 j hj).trans (a.2 j hj)⟩
theorem KM.u {σ : MS} {j : Nat} {v : Int32} (h : 27 ≤ j ∧ j ≤ 30) : KM σ (uI σ 45 0 j v) := ⟨SB.uI (by simp), fun i hi => by simp [uI]; intro e; omega⟩
theorem MBy.keep {σ τ : MS} {t : Nat → Nat} {n : Nat} (h : MBy σ t n) (hs : KM σ τ) : MBy τ t n := fun i hi => by rw [hs.1.i (by decide)]; exact h i hi
theorem uI_sq {σ : MS} {k i j : Nat} {a c : Int32} : uI (uI σ k i j a) k i j c = uI σ k i j c := by
  unfold uI
  refine congrArg (·, σ.2) ?_
  funext k' i' j'
  show (if k' = k ∧ i' = i ∧ j' = j then c else (if k' = k ∧ i' = i ∧ j' = j then a else σ.1 k' i' j')) = _
  split <;> rfl
def hE (t : Nat → Nat) (n q : Nat) : Int32 := if q < n then nI (t q) else -1
def sgV (k : Nat) : Nat := [59, 40, 41, 43, 45, 42, 47, 61, 60, 62, 256, 258, 257].getD (k - 24) 0
/-- a token in the reference's cells -/
def MTk (σ : MS) (t : Nat → Nat) (n k : Nat) : Prop :=
  σ.1 45 0 27 = nI (tkS t n (k + 1)) ∧ σ.1 45 0 28 = nI (tkP t n k) ∧
  ((tK t n k < 22 ∧ σ.1 45 0 29 = 0 ∧ σ.1 45 0 30 = nI (tK t n k)) ∨ (tK t n k = 22 ∧ σ.1 45 0 29 = 1 ∧ σ.1 45 0 30 = nI (tV t n k)) ∨ (tK t n k = 23 ∧ σ.1 45 0 29 = 2 ∧ ((tV t n k ≤ 99999 ∧ σ.1 45 0 30 = nI (tV t n k)) ∨ (99999 < tV t n k ∧ ∃ w, 99999 < w ∧ w < 2000000 ∧ σ.1 45 0 30 = nI w))) ∨ (24 ≤ tK t n k ∧ tK t n k < 37 ∧ σ.1 45 0 29 = 3 ∧ σ.1 45 0 30 = nI (sgV (tK t n k))) ∨ (tK t n k = 37 ∧ σ.1 45 0 29 = 4) ∨ (tK t n k = 38 ∧ σ.1 45 0 29 = 5))
def dgN (v k : Nat) : Nat := v / 32 ^ (5 - k) % 32
theorem hN_sh {g : Nat → Nat} {l : Nat} (h : ∀ k, l ≤ k → g k = 0) : ∀ j, l ≤ j → hN g j = hN g l * 2 ^ (5 * (j - l)) := by
  intro j
  induction j with
  | zero => intro hl; obtain rfl : l = 0 := by omega
            simp
  | succ j ih =>
    intro hl
    by_cases e : l = j + 1
    · subst e; simp
    · rw [hN, ih (by omega), h j (by omega), show 5 * (j + 1 - l) = 5 * (j - l) + 5 by omega, Nat.pow_add, ← Nat.mul_assoc]
      rfl
theorem hN_cg {g f : Nat → Nat} : ∀ j, (∀ k, k < j → g k = f k) → hN g j = hN f j := by
  intro j
  induction j with
  | zero => intro _; rfl
  | succ j ih => intro h; rw [hN, hN, ih (fun k hk => h k (by omega)), h j (by omega)]
theorem pkN_6 {t : Nat → Nat} {p l : Nat} (hl : l ≤ 6) : pkN t p l = hN (fun k => if k < l then t (p + k) - 96 else 0) 6 := by
  unfold pkN
  rw [show min l 6 = l by omega, hN_sh (l := l) (fun k hk => if_neg (by omega)) 6 hl]
  congr 1
  exact hN_cg l (fun k hk => by simp [hk])
theorem dg_hN {g : Nat → Nat} (h : ∀ k, k < 6 → g k < 32) : ∀ k, k < 6 → dgN (hN g 6) k = g k := by
  have h0 := h 0 (by omega)
  have h1 := h 1 (by omega)
  have h2 := h 2 (by omega)
  have h3 := h 3 (by omega)
  have h4 := h 4 (by omega)
  have h5 := h 5 (by omega)
  intro k hk
  unfold dgN
  simp only [hN]
  rcases (show k = 0 ∨ k = 1 ∨ k = 2 ∨ k = 3 ∨ k = 4 ∨ k = 5 by omega) with rfl | rfl | rfl | rfl | rfl | rfl
  all_goals simp only [show 32 ^ (5 - 0) = 33554432 from rfl, show 32 ^ (5 - 1) = 1048576 from rfl, show 32 ^ (5 - 2) = 32768 from rfl, show 32 ^ (5 - 3) = 1024 from rfl, show 32 ^ (5 - 4) = 32 from rfl, show 32 ^ (5 - 5) = 1 from rfl]
  all_goals omega
/-- the words' ends -/
theorem ws_f : ∀ i, i < 111 → wl i = 32 → (ksT i).2.1 + 1 ≤ i ∧ i - (ksT i).2.1 ≤ 6 ∧ (∀ k, k < 6 → dgN (ksT i).2.2 k = if k < i - (ksT i).2.1 then wl ((ksT i).2.1 + k) - 96 else 0) ∧ (∀ x, x < i → (ksT i).2.1 ≤ x → wl x ≠ 32) ∧ (ksT (ksT i).2.1).1 = (ksT i).1 ∧ (ksT (i + 1)).2.1 = i + 1 ∧ (ksT i).2.2 = hN (dgN (ksT i).2.2) 6 := by
  have h : ∀ i : Fin 111, wl i.val = 32 → (ksT i.val).2.1 + 1 ≤ i.val ∧ i.val - (ksT i.val).2.1 ≤ 6 ∧ (∀ k, k < 6 → dgN (ksT i.val).2.2 k = if k < i.val - (ksT i.val).2.1 then wl ((ksT i.val).2.1 + k) - 96 else 0) ∧ (∀ x, x < i.val → (ksT i.val).2.1 ≤ x → wl x ≠ 32) ∧ (ksT (ksT i.val).2.1).1 = (ksT i.val).1 ∧ (ksT (i.val + 1)).2.1 = i.val + 1 ∧ (ksT i.val).2.2 = hN (dgN (ksT i.val).2.2) 6 := by decide +kernel
  exact fun i hi => h ⟨i, hi⟩
/-- each word's start has its end -/
theorem ws_e : ∀ s, s < 111 → (ksT s).2.1 = s → ∃ i, i < 111 ∧ s < i ∧ wl i = 32 ∧ (ksT i).2.1 = s := by
  have h : ∀ s : Fin 111, (ksT s.val).2.1 = s.val → ∃ i : Fin 111, s.val < i.val ∧ wl i.val = 32 ∧ (ksT i.val).2.1 = s.val := by decide +kernel
  intro s hs he
  obtain ⟨i, h1, h2, h3⟩ := h ⟨s, hs⟩ he
  exact ⟨i.val, i.isLt, h1, h2, h3⟩
theorem word_eq {t : Nat → Nat} {P l i : Nat} (hl : l ≤ 6) (hg : ∀ k, k < l → 97 ≤ t (P + k) ∧ t (P + k) ≤ 122) (hi : i < 111) (hw : wl i = 32) : (ksT i).2.2 = pkN t P l ↔ l = i - (ksT i).2.1 ∧ ∀ k, k < l → t (P + k) = wl ((ksT i).2.1 + k) := by
  have f := ws_f i hi hw
  have lw : ∀ k, k < i - (ksT i).2.1 → 97 ≤ wl ((ksT i).2.1 + k) ∧ wl ((ksT i).2.1 + k) ≤ 122 := fun k hk => by
    have := (ksT_f ((ksT i).2.1 + k) (by omega)).1
    have := f.2.2.2.1 ((ksT i).2.1 + k) (by omega) (by omega)
    omega
  have b : ∀ k, k < 6 → (fun k => if k < l then t (P + k) - 96 else 0) k < 32 := fun k hk => by
    by_cases g : k < l
    · have := hg k g
      simp only [g, if_true]; omega
    · simp only [g, if_false]; omega
  have dg := dg_hN b
  constructor
  · intro e
    rw [pkN_6 hl] at e
    rw [← e] at dg
    have dd : ∀ k, k < 6 → (if k < i - (ksT i).2.1 then wl ((ksT i).2.1 + k) - 96 else 0) = if k < l then t (P + k) - 96 else 0 := fun k hk => by rw [← f.2.2.1 k hk, dg k hk]
    have el : l = i - (ksT i).2.1 := by
      rcases Nat.lt_trichotomy l (i - (ksT i).2.1) with g | g | g
      · have := dd l (by omega)
        rw [if_pos g, if_neg (by omega)] at this
        have := lw l g
        omega
      · exact g
      · have := dd (i - (ksT i).2.1) (by omega)
        rw [if_neg (by omega), if_pos g] at this
        have := hg _ g
        omega
    refine ⟨el, fun k hk => ?_⟩
    have := dd k (by omega)
    rw [if_pos (by omega), if_pos hk] at this
    have := hg k hk
    have := lw k (by omega)
    omega
  · rintro ⟨el, e⟩
    rw [pkN_6 hl, f.2.2.2.2.2.2]
    refine hN_cg 6 (fun k hk => ?_)
    rw [f.2.2.1 k hk]
    by_cases g : k < l
    · rw [if_pos (by omega), if_pos g, e k g]
    · rw [if_neg (by omega), if_neg g]
theorem kw_skip {v : Nat} : ∀ (m x i : Nat), x + m = i → i ≤ 111 → (∀ y, x ≤ y → y < i → wl y ≠ 32) → kwG v (111 - x) x = kwG v (111 - i) i := by
  intro m
  induction m with
  | zero => intro x i h _ _; obtain rfl : x = i := by omega
            rfl
  | succ m ih =>
    intro x i h hi hy
    rw [show 111 - x = (111 - (x + 1)) + 1 by omega, kwG, if_neg (hy x (Nat.le_refl _) (by omega))]
    exact ih (x + 1) i (by omega) hi (fun y h1 h2 => hy y (by omega) h2)
section Me
variable {d : Nat} {Q : Option MV → MS → Prop} {σ : MS} {t : Nat → Nat} {n : Nat}
theorem M_here {q : Nat} (hn : n ≤ 700) (hq : q ≤ n) (hb : MBy σ t n) (h26 : σ.1 45 0 26 = nI n) (h27 : σ.1 45 0 27 = nI q) (H : Q (some (iV (hE t n q))) σ) : R mj_OM d mX11_here Q 0 [some (rV 45 0)] [] σ := by
  unfold hE at H
  refine bX11_here_0 ⟨fun z => ?_, fun z => ?_⟩
  · rw [h26, h27, nI_le2 (by omega) (by omega)] at z
    rw [if_neg (by omega)] at H; exact H
  · rw [h26, h27, nI_le2 (by omega) (by omega)] at z
    have lt : q < n := by omega
    rw [h27, cl lt (by omega), (hb q lt).1]
    rw [if_pos lt] at H
    exact ⟨vin lt (by omega) (by decide), H⟩
theorem hE_eq {q k : Nat} (hb : MBy σ t n) (hk : k < 256) : hE t n q = nI k ↔ q < n ∧ t q = k := by
  unfold hE
  by_cases g : q < n
  · have := (hb q g).2
    rw [if_pos g, nI_inj (by omega) (by omega)]
    exact ⟨fun e => ⟨g, e⟩, fun e => e.2⟩
  · rw [if_neg g]
    refine ⟨fun e => absurd e (fun e => absurd (nI_pos (n := k) (by omega)) (by rw [← e]; decide)), fun e => absurd e.1 g⟩
theorem M_isSmall {q : Nat} (hb : MBy σ t n) (H1 : q < n → isL (t q) = true → Q (some (iV 1)) σ) (H0 : (q < n → isL (t q) = false) → Q (some (iV 0)) σ) : R mj_OM d mX11_isSmall Q 0 [some (iV (hE t n q))] [] σ := by
  by_cases g : q < n
  · have hc := (hb q g).2
    have e : hE t n q = nI (t q) := if_pos g
    rw [e]
    refine bX11_isSmall_0 ⟨fun z => H0 (fun _ => ?_), fun z => ⟨fun z2 => H0 (fun _ => ?_), fun z2 => H1 g ?_⟩⟩
    · rw [show (97 : Int32) = nI 97 from rfl, nI_ltI (by omega) (by omega)] at z
      simp [isL]; omega
    · rw [show (122 : Int32) = nI 122 from rfl, nI_ltI (by omega) (by omega)] at z2
      simp [isL]; omega
    · rw [show (97 : Int32) = nI 97 from rfl, nI_ltI (by omega) (by omega)] at z
      rw [show (122 : Int32) = nI 122 from rfl, nI_ltI (by omega) (by omega)] at z2
      simp [isL]; omega
  · rw [show hE t n q = -1 from if_neg g]
    exact bX11_isSmall_0 ⟨fun _ => H0 (fun z => absurd z g), fun z => absurd (by decide) z⟩
theorem M_isDigit {q : Nat} (hb : MBy σ t n) (H1 : q < n → isD (t q) = true → Q (some (iV 1)) σ) (H0 : (q < n → isD (t q) = false) → Q (some (iV 0)) σ) : R mj_OM d mX11_isDigit Q 0 [some (iV (hE t n q))] [] σ := by
  by_cases g : q < n
  · have hc := (hb q g).2
    have e : hE t n q = nI (t q) := if_pos g
    rw [e]
    refine bX11_isDigit_0 ⟨fun z => H0 (fun _ => ?_), fun z => ⟨fun z2 => H0 (fun _ => ?_), fun z2 => H1 g ?_⟩⟩
    · rw [show (48 : Int32) = nI 48 from rfl, nI_ltI (by omega) (by omega)] at z
      simp [isD]; omega
    · rw [show (57 : Int32) = nI 57 from rfl, nI_ltI (by omega) (by omega)] at z2
      simp [isD]; omega
    · rw [show (48 : Int32) = nI 48 from rfl, nI_ltI (by omega) (by omega)] at z
      rw [show (57 : Int32) = nI 57 from rfl, nI_ltI (by omega) (by omega)] at z2
      simp [isD]; omega
  · rw [show hE t n q = -1 from if_neg g]
    exact bX11_isDigit_0 ⟨fun _ => H0 (fun z => absurd z g), fun z => absurd (by decide) z⟩
/-- the word's number, or 22 -/
def kwM (t : Nat → Nat) (P l : Nat) : Nat := if l ≤ 6 then kw (pkN t P l) else 22
theorem M_word {P q0 : Nat} (hn : n ≤ 700) (hb : MBy σ t n) (hP : P < q0) (hq : q0 ≤ n) (hg : ∀ k, k < q0 - P → 97 ≤ t (P + k) ∧ t (P + k) ≤ 122) (h27 : σ.1 45 0 27 = nI q0) (h28 : σ.1 45 0 28 = nI P) (H : Q (some (iV (if kwM t P (q0 - P) = 22 then -1 else nI (kwM t P (q0 - P))))) σ) : R mj_OM (d + 1 + 1 + 1 + 1) mX11_word Q 0 [some (rV 45 0), none, none, none] [] σ := by
  have L : ∀ (m s : Nat), 111 - s ≤ m → s ≤ 111 → (ksT s).2.1 = s → (if q0 - P ≤ 6 then kwG (pkN t P (q0 - P)) (111 - s) s else 22) = kwM t P (q0 - P) → R mj_OM (d + 1 + 1 + 1 + 1) mX11_word Q 4 [some (rV 45 0), some (iV (nI (ksT s).1)), some (iV (nI s)), none] [] σ := by
    intro m
    induction m with
    | zero =>
      intro s hm hs h1 he
      obtain rfl : s = 111 := by omega
      refine bX11_word_4 (J_length (Or.inr rfl) (bX11_word_10 ⟨fun _ => ?_, fun z => absurd (Int32.le_refl _) z⟩))
      have e22 : kwM t P (q0 - P) = 22 := by
        rw [← he]; split <;> rfl
      rw [if_pos e22] at H
      exact H
    | succ m ih =>
      intro s hm hs h1 he
      rcases Nat.lt_or_ge s 111 with ls | gs
      · obtain ⟨i, hi, hsi, hwi, hsi2⟩ := ws_e s ls h1
        have f := ws_f i hi hwi
        rw [hsi2] at f
        have ew := word_eq (t := t) (P := P) (l := q0 - P) (i := i)
        rw [hsi2] at ew
        have sk := kw_skip (v := pkN t P (q0 - P)) (i - s) s i (by omega) (by omega) (fun y h1 h2 => f.2.2.2.1 y h2 h1)
        rw [sk, show 111 - i = (111 - (i + 1)) + 1 by omega, kwG, if_pos hwi] at he
        -- behind a word that is another
        have nx : ¬ (q0 - P = i - s ∧ ∀ k, k < q0 - P → t (P + k) = wl (s + k)) → ∀ x3 : Int32, R mj_OM (d + 1 + 1 + 1 + 1) mX11_word Q 97 [some (rV 45 0), some (iV (nI (ksT s).1)), some (iV (nI s)), some (iV x3)] [] σ := by
          intro hne x3
          have he2 : (if q0 - P ≤ 6 then kwG (pkN t P (q0 - P)) (111 - (i + 1)) (i + 1) else 22) = kwM t P (q0 - P) := by
            rw [← he]
            by_cases g : q0 - P ≤ 6
            · rw [if_pos g, if_pos g, if_neg (fun z => hne ((ew g hg hi hwi).mp z))]
            · rw [if_neg g, if_neg g]
          have go : ∀ (r x : Nat), x + r = i → s ≤ x → R mj_OM (d + 1 + 1 + 1 + 1) mX11_word Q 97 [some (rV 45 0), some (iV (nI (ksT s).1)), some (iV (nI x)), some (iV x3)] [] σ := by
            intro r
            induction r with
            | zero =>
              intro x hx hsx
              obtain rfl : x = i := by omega
              refine bX11_word_97 (J_charAt (Or.inr rfl) hi (bX11_word_103 ⟨fun _ => ?_, fun z => absurd (by rw [hwi]; rfl) z⟩))
              have := ih (x + 1) (by omega) (by omega) f.2.2.2.2.2.1 he2
              rw [ksT, if_pos hwi, ← f.2.2.2.2.1] at this
              rw [nI_1, nI_1]
              exact this
            | succ r ihr =>
              intro x hx hsx
              have nb := f.2.2.2.1 x (by omega) hsx
              have := (wl_mj x (by omega)).2.2
              refine bX11_word_97 (J_charAt (Or.inr rfl) (show x < 111 by omega) (bX11_word_103 ⟨fun z => ?_, fun z => ?_⟩))
              · rw [show (32 : Int32) = nI 32 from rfl, nI_inj (by omega) (by omega)] at z; exact absurd z nb
              · rw [nI_1]; exact ihr (x + 1) (by omega) (by omega)
          exact go (i - s) s (by omega) (Nat.le_refl _)
        have inn : ∀ (r j : Nat), j + r = i - s → j ≤ q0 - P → (∀ k, k < j → t (P + k) = wl (s + k)) → R mj_OM (d + 1 + 1 + 1 + 1) mX11_word Q 15 [some (rV 45 0), some (iV (nI (ksT s).1)), some (iV (nI s)), some (iV (nI j))] [] σ := by
          intro r
          induction r with
          | zero =>
            intro j hj hjl hall
            obtain rfl : j = i - s := by omega
            have ei : s + (i - s) = i := by omega
            refine bX11_word_15 ?_
            rw [nI_add, ei]
            refine J_charAt (Or.inr rfl) hi (bX11_word_23 ⟨fun _ => ?_, fun z => absurd (by rw [hwi]; rfl) z⟩)
            rw [nI_add, ei]
            refine J_charAt (Or.inr rfl) hi (bX11_word_77 ⟨fun z => absurd (by rw [hwi]; rfl) z, fun _ => ⟨fun z => ?_, fun z => ?_⟩⟩)
            · rw [h28, h27, nI_add, nI_inj (by omega) (by omega)] at z
              exact nx (fun e => z (by omega)) _
            · rw [h28, h27, nI_add, nI_inj (by omega) (by omega)] at z
              have l6 : q0 - P ≤ 6 := by omega
              have em := (ew l6 hg hi hwi).mpr ⟨by omega, fun k hk => hall k (by omega)⟩
              rw [if_pos l6, if_pos em] at he
              have lt := (ksT_f i hi).2.2.1
              rw [if_neg (by omega), ← he, ← f.2.2.2.2.1] at H
              exact H
          | succ r ihr =>
            intro j hj hjl hall
            have lx : s + j < 111 := by omega
            have nb := f.2.2.2.1 (s + j) (by omega) (by omega)
            have b1 := (wl_mj (s + j) lx).2.2
            have ne : ¬ nI (wl (s + j)) = (32 : Int32) := fun z => by
              rw [show (32 : Int32) = nI 32 from rfl, nI_inj (by omega) (by omega)] at z; exact nb z
            refine bX11_word_15 ?_
            rw [nI_add]
            refine J_charAt (Or.inr rfl) lx (bX11_word_23 ⟨fun z => absurd z ne, fun _ => ⟨fun z => ?_, fun z => ?_⟩⟩)
            · rw [h28, h27, nI_add, nI_le2 (by omega) (by omega)] at z
              rw [nI_add]
              exact J_charAt (Or.inr rfl) lx (bX11_word_77 ⟨fun _ => nx (fun e => by omega) _, fun z2 => absurd z2 ne⟩)
            · rw [h28, h27, nI_add, nI_le2 (by omega) (by omega)] at z
              have lt : P + j < n := by omega
              rw [h28, nI_add, cl lt (by omega), (hb _ lt).1]
              refine ⟨vin lt (by omega) (by decide), ?_⟩
              rw [nI_add]
              have b2 := (hb _ lt).2
              refine J_charAt (Or.inr rfl) lx (bX11_word_60 ⟨fun z2 => ?_, fun z2 => ?_⟩)
              · rw [nI_inj (by omega) (by omega)] at z2
                rw [nI_add]
                exact J_charAt (Or.inr rfl) lx (bX11_word_77 ⟨fun _ => nx (fun e => z2 (e.2 j (by omega))) _, fun z3 => absurd z3 ne⟩)
              · rw [nI_inj (by omega) (by omega)] at z2
                rw [nI_1]
                refine ihr (j + 1) (by omega) (by omega) (fun k hk => ?_)
                rcases Nat.lt_or_ge k j with l | l
                · exact hall k l
                · obtain rfl : k = j := by omega
                  exact z2
        refine bX11_word_4 (J_length (Or.inr rfl) (bX11_word_10 ⟨fun z => ?_, fun _ => inn (i - s) 0 (by omega) (Nat.zero_le _) (fun k hk => absurd hk (by omega))⟩))
        rw [nI_le2 (by omega) (by omega)] at z; omega
      · exact ih s (by omega) hs h1 he
  exact bX11_word_0 (L 111 0 (by omega) (by omega) rfl rfl)
theorem M_name {P q0 : Nat} (hn : n ≤ 700) (hb : MBy σ t n) (hP : P < q0) (hq : q0 ≤ n) (h6 : q0 - P ≤ 6) (hg : ∀ k, k < q0 - P → 97 ≤ t (P + k) ∧ t (P + k) ≤ 122) (h27 : σ.1 45 0 27 = nI q0) (h28 : σ.1 45 0 28 = nI P) (H : Q none (uI σ 45 0 30 (nI (pkN t P (q0 - P))))) : R mj_OM d mX11_name Q 0 [some (rV 45 0), none] [] σ := by
  have b : ∀ k, k < 6 → (fun k => if k < q0 - P then t (P + k) - 96 else 0) k < 32 := fun k hk => by
    by_cases g : k < q0 - P
    · have := hg k g
      simp only [g, if_true]; omega
    · simp only [g, if_false]; omega
  have uu : ∀ (a c : Int32), uI (uI σ 45 0 30 a) 45 0 30 c = uI σ 45 0 30 c := fun a c => uI_sq
  rw [pkN_6 h6] at H
  have L : ∀ (r j : Nat), j + r = 6 → R mj_OM d mX11_name Q 7 [some (rV 45 0), some (iV (nI j))] [] (uI σ 45 0 30 (nI (hN (fun k => if k < q0 - P then t (P + k) - 96 else 0) j))) := by
    intro r
    induction r with
    | zero =>
      intro j hj
      obtain rfl : j = 6 := by omega
      exact bX11_name_7 ⟨fun _ => H, fun z => absurd (Int32.le_refl _) z⟩
    | succ r ih =>
      intro j hj
      have v27 : (uI σ 45 0 30 (nI (hN (fun k => if k < q0 - P then t (P + k) - 96 else 0) j))).1 45 0 27 = nI q0 := by simp [uI]; exact h27
      have v28 : (uI σ 45 0 30 (nI (hN (fun k => if k < q0 - P then t (P + k) - 96 else 0) j))).1 45 0 28 = nI P := by simp [uI]; exact h28
      have v30 : (uI σ 45 0 30 (nI (hN (fun k => if k < q0 - P then t (P + k) - 96 else 0) j))).1 45 0 30 = nI (hN (fun k => if k < q0 - P then t (P + k) - 96 else 0) j) := by simp [uI]
      have hl := hN_lt b j (by omega)
      have pw : 32 ^ j ≤ 32 ^ 5 := Nat.pow_le_pow_right (by omega) (by omega)
      have nx := ih (j + 1) (by omega)
      rw [hN] at nx
      have sh : ∀ c, c < 32 → (nI (hN (fun k => if k < q0 - P then t (P + k) - 96 else 0) j) <<< ((5 : Int32) &&& 31)) ||| nI c = nI (hN (fun k => if k < q0 - P then t (P + k) - 96 else 0) j * 32 + c) := fun c hc => by
        rw [pk_shlN ((5 : Int32) &&& 31) 5 (by decide) (by omega), nI_or, or_add (Nat.mul_mod_left _ _) hc]
      refine bX11_name_7 ⟨fun z => ?_, fun _ => ⟨fun z => ?_, fun z => ?_⟩⟩
      · rw [show (6 : Int32) = nI 6 from rfl, nI_le2 (by omega) (by omega)] at z; omega
      · rw [v27, v28, nI_add, nI_le2 (by omega) (by omega)] at z
        rw [v30, uu, nI_1, show (0 : Int32) = nI 0 from rfl, sh 0 (by omega)]
        simp only [show ¬ j < q0 - P by omega, if_false] at nx
        exact nx
      · rw [v27, v28, nI_add, nI_le2 (by omega) (by omega)] at z
        have lt : P + j < n := by omega
        have hgj := hg j (by omega)
        rw [v28, nI_add, cl lt (by omega), v30, uu, nI_1, show (uI σ 45 0 30 (nI (hN (fun k => if k < q0 - P then t (P + k) - 96 else 0) j))).1 46 0 (P + j) = nI (t (P + j)) by simp [uI]; exact (hb _ lt).1]
        refine ⟨vin lt (by omega) (by decide), ?_⟩
        rw [show (97 : Int32) = nI 97 from rfl, pk_sub hgj.1, nI_1, show t (P + j) - 97 + 1 = t (P + j) - 96 by omega, sh _ (by omega)]
        simp only [show j < q0 - P by omega, if_true] at nx
        exact nx
  exact bX11_name_0 (L 6 0 rfl)
end Me
