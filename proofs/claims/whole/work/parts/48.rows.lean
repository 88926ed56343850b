/-! openings: rows of pipes; what both searches find -/
def fl (c : CA) (s : SA) (k : Nat) : SA := (gFlow c s k 2147483647).2
def gUj (s : SA) (k : Nat) : Bool := decide (¬ (s 3 0 >>> (nI k &&& 31)) &&& 1 = 1)
def gMv (c : CA) (s : SA) (k : Nat) : Bool := gUj s k && decide (0 < gRun c s k)
def gNL (v L : Int32) : Int32 := if L = -2 ∨ ¬ L ≤ v then v else L
def gNR (v L : Int32) : Int32 := if 0 ≤ L then (if v < L then v else L) else v
def gNF (n : Nat) (f : Int32) (F : Int32 × Int32) : Int32 × Int32 := if F.1 = -2 ∨ ¬ F.1 ≤ nI n then (nI n, f) else F
def gOF (c : CA) (hb : SA → Bool) : Nat → Nat → SA → Int32 → Int32 × Int32 → Int32 × Int32
  | 0, n, s, f, F => if hb s = true then gNF n f F else F
  | m + 1, n, s, f, F => gLp (fun k F => if gMv c s k = true then gOF c hb m (n + 1) (fl c s k) (if n = 0 then nI k else f) F else F) 0 (c 0 2) (if hb s = true then gNF n f F else F)
def gGL (c : CA) (ok : SA → Nat → Bool) (nt : Int32 → Int32 → Int32) (hb : SA → Bool) (val : SA → Int32) : Nat → SA → Int32 → Int32
  | 0, s, L => if hb s = true then nt (val s) L else L
  | m + 1, s, L => gLp (fun k L => if ok s k = true then gGL c ok nt hb val m (fl c s k) L else L) 0 (c 0 2) (if hb s = true then nt (val s) L else L)
def rwP (c : CA) (ok : SA → Nat → Bool) : Nat → SA → (SA → Prop) → Prop
  | 0, s, P => P s
  | n + 1, s, P => ∃ k, k < c 0 2 ∧ ok s k = true ∧ rwP c ok n (fl c s k) P
def gRO (c : CA) (hb : SA → Bool) : Nat → SA → Bool
  | 0, s => hb s
  | m + 1, s => decide (¬ gFd (fun k => gUj s k && gRO c hb m (fl c s k)) 0 (c 0 2) = -1)
def gRF (c : CA) (hb : SA → Bool) (m : Nat) (s : SA) : Int32 := gFd (fun k => gUj s k && gRO c hb m (fl c s k)) 0 (c 0 2)
def gFB (c : CA) (hb : SA → Bool) (s : SA) : Nat → Nat → Int32 × Int32
  | 0, _ => (-2, -2)
  | m + 1, i => if gRO c hb i s = true then (nI i, if i = 0 then -2 else gRF c hb (i - 1) s) else gFB c hb s m (i + 1)
def okL (L : Int32) : Prop := L = -2 ∨ 0 ≤ L
def TL (x L : Int32) : Prop := 0 ≤ L ∧ L ≤ x
theorem okL_ext {A B : Int32} (hA : okL A) (hB : okL B) (h : ∀ x, TL x A ↔ TL x B) : A = B := by
  rcases hA with a | a
  · rcases hB with b | b
    · rw [a, b]
    · have := (h B).mpr ⟨b, Int32.le_refl _⟩
      rw [a] at this; exact absurd this.1 (by decide)
  · have h1 := (h A).mp ⟨a, Int32.le_refl _⟩
    have h2 := (h B).mpr ⟨h1.1, Int32.le_refl _⟩
    exact Int32.le_antisymm h2.2 h1.2
theorem m2_nle : ¬ (0 : Int32) ≤ -2 := by decide
theorem gNL_t {v L : Int32} (hv : 0 ≤ v) (hL : okL L) : okL (gNL v L) ∧ ∀ x, TL x (gNL v L) ↔ TL x L ∨ v ≤ x := by
  unfold gNL
  by_cases g : L = -2 ∨ ¬ L ≤ v
  · rw [if_pos g]
    refine ⟨Or.inr hv, fun x => ⟨fun h => Or.inr h.2, fun h => ?_⟩⟩
    rcases h with h | h
    · rcases g with g | g
      · rw [g] at h; exact absurd h.1 m2_nle
      · exact ⟨hv, Int32.le_trans (Int32.le_of_lt (Int32.not_le.mp g)) h.2⟩
    · exact ⟨hv, h⟩
  · rw [if_neg g]
    have g1 : ¬ L = -2 := fun z => g (Or.inl z)
    have g2 : L ≤ v := Decidable.not_not.mp (fun z => g (Or.inr z))
    have h0 : 0 ≤ L := hL.resolve_left g1
    exact ⟨hL, fun x => ⟨Or.inl, fun h => h.elim id (fun h => ⟨h0, Int32.le_trans g2 h⟩)⟩⟩
theorem gNR_t {v L : Int32} (hv : 0 ≤ v) (hL : okL L) : okL (gNR v L) ∧ ∀ x, TL x (gNR v L) ↔ TL x L ∨ v ≤ x := by
  unfold gNR
  by_cases g : 0 ≤ L
  · rw [if_pos g]
    by_cases g2 : v < L
    · rw [if_pos g2]
      refine ⟨Or.inr hv, fun x => ⟨fun h => Or.inr h.2, fun h => h.elim (fun h => ⟨hv, Int32.le_trans (Int32.le_of_lt g2) h.2⟩) (fun h => ⟨hv, h⟩)⟩⟩
    · rw [if_neg g2]
      exact ⟨hL, fun x => ⟨Or.inl, fun h => h.elim id (fun h => ⟨g, Int32.le_trans (Int32.not_lt.mp g2) h⟩)⟩⟩
  · rw [if_neg g]
    exact ⟨Or.inr hv, fun x => ⟨fun h => Or.inr h.2, fun h => h.elim (fun h => absurd h.1 g) (fun h => ⟨hv, h⟩)⟩⟩
theorem gLp_or {α : Type} {T : Int32 → α → Prop} {Sb : Int32 → Nat → Prop} {ok : α → Prop} {f : Nat → α → α} {N : Nat} (hf : ∀ i a, i < N → ok a → ok (f i a) ∧ ∀ x, (T x (f i a) ↔ T x a ∨ Sb x i)) : ∀ (n i : Nat) (a : α), i + n ≤ N → ok a → ok (gLp f i n a) ∧ ∀ x, (T x (gLp f i n a) ↔ T x a ∨ ∃ k, i ≤ k ∧ k < i + n ∧ Sb x k) := by
  intro n
  induction n with
  | zero =>
    intro i a _ h
    refine ⟨h, fun x => ⟨Or.inl, fun q => q.elim id (fun ⟨k, h1, h2, _⟩ => by omega)⟩⟩
  | succ n ih =>
    intro i a hi h
    have h1 := hf i a (by omega) h
    have h2 := ih (i + 1) (f i a) (by omega) h1.1
    refine ⟨h2.1, fun x => ?_⟩
    rw [gLp, h2.2 x, h1.2 x]
    constructor
    · rintro ((q | q) | ⟨k, a1, a2, a3⟩)
      · exact Or.inl q
      · exact Or.inr ⟨i, by omega, by omega, q⟩
      · exact Or.inr ⟨k, by omega, by omega, a3⟩
    · rintro (q | ⟨k, a1, a2, a3⟩)
      · exact Or.inl (Or.inl q)
      · by_cases e : k = i
        · subst e; exact Or.inl (Or.inr a3)
        · exact Or.inr ⟨k, by omega, by omega, a3⟩
theorem gLp_inv {α : Type} {P : Nat → α → Prop} {f : Nat → α → α} {N : Nat} (hf : ∀ i a, i < N → P i a → P (i + 1) (f i a)) : ∀ (n i : Nat) (a : α), i + n = N → P i a → P N (gLp f i n a) := by
  intro n
  induction n with
  | zero => intro i a hi h; rw [show N = i by omega]; exact h
  | succ n ih => intro i a hi h; exact ih (i + 1) _ (by omega) (hf i a (by omega) h)
section Re
variable {c : CA} {hb : SA → Bool} {val : SA → Int32} {s : SA}
theorem gGL_t {ok : SA → Nat → Bool} {nt : Int32 → Int32 → Int32} (hnt : ∀ v L : Int32, 0 ≤ v → okL L → okL (nt v L) ∧ ∀ x, TL x (nt v L) ↔ TL x L ∨ v ≤ x) (hval : ∀ s, 0 ≤ val s) : ∀ (m : Nat) (s : SA) (L : Int32), okL L → okL (gGL c ok nt hb val m s L) ∧ ∀ x, (TL x (gGL c ok nt hb val m s L) ↔ TL x L ∨ ∃ j, j ≤ m ∧ rwP c ok j s (fun t => hb t = true ∧ val t ≤ x)) := by
  intro m
  have st : ∀ (s : SA) (L : Int32), okL L → okL (if hb s = true then nt (val s) L else L) ∧ ∀ x, (TL x (if hb s = true then nt (val s) L else L) ↔ TL x L ∨ (hb s = true ∧ val s ≤ x)) := by
    intro s L hL
    by_cases g : hb s = true
    · rw [if_pos g]
      have := hnt (val s) L (hval s) hL
      exact ⟨this.1, fun x => by rw [this.2 x]; simp [g]⟩
    · rw [if_neg g]
      exact ⟨hL, fun x => ⟨Or.inl, fun h => h.elim id (fun h => absurd h.1 g)⟩⟩
  induction m with
  | zero =>
    intro s L hL
    have := st s L hL
    refine ⟨this.1, fun x => ?_⟩
    rw [gGL, this.2 x]
    constructor
    · rintro (q | q)
      · exact Or.inl q
      · exact Or.inr ⟨0, Nat.le_refl _, q⟩
    · rintro (q | ⟨j, hj, q⟩)
      · exact Or.inl q
      · obtain rfl : j = 0 := by omega
        exact Or.inr q
  | succ m ih =>
    intro s L hL
    have h1 := st s L hL
    have h2 := gLp_or (T := TL) (ok := okL) (N := c 0 2) (Sb := fun x k => ok s k = true ∧ ∃ j, j ≤ m ∧ rwP c ok j (fl c s k) (fun t => hb t = true ∧ val t ≤ x)) (f := fun k L => if ok s k = true then gGL c ok nt hb val m (fl c s k) L else L) (fun i a _ ha => by
      by_cases g : ok s i = true
      · rw [if_pos g]
        have := ih (fl c s i) a ha
        exact ⟨this.1, fun x => by rw [this.2 x]; simp [g]⟩
      · rw [if_neg g]
        exact ⟨ha, fun x => ⟨Or.inl, fun h => h.elim id (fun h => absurd h.1 g)⟩⟩) (c 0 2) 0 _ (by omega) h1.1
    refine ⟨h2.1, fun x => ?_⟩
    rw [gGL, h2.2 x, h1.2 x]
    constructor
    · rintro ((q | q) | ⟨k, a1, a2, a3, j, a4, a5⟩)
      · exact Or.inl q
      · exact Or.inr ⟨0, by omega, q⟩
      · exact Or.inr ⟨j + 1, by omega, k, by omega, a3, a5⟩
    · rintro (q | ⟨j, hj, q⟩)
      · exact Or.inl (Or.inl q)
      · cases j with
        | zero => exact Or.inl (Or.inr q)
        | succ j =>
          obtain ⟨k, a1, a2, a3⟩ := q
          exact Or.inr ⟨k, by omega, by omega, a2, j, by omega, a3⟩
theorem rw_sub {P : SA → Prop} : ∀ (n : Nat) (s : SA), rwP c (gMv c) n s P → rwP c gUj n s P := by
  intro n
  induction n with
  | zero => intro s h; exact h
  | succ n ih =>
    rintro s ⟨k, h1, h2, h3⟩
    exact ⟨k, h1, by simp [gMv] at h2; exact h2.1, ih _ h3⟩
theorem gMove_0 (s : SA) (a b : Nat) : gMove s a b 0 = s := by
  funext f j
  unfold gMove sU
  simp only [Int32.sub_zero, Int32.add_zero]
  by_cases e1 : f = 4 ∧ j = b
  · rw [if_pos e1]
    obtain ⟨rfl, rfl⟩ := e1
    by_cases e2 : j = a
    · subst e2; simp
    · simp [e2]
  · rw [if_neg e1]
    by_cases e2 : f = 4 ∧ j = a
    · rw [if_pos e2, e2.1, e2.2]
    · rw [if_neg e2]
theorem fl_id (V : CV c) (h : SI c s) {k : Nat} (hk : k < c 0 2) (h1 : gUj s k = true) (h2 : ¬ gMv c s k = true) : fl c s k = s := by
  obtain ⟨m, e, _, _⟩ := h.rn V hk
  have bw := h.bd V (gGiver_lt (s := s) V hk)
  have m0 : m = 0 := by
    rcases Nat.eq_zero_or_pos m with z | z
    · exact z
    · refine absurd ?_ h2
      simp only [gMv, h1, Bool.true_and, decide_eq_true_eq]
      rw [e, show (0 : Int32) = nI 0 from rfl]
      exact (nI_ltI (by omega) (by omega)).mpr z
  subst m0
  show gMove s (gGiver c s k) (gTaker c s k) (imin 2147483647 (gRun c s k)) = s
  rw [e, show imin 2147483647 (nI 0) = 0 from by decide]
  exact gMove_0 s _ _
theorem fl_si (V : CV c) (h : SI c s) {k : Nat} (hk : k < c 0 2) : SI c (fl c s k) := by
  obtain ⟨_, _, _, _, h2⟩ := h.flow V hk (x := 2147483647) (by decide)
  exact h2
theorem rw_eff (V : CV c) {P : SA → Prop} : ∀ (n : Nat) (s : SA), SI c s → rwP c gUj n s P → ∃ j, j ≤ n ∧ rwP c (gMv c) j s P := by
  intro n
  induction n with
  | zero => intro s _ h; exact ⟨0, Nat.le_refl _, h⟩
  | succ n ih =>
    rintro s hs ⟨k, h1, h2, h3⟩
    obtain ⟨j, hj, h4⟩ := ih _ (fl_si V hs h1) h3
    by_cases g : gMv c s k = true
    · exact ⟨j + 1, by omega, k, h1, g, h4⟩
    · rw [fl_id V hs h1 h2 g] at h4
      exact ⟨j, by omega, h4⟩
/-- the least drawn: with all openings, or with such only by which something runs -/
theorem gOL_eq (V : CV c) (hs : SI c s) (hval : ∀ s, 0 ≤ val s) (m : Nat) : gGL c (gMv c) gNL hb val m s (-2) = gGL c gUj gNR hb val m s (-2) := by
  have h1 := gGL_t (c := c) (hb := hb) (ok := gMv c) (nt := gNL) (fun v L => gNL_t) hval m s (-2) (Or.inl rfl)
  have h2 := gGL_t (c := c) (hb := hb) (ok := gUj) (nt := gNR) (fun v L => gNR_t) hval m s (-2) (Or.inl rfl)
  refine okL_ext h1.1 h2.1 (fun x => ?_)
  rw [h1.2 x, h2.2 x]
  constructor
  · rintro (q | ⟨j, hj, q⟩)
    · exact Or.inl q
    · exact Or.inr ⟨j, hj, rw_sub j s q⟩
  · rintro (q | ⟨j, hj, q⟩)
    · exact Or.inl q
    · obtain ⟨i, hi, q⟩ := rw_eff V j s hs q
      exact Or.inr ⟨i, by omega, q⟩
theorem gFd_none {p : Nat → Bool} : ∀ (m i : Nat), (∀ j, i ≤ j → j < i + m → p j = false) → gFd p i m = -1 := by
  intro m
  induction m with
  | zero => intro i _; rfl
  | succ m ih =>
    intro i h
    rw [gFd, h i (by omega) (by omega)]
    exact ih (i + 1) (fun j h1 h2 => h j (by omega) (by omega))
theorem gFd_some {p : Nat → Bool} {k : Nat} (hp : p k = true) : ∀ (m i : Nat), i ≤ k → k < i + m → (∀ j, i ≤ j → j < k → p j = false) → gFd p i m = nI k := by
  intro m
  induction m with
  | zero => intro i h1 h2; omega
  | succ m ih =>
    intro i h1 h2 h
    rw [gFd]
    by_cases e : i = k
    · subst e; rw [if_pos hp]
    · rw [if_neg (by rw [h i (by omega) (by omega)]; decide)]
      exact ih (i + 1) (by omega) (by omega) (fun j h1 h2 => h j (by omega) h2)
theorem gFd_cases {p : Nat → Bool} (N : Nat) : ((∀ j, j < N → p j = false) ∧ gFd p 0 N = -1) ∨ ∃ k, k < N ∧ p k = true ∧ (∀ j, j < k → p j = false) ∧ gFd p 0 N = nI k := by
  by_cases g : ∃ k, k < N ∧ p k = true
  · obtain ⟨k, h1, h2⟩ := pk_least (fun k => k < N ∧ p k = true) g
    have h3 : ∀ j, j < k → p j = false := fun j hj => by
      have := h2 j hj
      simp only [not_and, Bool.not_eq_true] at this
      exact this (by omega)
    exact Or.inr ⟨k, h1.1, h1.2, h3, gFd_some h1.2 N 0 (by omega) (by omega) (fun j _ h => h3 j h)⟩
  · have h3 : ∀ j, j < N → p j = false := fun j hj => by
      cases e : p j with
      | false => rfl
      | true => exact absurd ⟨j, hj, e⟩ g
    exact Or.inl ⟨h3, gFd_none N 0 (fun j _ h => h3 j (by omega))⟩
theorem gRO_rw (nk : c 0 2 ≤ 10) : ∀ (m : Nat) (s : SA), gRO c hb m s = true ↔ rwP c gUj m s (fun t => hb t = true) := by
  intro m
  induction m with
  | zero => intro s; exact Iff.rfl
  | succ m ih =>
    intro s
    rw [gRO]
    rcases gFd_cases (p := fun k => gUj s k && gRO c hb m (fl c s k)) (c 0 2) with ⟨h1, h2⟩ | ⟨k, h1, h2, _, h4⟩
    · rw [h2]
      constructor
      · intro z; exact absurd z (by decide)
      · rintro ⟨k, a1, a2, a3⟩
        have := h1 k a1
        simp only [a2, (ih _).mpr a3] at this
        exact absurd this (by decide)
    · rw [h4]
      have : ¬ nI k = -1 := fun z => by
        have := nI_pos (n := k) (by omega)
        rw [z] at this; exact this (by decide)
      simp only [Bool.and_eq_true] at h2
      exact ⟨fun _ => ⟨k, h1, h2.1, (ih _).mp h2.2⟩, fun _ => by simp [this]⟩
end Re
