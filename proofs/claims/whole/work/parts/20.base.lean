/-! What a canal and a scene are: c f j (canal: small numbers), s f j (scene: ints). Canal fields: 0 counts (0 ponds, 1 locks, 2 pipes, 3 turns, 4 boats, 6 jam, 7 seed, 8 knots), 1 name, 2 area, 3 floor, 4 water told, 5 spring, 6 lock's pond, 7 low, 8 high, 9 one, 10 two, 11 wide, 12 turn's pipe, 13 at, 14 for, 15 boat's lock, 16 its minute, 17 from, 18 to, 19 sort, 20 value. Scene fields: 0 minute, 1 number, 2 toll, 3 jammed, 4 water, 5 stage, 6 waited. -/
abbrev CA : Type := Nat → Nat → Nat
abbrev SA : Type := Nat → Nat → Int32
/-- how many places a canal's field has -/
def cL (c : CA) : Nat → Nat
  | 0 => 9 | 1 => c 0 0 | 2 => c 0 0 | 3 => c 0 0 | 4 => c 0 0 | 5 => c 0 0 | 6 => c 0 1 | 7 => c 0 1 | 8 => c 0 1 | 9 => c 0 2 | 10 => c 0 2 | 11 => c 0 2 | 15 => c 0 4 | 16 => c 0 4 | 17 => 3 | 18 => 3 | _ => 0
/-- the class's own places -/
def cCv (σ : MS) (b : Nat) : Nat → Nat → Int32
  | 0, 0 => σ.1 3 b 0 | 0, 1 => σ.1 4 b 0 | 0, 2 => σ.1 3 b 6 | 0, 3 => σ.1 3 b 10 | 0, 4 => σ.1 4 b 4 | 0, 6 => σ.1 3 b 12 | 0, 7 => σ.1 3 b 13 | 0, 8 => σ.1 5 b 0 | 0, _ => 0
  | 1, j => σ.1 16 b j | 2, j => σ.1 17 b j | 3, j => σ.1 18 b j | 4, j => σ.1 19 b j | 5, j => σ.1 20 b j | 6, j => σ.1 25 b j | 7, j => σ.1 26 b j | 8, j => σ.1 27 b j | 9, j => σ.1 21 b j | 10, j => σ.1 22 b j | 11, j => σ.1 23 b j | 15, j => σ.1 28 b j | 16, j => σ.1 29 b j | 17, j => σ.1 32 b j | 18, j => σ.1 33 b j | _, _ => 0
def CR (σ : MS) (b : Nat) (c : CA) : Prop := ∀ f j : Nat, j < cL c f → cCv σ b f j = nI (c f j)
/-- the kind of knot in the class, for the reference's sort and value -/
def kCl (so v : Nat) : Nat := if so = 0 then 23 else if so = 1 then 15 + v else if v = 43 then 27 else if v = 45 then 28 else if v = 42 then 29 else if v = 47 then 30 else if v = 61 then 31 else if v = 60 then 32 else if v = 62 then 33 else if v = 256 then 34 else if v = 258 then 35 else if v = 257 then 36 else if v = 260 then 14 else if v = 261 then 13 else 12
/-- the laws' knots -/
def KR (σ : MS) (b : Nat) (c : CA) : Prop := ∀ i : Nat, i < c 0 8 → σ.1 30 b i = nI (kCl (c 19 i) (c 20 i)) ∧ (c 19 i = 0 → σ.1 31 b i = nI (c 20 i))
/-- the turns, by minutes -/
def TR (σ : MS) (b : Nat) (c : CA) : Prop := ∀ t : Nat, t < 119 → ∃ w : Nat, σ.1 24 b t = nI w ∧ w < 2 ^ 10 ∧ ∀ k : Nat, w.testBit k = decide (∃ i : Nat, i < c 0 3 ∧ c 12 i = k ∧ c 13 i ≤ t ∧ t < c 13 i + c 14 i)
/-- the depth behind knots of one law, none when a sign has too little -/
def kdep (c : CA) : Nat → Nat → Nat → Option Nat
  | _, 0, dp => some dp
  | i, n + 1, dp => if c 19 i = 0 ∨ c 19 i = 1 then kdep c (i + 1) n (dp + 1) else if c 20 i = 260 then (if 1 ≤ dp then kdep c (i + 1) n dp else none) else if 2 ≤ dp then kdep c (i + 1) n (dp - 1) else none
/-- a sign's code -/
def ksign (v : Nat) : Prop := v = 43 ∨ v = 45 ∨ v = 42 ∨ v = 47 ∨ v = 61 ∨ v = 60 ∨ v = 62 ∨ v = 256 ∨ v = 258 ∨ v = 257 ∨ v = 260 ∨ v = 261 ∨ v = 262
def CV (c : CA) : Prop :=
  (c 0 0 ≤ 7 ∧ c 0 1 ≤ 3 ∧ c 0 2 ≤ 10 ∧ c 0 3 ≤ 12 ∧ c 0 4 ≤ 8 ∧ c 0 6 ≤ 100 ∧ c 0 7 ≤ 99999 ∧ c 0 8 ≤ 64) ∧
  (∀ p : Nat, p < c 0 0 → 1 ≤ c 2 p ∧ c 2 p ≤ 20 ∧ c 3 p ≤ 99 ∧ c 4 p ≤ 999 ∧ c 5 p ≤ 9 ∧ c 1 p < 2 ^ 30) ∧
  (∀ l : Nat, l < c 0 1 → c 6 l < c 0 0 ∧ c 7 l ≤ 199 ∧ c 8 l ≤ 199) ∧
  (∀ k : Nat, k < c 0 2 → c 9 k < c 0 0 ∧ c 10 k < c 0 0 ∧ c 9 k ≠ c 10 k ∧ 1 ≤ c 11 k ∧ c 11 k ≤ 99) ∧
  (∀ t : Nat, t < c 0 3 → c 12 t < c 0 2 ∧ c 13 t ≤ 99 ∧ 1 ≤ c 14 t ∧ c 14 t ≤ 20) ∧
  (∀ q : Nat, q < c 0 4 → c 15 q < c 0 1 ∧ c 16 q ≤ 99) ∧
  (∀ r : Nat, r < 3 → c 17 r ≤ c 18 r ∧ c 18 r ≤ c 0 8 ∧ (c 17 r < c 18 r → kdep c (c 17 r) (c 18 r - c 17 r) 0 = some 1)) ∧
  (∀ i : Nat, i < c 0 8 → (c 19 i = 0 ∧ c 20 i ≤ 9999) ∨ (c 19 i = 1 ∧ c 20 i ≤ 6) ∨ (c 19 i = 2 ∧ ksign (c 20 i)))
theorem CV.np {c : CA} (h : CV c) : c 0 0 ≤ 7 := h.1.1
theorem CV.nl {c : CA} (h : CV c) : c 0 1 ≤ 3 := h.1.2.1
theorem CV.nk {c : CA} (h : CV c) : c 0 2 ≤ 10 := h.1.2.2.1
theorem CV.nt {c : CA} (h : CV c) : c 0 3 ≤ 12 := h.1.2.2.2.1
theorem CV.nb {c : CA} (h : CV c) : c 0 4 ≤ 8 := h.1.2.2.2.2.1
theorem CV.jam {c : CA} (h : CV c) : c 0 6 ≤ 100 := h.1.2.2.2.2.2.1
theorem CV.seed {c : CA} (h : CV c) : c 0 7 ≤ 99999 := h.1.2.2.2.2.2.2.1
theorem CV.no {c : CA} (h : CV c) : c 0 8 ≤ 64 := h.1.2.2.2.2.2.2.2
theorem CV.pond {c : CA} (h : CV c) {p : Nat} (hp : p < c 0 0) : 1 ≤ c 2 p ∧ c 2 p ≤ 20 ∧ c 3 p ≤ 99 ∧ c 4 p ≤ 999 ∧ c 5 p ≤ 9 ∧ c 1 p < 2 ^ 30 := h.2.1 p hp
theorem CV.lock {c : CA} (h : CV c) {l : Nat} (hl : l < c 0 1) : c 6 l < c 0 0 ∧ c 7 l ≤ 199 ∧ c 8 l ≤ 199 := h.2.2.1 l hl
theorem CV.pipe {c : CA} (h : CV c) {k : Nat} (hk : k < c 0 2) : c 9 k < c 0 0 ∧ c 10 k < c 0 0 ∧ c 9 k ≠ c 10 k ∧ 1 ≤ c 11 k ∧ c 11 k ≤ 99 := h.2.2.2.1 k hk
theorem CV.turn {c : CA} (h : CV c) {t : Nat} (ht : t < c 0 3) : c 12 t < c 0 2 ∧ c 13 t ≤ 99 ∧ 1 ≤ c 14 t ∧ c 14 t ≤ 20 := h.2.2.2.2.1 t ht
theorem CV.boat {c : CA} (h : CV c) {q : Nat} (hq : q < c 0 4) : c 15 q < c 0 1 ∧ c 16 q ≤ 99 := h.2.2.2.2.2.1 q hq
theorem CV.law {c : CA} (h : CV c) {r : Nat} (hr : r < 3) : c 17 r ≤ c 18 r ∧ c 18 r ≤ c 0 8 ∧ (c 17 r < c 18 r → kdep c (c 17 r) (c 18 r - c 17 r) 0 = some 1) := h.2.2.2.2.2.2.1 r hr
theorem CV.knot {c : CA} (h : CV c) {i : Nat} (hi : i < c 0 8) : (c 19 i = 0 ∧ c 20 i ≤ 9999) ∨ (c 19 i = 1 ∧ c 20 i ≤ 6) ∨ (c 19 i = 2 ∧ ksign (c 20 i)) := h.2.2.2.2.2.2.2 i hi
section CRs
variable {σ : MS} {b : Nat} {c : CA}
theorem CR.np (h : CR σ b c) : σ.1 3 b 0 = nI (c 0 0) := h 0 0 (show 0 < 9 by decide)
theorem CR.nl (h : CR σ b c) : σ.1 4 b 0 = nI (c 0 1) := h 0 1 (show 1 < 9 by decide)
theorem CR.nk (h : CR σ b c) : σ.1 3 b 6 = nI (c 0 2) := h 0 2 (show 2 < 9 by decide)
theorem CR.nt (h : CR σ b c) : σ.1 3 b 10 = nI (c 0 3) := h 0 3 (show 3 < 9 by decide)
theorem CR.nb (h : CR σ b c) : σ.1 4 b 4 = nI (c 0 4) := h 0 4 (show 4 < 9 by decide)
theorem CR.jam (h : CR σ b c) : σ.1 3 b 12 = nI (c 0 6) := h 0 6 (show 6 < 9 by decide)
theorem CR.seed (h : CR σ b c) : σ.1 3 b 13 = nI (c 0 7) := h 0 7 (show 7 < 9 by decide)
theorem CR.no (h : CR σ b c) : σ.1 5 b 0 = nI (c 0 8) := h 0 8 (show 8 < 9 by decide)
theorem CR.name (h : CR σ b c) {p : Nat} (hp : p < c 0 0) : σ.1 16 b p = nI (c 1 p) := h 1 p hp
theorem CR.area (h : CR σ b c) {p : Nat} (hp : p < c 0 0) : σ.1 17 b p = nI (c 2 p) := h 2 p hp
theorem CR.floor (h : CR σ b c) {p : Nat} (hp : p < c 0 0) : σ.1 18 b p = nI (c 3 p) := h 3 p hp
theorem CR.told (h : CR σ b c) {p : Nat} (hp : p < c 0 0) : σ.1 19 b p = nI (c 4 p) := h 4 p hp
theorem CR.spring (h : CR σ b c) {p : Nat} (hp : p < c 0 0) : σ.1 20 b p = nI (c 5 p) := h 5 p hp
theorem CR.lpond (h : CR σ b c) {p : Nat} (hp : p < c 0 1) : σ.1 25 b p = nI (c 6 p) := h 6 p hp
theorem CR.low (h : CR σ b c) {p : Nat} (hp : p < c 0 1) : σ.1 26 b p = nI (c 7 p) := h 7 p hp
theorem CR.high (h : CR σ b c) {p : Nat} (hp : p < c 0 1) : σ.1 27 b p = nI (c 8 p) := h 8 p hp
theorem CR.one (h : CR σ b c) {p : Nat} (hp : p < c 0 2) : σ.1 21 b p = nI (c 9 p) := h 9 p hp
theorem CR.two (h : CR σ b c) {p : Nat} (hp : p < c 0 2) : σ.1 22 b p = nI (c 10 p) := h 10 p hp
theorem CR.wide (h : CR σ b c) {p : Nat} (hp : p < c 0 2) : σ.1 23 b p = nI (c 11 p) := h 11 p hp
theorem CR.block (h : CR σ b c) {p : Nat} (hp : p < c 0 4) : σ.1 28 b p = nI (c 15 p) := h 15 p hp
theorem CR.bfrom (h : CR σ b c) {p : Nat} (hp : p < c 0 4) : σ.1 29 b p = nI (c 16 p) := h 16 p hp
theorem CR.lfrom (h : CR σ b c) {p : Nat} (hp : p < 3) : σ.1 32 b p = nI (c 17 p) := h 17 p hp
theorem CR.lto (h : CR σ b c) {p : Nat} (hp : p < 3) : σ.1 33 b p = nI (c 18 p) := h 18 p hp
end CRs
theorem cl {p n : Nat} (h : p < n) (hn : n ≤ 2000) : (nI p).toNatClampNeg = p := nI_clamp (by omega)
theorem vin {p n m : Nat} (h : p < n) (hn : n ≤ m) (hm : m < 2 ^ 31) : vp_in (nI p) m := vp_in_nI (Nat.lt_of_lt_of_le h hn) hm
/-- the canal that instance b of the class holds -/
def CB (σ : MS) (b : Nat) (c : CA) : Prop := b < 2 ∧ CR σ b c ∧ KR σ b c ∧ TR σ b c ∧ CV c
/-- the scene that instance o of the class holds -/
def SR (σ : MS) (o : Nat) (c : CA) (s : SA) : Prop := σ.1 6 o 6 = s 0 0 ∧ σ.1 6 o 7 = s 1 0 ∧ σ.1 6 o 5 = s 2 0 ∧ σ.1 6 o 2 = s 3 0 ∧ (∀ p : Nat, p < c 0 0 → σ.1 35 o p = s 4 p) ∧ (∀ q : Nat, q < c 0 4 → σ.1 36 o q = s 5 q) ∧ ∀ q : Nat, q < c 0 4 → σ.1 37 o q = s 6 q
def SC (σ : MS) (o b : Nat) (c : CA) (s : SA) : Prop := o < 3 ∧ σ.2.2 6 o = b ∧ CB σ b c ∧ SR σ o c s
/-- nothing but cells of these kinds and instances has changed -/
def SB (L : List (Nat × Nat)) (σ τ : MS) : Prop := (∀ k i : Nat, (k, i) ∉ L → τ.1 k i = σ.1 k i ∧ τ.2.1 k i = σ.2.1 k i) ∧ τ.2.2 = σ.2.2
theorem SB.rf {L : List (Nat × Nat)} {σ : MS} : SB L σ σ := ⟨fun _ _ _ => ⟨rfl, rfl⟩, rfl⟩
theorem SB.tr {L : List (Nat × Nat)} {σ τ υ : MS} (h1 : SB L σ τ) (h2 : SB L τ υ) : SB L σ υ := ⟨fun k i h => ⟨((h2.1 k i h).1).trans (h1.1 k i h).1, ((h2.1 k i h).2).trans (h1.1 k i h).2⟩, h2.2.trans h1.2⟩
theorem SB.wk {L L' : List (Nat × Nat)} {σ τ : MS} (h : SB L σ τ) (hs : ∀ x ∈ L, x ∈ L') : SB L' σ τ := ⟨fun k i hk => h.1 k i (fun hm => hk (hs _ hm)), h.2⟩
theorem SB.uI {L : List (Nat × Nat)} {σ : MS} {k i j : Nat} {v : Int32} (h : (k, i) ∈ L) : SB L σ (uI σ k i j v) := by
  refine ⟨fun k' i' hk => ⟨?_, rfl⟩, rfl⟩
  funext j'
  show (if k' = k ∧ i' = i ∧ j' = j then v else σ.1 k' i' j') = _
  rw [if_neg]
  rintro ⟨rfl, rfl, -⟩
  exact hk h
theorem SB.uL {L : List (Nat × Nat)} {σ : MS} {k i j : Nat} {v : Int64} (h : (k, i) ∈ L) : SB L σ (uL σ k i j v) := by
  refine ⟨fun k' i' hk => ⟨rfl, ?_⟩, rfl⟩
  funext j'
  show (if k' = k ∧ i' = i ∧ j' = j then v else σ.2.1 k' i' j') = _
  rw [if_neg]
  rintro ⟨rfl, rfl, -⟩
  exact hk h
theorem SB.i {L : List (Nat × Nat)} {σ τ : MS} (h : SB L σ τ) {k i : Nat} (hk : (k, i) ∉ L) (j : Nat) : τ.1 k i j = σ.1 k i j := by rw [(h.1 k i hk).1]
/-- which kinds a canal stands on -/
def mj_ck (k : Nat) : Bool := k == 3 || k == 4 || k == 5 || (16 ≤ k && k ≤ 33)
theorem CB.keep {L : List (Nat × Nat)} {σ τ : MS} {b : Nat} {c : CA} (h : CB σ b c) (hs : SB L σ τ) (hL : L.all (fun x => !mj_ck x.1) = true) : CB τ b c := by
  have hq : ∀ k : Nat, mj_ck k = true → τ.1 k b = σ.1 k b := fun k hk => (hs.1 k b (fun hm => by
    have := List.all_eq_true.mp hL _ hm
    simp [hk] at this)).1
  obtain ⟨hb, C, K, T, V⟩ := h
  refine ⟨hb, fun f j hj => ?_, fun i hi => ?_, fun t ht => ?_, V⟩
  · rw [← C f j hj]
    unfold cCv
    rw [hq 3 rfl, hq 4 rfl, hq 5 rfl, hq 16 rfl, hq 17 rfl, hq 18 rfl, hq 19 rfl, hq 20 rfl, hq 21 rfl, hq 22 rfl, hq 23 rfl, hq 25 rfl, hq 26 rfl, hq 27 rfl, hq 28 rfl, hq 29 rfl, hq 32 rfl, hq 33 rfl]
  · rw [hq 30 rfl, hq 31 rfl]; exact K i hi
  · rw [hq 24 rfl]; exact T t ht
theorem SR.keep {L : List (Nat × Nat)} {σ τ : MS} {o : Nat} {c : CA} {s : SA} (h : SR σ o c s) (hs : SB L σ τ) (hL : L.all (fun x => !((x.1 == 6 || x.1 == 35 || x.1 == 36 || x.1 == 37) && x.2 == o)) = true) : SR τ o c s := by
  have hq : ∀ k : Nat, (k == 6 || k == 35 || k == 36 || k == 37) = true → τ.1 k o = σ.1 k o := fun k hk => (hs.1 k o (fun hm => by
    have := List.all_eq_true.mp hL _ hm
    simp [hk] at this)).1
  unfold SR
  rw [hq 6 rfl, hq 35 rfl, hq 36 rfl, hq 37 rfl]
  exact h
theorem SC.keep {L : List (Nat × Nat)} {σ τ : MS} {o b : Nat} {c : CA} {s : SA} (h : SC σ o b c s) (hs : SB L σ τ) (hL : L.all (fun x => !mj_ck x.1) = true) (hO : L.all (fun x => !((x.1 == 6 || x.1 == 35 || x.1 == 36 || x.1 == 37) && x.2 == o)) = true) : SC τ o b c s := ⟨h.1, by rw [hs.2]; exact h.2.1, h.2.2.1.keep hs hL, h.2.2.2.keep hs hO⟩
/-! loops that count up: from i to n -/
theorem up_loop {n : Nat} (P : Nat → Prop) (hstop : P n) (hstep : ∀ i : Nat, i < n → P (i + 1) → P i) : ∀ i : Nat, i ≤ n → P i := by
  have : ∀ m i : Nat, i + m = n → P i := by
    intro m
    induction m with
    | zero => intro i h; rw [show i = n by omega]; exact hstop
    | succ m ih => intro i h; exact hstep i (by omega) (ih (i + 1) (by omega))
  intro i hi
  exact this (n - i) i (by omega)
