def mj_sch : Nat → (Nat × List (Nat × Nat × Nat)) ⊕ (Nat × Nat) := fun k => match k with
  | 0 => .inl (10, [(2, 1, 0), (2, 6, 0), (2, 6, 1), (2, 6, 2), (2, 7, 0), (2, 8, 0), (2, 9, 0), (2, 10, 0), (1, 11, 0), (3, 3, 0), (0, 0, 0), (0, 0, 0), (0, 0, 0)])
  | 1 => .inl (7, [(2, 2, 0), (3, 3, 0), (0, 0, 0), (0, 0, 0), (0, 0, 0), (0, 0, 0), (0, 0, 0), (0, 0, 0), (0, 0, 0), (0, 0, 0)])
  | 2 => .inl (9, [(0, 0, 0), (1, 12, 0), (1, 13, 0), (1, 14, 0), (1, 15, 0), (0, 0, 0), (0, 0, 0)])
  | 3 => .inl (0, [(0, 0, 0), (1, 16, 0), (1, 17, 0), (1, 18, 0), (1, 19, 0), (1, 20, 0), (0, 0, 0), (1, 21, 0), (1, 22, 0), (1, 23, 0), (0, 0, 0), (1, 24, 0), (0, 0, 0), (0, 0, 0), (1, 4, 0), (1, 5, 0)])
  | 4 => .inl (4, [(0, 0, 0), (1, 25, 0), (1, 26, 0), (1, 27, 0), (0, 0, 0), (1, 28, 0), (1, 29, 0)])
  | 5 => .inl (3, [(0, 0, 0), (1, 30, 0), (1, 31, 0), (1, 32, 0), (1, 33, 0), (1, 34, 0)])
  | 6 => .inl (8, [(3, 3, 0), (1, 35, 0), (0, 0, 0), (1, 36, 0), (1, 37, 0), (0, 0, 0), (0, 0, 0), (0, 0, 0)])
  | 7 => .inl (5, [(0, 0, 0), (0, 0, 0), (0, 0, 0), (0, 0, 0), (0, 0, 0), (0, 0, 0), (0, 0, 0), (0, 0, 0), (1, 38, 0)])
  | 8 => .inl (6, [(0, 0, 0), (0, 0, 0), (0, 0, 0), (0, 0, 0), (0, 0, 0), (0, 0, 0), (0, 0, 0)])
  | 9 => .inl (1, [(0, 0, 0), (0, 0, 0), (1, 39, 0), (1, 40, 0), (1, 41, 0), (1, 42, 0), (1, 43, 0)])
  | 10 => .inl (2, [(0, 0, 0), (0, 0, 0), (1, 44, 0)])
  | 11 => .inr (0, 600)
  | 12 => .inr (0, 700)
  | 13 => .inr (0, 701)
  | 14 => .inr (0, 701)
  | 15 => .inr (0, 701)
  | 16 => .inr (0, 7)
  | 17 => .inr (0, 7)
  | 18 => .inr (0, 7)
  | 19 => .inr (0, 7)
  | 20 => .inr (0, 7)
  | 21 => .inr (0, 10)
  | 22 => .inr (0, 10)
  | 23 => .inr (0, 10)
  | 24 => .inr (0, 119)
  | 25 => .inr (0, 3)
  | 26 => .inr (0, 3)
  | 27 => .inr (0, 3)
  | 28 => .inr (0, 8)
  | 29 => .inr (0, 8)
  | 30 => .inr (0, 64)
  | 31 => .inr (0, 64)
  | 32 => .inr (0, 3)
  | 33 => .inr (0, 3)
  | 34 => .inr (2, 64)
  | 35 => .inr (0, 7)
  | 36 => .inr (0, 8)
  | 37 => .inr (0, 8)
  | 38 => .inr (2, 7)
  | 39 => .inr (0, 24)
  | 40 => .inr (0, 24)
  | 41 => .inr (0, 24)
  | 42 => .inr (0, 24)
  | 43 => .inr (1, 24)
  | 44 => .inr (0, 160)
  | 45 => .inl (11, [(0, 0, 0), (1, 46, 0), (0, 0, 0), (1, 47, 0), (1, 48, 0), (1, 49, 0), (1, 50, 0), (1, 51, 0), (1, 52, 0), (1, 53, 0), (1, 54, 0), (1, 55, 0), (1, 56, 0), (1, 57, 0), (1, 58, 0), (1, 59, 0), (1, 60, 0), (1, 61, 0), (1, 62, 0), (1, 63, 0), (1, 64, 0), (1, 65, 0), (1, 66, 0), (1, 67, 0), (0, 0, 0), (0, 0, 0), (0, 0, 0), (0, 0, 0), (0, 0, 0), (0, 0, 0), (0, 0, 0), (0, 0, 0), (0, 0, 0), (0, 0, 0), (0, 0, 0), (0, 0, 0), (0, 0, 0), (1, 68, 0), (1, 69, 0), (0, 0, 0), (1, 70, 0), (1, 71, 0), (1, 72, 0), (1, 73, 0), (1, 74, 0), (1, 75, 0), (1, 76, 0), (0, 0, 0), (0, 0, 0), (0, 0, 0), (0, 0, 0), (0, 0, 0), (0, 0, 0), (1, 77, 0), (0, 0, 0), (0, 0, 0), (0, 0, 0), (0, 0, 0), (0, 0, 0), (1, 78, 0), (1, 79, 0), (0, 0, 0), (0, 0, 0), (1, 80, 0), (1, 81, 0), (1, 82, 0), (1, 83, 0), (1, 84, 0), (1, 85, 0), (1, 86, 0)])
  | 46 => .inr (0, 700)
  | 47 => .inr (0, 18)
  | 48 => .inr (0, 14)
  | 49 => .inr (0, 14)
  | 50 => .inr (0, 14)
  | 51 => .inr (0, 14)
  | 52 => .inr (0, 14)
  | 53 => .inr (0, 6)
  | 54 => .inr (0, 6)
  | 55 => .inr (0, 6)
  | 56 => .inr (0, 20)
  | 57 => .inr (0, 20)
  | 58 => .inr (0, 20)
  | 59 => .inr (0, 24)
  | 60 => .inr (0, 24)
  | 61 => .inr (0, 24)
  | 62 => .inr (0, 16)
  | 63 => .inr (0, 16)
  | 64 => .inr (0, 6)
  | 65 => .inr (0, 6)
  | 66 => .inr (0, 128)
  | 67 => .inr (0, 128)
  | 68 => .inr (2, 7)
  | 69 => .inr (2, 64)
  | 70 => .inr (0, 23)
  | 71 => .inr (0, 23)
  | 72 => .inr (0, 23)
  | 73 => .inr (0, 23)
  | 74 => .inr (0, 161)
  | 75 => .inr (0, 184)
  | 76 => .inr (0, 184)
  | 77 => .inr (0, 35)
  | 78 => .inr (0, 10)
  | 79 => .inr (0, 7)
  | 80 => .inr (0, 24)
  | 81 => .inr (0, 24)
  | 82 => .inr (0, 24)
  | 83 => .inr (1, 24)
  | 84 => .inr (0, 24)
  | 85 => .inr (1, 24)
  | 86 => .inr (0, 610)
  | _ => .inr (9, 0)
abbrev vwCl : List vw_C := [(RX0, TX0, 16), (RX1, TX1, 7), (RX2, TX2, 3), (RX3, TX3, 6), (RX4, TX4, 7), (RX5, TX5, 9), (RX6, TX6, 7), (RX7, TX7, 10), (RX8, TX8, 8), (RX9, TX9, 7), (RX10, TX10, 13), (RX11, TX11, 70)]
def mj_OC : List (Nat × Nat) := [(0, 0), (1, 0), (2, 0), (3, 0), (3, 1), (4, 0), (4, 1), (5, 0), (5, 1), (6, 0), (6, 1), (6, 2), (7, 0), (8, 0), (9, 0), (10, 0), (11, 0), (12, 0), (13, 0), (14, 0), (15, 0), (16, 0), (16, 1), (17, 0), (17, 1), (18, 0), (18, 1), (19, 0), (19, 1), (20, 0), (20, 1), (21, 0), (21, 1), (22, 0), (22, 1), (23, 0), (23, 1), (24, 0), (24, 1), (25, 0), (25, 1), (26, 0), (26, 1), (27, 0), (27, 1), (28, 0), (28, 1), (29, 0), (29, 1), (30, 0), (30, 1), (31, 0), (31, 1), (32, 0), (32, 1), (33, 0), (33, 1), (34, 0), (34, 1), (35, 0), (35, 1), (35, 2), (36, 0), (36, 1), (36, 2), (37, 0), (37, 1), (37, 2), (38, 0), (39, 0), (40, 0), (41, 0), (42, 0), (43, 0), (44, 0)]
def mj_OM : List (Nat × Nat) := [(45, 0), (46, 0), (47, 0), (48, 0), (49, 0), (50, 0), (51, 0), (52, 0), (53, 0), (54, 0), (55, 0), (56, 0), (57, 0), (58, 0), (59, 0), (60, 0), (61, 0), (62, 0), (63, 0), (64, 0), (65, 0), (66, 0), (67, 0), (68, 0), (69, 0), (70, 0), (71, 0), (72, 0), (73, 0), (74, 0), (75, 0), (76, 0), (77, 0), (78, 0), (79, 0), (80, 0), (81, 0), (82, 0), (83, 0), (84, 0), (85, 0), (86, 0)]
/-! The program logic over the kit's rows: a small heap of numbers (kind, instance, place), and 'R': from here the method returns, with Q of its answer and of the heap. -/
abbrev MV : Type := Int32 ⊕ (Int64 ⊕ (Nat × Nat))
abbrev MS : Type := (Nat → Nat → Nat → Int32) × (Nat → Nat → Nat → Int64) × (Nat → Nat → Nat)
abbrev MI : Type := MethodName × ByteArray × Nat × Option FieldType
abbrev iV (x : Int32) : MV := .inl x
abbrev lV (x : Int64) : MV := .inr (.inl x)
abbrev rV (k i : Nat) : MV := .inr (.inr (k, i))
def mj_rv (ρ : Nat → Nat → Nat) : MV → Value
  | .inl x => .int x
  | .inr (.inl x) => .long x
  | .inr (.inr q) => .ref (ρ q.1 q.2)
def mj_fv (ρ : Nat → Nat → Nat) (f : Nat → Int32) (t : Nat) (i j : Nat) (sp : Nat × Nat × Nat) : Value := match sp.1 with
  | 0 => .int (f j)
  | 1 => .ref (ρ sp.2.1 i)
  | 2 => .ref (ρ sp.2.1 sp.2.2)
  | _ => .ref (ρ sp.2.1 t)
def mj_fvs (ρ : Nat → Nat → Nat) (f : Nat → Int32) (t : Nat) (i : Nat) : Nat → List (Nat × Nat × Nat) → List Value
  | _, [] => []
  | j, sp :: r => mj_fv ρ f t i j sp :: mj_fvs ρ f t i (j + 1) r
theorem mj_fvs_get (ρ : Nat → Nat → Nat) (f : Nat → Int32) (t i : Nat) : ∀ (l : List (Nat × Nat × Nat)) (j0 j : Nat), (mj_fvs ρ f t i j0 l)[j]? = (l[j]?).map (mj_fv ρ f t i (j0 + j)) := by
  intro l
  induction l with
  | nil => intro j0 j; simp [mj_fvs]
  | cons a l ih =>
    intro j0 j
    cases j with
    | zero => simp [mj_fvs]
    | succ j => simp [mj_fvs, ih]; congr 1; funext x; congr 1; omega
theorem mj_fvs_len (ρ : Nat → Nat → Nat) (f : Nat → Int32) (t i : Nat) : ∀ (l : List (Nat × Nat × Nat)) (j0 : Nat), (mj_fvs ρ f t i j0 l).length = l.length := by
  intro l
  induction l with
  | nil => intro j0; rfl
  | cons a l ih => intro j0; simp [mj_fvs, ih]
def mj_cel (G : ClassId × ClassId × ClassId) (ρ : Nat → Nat → Nat) (f : Nat → Int32) (g : Nat → Int64) (t k i : Nat) : va_E := match mj_sch k with
  | .inl (ci, l) => .inr (ci, mj_fvs ρ f t i 0 l)
  | .inr (2, n) => .inl (G.2.2, n, .inr (.inl g))
  | .inr (1, n) => .inl (G.2.1, n, .inl f)
  | .inr (_, n) => .inl (G.1, n, .inl f)
abbrev mj_ce (G : ClassId × ClassId × ClassId) (ρ : Nat → Nat → Nat) (σ : MS) (k i : Nat) : va_E := mj_cel G ρ (σ.1 k i) (σ.2.1 k i) (σ.2.2 k i) k i
def mj_ws (O : List (Nat × Nat)) (G : ClassId × ClassId × ClassId) (ρ : Nat → Nat → Nat) (σ : MS) : va_W := O.map (fun x => (ρ x.1 x.2, mj_ce G ρ σ x.1 x.2))
/-- stores -/
def uI (σ : MS) (k i j : Nat) (v : Int32) : MS := (fun k' i' j' => if k' = k ∧ i' = i ∧ j' = j then v else σ.1 k' i' j', σ.2)
def uL (σ : MS) (k i j : Nat) (v : Int64) : MS := (σ.1, fun k' i' j' => if k' = k ∧ i' = i ∧ j' = j then v else σ.2.1 k' i' j', σ.2.2)
def uC (σ : MS) (k i : Nat) (v : Nat) : MS := (σ.1, σ.2.1, fun k' i' => if k' = k ∧ i' = i then v else σ.2.2 k' i')
def mj_D (O : List (Nat × Nat)) (ρ : Nat → Nat → Nat) (A : Nat → Prop) : Prop := (∀ (i j : Nat) (x y : Nat × Nat), O[i]? = some x → O[j]? = some y → ρ x.1 x.2 = ρ y.1 y.2 → i = j) ∧ ∀ x ∈ O, A (ρ x.1 x.2)
theorem mj_ws_get {O : List (Nat × Nat)} {G : ClassId × ClassId × ClassId} {ρ : Nat → Nat → Nat} {σ : MS} {q k i : Nat} (h : O[q]? = some (k, i)) : (mj_ws O G ρ σ)[q]? = some (ρ k i, mj_ce G ρ σ k i) := by
  simp [mj_ws, h]
theorem mj_D.va {O : List (Nat × Nat)} {G : ClassId × ClassId × ClassId} {ρ : Nat → Nat → Nat} {A : Nat → Prop} (h : mj_D O ρ A) (σ : MS) : va_D A (mj_ws O G ρ σ) := by
  refine ⟨fun i j p q hi hj he => ?_, fun k q hk => ?_⟩
  · simp only [mj_ws, List.getElem?_map, Option.map_eq_some_iff] at hi hj
    obtain ⟨x, hx, rfl⟩ := hi
    obtain ⟨y, hy, rfl⟩ := hj
    exact h.1 i j x y hx hy he
  · simp only [mj_ws, List.getElem?_map, Option.map_eq_some_iff] at hk
    obtain ⟨x, hx, rfl⟩ := hk
    exact h.2 x (List.mem_of_getElem? hx)
theorem mj_set {O : List (Nat × Nat)} {G : ClassId × ClassId × ClassId} {ρ : Nat → Nat → Nat} {A : Nat → Prop} {σ σ' : MS} {q k i : Nat} {e : va_E} (hD : mj_D O ρ A) (h : O[q]? = some (k, i)) (he : mj_ce G ρ σ' k i = e)
    (ho : ∀ k' i', ¬ (k' = k ∧ i' = i) → mj_ce G ρ σ' k' i' = mj_ce G ρ σ k' i') : (mj_ws O G ρ σ).set q (ρ k i, e) = mj_ws O G ρ σ' := by
  apply List.ext_getElem?
  intro n
  rw [List.getElem?_set]
  by_cases hn : q = n
  · subst hn
    have hl : q < (mj_ws O G ρ σ).length := by
      rw [mj_ws, List.length_map]
      exact (List.getElem?_eq_some_iff.mp h).1
    rw [if_pos rfl, if_pos hl, mj_ws_get h, he]
  · rw [if_neg hn]
    simp only [mj_ws, List.getElem?_map]
    cases hx : O[n]? with
    | none => rfl
    | some x =>
      simp only [Option.map_some]
      rw [ho]
      rintro ⟨e1, e2⟩
      exact hn (hD.1 q n (k, i) x h hx (by rw [← e1, ← e2]))
theorem uI_set {O : List (Nat × Nat)} {G : ClassId × ClassId × ClassId} {ρ : Nat → Nat → Nat} {A : Nat → Prop} {σ : MS} {q k i j : Nat} {v : Int32} {e : va_E} (hD : mj_D O ρ A) (h : O[q]? = some (k, i)) (he : mj_cel G ρ (fun j' => if j' = j then v else σ.1 k i j') (σ.2.1 k i) (σ.2.2 k i) k i = e) : (mj_ws O G ρ σ).set q (ρ k i, e) = mj_ws O G ρ (uI σ k i j v) := by
  refine mj_set hD h ?_ ?_
  · rw [← he]; simp [mj_ce, uI]
  · intro k' i' hne
    have : (fun j' => if k' = k ∧ i' = i ∧ j' = j then v else σ.1 k' i' j') = σ.1 k' i' := by
      funext j'
      rw [if_neg]
      rintro ⟨a, b, -⟩
      exact hne ⟨a, b⟩
    simp only [mj_ce, uI, this]
theorem uL_set {O : List (Nat × Nat)} {G : ClassId × ClassId × ClassId} {ρ : Nat → Nat → Nat} {A : Nat → Prop} {σ : MS} {q k i j : Nat} {v : Int64} {e : va_E} (hD : mj_D O ρ A) (h : O[q]? = some (k, i)) (he : mj_cel G ρ (σ.1 k i) (fun j' => if j' = j then v else σ.2.1 k i j') (σ.2.2 k i) k i = e) : (mj_ws O G ρ σ).set q (ρ k i, e) = mj_ws O G ρ (uL σ k i j v) := by
  refine mj_set hD h ?_ ?_
  · rw [← he]; simp [mj_ce, uL]
  · intro k' i' hne
    have : (fun j' => if k' = k ∧ i' = i ∧ j' = j then v else σ.2.1 k' i' j') = σ.2.1 k' i' := by
      funext j'
      rw [if_neg]
      rintro ⟨a, b, -⟩
      exact hne ⟨a, b⟩
    simp only [mj_ce, uL, this]
theorem uC_set {O : List (Nat × Nat)} {G : ClassId × ClassId × ClassId} {ρ : Nat → Nat → Nat} {A : Nat → Prop} {σ : MS} {q k i v : Nat} {e : va_E} (hD : mj_D O ρ A) (h : O[q]? = some (k, i)) (he : mj_cel G ρ (σ.1 k i) (σ.2.1 k i) v k i = e) : (mj_ws O G ρ σ).set q (ρ k i, e) = mj_ws O G ρ (uC σ k i v) := by
  refine mj_set hD h ?_ ?_
  · rw [← he]; simp [mj_ce, uC]
  · intro k' i' hne
    simp only [mj_ce, uC, if_neg hne]
/-- the locals, by their places -/
def mj_toL (ρ : Nat → Nat → Nat) : Nat → List (Option MV) → List (Nat × Value)
  | _, [] => []
  | j, none :: r => mj_toL ρ (j + 1) r
  | j, some v :: r => (j, mj_rv ρ v) :: mj_toL ρ (j + 1) r
theorem mj_toL_mem (ρ : Nat → Nat → Nat) : ∀ (l : List (Option MV)) (j0 : Nat) (q : Nat × Value), q ∈ mj_toL ρ j0 l ↔ ∃ (j : Nat) (v : MV), l[j]? = some (some v) ∧ q = (j0 + j, mj_rv ρ v) := by
  intro l
  induction l with
  | nil => intro j0 q; simp [mj_toL]
  | cons a l ih =>
    intro j0 q
    have sh : (∃ (j : Nat) (v : MV), l[j]? = some (some v) ∧ q = (j0 + 1 + j, mj_rv ρ v)) ↔ ∃ (j : Nat) (v : MV), (a :: l)[j + 1]? = some (some v) ∧ q = (j0 + (j + 1), mj_rv ρ v) := by
      simp only [List.getElem?_cons_succ]
      constructor <;> rintro ⟨j, v, h1, h2⟩ <;> exact ⟨j, v, h1, by rw [h2]; congr 1; omega⟩
    cases a with
    | none =>
      rw [mj_toL, ih, sh]
      constructor
      · rintro ⟨j, v, h⟩; exact ⟨j + 1, v, h⟩
      · rintro ⟨j, v, h1, h2⟩
        cases j with
        | zero => simp at h1
        | succ j => exact ⟨j, v, h1, h2⟩
    | some w =>
      rw [mj_toL, List.mem_cons, ih, sh]
      constructor
      · rintro (h | ⟨j, v, h⟩)
        · exact ⟨0, w, rfl, h⟩
        · exact ⟨j + 1, v, h⟩
      · rintro ⟨j, v, h1, h2⟩
        cases j with
        | zero => left; simp at h1; subst h1; exact h2
        | succ j => right; exact ⟨j, v, h1, h2⟩
def mj_L (ρ : Nat → Nat → Nat) (a : Array Slot) (n : Nat) (ls : List (Option MV)) : Prop := lv_has a n (mj_toL ρ 0 ls)
theorem mj_L.at {ρ : Nat → Nat → Nat} {a : Array Slot} {n : Nat} {ls : List (Option MV)} (h : mj_L ρ a n ls) {j : Nat} {v : MV} (hj : ls[j]? = some (some v)) : a[j]? = some (.val (mj_rv ρ v)) :=
  h.2.2 (j, mj_rv ρ v) ((mj_toL_mem ρ ls 0 _).mpr ⟨j, v, hj, by simp⟩)
/-- no long stands just ahead of place i -/
def mj_ok (ls : List (Option MV)) : Nat → Bool
  | 0 => true
  | j + 1 => match ls[j]? with
    | some (some (.inr (.inl _))) => false
    | _ => true
theorem mj_ok_cat {ls : List (Option MV)} {ρ : Nat → Nat → Nat} {i j : Nat} {v : MV} (h : mj_ok ls i = true) (hj : ls[j]? = some (some v)) (he : j + 1 = i) : ¬ (mj_rv ρ v).category = 2 := by
  subst he
  rw [mj_ok, hj] at h
  cases v with
  | inl x => simp [mj_rv, Value.category]
  | inr w =>
    cases w with
    | inl x => simp at h
    | inr x => simp [mj_rv, Value.category]
theorem mj_L.st1 {ρ : Nat → Nat → Nat} {a : Array Slot} {n i : Nat} {ls : List (Option MV)} {v : MV} (h : lv_has a n ((i, mj_rv ρ v) :: (mj_toL ρ 0 ls).filter (fun q => !(q.1 == i) && !(q.1 + 1 == i && q.2.category == 2)))) (hk : mj_ok ls i = true) : mj_L ρ a n (ls.set i (some v)) := by
  refine ⟨h.1, h.2.1, fun q hq => h.2.2 q ?_⟩
  obtain ⟨j, w, h1, rfl⟩ := (mj_toL_mem ρ _ 0 q).mp hq
  rw [Nat.zero_add]
  rw [List.getElem?_set] at h1
  by_cases hj : i = j
  · subst hj
    rw [if_pos rfl] at h1
    split at h1
    · simp at h1; subst h1; exact List.mem_cons_self
    · cases h1
  · rw [if_neg hj] at h1
    refine List.mem_cons_of_mem _ (List.mem_filter.mpr ⟨(mj_toL_mem ρ _ 0 _).mpr ⟨j, w, h1, by simp⟩, ?_⟩)
    have := mj_ok_cat (ρ := ρ) hk h1
    by_cases hji : j + 1 = i
    · simp [this hji]; omega
    · simp [hji]; omega
theorem mj_L.st2 {ρ : Nat → Nat → Nat} {a : Array Slot} {n i : Nat} {ls : List (Option MV)} {v : MV} (h : lv_has a n ((i, mj_rv ρ v) :: (mj_toL ρ 0 ls).filter (fun q => !(q.1 == i) && (!(q.1 == i + 1) && !(q.1 + 1 == i && q.2.category == 2))))) (hk : mj_ok ls i = true) : mj_L ρ a n ((ls.set i (some v)).set (i + 1) none) := by
  refine ⟨h.1, h.2.1, fun q hq => h.2.2 q ?_⟩
  obtain ⟨j, w, h1, rfl⟩ := (mj_toL_mem ρ _ 0 q).mp hq
  rw [Nat.zero_add]
  rw [List.getElem?_set] at h1
  by_cases hj1 : i + 1 = j
  · rw [if_pos hj1] at h1
    split at h1 <;> cases h1
  rw [if_neg hj1, List.getElem?_set] at h1
  by_cases hj : i = j
  · subst hj
    rw [if_pos rfl] at h1
    split at h1
    · simp at h1; subst h1; exact List.mem_cons_self
    · cases h1
  · rw [if_neg hj] at h1
    refine List.mem_cons_of_mem _ (List.mem_filter.mpr ⟨(mj_toL_mem ρ _ 0 _).mpr ⟨j, w, h1, by simp⟩, ?_⟩)
    have := mj_ok_cat (ρ := ρ) hk h1
    by_cases hji : j + 1 = i
    · simp [this hji]; omega
    · simp [hji]; omega
/-- a method's arguments as locals -/
def mj_args : List MV → List (Option MV)
  | [] => []
  | .inr (.inl x) :: r => some (lV x) :: none :: mj_args r
  | v :: r => some v :: mj_args r
theorem mj_toL_args (ρ : Nat → Nat → Nat) : ∀ (vs : List MV) (i : Nat) (k : Nat), mj_toL ρ i (mj_args vs ++ List.replicate k none) = lv_args i (vs.map (mj_rv ρ)) := by
  have hn : ∀ (k i : Nat), mj_toL ρ i (List.replicate k none) = [] := by
    intro k
    induction k with
    | zero => intro i; rfl
    | succ k ih => intro i; rw [List.replicate_succ, mj_toL, ih]
  intro vs
  induction vs with
  | nil => intro i k; simp [mj_args, hn, lv_args]
  | cons v vs ih =>
    intro i k
    match v with
    | .inl x => simp [mj_args, mj_toL, lv_args, mj_rv, Value.category, ih]
    | .inr (.inl x) => simp [mj_args, mj_toL, lv_args, mj_rv, Value.category, ih]
    | .inr (.inr q) => simp [mj_args, mj_toL, lv_args, mj_rv, Value.category, ih]
/-- the text constants: kinds 200 (the object), 201 (its bytes), by number -/
def mj_txt : List (String × Nat × String) := [("SidePonds$Tape", 68, "pond lock pipe turn boat spring jam seed law flow leak toll or and not area floor water wide open boats minute "), ("SidePonds$Tape", 81, ";()+-*/=<>"), ("SidePondsModel", 194, "pond lock pipe turn boat spring jam seed law flow leak toll or and not area floor water wide open boats minute ")]
def mj_len : List Nat := [111, 10, 111]
def mj_byt : List (List Int32) := [[112, 111, 110, 100, 32, 108, 111, 99, 107, 32, 112, 105, 112, 101, 32, 116, 117, 114, 110, 32, 98, 111, 97, 116, 32, 115, 112, 114, 105, 110, 103, 32, 106, 97, 109, 32, 115, 101, 101, 100, 32, 108, 97, 119, 32, 102, 108, 111, 119, 32, 108, 101, 97, 107, 32, 116, 111, 108, 108, 32, 111, 114, 32, 97, 110, 100, 32, 110, 111, 116, 32, 97, 114, 101, 97, 32, 102, 108, 111, 111, 114, 32, 119, 97, 116, 101, 114, 32, 119, 105, 100, 101, 32, 111, 112, 101, 110, 32, 98, 111, 97, 116, 115, 32, 109, 105, 110, 117, 116, 101, 32], [59, 40, 41, 43, 45, 42, 47, 61, 60, 62], [112, 111, 110, 100, 32, 108, 111, 99, 107, 32, 112, 105, 112, 101, 32, 116, 117, 114, 110, 32, 98, 111, 97, 116, 32, 115, 112, 114, 105, 110, 103, 32, 106, 97, 109, 32, 115, 101, 101, 100, 32, 108, 97, 119, 32, 102, 108, 111, 119, 32, 108, 101, 97, 107, 32, 116, 111, 108, 108, 32, 111, 114, 32, 97, 110, 100, 32, 110, 111, 116, 32, 97, 114, 101, 97, 32, 102, 108, 111, 111, 114, 32, 119, 97, 116, 101, 114, 32, 119, 105, 100, 101, 32, 111, 112, 101, 110, 32, 98, 111, 97, 116, 115, 32, 109, 105, 110, 117, 116, 101, 32]]
def mj_S (ρ : Nat → Nat → Nat) (A : Nat → Prop) (U : State) (H : Heap) : Prop := ∀ i : Nat, i < 3 → va_O "java/lang/String" (ρ 200 i) A U H ∧ va_OF "java/lang/String" "coder" "B" (.int 0) (ρ 200 i) A U H ∧ va_OF "java/lang/String" "value" "[B" (.ref (ρ 201 i)) (ρ 200 i) A U H ∧ va_T .byte (ρ 201 i) (mj_len.getD i 0) (fun j => .int ((mj_byt.getD i []).getD j 0)) A U H
theorem mj_S.moved {ρ : Nat → Nat → Nat} {A : Nat → Prop} {u U : State} {H : Heap} (hvm : u.vm.Alike U.vm) (h : mj_S ρ A u H) : mj_S ρ A U H :=
  fun i hi => ⟨va_O.moved hvm (h i hi).1, va_OF.moved hvm (h i hi).2.1, va_OF.moved hvm (h i hi).2.2.1, va_T.moved hvm (h i hi).2.2.2⟩
theorem mj_S.kept {ρ : Nat → Nat → Nat} {A : Nat → Prop} {U : State} {H H1 : Heap} (h : mj_S ρ A U H) (hq : ∀ a : Nat, a < H.size → ¬ A a → H1[a]? = H[a]?) : mj_S ρ A U H1 :=
  fun i hi => ⟨(h i hi).1.kept hq, (h i hi).2.1.kept hq, (h i hi).2.2.1.kept hq, (h i hi).2.2.2.kept hq⟩
theorem mj_S.narrow {ρ : Nat → Nat → Nat} {A B : Nat → Prop} {U : State} {H : Heap} (h : mj_S ρ A U H) (hAB : ∀ q, B q → A q) : mj_S ρ B U H :=
  fun i hi => ⟨(h i hi).1.narrow hAB, (h i hi).2.1.narrow hAB, (h i hi).2.2.1.narrow hAB, (h i hi).2.2.2.narrow hAB⟩
/-- what is known of constants and statics at a state U with heap H -/
def mj_Z (ρ : Nat → Nat → Nat) (A : Nat → Prop) (U : State) (H : Heap) : Prop :=
  mj_S ρ A U H ∧ (∀ (i : Nat) (q : String × Nat × String), mj_txt[i]? = some q → vk_R q.1 q.2.1 q.2.2 (ρ 200 i) U) ∧ va_Z "java/lang/String" "COMPACT_STRINGS" "Z" (.int 1) A U H ∧ va_Zq "jdk/internal/util/Preconditions" "SIOOBE_FORMATTER" "Ljava/util/function/BiFunction;" A U H
theorem mj_Z.next {ρ : Nat → Nat → Nat} {A B : Nat → Prop} {s U : State} {H : Heap} (h : mj_Z ρ A s s.heap) (hW : s.WarmedH U.vm) (hq : ∀ a : Nat, a < s.heap.size → ¬ A a → H[a]? = s.heap[a]?) (hAB : ∀ q, B q → A q) : mj_Z ρ B U H :=
  ⟨((h.1.moved hW.alike).kept hq).narrow hAB, fun i q hi => (h.2.1 i q hi).warm hW, ((h.2.2.1.moved hW.alike).kept hq).narrow hAB, ((h.2.2.2.moved hW.alike).kept hq).narrow hAB⟩
def mj_rm (d : Nat) : Room := { frames := d, cells := 0, slots := 0, locals := 40 * d }
def mj_ty (G : ClassId × ClassId × ClassId) : List (ClassId × FieldType) := [(G.1, .int), (G.2.1, .boolean), (G.2.2, .long)]
/-- what stands around a method's body -/
def mj_A (O : List (Nat × Nat)) (M : MI) (p : Program) (s : State) (m : MethodId) (args : Array Value) (meth : Method) (c : Code) (D : va_G) (G : ClassId × ClassId × ClassId) (ρ : Nat → Nat → Nat) (A : Nat → Prop) : Prop :=
  p.tables.exec = Jvm.exec ∧ c.code = M.2.1 ∧ c.maxLocals = M.2.2.1 ∧ meth.sig.returnType = M.2.2.2 ∧ meth.locks = false ∧ s.vm.findClass M.1.cls = some m.cls ∧ (∀ w ∈ mj_W, w.before args s = true) ∧ va_K D vwCl (mj_ty G) s ∧ mj_D O ρ A ∧ (∀ q : Nat, s.heap.size ≤ q → A q) ∧ mj_Z ρ A s s.heap
def mj_QC (O : List (Nat × Nat)) (D : va_G) (G : ClassId × ClassId × ClassId) (ρ : Nat → Nat → Nat) (A : Nat → Prop) (Q : Option MV → MS → Prop) : Array Value → State → Outcome → State → Prop := fun _ st o t =>
  (∃ (r : Option MV) (σ : MS), o = .returned (r.map (mj_rv ρ)) ∧ Q r σ ∧ va_P D vwCl (mj_ws O G ρ σ) t.heap) ∧ va_F A st t
/-- from here method M returns, with Q; d frames more are left for its calls -/
def R (O : List (Nat × Nat)) (d : Nat) (M : MI) (Q : Option MV → MS → Prop) (pc : Nat) (ls : List (Option MV)) (st : List MV) (σ : MS) : Prop :=
  ∀ (p : Program) (l : Launch) (e : Env) (s : State) (m : MethodId) (args : Array Value) (below : List Frame) (meth : Method) (c : Code) (D : va_G) (G : ClassId × ClassId × ClassId) (ρ : Nat → Nat → Nat) (A : Nat → Prop), mj_A O M p s m args meth c D G ρ A →
    ∀ (H : Heap) (locs : List Loc) (a : Array Slot), va_P D vwCl (mj_ws O G ρ σ) H → va_S A s.heap H locs → mj_L ρ a M.2.2.1 ls →
      W p l e (mj_rm d) s m args below meth c H locs 0 0 (MQ below (mj_QC O D G ρ A Q) args s 0 0 A) (F0 m pc a (st.map (mj_rv ρ)))
theorem mj_cat (ρ : Nat → Nat → Nat) : ∀ st : List MV, ((st.map (mj_rv ρ)).map fun v => v.category) = st.map (fun v => (mj_rv (fun _ _ => 0) v).category) := by
  intro st
  rw [List.map_map]
  apply List.map_congr_left
  intro v _
  match v with
  | .inl x => rfl
  | .inr (.inl x) => rfl
  | .inr (.inr q) => rfl
theorem mj_room13 {d : Nat} {ρ : Nat → Nat → Nat} {st : List MV} (h : (st.map fun v => (mj_rv (fun _ _ => 0) v).category).sum ≤ 8) (n : Nat) (hn : n ≤ 20) : ((st.map (mj_rv ρ)).map fun v => v.category).sum + n ≤ (mj_rm (d + 1)).locals := by
  rw [mj_cat]
  show _ ≤ 40 * (d + 1)
  omega
section MJ
variable {O : List (Nat × Nat)} {d : Nat} {M : MI} {Q : Option MV → MS → Prop} {pc : Nat} {ls : List (Option MV)} {st : List MV} {σ : MS}
theorem R.mono {Q' : Option MV → MS → Prop} (h : R O d M Q pc ls st σ) (hq : ∀ r σ', Q r σ' → Q' r σ') : R O d M Q' pc ls st σ := by
  intro p l e s m args below meth c D G ρ A hA H locs a hP hS hL T hT X
  obtain ⟨t, h1, o, h2, h3, ⟨⟨r, σ', g1, g2, g3⟩, g4⟩, h5⟩ := h p l e s m args below meth c D G ρ A hA H locs a hP hS hL T hT X
  exact ⟨t, h1, o, h2, h3, ⟨⟨r, σ', g1, hq r σ' g2, g3⟩, g4⟩, h5⟩
/-- fewer locals are known -/
theorem R.fewer {ls' : List (Option MV)} (hl : ∀ (j : Nat) (v : MV), ls'[j]? = some (some v) → ls[j]? = some (some v)) (h : R O d M Q pc ls' st σ) : R O d M Q pc ls st σ := by
  intro p l e s m args below meth c D G ρ A hA H locs a hP hS hL
  refine h p l e s m args below meth c D G ρ A hA H locs a hP hS ⟨hL.1, hL.2.1, fun q hq => ?_⟩
  obtain ⟨j, v, h1, rfl⟩ := (mj_toL_mem ρ _ 0 q).mp hq
  exact hL.2.2 _ ((mj_toL_mem ρ _ 0 _).mpr ⟨j, v, hl j v h1, rfl⟩)
theorem r_iconst {n : Int} {v : Int32} (hd : decode M.2.1 pc = .ok (.iconst n, 1)) (hv : Int32.ofInt n = v) (h : R O d M Q (pc + 1) ls (iV v :: st) σ) : R O d M Q pc ls st σ := by
  intro p l e s m args below meth c D G ρ A hA H locs a hP hS hL
  exact lv_iconst hA.1 hA.2.1 hd hv (h p l e s m args below meth c D G ρ A hA H locs a hP hS hL)
theorem r_bipush {n : Int} {v : Int32} (hd : decode M.2.1 pc = .ok (.bipush n, 2)) (hv : (Int8.ofInt n).toInt32 = v) (h : R O d M Q (pc + 2) ls (iV v :: st) σ) : R O d M Q pc ls st σ := by
  intro p l e s m args below meth c D G ρ A hA H locs a hP hS hL
  exact lv_bipush hA.1 hA.2.1 hd hv (h p l e s m args below meth c D G ρ A hA H locs a hP hS hL)
theorem r_sipush {n : Int} {v : Int32} (hd : decode M.2.1 pc = .ok (.sipush n, 3)) (hv : (Int16.ofInt n).toInt32 = v) (h : R O d M Q (pc + 3) ls (iV v :: st) σ) : R O d M Q pc ls st σ := by
  intro p l e s m args below meth c D G ρ A hA H locs a hP hS hL
  exact lv_sipush hA.1 hA.2.1 hd hv (h p l e s m args below meth c D G ρ A hA H locs a hP hS hL)
theorem r_lconst {n : Fin 2} {v : Int64} (hd : decode M.2.1 pc = .ok (.lconst n, 1)) (hv : Int64.ofNat (n : Nat) = v) (h : R O d M Q (pc + 1) ls (lV v :: st) σ) : R O d M Q pc ls st σ := by
  intro p l e s m args below meth c D G ρ A hA H locs a hP hS hL
  exact lv_lconst hA.1 hA.2.1 hd hv (h p l e s m args below meth c D G ρ A hA H locs a hP hS hL)
theorem r_iload_n {k : Fin 4} {i : Nat} {x : Int32} (hd : decode M.2.1 pc = .ok (.iload_n k, 1)) (hi : (k : Nat) = i) (hl : ls[i]? = some (some (iV x))) (h : R O d M Q (pc + 1) ls (iV x :: st) σ) : R O d M Q pc ls st σ := by
  intro p l e s m args below meth c D G ρ A hA H locs a hP hS hL
  exact lv_iload_n hA.1 hA.2.1 hd hi (hL.at hl) (h p l e s m args below meth c D G ρ A hA H locs a hP hS hL)
theorem r_iload {i : Nat} {x : Int32} (hd : decode M.2.1 pc = .ok (.iload i, 2)) (hl : ls[i]? = some (some (iV x))) (h : R O d M Q (pc + 2) ls (iV x :: st) σ) : R O d M Q pc ls st σ := by
  intro p l e s m args below meth c D G ρ A hA H locs a hP hS hL
  exact lv_iload hA.1 hA.2.1 hd (hL.at hl) (h p l e s m args below meth c D G ρ A hA H locs a hP hS hL)
theorem r_lload_n {k : Fin 4} {i : Nat} {x : Int64} (hd : decode M.2.1 pc = .ok (.lload_n k, 1)) (hi : (k : Nat) = i) (hl : ls[i]? = some (some (lV x))) (h : R O d M Q (pc + 1) ls (lV x :: st) σ) : R O d M Q pc ls st σ := by
  intro p l e s m args below meth c D G ρ A hA H locs a hP hS hL
  exact lv_lload_n hA.1 hA.2.1 hd hi (hL.at hl) (h p l e s m args below meth c D G ρ A hA H locs a hP hS hL)
theorem r_lload {i : Nat} {x : Int64} (hd : decode M.2.1 pc = .ok (.lload i, 2)) (hl : ls[i]? = some (some (lV x))) (h : R O d M Q (pc + 2) ls (lV x :: st) σ) : R O d M Q pc ls st σ := by
  intro p l e s m args below meth c D G ρ A hA H locs a hP hS hL
  exact lv_lload hA.1 hA.2.1 hd (hL.at hl) (h p l e s m args below meth c D G ρ A hA H locs a hP hS hL)
theorem r_aload_n {k : Fin 4} {i : Nat} {x y : Nat} (hd : decode M.2.1 pc = .ok (.aload_n k, 1)) (hi : (k : Nat) = i) (hl : ls[i]? = some (some (rV x y))) (h : R O d M Q (pc + 1) ls (rV x y :: st) σ) : R O d M Q pc ls st σ := by
  intro p l e s m args below meth c D G ρ A hA H locs a hP hS hL
  exact lv_aload_n hA.1 hA.2.1 hd hi (hL.at hl) (h p l e s m args below meth c D G ρ A hA H locs a hP hS hL)
theorem r_aload {i : Nat} {x y : Nat} (hd : decode M.2.1 pc = .ok (.aload i, 2)) (hl : ls[i]? = some (some (rV x y))) (h : R O d M Q (pc + 2) ls (rV x y :: st) σ) : R O d M Q pc ls st σ := by
  intro p l e s m args below meth c D G ρ A hA H locs a hP hS hL
  exact lv_aload hA.1 hA.2.1 hd (hL.at hl) (h p l e s m args below meth c D G ρ A hA H locs a hP hS hL)
theorem r_istore_n {k : Fin 4} {i : Nat} {x : Int32} (hd : decode M.2.1 pc = .ok (.istore_n k, 1)) (hi : (k : Nat) = i) (hn : i < M.2.2.1) (hk : mj_ok ls i = true) (h : R O d M Q (pc + 1) (ls.set i (some (iV x))) st σ) : R O d M Q pc ls (iV x :: st) σ := by
  intro p l e s m args below meth c D G ρ A hA H locs a hP hS hL
  exact lv_istore_n hA.1 hA.2.1 hd hi hL hn rfl (fun a' hL' => h p l e s m args below meth c D G ρ A hA H locs a' hP hS (mj_L.st1 hL' hk))
theorem r_istore {i : Nat} {x : Int32} (hd : decode M.2.1 pc = .ok (.istore i, 2)) (hn : i < M.2.2.1) (hk : mj_ok ls i = true) (h : R O d M Q (pc + 2) (ls.set i (some (iV x))) st σ) : R O d M Q pc ls (iV x :: st) σ := by
  intro p l e s m args below meth c D G ρ A hA H locs a hP hS hL
  exact lv_istore hA.1 hA.2.1 hd hL hn rfl (fun a' hL' => h p l e s m args below meth c D G ρ A hA H locs a' hP hS (mj_L.st1 hL' hk))
theorem r_lstore_n {k : Fin 4} {i : Nat} {x : Int64} (hd : decode M.2.1 pc = .ok (.lstore_n k, 1)) (hi : (k : Nat) = i) (hn : i + 1 < M.2.2.1) (hk : mj_ok ls i = true) (h : R O d M Q (pc + 1) ((ls.set i (some (lV x))).set (i + 1) none) st σ) : R O d M Q pc ls (lV x :: st) σ := by
  intro p l e s m args below meth c D G ρ A hA H locs a hP hS hL
  exact lv_lstore_n hA.1 hA.2.1 hd hi hL hn rfl (fun a' hL' => h p l e s m args below meth c D G ρ A hA H locs a' hP hS (mj_L.st2 hL' hk))
theorem r_lstore {i : Nat} {x : Int64} (hd : decode M.2.1 pc = .ok (.lstore i, 2)) (hn : i + 1 < M.2.2.1) (hk : mj_ok ls i = true) (h : R O d M Q (pc + 2) ((ls.set i (some (lV x))).set (i + 1) none) st σ) : R O d M Q pc ls (lV x :: st) σ := by
  intro p l e s m args below meth c D G ρ A hA H locs a hP hS hL
  exact lv_lstore hA.1 hA.2.1 hd hL hn rfl (fun a' hL' => h p l e s m args below meth c D G ρ A hA H locs a' hP hS (mj_L.st2 hL' hk))
theorem r_astore_n {k : Fin 4} {i : Nat} {x y : Nat} (hd : decode M.2.1 pc = .ok (.astore_n k, 1)) (hi : (k : Nat) = i) (hn : i < M.2.2.1) (hk : mj_ok ls i = true) (h : R O d M Q (pc + 1) (ls.set i (some (rV x y))) st σ) : R O d M Q pc ls (rV x y :: st) σ := by
  intro p l e s m args below meth c D G ρ A hA H locs a hP hS hL
  exact lv_astore_n hA.1 hA.2.1 hd hi hL hn rfl (fun a' hL' => h p l e s m args below meth c D G ρ A hA H locs a' hP hS (mj_L.st1 hL' hk))
theorem r_astore {i : Nat} {x y : Nat} (hd : decode M.2.1 pc = .ok (.astore i, 2)) (hn : i < M.2.2.1) (hk : mj_ok ls i = true) (h : R O d M Q (pc + 2) (ls.set i (some (rV x y))) st σ) : R O d M Q pc ls (rV x y :: st) σ := by
  intro p l e s m args below meth c D G ρ A hA H locs a hP hS hL
  exact lv_astore hA.1 hA.2.1 hd hL hn rfl (fun a' hL' => h p l e s m args below meth c D G ρ A hA H locs a' hP hS (mj_L.st1 hL' hk))
theorem r_iinc {i : Nat} {n : Int} {x v : Int32} (hd : decode M.2.1 pc = .ok (.iinc i n, 3)) (hl : ls[i]? = some (some (iV x))) (hv : x + Int32.ofInt n = v) (hn : i < M.2.2.1) (hk : mj_ok ls i = true) (h : R O d M Q (pc + 3) (ls.set i (some (iV v))) st σ) : R O d M Q pc ls st σ := by
  intro p l e s m args below meth c D G ρ A hA H locs a hP hS hL
  have hm : (i, Value.int x) ∈ mj_toL ρ 0 ls := (mj_toL_mem ρ ls 0 _).mpr ⟨i, iV x, hl, by simp [mj_rv]⟩
  obtain ⟨k, hk1⟩ := List.getElem?_of_mem hm
  exact lv_iinc hA.1 hA.2.1 hd hL hk1 hv hn rfl (fun a' hL' => h p l e s m args below meth c D G ρ A hA H locs a' hP hS (mj_L.st1 (v := iV v) hL' hk))
theorem r_iadd {x y : Int32} (hd : decode M.2.1 pc = .ok (.iadd, 1)) (h : R O d M Q (pc + 1) ls (iV (x + y) :: st) σ) : R O d M Q pc ls (iV y :: iV x :: st) σ := by
  intro p l e s m args below meth c D G ρ A hA H locs a hP hS hL
  exact lv_iadd hA.1 hA.2.1 hd (h p l e s m args below meth c D G ρ A hA H locs a hP hS hL)
theorem r_isub {x y : Int32} (hd : decode M.2.1 pc = .ok (.isub, 1)) (h : R O d M Q (pc + 1) ls (iV (x - y) :: st) σ) : R O d M Q pc ls (iV y :: iV x :: st) σ := by
  intro p l e s m args below meth c D G ρ A hA H locs a hP hS hL
  exact lv_isub hA.1 hA.2.1 hd (h p l e s m args below meth c D G ρ A hA H locs a hP hS hL)
theorem r_imul {x y : Int32} (hd : decode M.2.1 pc = .ok (.imul, 1)) (h : R O d M Q (pc + 1) ls (iV (x * y) :: st) σ) : R O d M Q pc ls (iV y :: iV x :: st) σ := by
  intro p l e s m args below meth c D G ρ A hA H locs a hP hS hL
  exact lv_imul hA.1 hA.2.1 hd (h p l e s m args below meth c D G ρ A hA H locs a hP hS hL)
theorem r_iand {x y : Int32} (hd : decode M.2.1 pc = .ok (.iand, 1)) (h : R O d M Q (pc + 1) ls (iV (x &&& y) :: st) σ) : R O d M Q pc ls (iV y :: iV x :: st) σ := by
  intro p l e s m args below meth c D G ρ A hA H locs a hP hS hL
  exact lv_iand hA.1 hA.2.1 hd (h p l e s m args below meth c D G ρ A hA H locs a hP hS hL)
theorem r_ior {x y : Int32} (hd : decode M.2.1 pc = .ok (.ior, 1)) (h : R O d M Q (pc + 1) ls (iV (x ||| y) :: st) σ) : R O d M Q pc ls (iV y :: iV x :: st) σ := by
  intro p l e s m args below meth c D G ρ A hA H locs a hP hS hL
  exact lv_ior hA.1 hA.2.1 hd (h p l e s m args below meth c D G ρ A hA H locs a hP hS hL)
theorem r_ixor {x y : Int32} (hd : decode M.2.1 pc = .ok (.ixor, 1)) (h : R O d M Q (pc + 1) ls (iV (x ^^^ y) :: st) σ) : R O d M Q pc ls (iV y :: iV x :: st) σ := by
  intro p l e s m args below meth c D G ρ A hA H locs a hP hS hL
  exact lv_ixor hA.1 hA.2.1 hd (h p l e s m args below meth c D G ρ A hA H locs a hP hS hL)
theorem r_ishl {x y : Int32} (hd : decode M.2.1 pc = .ok (.ishl, 1)) (h : R O d M Q (pc + 1) ls (iV (x <<< (y &&& 31)) :: st) σ) : R O d M Q pc ls (iV y :: iV x :: st) σ := by
  intro p l e s m args below meth c D G ρ A hA H locs a hP hS hL
  exact lv_ishl hA.1 hA.2.1 hd (h p l e s m args below meth c D G ρ A hA H locs a hP hS hL)
theorem r_ishr {x y : Int32} (hd : decode M.2.1 pc = .ok (.ishr, 1)) (h : R O d M Q (pc + 1) ls (iV (x >>> (y &&& 31)) :: st) σ) : R O d M Q pc ls (iV y :: iV x :: st) σ := by
  intro p l e s m args below meth c D G ρ A hA H locs a hP hS hL
  exact lv_ishr hA.1 hA.2.1 hd (h p l e s m args below meth c D G ρ A hA H locs a hP hS hL)
theorem r_idiv {x y : Int32} (hd : decode M.2.1 pc = .ok (.idiv, 1)) (hne : ¬ y = 0) (h : R O d M Q (pc + 1) ls (iV (x / y) :: st) σ) : R O d M Q pc ls (iV y :: iV x :: st) σ := by
  intro p l e s m args below meth c D G ρ A hA H locs a hP hS hL
  exact lv_idiv hA.1 hA.2.1 hd hne (h p l e s m args below meth c D G ρ A hA H locs a hP hS hL)
theorem r_irem {x y : Int32} (hd : decode M.2.1 pc = .ok (.irem, 1)) (hne : ¬ y = 0) (h : R O d M Q (pc + 1) ls (iV (x - x / y * y) :: st) σ) : R O d M Q pc ls (iV y :: iV x :: st) σ := by
  intro p l e s m args below meth c D G ρ A hA H locs a hP hS hL
  exact lv_irem hA.1 hA.2.1 hd hne (h p l e s m args below meth c D G ρ A hA H locs a hP hS hL)
theorem r_ladd {x y : Int64} (hd : decode M.2.1 pc = .ok (.ladd, 1)) (h : R O d M Q (pc + 1) ls (lV (x + y) :: st) σ) : R O d M Q pc ls (lV y :: lV x :: st) σ := by
  intro p l e s m args below meth c D G ρ A hA H locs a hP hS hL
  exact lv_ladd hA.1 hA.2.1 hd (h p l e s m args below meth c D G ρ A hA H locs a hP hS hL)
theorem r_lsub {x y : Int64} (hd : decode M.2.1 pc = .ok (.lsub, 1)) (h : R O d M Q (pc + 1) ls (lV (x - y) :: st) σ) : R O d M Q pc ls (lV y :: lV x :: st) σ := by
  intro p l e s m args below meth c D G ρ A hA H locs a hP hS hL
  exact lv_lsub hA.1 hA.2.1 hd (h p l e s m args below meth c D G ρ A hA H locs a hP hS hL)
theorem r_lmul {x y : Int64} (hd : decode M.2.1 pc = .ok (.lmul, 1)) (h : R O d M Q (pc + 1) ls (lV (x * y) :: st) σ) : R O d M Q pc ls (lV y :: lV x :: st) σ := by
  intro p l e s m args below meth c D G ρ A hA H locs a hP hS hL
  exact lv_lmul hA.1 hA.2.1 hd (h p l e s m args below meth c D G ρ A hA H locs a hP hS hL)
theorem r_land {x y : Int64} (hd : decode M.2.1 pc = .ok (.land, 1)) (h : R O d M Q (pc + 1) ls (lV (x &&& y) :: st) σ) : R O d M Q pc ls (lV y :: lV x :: st) σ := by
  intro p l e s m args below meth c D G ρ A hA H locs a hP hS hL
  exact lv_land hA.1 hA.2.1 hd (h p l e s m args below meth c D G ρ A hA H locs a hP hS hL)
theorem r_ldiv {x y : Int64} (hd : decode M.2.1 pc = .ok (.ldiv, 1)) (hne : ¬ y = 0) (h : R O d M Q (pc + 1) ls (lV (x / y) :: st) σ) : R O d M Q pc ls (lV y :: lV x :: st) σ := by
  intro p l e s m args below meth c D G ρ A hA H locs a hP hS hL
  exact lv_ldiv hA.1 hA.2.1 hd hne (h p l e s m args below meth c D G ρ A hA H locs a hP hS hL)
theorem r_lrem {x y : Int64} (hd : decode M.2.1 pc = .ok (.lrem, 1)) (hne : ¬ y = 0) (h : R O d M Q (pc + 1) ls (lV (x - x / y * y) :: st) σ) : R O d M Q pc ls (lV y :: lV x :: st) σ := by
  intro p l e s m args below meth c D G ρ A hA H locs a hP hS hL
  exact lv_lrem hA.1 hA.2.1 hd hne (h p l e s m args below meth c D G ρ A hA H locs a hP hS hL)
theorem r_ineg {x : Int32} (hd : decode M.2.1 pc = .ok (.ineg, 1)) (h : R O d M Q (pc + 1) ls (iV (-x) :: st) σ) : R O d M Q pc ls (iV x :: st) σ := by
  intro p l e s m args below meth c D G ρ A hA H locs a hP hS hL
  exact lv_ineg hA.1 hA.2.1 hd (h p l e s m args below meth c D G ρ A hA H locs a hP hS hL)
theorem r_lneg {x : Int64} (hd : decode M.2.1 pc = .ok (.lneg, 1)) (h : R O d M Q (pc + 1) ls (lV (-x) :: st) σ) : R O d M Q pc ls (lV x :: st) σ := by
  intro p l e s m args below meth c D G ρ A hA H locs a hP hS hL
  exact lv_lneg hA.1 hA.2.1 hd (h p l e s m args below meth c D G ρ A hA H locs a hP hS hL)
theorem r_i2l {x : Int32} {v : Int64} (hd : decode M.2.1 pc = .ok (.i2l, 1)) (hv : x.toInt64 = v) (h : R O d M Q (pc + 1) ls (lV v :: st) σ) : R O d M Q pc ls (iV x :: st) σ := by
  intro p l e s m args below meth c D G ρ A hA H locs a hP hS hL
  exact lv_i2l hA.1 hA.2.1 hd hv (h p l e s m args below meth c D G ρ A hA H locs a hP hS hL)
theorem r_l2i {x : Int64} {v : Int32} (hd : decode M.2.1 pc = .ok (.l2i, 1)) (hv : x.toInt32 = v) (h : R O d M Q (pc + 1) ls (iV v :: st) σ) : R O d M Q pc ls (lV x :: st) σ := by
  intro p l e s m args below meth c D G ρ A hA H locs a hP hS hL
  exact lv_l2i hA.1 hA.2.1 hd hv (h p l e s m args below meth c D G ρ A hA H locs a hP hS hL)
theorem r_i2c {x : Int32} {v : Int32} (hd : decode M.2.1 pc = .ok (.i2c, 1)) (hv : (x.toUInt32 % 65536).toInt32 = v) (h : R O d M Q (pc + 1) ls (iV v :: st) σ) : R O d M Q pc ls (iV x :: st) σ := by
  intro p l e s m args below meth c D G ρ A hA H locs a hP hS hL
  exact lv_i2c hA.1 hA.2.1 hd hv (h p l e s m args below meth c D G ρ A hA H locs a hP hS hL)
theorem r_i2b {x : Int32} {v : Int32} (hd : decode M.2.1 pc = .ok (.i2b, 1)) (hv : x.toInt8.toInt32 = v) (h : R O d M Q (pc + 1) ls (iV v :: st) σ) : R O d M Q pc ls (iV x :: st) σ := by
  intro p l e s m args below meth c D G ρ A hA H locs a hP hS hL
  exact lv_i2b hA.1 hA.2.1 hd hv (h p l e s m args below meth c D G ρ A hA H locs a hP hS hL)
theorem r_iushr {x y v : Int32} (hd : decode M.2.1 pc = .ok (.iushr, 1)) (hv : (x.toUInt32 >>> (y.toUInt32 &&& Int32.toUInt32 31)).toInt32 = v) (h : R O d M Q (pc + 1) ls (iV v :: st) σ) : R O d M Q pc ls (iV y :: iV x :: st) σ := by
  intro p l e s m args below meth c D G ρ A hA H locs a hP hS hL
  exact lv_iushr hA.1 hA.2.1 hd hv (h p l e s m args below meth c D G ρ A hA H locs a hP hS hL)
theorem r_lcmp {x y : Int64} (hd : decode M.2.1 pc = .ok (.lcmp, 1)) (h : R O d M Q (pc + 1) ls (iV (lg_cmp x y) :: st) σ) : R O d M Q pc ls (lV y :: lV x :: st) σ := by
  intro p l e s m args below meth c D G ρ A hA H locs a hP hS hL
  exact W.lcmp hA.1 hA.2.1 hd (h p l e s m args below meth c D G ρ A hA H locs a hP hS hL)
theorem r_dup_i {x : Int32} (hd : decode M.2.1 pc = .ok (.dup, 1)) (h : R O d M Q (pc + 1) ls (iV x :: iV x :: st) σ) : R O d M Q pc ls (iV x :: st) σ := by
  intro p l e s m args below meth c D G ρ A hA H locs a hP hS hL
  exact lv_dup hA.1 hA.2.1 hd rfl (h p l e s m args below meth c D G ρ A hA H locs a hP hS hL)
theorem r_dup_r {x y : Nat} (hd : decode M.2.1 pc = .ok (.dup, 1)) (h : R O d M Q (pc + 1) ls (rV x y :: rV x y :: st) σ) : R O d M Q pc ls (rV x y :: st) σ := by
  intro p l e s m args below meth c D G ρ A hA H locs a hP hS hL
  exact lv_dup hA.1 hA.2.1 hd rfl (h p l e s m args below meth c D G ρ A hA H locs a hP hS hL)
theorem r_pop_i {x : Int32} (hd : decode M.2.1 pc = .ok (.pop, 1)) (h : R O d M Q (pc + 1) ls (st) σ) : R O d M Q pc ls (iV x :: st) σ := by
  intro p l e s m args below meth c D G ρ A hA H locs a hP hS hL
  exact lv_pop hA.1 hA.2.1 hd rfl (h p l e s m args below meth c D G ρ A hA H locs a hP hS hL)
theorem r_dup2_ri {i : Int32} {x y : Nat} (hd : decode M.2.1 pc = .ok (.dup2, 1)) (h : R O d M Q (pc + 1) ls (iV i :: rV x y :: iV i :: rV x y :: st) σ) : R O d M Q pc ls (iV i :: rV x y :: st) σ := by
  intro p l e s m args below meth c D G ρ A hA H locs a hP hS hL
  exact lv_dup2_11 hA.1 hA.2.1 hd rfl rfl (h p l e s m args below meth c D G ρ A hA H locs a hP hS hL)
theorem r_if_eq {x : Int32} {off : Int} {tgt : Nat} (hd : decode M.2.1 pc = .ok (.ifCond .eq off, 3)) (ht : (pc : Int) + off = (tgt : Int)) (kt : x = 0 → R O d M Q tgt ls st σ) (kf : ¬ x = 0 → R O d M Q (pc + 3) ls st σ) : R O d M Q pc ls (iV x :: st) σ := by
  intro p l e s m args below meth c D G ρ A hA H locs a hP hS hL
  exact lv_if_eq hA.1 hA.2.1 hd ht (fun q => kt q p l e s m args below meth c D G ρ A hA H locs a hP hS hL) (fun q => kf q p l e s m args below meth c D G ρ A hA H locs a hP hS hL)
theorem r_if_ne {x : Int32} {off : Int} {tgt : Nat} (hd : decode M.2.1 pc = .ok (.ifCond .ne off, 3)) (ht : (pc : Int) + off = (tgt : Int)) (kt : ¬ x = 0 → R O d M Q tgt ls st σ) (kf : x = 0 → R O d M Q (pc + 3) ls st σ) : R O d M Q pc ls (iV x :: st) σ := by
  intro p l e s m args below meth c D G ρ A hA H locs a hP hS hL
  exact lv_if_ne hA.1 hA.2.1 hd ht (fun q => kt q p l e s m args below meth c D G ρ A hA H locs a hP hS hL) (fun q => kf q p l e s m args below meth c D G ρ A hA H locs a hP hS hL)
theorem r_if_lt {x : Int32} {off : Int} {tgt : Nat} (hd : decode M.2.1 pc = .ok (.ifCond .lt off, 3)) (ht : (pc : Int) + off = (tgt : Int)) (kt : x < 0 → R O d M Q tgt ls st σ) (kf : ¬ x < 0 → R O d M Q (pc + 3) ls st σ) : R O d M Q pc ls (iV x :: st) σ := by
  intro p l e s m args below meth c D G ρ A hA H locs a hP hS hL
  exact lv_if_lt hA.1 hA.2.1 hd ht (fun q => kt q p l e s m args below meth c D G ρ A hA H locs a hP hS hL) (fun q => kf q p l e s m args below meth c D G ρ A hA H locs a hP hS hL)
theorem r_if_ge {x : Int32} {off : Int} {tgt : Nat} (hd : decode M.2.1 pc = .ok (.ifCond .ge off, 3)) (ht : (pc : Int) + off = (tgt : Int)) (kt : 0 ≤ x → R O d M Q tgt ls st σ) (kf : ¬ 0 ≤ x → R O d M Q (pc + 3) ls st σ) : R O d M Q pc ls (iV x :: st) σ := by
  intro p l e s m args below meth c D G ρ A hA H locs a hP hS hL
  exact lv_if_ge hA.1 hA.2.1 hd ht (fun q => kt q p l e s m args below meth c D G ρ A hA H locs a hP hS hL) (fun q => kf q p l e s m args below meth c D G ρ A hA H locs a hP hS hL)
theorem r_if_gt {x : Int32} {off : Int} {tgt : Nat} (hd : decode M.2.1 pc = .ok (.ifCond .gt off, 3)) (ht : (pc : Int) + off = (tgt : Int)) (kt : 0 < x → R O d M Q tgt ls st σ) (kf : ¬ 0 < x → R O d M Q (pc + 3) ls st σ) : R O d M Q pc ls (iV x :: st) σ := by
  intro p l e s m args below meth c D G ρ A hA H locs a hP hS hL
  exact lv_if_gt hA.1 hA.2.1 hd ht (fun q => kt q p l e s m args below meth c D G ρ A hA H locs a hP hS hL) (fun q => kf q p l e s m args below meth c D G ρ A hA H locs a hP hS hL)
theorem r_if_le {x : Int32} {off : Int} {tgt : Nat} (hd : decode M.2.1 pc = .ok (.ifCond .le off, 3)) (ht : (pc : Int) + off = (tgt : Int)) (kt : x ≤ 0 → R O d M Q tgt ls st σ) (kf : ¬ x ≤ 0 → R O d M Q (pc + 3) ls st σ) : R O d M Q pc ls (iV x :: st) σ := by
  intro p l e s m args below meth c D G ρ A hA H locs a hP hS hL
  exact lv_if_le hA.1 hA.2.1 hd ht (fun q => kt q p l e s m args below meth c D G ρ A hA H locs a hP hS hL) (fun q => kf q p l e s m args below meth c D G ρ A hA H locs a hP hS hL)
theorem r_icmp_eq {x y : Int32} {off : Int} {tgt : Nat} (hd : decode M.2.1 pc = .ok (.if_icmp .eq off, 3)) (ht : (pc : Int) + off = (tgt : Int)) (kt : x = y → R O d M Q tgt ls st σ) (kf : ¬ x = y → R O d M Q (pc + 3) ls st σ) : R O d M Q pc ls (iV y :: iV x :: st) σ := by
  intro p l e s m args below meth c D G ρ A hA H locs a hP hS hL
  exact lv_icmp_eq hA.1 hA.2.1 hd ht (fun q => kt q p l e s m args below meth c D G ρ A hA H locs a hP hS hL) (fun q => kf q p l e s m args below meth c D G ρ A hA H locs a hP hS hL)
theorem r_icmp_ne {x y : Int32} {off : Int} {tgt : Nat} (hd : decode M.2.1 pc = .ok (.if_icmp .ne off, 3)) (ht : (pc : Int) + off = (tgt : Int)) (kt : ¬ x = y → R O d M Q tgt ls st σ) (kf : x = y → R O d M Q (pc + 3) ls st σ) : R O d M Q pc ls (iV y :: iV x :: st) σ := by
  intro p l e s m args below meth c D G ρ A hA H locs a hP hS hL
  exact lv_icmp_ne hA.1 hA.2.1 hd ht (fun q => kt q p l e s m args below meth c D G ρ A hA H locs a hP hS hL) (fun q => kf q p l e s m args below meth c D G ρ A hA H locs a hP hS hL)
theorem r_icmp_lt {x y : Int32} {off : Int} {tgt : Nat} (hd : decode M.2.1 pc = .ok (.if_icmp .lt off, 3)) (ht : (pc : Int) + off = (tgt : Int)) (kt : x < y → R O d M Q tgt ls st σ) (kf : ¬ x < y → R O d M Q (pc + 3) ls st σ) : R O d M Q pc ls (iV y :: iV x :: st) σ := by
  intro p l e s m args below meth c D G ρ A hA H locs a hP hS hL
  exact lv_icmp_lt hA.1 hA.2.1 hd ht (fun q => kt q p l e s m args below meth c D G ρ A hA H locs a hP hS hL) (fun q => kf q p l e s m args below meth c D G ρ A hA H locs a hP hS hL)
theorem r_icmp_ge {x y : Int32} {off : Int} {tgt : Nat} (hd : decode M.2.1 pc = .ok (.if_icmp .ge off, 3)) (ht : (pc : Int) + off = (tgt : Int)) (kt : y ≤ x → R O d M Q tgt ls st σ) (kf : ¬ y ≤ x → R O d M Q (pc + 3) ls st σ) : R O d M Q pc ls (iV y :: iV x :: st) σ := by
  intro p l e s m args below meth c D G ρ A hA H locs a hP hS hL
  exact lv_icmp_ge hA.1 hA.2.1 hd ht (fun q => kt q p l e s m args below meth c D G ρ A hA H locs a hP hS hL) (fun q => kf q p l e s m args below meth c D G ρ A hA H locs a hP hS hL)
theorem r_icmp_gt {x y : Int32} {off : Int} {tgt : Nat} (hd : decode M.2.1 pc = .ok (.if_icmp .gt off, 3)) (ht : (pc : Int) + off = (tgt : Int)) (kt : y < x → R O d M Q tgt ls st σ) (kf : ¬ y < x → R O d M Q (pc + 3) ls st σ) : R O d M Q pc ls (iV y :: iV x :: st) σ := by
  intro p l e s m args below meth c D G ρ A hA H locs a hP hS hL
  exact lv_icmp_gt hA.1 hA.2.1 hd ht (fun q => kt q p l e s m args below meth c D G ρ A hA H locs a hP hS hL) (fun q => kf q p l e s m args below meth c D G ρ A hA H locs a hP hS hL)
theorem r_icmp_le {x y : Int32} {off : Int} {tgt : Nat} (hd : decode M.2.1 pc = .ok (.if_icmp .le off, 3)) (ht : (pc : Int) + off = (tgt : Int)) (kt : x ≤ y → R O d M Q tgt ls st σ) (kf : ¬ x ≤ y → R O d M Q (pc + 3) ls st σ) : R O d M Q pc ls (iV y :: iV x :: st) σ := by
  intro p l e s m args below meth c D G ρ A hA H locs a hP hS hL
  exact lv_icmp_le hA.1 hA.2.1 hd ht (fun q => kt q p l e s m args below meth c D G ρ A hA H locs a hP hS hL) (fun q => kf q p l e s m args below meth c D G ρ A hA H locs a hP hS hL)
theorem r_goto {off : Int} {tgt : Nat} (hd : decode M.2.1 pc = .ok (.goto off, 3)) (ht : (pc : Int) + off = (tgt : Int)) (h : R O d M Q tgt ls st σ) : R O d M Q pc ls st σ := by
  intro p l e s m args below meth c D G ρ A hA H locs a hP hS hL
  exact lv_goto hA.1 hA.2.1 hd ht (h p l e s m args below meth c D G ρ A hA H locs a hP hS hL)
theorem r_lookup {dflt : Int} {ps : Array (Int × Int)} {len : Nat} {x : Int32} {off : Int} {tgt : Nat} (hd : decode M.2.1 pc = .ok (.lookupswitch dflt ps, len)) (hp : (ps.toList.zip (ps.toList.drop 1)).all (fun (a, next) => a.1 < next.1) = true) (ho : Op.lookupswitch.offset ps.toList dflt x.toInt = off) (ht : (pc : Int) + off = (tgt : Int)) (h : R O d M Q tgt ls st σ) : R O d M Q pc ls (iV x :: st) σ := by
  intro p l e s m args below meth c D G ρ A hA H locs a hP hS hL
  exact lv_lookup hA.1 hA.2.1 hd hp ho ht (h p l e s m args below meth c D G ρ A hA H locs a hP hS hL)
theorem r_tableOut {dflt lo hi : Int} {offs : Array Int} {len : Nat} {x : Int32} {tgt : Nat} (hd : decode M.2.1 pc = .ok (.tableswitch dflt lo hi offs, len)) (hx : x.toInt < lo ∨ hi < x.toInt) (ht : (pc : Int) + dflt = (tgt : Int)) (h : R O d M Q tgt ls st σ) : R O d M Q pc ls (iV x :: st) σ := by
  intro p l e s m args below meth c D G ρ A hA H locs a hP hS hL
  exact lv_tableOut hA.1 hA.2.1 hd hx ht (h p l e s m args below meth c D G ρ A hA H locs a hP hS hL)
theorem r_tableIn {dflt lo hi : Int} {offs : Array Int} {len : Nat} {x : Int32} {off : Int} {tgt : Nat} (hd : decode M.2.1 pc = .ok (.tableswitch dflt lo hi offs, len)) (h1 : ¬ x.toInt < lo) (h2 : ¬ hi < x.toInt) (ho : offs[(x.toInt - lo).toNat]? = some off) (ht : (pc : Int) + off = (tgt : Int)) (h : R O d M Q tgt ls st σ) : R O d M Q pc ls (iV x :: st) σ := by
  intro p l e s m args below meth c D G ρ A hA H locs a hP hS hL
  exact lv_tableIn hA.1 hA.2.1 hd h1 h2 ho ht (h p l e s m args below meth c D G ρ A hA H locs a hP hS hL)
theorem r_ldc {i : Nat} {v : Int32} (hw : Cond.constant M.1.cls i v ∈ mj_W) (hd : decode M.2.1 pc = .ok (.ldc i, 2)) (h : R O d M Q (pc + 2) ls (iV v :: st) σ) : R O d M Q pc ls st σ := by
  intro p l e s m args below meth c D G ρ A hA H locs a hP hS hL
  exact lv_ldc hA.1 hA.2.1 hA.2.2.2.2.2.1 (hA.2.2.2.2.2.2.1 _ hw) hd (h p l e s m args below meth c D G ρ A hA H locs a hP hS hL)
theorem r_ldcw {i : Nat} {v : Int32} (hw : Cond.constant M.1.cls i v ∈ mj_W) (hd : decode M.2.1 pc = .ok (.ldc_w i, 3)) (h : R O d M Q (pc + 3) ls (iV v :: st) σ) : R O d M Q pc ls st σ := by
  intro p l e s m args below meth c D G ρ A hA H locs a hP hS hL
  exact lv_ldcw hA.1 hA.2.1 hA.2.2.2.2.2.1 (hA.2.2.2.2.2.2.1 _ hw) hd (h p l e s m args below meth c D G ρ A hA H locs a hP hS hL)
theorem r_ldc2 {i : Nat} {v : Int64} (hw : Cond.constantLong M.1.cls i v ∈ mj_W) (hd : decode M.2.1 pc = .ok (.ldc2_w i, 3)) (h : R O d M Q (pc + 3) ls (lV v :: st) σ) : R O d M Q pc ls st σ := by
  intro p l e s m args below meth c D G ρ A hA H locs a hP hS hL
  exact lv_ldc2 hA.1 hA.2.1 hA.2.2.2.2.2.1 (hA.2.2.2.2.2.2.1 _ hw) hd (h p l e s m args below meth c D G ρ A hA H locs a hP hS hL)
theorem r_iret {v : Int32} (hd : decode M.2.1 pc = .ok (.ireturn, 1)) (hr : M.2.2.2 = some .int) (hq : Q (some (iV v)) σ) : R O d M Q pc ls [iV v] σ := by
  intro p l e s m args below meth c D G ρ A hA H locs a hP hS hL
  exact W.iret hA.1 hA.2.1 (hA.2.2.2.1.trans hr) (fun t ht _ => ⟨⟨_, σ, rfl, hq, by rw [ht]; exact hP⟩, hS.F ht⟩) hS.2.2 hd hA.2.2.2.2.1
theorem r_zret {v : Int32} {ty : FieldType} (hd : decode M.2.1 pc = .ok (.ireturn, 1)) (hr : M.2.2.2 = some ty) (hn : narrow ty (.int v) = .int v) (hq : Q (some (iV v)) σ) : R O d M Q pc ls [iV v] σ := by
  intro p l e s m args below meth c D G ρ A hA H locs a hP hS hL
  exact W.zret hA.1 hA.2.1 (hA.2.2.2.1.trans hr) hn (fun t ht _ => ⟨⟨_, σ, rfl, hq, by rw [ht]; exact hP⟩, hS.F ht⟩) hS.2.2 hd hA.2.2.2.2.1
theorem r_lret {v : Int64} (hd : decode M.2.1 pc = .ok (.lreturn, 1)) (hr : M.2.2.2 = some .long) (hq : Q (some (lV v)) σ) : R O d M Q pc ls [lV v] σ := by
  intro p l e s m args below meth c D G ρ A hA H locs a hP hS hL
  exact W.lret hA.1 hA.2.1 (hA.2.2.2.1.trans hr) (fun t ht _ => ⟨⟨_, σ, rfl, hq, by rw [ht]; exact hP⟩, hS.F ht⟩) hS.2.2 hd hA.2.2.2.2.1
theorem r_vret (hd : decode M.2.1 pc = .ok (.return_, 1)) (hr : M.2.2.2 = none) (hq : Q none σ) : R O d M Q pc ls [] σ := by
  intro p l e s m args below meth c D G ρ A hA H locs a hP hS hL
  exact W.vret hA.1 hA.2.1 (hA.2.2.2.1.trans hr) (fun t ht _ => ⟨⟨_, σ, rfl, hq, by rw [ht]; exact hP⟩, hS.F ht⟩) hS.2.2 hd hA.2.2.2.2.1
theorem r_get {idx k i j ci N : Nat} {C : String} {T : u_T} {fl : List (Nat × Nat × Nat)} {sp : Nat × Nat × Nat} (hk : mj_sch k = .inl (ci, fl)) (hj : fl[j]? = some sp) (ho : (k, i) ∈ O) (hc : vwCl[ci]? = some (C, T, N)) (hin : ∀ w ∈ u_ws C T N, w ∈ mj_W) (hjn : j < N) (hf : (T j).1 = C) (hw : Cond.fieldLink M.1.cls idx C (T j).2.1 (T j).2.2.1 ∈ mj_W) (hd : decode M.2.1 pc = .ok (.getfield idx, 3)) {v : MV} (hv : ∀ ρ : Nat → Nat → Nat, mj_fv ρ (σ.1 k i) (σ.2.2 k i) i j sp = mj_rv ρ v) (h : R O d M Q (pc + 3) ls (v :: st) σ) : R O d M Q pc ls (rV k i :: st) σ := by
  intro p l e s m args below meth c D G ρ A hA H locs a hP hS hL
  obtain ⟨q, hq⟩ := List.getElem?_of_mem ho
  have hg := mj_ws_get (G := G) (ρ := ρ) (σ := σ) hq
  rw [show mj_ce G ρ σ k i = .inr (ci, mj_fvs ρ (σ.1 k i) (σ.2.2 k i) i 0 fl) by simp only [mj_ce, mj_cel, hk]] at hg
  refine va_get (v := mj_rv ρ v) hA.1 hA.2.1 hA.2.2.2.2.2.2.1 hin hA.2.2.2.2.2.1 hA.2.2.2.2.2.2.2.1 hP q hg hc j hjn (hA.2.2.2.2.2.2.1 _ hw) (fun x hx => by rw [hf] at hx; exact hx) ?_ hd (h p l e s m args below meth c D G ρ A hA H locs a hP hS hL)
  rw [mj_fvs_get, hj, Nat.zero_add]
  simp [hv ρ]
theorem r_putI {idx k i j ci N : Nat} {C : String} {T : u_T} {fl : List (Nat × Nat × Nat)} {sp : Nat × Nat × Nat} {x : Int32} {ty0 : Nat → FieldType} (hk : mj_sch k = .inl (ci, fl)) (hj : fl[j]? = some sp) (ho : (k, i) ∈ O) (hc : vwCl[ci]? = some (C, T, N)) (hin : ∀ w ∈ u_ws C T N, w ∈ mj_W) (hjn : j < N) (hf : (T j).1 = C) (hw : Cond.fieldLink M.1.cls idx C (T j).2.1 (T j).2.2.1 ∈ mj_W) (hd : decode M.2.1 pc = .ok (.putfield idx, 3)) (hsp : sp.1 = 0) (hty : ∀ k, k < N → parseFieldDescriptor (T k).2.2.1 = some (ty0 k)) (hnm : ∀ a, a < N → ∀ b, b < N → a ≠ b → (T a).2.1 ≠ (T b).2.1) (hfin : (T j).2.2.2 = false) (hn : narrow (ty0 j) (.int x) = .int x) (hft : fits (ty0 j) (.int x) = true) (h : R O d M Q (pc + 3) ls st (uI σ k i j x)) : R O d M Q pc ls (iV x :: rV k i :: st) σ := by
  intro p l_ e s m args below meth c D G ρ A hA H locs a hP hS hL
  obtain ⟨q, hq⟩ := List.getElem?_of_mem ho
  have hg := mj_ws_get (G := G) (ρ := ρ) (σ := σ) hq
  have hce : ∀ f : Nat → Int32, mj_cel G ρ f (σ.2.1 k i) (σ.2.2 k i) k i = .inr (ci, mj_fvs ρ f (σ.2.2 k i) i 0 fl) := fun f => by simp only [mj_cel, hk]
  rw [show mj_ce G ρ σ k i = .inr (ci, mj_fvs ρ (σ.1 k i) (σ.2.2 k i) i 0 fl) from hce _] at hg
  have hjl : j < fl.length := (List.getElem?_eq_some_iff.mp hj).1
  have hset : (mj_ws O G ρ σ).set q (ρ k i, .inr (ci, (mj_fvs ρ (σ.1 k i) (σ.2.2 k i) i 0 fl).set j (.int x))) = mj_ws O G ρ (uI σ k i j x) := by
    refine uI_set hA.2.2.2.2.2.2.2.2.1 hq ?_
    rw [hce]
    congr 2
    apply List.ext_getElem?
    intro n
    rw [List.getElem?_set, mj_fvs_get, mj_fvs_get, mj_fvs_len]
    by_cases hn2 : j = n
    · subst hn2
      rw [if_pos rfl, if_pos hjl, hj, Nat.zero_add]
      simp only [Option.map_some, mj_fv, hsp, if_true]
    · rw [if_neg hn2]
      have hn3 : ¬ n = j := fun e => hn2 e.symm
      cases fl[n]? with
      | none => rfl
      | some z => simp only [Option.map_some, mj_fv, Nat.zero_add, if_neg hn3]
  refine va_put (v := .int x) hA.1 hA.2.1 hA.2.2.2.2.2.2.1 hin ty0 hty hnm hA.2.2.2.2.2.1 hA.2.2.2.2.2.2.2.1 hP (hA.2.2.2.2.2.2.2.2.1.va σ) hS q hg hc j hjn (hA.2.2.2.2.2.2.1 _ hw) (fun x hx => by rw [hf] at hx; exact hx) hfin (hty j hjn) hn hft (by rw [mj_fvs_len]; exact hjl) hd (fun H1 locs1 hP1 hD1 hS1 => ?_)
  rw [hset] at hP1
  exact h p l_ e s m args below meth c D G ρ A hA H1 locs1 a hP1 hS1 hL
theorem r_putC {idx k i j ci N : Nat} {C : String} {T : u_T} {fl : List (Nat × Nat × Nat)} {sp : Nat × Nat × Nat} {k' i' : Nat} {C' : String} {ty0 : Nat → FieldType} (hk : mj_sch k = .inl (ci, fl)) (hj : fl[j]? = some sp) (ho : (k, i) ∈ O) (hc : vwCl[ci]? = some (C, T, N)) (hin : ∀ w ∈ u_ws C T N, w ∈ mj_W) (hjn : j < N) (hf : (T j).1 = C) (hw : Cond.fieldLink M.1.cls idx C (T j).2.1 (T j).2.2.1 ∈ mj_W) (hd : decode M.2.1 pc = .ok (.putfield idx, 3)) (hsp : sp = (3, k', 0)) (hone : ∀ (n : Nat) (z : Nat × Nat × Nat), fl[n]? = some z → ¬ n = j → z.1 = 0 ∨ z.1 = 1 ∨ z.1 = 2) (hty : ∀ k, k < N → parseFieldDescriptor (T k).2.2.1 = some (ty0 k)) (hnm : ∀ a, a < N → ∀ b, b < N → a ≠ b → (T a).2.1 ≠ (T b).2.1) (hfin : (T j).2.2.2 = false) (hto : ty0 j = .object C') (h : R O d M Q (pc + 3) ls st (uC σ k i i')) : R O d M Q pc ls (rV k' i' :: rV k i :: st) σ := by
  intro p l_ e s m args below meth c D G ρ A hA H locs a hP hS hL
  obtain ⟨q, hq⟩ := List.getElem?_of_mem ho
  have hg := mj_ws_get (G := G) (ρ := ρ) (σ := σ) hq
  have hce : ∀ t : Nat, mj_cel G ρ (σ.1 k i) (σ.2.1 k i) t k i = .inr (ci, mj_fvs ρ (σ.1 k i) t i 0 fl) := fun f => by simp only [mj_cel, hk]
  rw [show mj_ce G ρ σ k i = .inr (ci, mj_fvs ρ (σ.1 k i) (σ.2.2 k i) i 0 fl) from hce _] at hg
  have hjl : j < fl.length := (List.getElem?_eq_some_iff.mp hj).1
  have hset : (mj_ws O G ρ σ).set q (ρ k i, .inr (ci, (mj_fvs ρ (σ.1 k i) (σ.2.2 k i) i 0 fl).set j (.ref (ρ k' i')))) = mj_ws O G ρ (uC σ k i i') := by
    refine uC_set hA.2.2.2.2.2.2.2.2.1 hq ?_
    rw [hce]
    congr 2
    apply List.ext_getElem?
    intro n
    rw [List.getElem?_set, mj_fvs_get, mj_fvs_get, mj_fvs_len]
    by_cases hn2 : j = n
    · subst hn2
      rw [if_pos rfl, if_pos hjl, hj, Nat.zero_add, hsp]
      rfl
    · rw [if_neg hn2]
      have hn3 : ¬ n = j := fun e => hn2 e.symm
      cases hz : fl[n]? with
      | none => rfl
      | some z =>
        obtain ⟨z1, z2, z3⟩ := z
        rcases hone n _ hz hn3 with h | h | h <;> (dsimp only at h; subst h; rfl)
  refine va_put (v := .ref (ρ k' i')) hA.1 hA.2.1 hA.2.2.2.2.2.2.1 hin ty0 hty hnm hA.2.2.2.2.2.1 hA.2.2.2.2.2.2.2.1 hP (hA.2.2.2.2.2.2.2.2.1.va σ) hS q hg hc j hjn (hA.2.2.2.2.2.2.1 _ hw) (fun x hx => by rw [hf] at hx; exact hx) hfin (hty j hjn) (by rw [hto]; rfl) (by rw [hto]; rfl) (by rw [mj_fvs_len]; exact hjl) hd (fun H1 locs1 hP1 hD1 hS1 => ?_)
  rw [hset] at hP1
  exact h p l_ e s m args below meth c D G ρ A hA H1 locs1 a hP1 hS1 hL
theorem r_iald {k i n : Nat} {j : Int32} (hk : mj_sch k = .inr (0, n)) (ho : (k, i) ∈ O) (hin : vp_in j n) (hd : decode M.2.1 pc = .ok (.iaload, 1)) (h : R O d M Q (pc + 1) ls (iV (σ.1 k i j.toNatClampNeg) :: st) σ) : R O d M Q pc ls (iV j :: rV k i :: st) σ := by
  intro p l e s m args below meth c D G ρ A hA H locs a hP hS hL
  obtain ⟨q, hq⟩ := List.getElem?_of_mem ho
  have hg := mj_ws_get (G := G) (ρ := ρ) (σ := σ) hq
  rw [show mj_ce G ρ σ k i = .inl (G.1, n, .inl (σ.1 k i)) by simp only [mj_ce, mj_cel, hk]] at hg
  exact va_iald hA.1 hA.2.1 hA.2.2.2.2.2.2.2.1 hP q 0 hg rfl hin hd (h p l e s m args below meth c D G ρ A hA H locs a hP hS hL)
theorem r_zald {k i n : Nat} {j : Int32} (hk : mj_sch k = .inr (1, n)) (ho : (k, i) ∈ O) (hin : vp_in j n) (hd : decode M.2.1 pc = .ok (.baload, 1)) (h : R O d M Q (pc + 1) ls (iV (σ.1 k i j.toNatClampNeg) :: st) σ) : R O d M Q pc ls (iV j :: rV k i :: st) σ := by
  intro p l e s m args below meth c D G ρ A hA H locs a hP hS hL
  obtain ⟨q, hq⟩ := List.getElem?_of_mem ho
  have hg := mj_ws_get (G := G) (ρ := ρ) (σ := σ) hq
  rw [show mj_ce G ρ σ k i = .inl (G.2.1, n, .inl (σ.1 k i)) by simp only [mj_ce, mj_cel, hk]] at hg
  exact va_zald hA.1 hA.2.1 hA.2.2.2.2.2.2.2.1 hP q 1 hg rfl hin hd (h p l e s m args below meth c D G ρ A hA H locs a hP hS hL)
theorem r_lald {k i n : Nat} {j : Int32} (hk : mj_sch k = .inr (2, n)) (ho : (k, i) ∈ O) (hin : vp_in j n) (hd : decode M.2.1 pc = .ok (.laload, 1)) (h : R O d M Q (pc + 1) ls (lV (σ.2.1 k i j.toNatClampNeg) :: st) σ) : R O d M Q pc ls (iV j :: rV k i :: st) σ := by
  intro p l e s m args below meth c D G ρ A hA H locs a hP hS hL
  obtain ⟨q, hq⟩ := List.getElem?_of_mem ho
  have hg := mj_ws_get (G := G) (ρ := ρ) (σ := σ) hq
  rw [show mj_ce G ρ σ k i = .inl (G.2.2, n, .inr <| .inl (σ.2.1 k i)) by simp only [mj_ce, mj_cel, hk]] at hg
  exact va_lald hA.1 hA.2.1 hA.2.2.2.2.2.2.2.1 hP q 2 hg rfl hin hd (h p l e s m args below meth c D G ρ A hA H locs a hP hS hL)
theorem r_iast {k i n : Nat} {j : Int32} {x : Int32} (hk : mj_sch k = .inr (0, n)) (ho : (k, i) ∈ O) (hin : vp_in j n) (hd : decode M.2.1 pc = .ok (.iastore, 1)) (h : R O d M Q (pc + 1) ls st (uI σ k i j.toNatClampNeg x)) : R O d M Q pc ls (iV x :: iV j :: rV k i :: st) σ := by
  intro p l e s m args below meth c D G ρ A hA H locs a hP hS hL
  obtain ⟨q, hq⟩ := List.getElem?_of_mem ho
  have hg := mj_ws_get (G := G) (ρ := ρ) (σ := σ) hq
  rw [show mj_ce G ρ σ k i = .inl (G.1, n, .inl (σ.1 k i)) by simp only [mj_ce, mj_cel, hk]] at hg
  refine va_iast hA.1 hA.2.1 hA.2.2.2.2.2.2.2.1 hP (hA.2.2.2.2.2.2.2.2.1.va σ) hS q 0 hg rfl hin hd (fun H1 locs1 hP1 hD1 hS1 => ?_)
  refine h p l e s m args below meth c D G ρ A hA H1 locs1 a ?_ hS1 hL
  rw [← uI_set (j := j.toNatClampNeg) (v := x) hA.2.2.2.2.2.2.2.2.1 hq rfl]
  simp only [mj_cel, hk]
  exact hP1
theorem r_zast {k i n : Nat} {j : Int32} {x : Int32} (hk : mj_sch k = .inr (1, n)) (ho : (k, i) ∈ O) (hin : vp_in j n) (hx : x &&& 1 = x) (hd : decode M.2.1 pc = .ok (.bastore, 1)) (h : R O d M Q (pc + 1) ls st (uI σ k i j.toNatClampNeg x)) : R O d M Q pc ls (iV x :: iV j :: rV k i :: st) σ := by
  intro p l e s m args below meth c D G ρ A hA H locs a hP hS hL
  obtain ⟨q, hq⟩ := List.getElem?_of_mem ho
  have hg := mj_ws_get (G := G) (ρ := ρ) (σ := σ) hq
  rw [show mj_ce G ρ σ k i = .inl (G.2.1, n, .inl (σ.1 k i)) by simp only [mj_ce, mj_cel, hk]] at hg
  refine va_zast hA.1 hA.2.1 hA.2.2.2.2.2.2.2.1 hP (hA.2.2.2.2.2.2.2.2.1.va σ) hS q 1 hg rfl hin hd (fun H1 locs1 hP1 hD1 hS1 => ?_)
  refine h p l e s m args below meth c D G ρ A hA H1 locs1 a ?_ hS1 hL
  rw [← uI_set (j := j.toNatClampNeg) (v := x) hA.2.2.2.2.2.2.2.2.1 hq rfl]
  simp only [mj_cel, hk]
  have e1 : vp_nar .boolean x = x := by simp [vp_nar, narrow, hx]
  rw [e1] at hP1
  exact hP1
theorem r_last {k i n : Nat} {j : Int32} {x : Int64} (hk : mj_sch k = .inr (2, n)) (ho : (k, i) ∈ O) (hin : vp_in j n) (hd : decode M.2.1 pc = .ok (.lastore, 1)) (h : R O d M Q (pc + 1) ls st (uL σ k i j.toNatClampNeg x)) : R O d M Q pc ls (lV x :: iV j :: rV k i :: st) σ := by
  intro p l e s m args below meth c D G ρ A hA H locs a hP hS hL
  obtain ⟨q, hq⟩ := List.getElem?_of_mem ho
  have hg := mj_ws_get (G := G) (ρ := ρ) (σ := σ) hq
  rw [show mj_ce G ρ σ k i = .inl (G.2.2, n, .inr <| .inl (σ.2.1 k i)) by simp only [mj_ce, mj_cel, hk]] at hg
  refine va_last hA.1 hA.2.1 hA.2.2.2.2.2.2.2.1 hP (hA.2.2.2.2.2.2.2.2.1.va σ) hS q 2 hg rfl hin hd (fun H1 locs1 hP1 hD1 hS1 => ?_)
  refine h p l e s m args below meth c D G ρ A hA H1 locs1 a ?_ hS1 hL
  rw [← uL_set (j := j.toNatClampNeg) (v := x) hA.2.2.2.2.2.2.2.2.1 hq rfl]
  simp only [mj_cel, hk]
  exact hP1
theorem r_alen {k i n t : Nat} {v : Int32} (hk : mj_sch k = .inr (t, n)) (ht : t = 0 ∨ t = 1 ∨ t = 2) (ho : (k, i) ∈ O) (hv : Int32.ofNat n = v) (hd : decode M.2.1 pc = .ok (.arraylength, 1)) (h : R O d M Q (pc + 1) ls (iV v :: st) σ) : R O d M Q pc ls (rV k i :: st) σ := by
  intro p l e s m args below meth c D G ρ A hA H locs a hP hS hL
  obtain ⟨q, hq⟩ := List.getElem?_of_mem ho
  have hg := mj_ws_get (G := G) (ρ := ρ) (σ := σ) hq
  rcases ht with rfl | rfl | rfl
  · rw [show mj_ce G ρ σ k i = .inl (G.1, n, .inl (σ.1 k i)) by simp only [mj_ce, mj_cel, hk]] at hg
    exact va_alen hA.1 hA.2.1 hA.2.2.2.2.2.2.2.1 hP q 0 hg rfl hv hd (h p l e s m args below meth c D G ρ A hA H locs a hP hS hL)
  · rw [show mj_ce G ρ σ k i = .inl (G.2.1, n, .inl (σ.1 k i)) by simp only [mj_ce, mj_cel, hk]] at hg
    exact va_alen hA.1 hA.2.1 hA.2.2.2.2.2.2.2.1 hP q 1 hg rfl hv hd (h p l e s m args below meth c D G ρ A hA H locs a hP hS hL)
  · rw [show mj_ce G ρ σ k i = .inl (G.2.2, n, .inr (.inl (σ.2.1 k i))) by simp only [mj_ce, mj_cel, hk]] at hg
    exact va_alen hA.1 hA.2.1 hA.2.2.2.2.2.2.2.1 hP q 2 hg rfl hv hd (h p l e s m args below meth c D G ρ A hA H locs a hP hS hL)
theorem r_mmax {idx : Nat} {x y : Int32} (hw : Cond.methodLink M.1.cls idx Lib.Math.max.name ∈ mj_W) (hd : decode M.2.1 pc = .ok (.invokestatic idx, 3)) (hst : (st.map fun v => (mj_rv (fun _ _ => 0) v).category).sum ≤ 8) (h : R O (d + 1) M Q (pc + 3) ls (iV (if x < y then y else x) :: st) σ) : R O (d + 1) M Q pc ls (iV y :: iV x :: st) σ := by
  intro p l e s m args below meth c D G ρ A hA H locs a hP hS hL
  exact va_mmax hA.1 hA.2.1 (hA.2.2.1.trans hL.1.symm) hA.2.2.2.2.2.1 (hA.2.2.2.2.2.2.1 _ hw) (hA.2.2.2.2.2.2.1 _ s_Mmax) (hA.2.2.2.2.2.2.1 _ n_java_lang_Math) (hA.2.2.2.2.2.2.1 _ c_Mmax) (Nat.le_add_left 1 d) (mj_room13 hst 13 (by decide)) (Nat.zero_le _) (Nat.zero_le _) hd (h p l e s m args below meth c D G ρ A hA H locs a hP hS hL)
theorem r_mmin {idx : Nat} {x y : Int32} (hw : Cond.methodLink M.1.cls idx Lib.Math.min.name ∈ mj_W) (hd : decode M.2.1 pc = .ok (.invokestatic idx, 3)) (hst : (st.map fun v => (mj_rv (fun _ _ => 0) v).category).sum ≤ 8) (h : R O (d + 1) M Q (pc + 3) ls (iV (if y < x then y else x) :: st) σ) : R O (d + 1) M Q pc ls (iV y :: iV x :: st) σ := by
  intro p l e s m args below meth c D G ρ A hA H locs a hP hS hL
  exact va_mmin hA.1 hA.2.1 (hA.2.2.1.trans hL.1.symm) hA.2.2.2.2.2.1 (hA.2.2.2.2.2.2.1 _ hw) (hA.2.2.2.2.2.2.1 _ s_Mmin) (hA.2.2.2.2.2.2.1 _ n_java_lang_Math) (hA.2.2.2.2.2.2.1 _ c_Mmin) (Nat.le_add_left 1 d) (mj_room13 hst 13 (by decide)) (Nat.zero_le _) (Nat.zero_le _) hd (h p l e s m args below meth c D G ρ A hA H locs a hP hS hL)
theorem r_mabs {idx : Nat} {x : Int32} (hw : Cond.methodLink M.1.cls idx Lib.Math.abs.name ∈ mj_W) (hd : decode M.2.1 pc = .ok (.invokestatic idx, 3)) (hst : (st.map fun v => (mj_rv (fun _ _ => 0) v).category).sum ≤ 8) (h : R O (d + 1) M Q (pc + 3) ls (iV (if 0 ≤ x then x else 0 - x) :: st) σ) : R O (d + 1) M Q pc ls (iV x :: st) σ := by
  intro p l e s m args below meth c D G ρ A hA H locs a hP hS hL
  exact va_mabs hA.1 hA.2.1 (hA.2.2.1.trans hL.1.symm) hA.2.2.2.2.2.1 (hA.2.2.2.2.2.2.1 _ hw) (hA.2.2.2.2.2.2.1 _ s_Mabs) (hA.2.2.2.2.2.2.1 _ n_java_lang_Math) (hA.2.2.2.2.2.2.1 _ c_Mabs) (Nat.le_add_left 1 d) (mj_room13 hst 13 (by decide)) (Nat.zero_le _) (Nat.zero_le _) hd (h p l e s m args below meth c D G ρ A hA H locs a hP hS hL)
theorem r_mmaxl {idx : Nat} {x y : Int64} (hw : Cond.methodLink M.1.cls idx Lib.MathLoose.max_long.x ∈ mj_W) (hd : decode M.2.1 pc = .ok (.invokestatic idx, 3)) (hst : (st.map fun v => (mj_rv (fun _ _ => 0) v).category).sum ≤ 8) (h : R O (d + 1) M Q (pc + 3) ls (lV (if y < x then x else y) :: st) σ) : R O (d + 1) M Q pc ls (lV y :: lV x :: st) σ := by
  intro p l e s m args below meth c D G ρ A hA H locs a hP hS hL
  exact va_mmax_long hA.1 hA.2.1 (hA.2.2.1.trans hL.1.symm) hA.2.2.2.2.2.1 (hA.2.2.2.2.2.2.1 _ hw) (hA.2.2.2.2.2.2.1 _ s_Mmaxl) (hA.2.2.2.2.2.2.1 _ n_java_lang_Math) (hA.2.2.2.2.2.2.1 _ c_Mmaxl) (Nat.le_add_left 1 d) (mj_room13 hst 15 (by decide)) (Nat.zero_le _) (Nat.zero_le _) hd (h p l e s m args below meth c D G ρ A hA H locs a hP hS hL)
theorem r_mminl {idx : Nat} {x y : Int64} (hw : Cond.methodLink M.1.cls idx Lib.MathLoose.min_long.x ∈ mj_W) (hd : decode M.2.1 pc = .ok (.invokestatic idx, 3)) (hst : (st.map fun v => (mj_rv (fun _ _ => 0) v).category).sum ≤ 8) (h : R O (d + 1) M Q (pc + 3) ls (lV (if y < x then y else x) :: st) σ) : R O (d + 1) M Q pc ls (lV y :: lV x :: st) σ := by
  intro p l e s m args below meth c D G ρ A hA H locs a hP hS hL
  exact va_mmin_long hA.1 hA.2.1 (hA.2.2.1.trans hL.1.symm) hA.2.2.2.2.2.1 (hA.2.2.2.2.2.2.1 _ hw) (hA.2.2.2.2.2.2.1 _ s_Mminl) (hA.2.2.2.2.2.2.1 _ n_java_lang_Math) (hA.2.2.2.2.2.2.1 _ c_Mminl) (Nat.le_add_left 1 d) (mj_room13 hst 15 (by decide)) (Nat.zero_le _) (Nat.zero_le _) hd (h p l e s m args below meth c D G ρ A hA H locs a hP hS hL)
theorem r_mabsl {idx : Nat} {x : Int64} (hw : Cond.methodLink M.1.cls idx Lib.MathLoose.abs_long.x ∈ mj_W) (hd : decode M.2.1 pc = .ok (.invokestatic idx, 3)) (hst : (st.map fun v => (mj_rv (fun _ _ => 0) v).category).sum ≤ 8) (h : R O (d + 1) M Q (pc + 3) ls (lV (if 0 < x then x else -x) :: st) σ) : R O (d + 1) M Q pc ls (lV x :: st) σ := by
  intro p l e s m args below meth c D G ρ A hA H locs a hP hS hL
  exact va_mabs_long hA.1 hA.2.1 (hA.2.2.1.trans hL.1.symm) hA.2.2.2.2.2.1 (hA.2.2.2.2.2.2.1 _ hw) (hA.2.2.2.2.2.2.1 _ s_Mabsl) (hA.2.2.2.2.2.2.1 _ n_java_lang_Math) (hA.2.2.2.2.2.2.1 _ c_Mabsl) (Nat.le_add_left 1 d) (mj_room13 hst 13 (by decide)) (Nat.zero_le _) (Nat.zero_le _) hd (h p l e s m args below meth c D G ρ A hA H locs a hP hS hL)
end MJ
/-! calls -/
def mj_wsM (M : MI) : List Cond := .code M.1 M.2.1 M.2.2.1 M.2.2.2 :: mj_W
def mj_AW (O : List (Nat × Nat)) (ρ : Nat → Nat → Nat) (sz : Nat) : Nat → Prop := fun q => (∃ x ∈ O, q = ρ x.1 x.2) ∨ sz ≤ q
theorem mj_args_len (ρ : Nat → Nat → Nat) : ∀ vs : List MV, (lg_sl (vs.map (mj_rv ρ))).length = (mj_args vs).length := by
  intro vs
  induction vs with
  | nil => rfl
  | cons v vs ih =>
    have e : ∀ (a : Value) (l : List Value), (lg_sl (a :: l)).length = (if a.category = 2 then 2 else 1) + (lg_sl l).length := by
      intro a l
      simp only [lg_sl, List.flatMap_cons, List.length_append]
      split <;> rfl
    rw [List.map_cons, e, ih]
    match v with
    | .inl x => simp [mj_args, mj_rv, Value.category]; omega
    | .inr (.inl x) => simp [mj_args, mj_rv, Value.category]; omega
    | .inr (.inr q) => simp [mj_args, mj_rv, Value.category]; omega
def mj_PC (O : List (Nat × Nat)) (D : va_G) (G : ClassId × ClassId × ClassId) (ρ : Nat → Nat → Nat) (As : List MV) (sz : Nat) (σ : MS) : Array Value → State → Prop := va_Pc (As.map (mj_rv ρ)) (fun U => U.heap.size = sz ∧ va_P D vwCl (mj_ws O G ρ σ) U.heap ∧ va_K D vwCl (mj_ty G) U ∧ mj_Z ρ (mj_AW O ρ sz) U U.heap)
theorem mj_Z.same {ρ : Nat → Nat → Nat} {A : Nat → Prop} {U V : State} (hv : V.vm = U.vm) (hh : V.heap = U.heap) (h : mj_Z ρ A U U.heap) : mj_Z ρ A V V.heap := by
  have hal : U.vm.Alike V.vm := by rw [hv]; exact Vm.Alike.refl U.vm
  rw [hh]
  exact ⟨h.1.moved hal, fun i q hi => (h.2.1 i q hi).same hv, h.2.2.1.moved hal, h.2.2.2.moved hal⟩
theorem mj_blind {O : List (Nat × Nat)} {D : va_G} {G : ClassId × ClassId × ClassId} {ρ : Nat → Nat → Nat} {As : List MV} {sz : Nat} {σ : MS} : FrameBlind (mj_PC O D G ρ As sz σ) := by
  intro a U g mk h
  obtain ⟨h1, h2, h3, h4, h5⟩ := h
  exact ⟨h1, h2, h3, va_K.moved (u := U) (U := U.calling g mk a) (Vm.Alike.refl U.vm) h4, mj_Z.same (U := U) (V := U.calling g mk a) rfl rfl h5⟩
theorem mj_met {O : List (Nat × Nat)} {d : Nat} {M : MI} {Q : Option MV → MS → Prop} {σ : MS} {As : List MV} {z : Nat} (l : Launch) (D : va_G) (G : ClassId × ClassId × ClassId) (ρ : Nat → Nat → Nat) (sz : Nat) (hy : plainName M.1.cls = true) (hz : (mj_args As).length + z = M.2.2.1)
    (hinj : ∀ (i j : Nat) (x y : Nat × Nat), O[i]? = some x → O[j]? = some y → ρ x.1 x.2 = ρ y.1 y.2 → i = j) (hR : R O d M Q 0 (mj_args As ++ List.replicate z none) [] σ) :
    Met l M.1 (mj_wsM M) (mj_rm d) (mj_PC O D G ρ As sz σ) (mj_QC O D G ρ (mj_AW O ρ sz) Q) 0 0 (mj_AW O ρ sz) := by
  refine Met.ofW (cc := M.2.1) (maxL := M.2.2.1) (ret := M.2.2.2) hy rfl ?_
  intro p e s m args below meth c s₁ B hml hv
  obtain ⟨hargs, hsz, hP, hK, hZ⟩ := hv
  have hts := atoms_spec (ws := mj_wsM M) B.pre
  have hown : s.vm.findClass M.1.cls = some m.cls := findClass_of_methodNamed B.named
  have hA : mj_A O M p s m args meth c D G ρ (mj_AW O ρ sz) := ⟨B.exec, B.bytes, hml, B.returns, B.notSynchronized, hown, fun w hw => hts w (List.mem_cons_of_mem _ hw), hK, ⟨hinj, fun x hx => Or.inl ⟨x, hx, rfl⟩⟩, fun q hq => Or.inr (by rw [← hsz]; exact hq), hZ⟩
  subst hargs
  rw [lg_entry_eq]
  have hle : (lg_sl (As.map (mj_rv ρ))).length ≤ M.2.2.1 := by rw [mj_args_len]; omega
  have hl := lv_entry (As.map (mj_rv ρ)) hle
  refine hR p l e s m _ below meth c D G ρ _ hA s.heap [] _ hP va_S.rf ?_
  show lv_has _ _ (mj_toL ρ 0 (mj_args As ++ List.replicate z none))
  rw [mj_toL_args]
  exact hl
def mj_CV (M : MI) (n : Nat) : Prop := Cond.initialized M.1.cls ∈ mj_W ∧ Cond.code M.1 M.2.1 M.2.2.1 M.2.2.2 ∈ mj_W ∧ plainName M.1.cls = true ∧ M.2.2.1 ≤ 20 ∧ M.1.cls ≠ "java/lang/invoke/MethodHandle" ∧ M.1.cls ≠ "java/lang/invoke/VarHandle" ∧ (parseMethodDescriptor M.1.desc).map (fun d => d.parameters.length) = some n
section MC
variable {O : List (Nat × Nat)} {d : Nat} {M M' : MI} {Q : Option MV → MS → Prop} {pc : Nat} {ls : List (Option MV)} {st : List MV} {σ : MS}
theorem mj_callB {s : State} {m : MethodId} {args : Array Value} {n idx : Nat} (hts : ∀ w ∈ mj_W, w.before args s = true) (hcv : mj_CV M' n) (hw : Cond.methodLink M.1.cls idx M'.1 ∈ mj_W) :
    CallB (mj_rm (d + 1)) s args M.1.cls idx M'.1 M'.2.1 M'.2.2.1 M'.2.2.2 (mj_wsM M') (mj_rm d) 0 0 n := by
  obtain ⟨h1, h2, h3, h4, h5, h6, h7⟩ := hcv
  refine callB_of (Ts := mj_W) (ws' := mj_W) n hts ?_ rfl rfl rfl (hts _ h1) (hts _ hw) ⟨h5, h6, h7⟩ ⟨Nat.le_refl _, ?_⟩
  · intro w hw
    rcases List.mem_cons.mp hw with rfl | hw
    · exact ⟨h2, (mj_good _ h2).2⟩
    · exact ⟨hw, (mj_good _ hw).2⟩
  · show 8 + (M'.2.2.1 + 11) + 40 * d ≤ 40 * (d + 1)
    omega
theorem mj_cont {p : Program} {l : Launch} {e : Env} {s : State} {m : MethodId} {args : Array Value} {below : List Frame} {meth : Method} {c : Code} {D : va_G} {G : ClassId × ClassId × ClassId} {ρ : Nat → Nat → Nat} {A A1 free : Nat → Prop} {H : Heap} {locs : List Loc} {a : Array Slot} {rest st0 : List Value} {Q1 : Option MV → MS → Prop} {av : Array Value} {Rm : Room} {Qw : State → Prop}
    (hr : va_Run p l e Rm s m args below meth c H locs 0 0 0 0 (F0 m pc a st0) rest (mj_QC O D G ρ A1 Q1 av) free) (hS : va_S A s.heap H locs) (hA : ∀ q, A1 q → A q) (hf : ∀ q, free q → A q)
    (kk : ∀ (r : Option MV) (σ' : MS) (H1 : Heap) (locs1 : List Loc), Q1 r σ' → va_P D vwCl (mj_ws O G ρ σ') H1 → va_S A s.heap H1 locs1 → W p l e Rm s m args below meth c H1 locs1 0 0 Qw (F0 m (pc + 3) a ((r.map (mj_rv ρ)).toList ++ rest))) :
    W p l e Rm s m args below meth c H locs 0 0 Qw (F0 m pc a st0) := by
  intro T hT X
  obtain ⟨v, st₀, t, T', L, h0, X', hL, e1, e2, ⟨⟨r, σ', hv, hp, hb⟩, hz, hk⟩, st⟩ := hr T hT X
  cases hv
  rw [h0] at hz hk
  obtain ⟨t2, a1, b1⟩ := kk r σ' T'.heap (locs ++ L) hp (by rw [e1]; exact hb)
    ⟨Nat.le_trans hS.1 (by rw [e1]; exact hz), fun q h1 h2 => by rw [e1, hk q (Nat.lt_of_lt_of_le h1 hS.1) (fun z => h2 (hA q z))]; exact hS.2.1 q h1 h2, fun q hq => by
      rcases List.mem_append.mp hq with h | h
      · exact hS.2.2 q h
      · exact hf _ (hL q h)⟩ T' rfl X'
  exact ⟨t2, st t2 a1, b1⟩
theorem mj_pre {p : Program} {s : State} {m : MethodId} {args : Array Value} {meth : Method} {c : Code} {D : va_G} {G : ClassId × ClassId × ClassId} {ρ : Nat → Nat → Nat} {A : Nat → Prop} {H : Heap} {locs : List Loc} {As : List MV} (hA : mj_A O M p s m args meth c D G ρ A) (hP : va_P D vwCl (mj_ws O G ρ σ) H) (hS : va_S A s.heap H locs) :
    (∀ q, mj_AW O ρ H.size q → A q) ∧ ∀ U : State, U.heap = H → s.WarmedH U.vm → mj_PC O D G ρ As H.size σ (As.map (mj_rv ρ)).toArray U := by
  have h1 : ∀ q, mj_AW O ρ H.size q → A q := by
    rintro q (⟨x, hx, rfl⟩ | h)
    · exact hA.2.2.2.2.2.2.2.2.1.2 x hx
    · exact hA.2.2.2.2.2.2.2.2.2.1 q (Nat.le_trans hS.1 h)
  refine ⟨h1, fun U hU hW => ⟨rfl, by rw [hU], by rw [hU]; exact hP, va_K.moved hW.alike hA.2.2.2.2.2.2.2.1, ?_⟩⟩
  rw [hU]
  exact hA.2.2.2.2.2.2.2.2.2.2.next hW hS.2.1 h1
theorem r_callS {n idx z : Nat} {As stk : List MV} {ls0 : List (Option MV)} (hcv : mj_CV M' n) (hst : Cond.static M'.1 ∈ mj_W) (hw : Cond.methodLink M.1.cls idx M'.1 ∈ mj_W) (hd : decode M.2.1 pc = .ok (.invokestatic idx, 3)) (hn : As.length = n) (hz : (mj_args As).length + z = M'.2.2.1) (hl0 : mj_args As ++ List.replicate z none = ls0) (hs : stk = As.reverse ++ st) (hr : (st.map fun v => (mj_rv (fun _ _ => 0) v).category).sum ≤ 8)
    (h : R O d M' (fun r σ' => R O (d + 1) M Q (pc + 3) ls (r.toList ++ st) σ') 0 ls0 [] σ) : R O (d + 1) M Q pc ls stk σ := by
  subst hl0
  subst hs
  intro p l e s m args below meth c D G ρ A hA H locs a hP hS hL
  obtain ⟨hAW, hpc⟩ := mj_pre (As := As) hA hP hS
  have hmet := mj_met l D G ρ H.size hcv.2.2.1 hz hA.2.2.2.2.2.2.2.2.1.1 h
  have hrun := va_runS (As := As.map (mj_rv ρ)) (rest := st.map (mj_rv ρ)) (g := F0 m pc a ((As.reverse ++ st).map (mj_rv ρ))) (e := e) (below := below) (meth := meth) (locs := locs) (cells := 0) (slots := 0) (H := H) (Ts := mj_W) (own := M.1.cls) ⟨hA.1, hA.2.1, hA.2.2.1, hA.2.2.2.2.2.1, hA.2.2.2.2.2.2.1⟩ hmet ⟨mj_callB (M := M) (m := m) hA.2.2.2.2.2.2.1 hcv hw, hA.2.2.2.2.2.2.1 _ hst⟩ ⟨mj_blind, hpc⟩ rfl (by rw [List.length_map]; exact hn) hL.1 (by rw [List.map_append, List.map_reverse]) (lv_room (rest := (As.reverse ++ st).map (mj_rv ρ)) (by rw [mj_cat]; exact hr)) hd ⟨Nat.le_refl _, Nat.le_refl _⟩
  refine mj_cont hrun hS hAW hAW (fun r σ' H1 locs1 hq hP1 hS1 => ?_)
  have hk := hq p l e s m args below meth c D G ρ A hA H1 locs1 a hP1 hS1 hL
  rw [List.map_append] at hk
  cases r <;> exact hk
theorem r_callV0 {C : String} {n idx z k i : Nat} {As stk : List MV} {ls0 : List (Option MV)} (hC : M'.1.cls = C) (hcv : mj_CV M' n) (hin : Cond.instanceMethod M'.1 ∈ mj_W) (hse : Cond.selects M'.1.cls M'.1 M'.1 ∈ mj_W) (hw : Cond.methodLink M.1.cls idx M'.1 ∈ mj_W) (hd : decode M.2.1 pc = .ok (.invokevirtual idx, 3)) (hn : As.length = n)
    (hrec : ∀ (p : Program) (s : State) (m : MethodId) (args : Array Value) (meth : Method) (c : Code) (D : va_G) (G : ClassId × ClassId × ClassId) (ρ : Nat → Nat → Nat) (A : Nat → Prop) (H : Heap) (locs : List Loc), mj_A O M p s m args meth c D G ρ A → va_P D vwCl (mj_ws O G ρ σ) H → va_S A s.heap H locs → ∃ cell : Cell, H[ρ k i]? = some cell ∧ cell.vm.isStatics = false ∧ s.vm.findClass C = some cell.cls)
    (hz : (mj_args (rV k i :: As)).length + z = M'.2.2.1) (hl0 : mj_args (rV k i :: As) ++ List.replicate z none = ls0) (hs : stk = As.reverse ++ rV k i :: st) (hr : (st.map fun v => (mj_rv (fun _ _ => 0) v).category).sum ≤ 8)
    (h : R O d M' (fun r σ' => R O (d + 1) M Q (pc + 3) ls (r.toList ++ st) σ') 0 ls0 [] σ) : R O (d + 1) M Q pc ls stk σ := by
  subst hl0
  subst hs
  subst hC
  intro p l e s m args below meth c D G ρ A hA H locs a hP hS hL
  obtain ⟨hAW, hpc⟩ := mj_pre (As := rV k i :: As) hA hP hS
  have hmet := mj_met l D G ρ H.size hcv.2.2.1 hz hA.2.2.2.2.2.2.2.2.1.1 h
  have hrun := va_runV (As := As.map (mj_rv ρ)) (b := ρ k i) (rest := st.map (mj_rv ρ)) (g := F0 m pc a ((As.reverse ++ rV k i :: st).map (mj_rv ρ))) (e := e) (below := below) (meth := meth) (locs := locs) (cells := 0) (slots := 0) (H := H) (Ts := mj_W) (own := M.1.cls) ⟨hA.1, hA.2.1, hA.2.2.1, hA.2.2.2.2.2.1, hA.2.2.2.2.2.2.1⟩ hmet ⟨mj_callB (M := M) (m := m) hA.2.2.2.2.2.2.1 hcv hw, hA.2.2.2.2.2.2.1 _ hin, hA.2.2.2.2.2.2.1 _ hse⟩ ⟨mj_blind, hrec p s m args meth c D G ρ A H locs hA hP hS, hpc⟩ rfl (by rw [List.length_map]; exact hn) hL.1 (by rw [List.map_append, List.map_reverse]; rfl) (lv_room (rest := (As.reverse ++ rV k i :: st).map (mj_rv ρ)) (by rw [mj_cat]; exact hr)) hd ⟨Nat.le_refl _, Nat.le_refl _⟩
  refine mj_cont hrun hS hAW hAW (fun r σ' H1 locs1 hq hP1 hS1 => ?_)
  have hk := hq p l e s m args below meth c D G ρ A hA H1 locs1 a hP1 hS1 hL
  rw [List.map_append] at hk
  cases r <;> exact hk
theorem r_callV {C : String} {T : u_T} {N n idx z k i ci : Nat} {As stk : List MV} {l : List (Nat × Nat × Nat)} {ls0 : List (Option MV)} (hcv : mj_CV M' n) (hin : Cond.instanceMethod M'.1 ∈ mj_W) (hse : Cond.selects M'.1.cls M'.1 M'.1 ∈ mj_W) (hw : Cond.methodLink M.1.cls idx M'.1 ∈ mj_W) (hd : decode M.2.1 pc = .ok (.invokevirtual idx, 3)) (hn : As.length = n) (hk : mj_sch k = .inl (ci, l)) (ho : (k, i) ∈ O) (hc : vwCl[ci]? = some (C, T, N)) (hC : M'.1.cls = C)
    (hz : (mj_args (rV k i :: As)).length + z = M'.2.2.1) (hl0 : mj_args (rV k i :: As) ++ List.replicate z none = ls0) (hs : stk = As.reverse ++ rV k i :: st) (hr : (st.map fun v => (mj_rv (fun _ _ => 0) v).category).sum ≤ 8)
    (h : R O d M' (fun r σ' => R O (d + 1) M Q (pc + 3) ls (r.toList ++ st) σ') 0 ls0 [] σ) : R O (d + 1) M Q pc ls stk σ := by
  refine r_callV0 hC hcv hin hse hw hd hn ?_ hz hl0 hs hr h
  intro p s m args meth c D G ρ A H locs hA hP hS
  obtain ⟨q, hq⟩ := List.getElem?_of_mem ho
  have hg := mj_ws_get (G := G) (ρ := ρ) (σ := σ) hq
  rw [show mj_ce G ρ σ k i = .inr (ci, mj_fvs ρ (σ.1 k i) (σ.2.2 k i) i 0 l) by simp only [mj_ce, mj_cel, hk]] at hg
  exact va_recv hA.2.2.2.2.2.2.2.1 hP hc hg
/-! text constants, the one static -/
theorem r_ldcS {i idx : Nat} {tx : String} (hi : mj_txt[i]? = some (M.1.cls, idx, tx)) (hd : decode M.2.1 pc = .ok (.ldc idx, 2)) (h : R O d M Q (pc + 2) ls (rV 200 i :: st) σ) : R O d M Q pc ls st σ := by
  intro p l e s m args below meth c D G ρ A hA H locs a hP hS hL
  exact va_ldcS hA.1 hA.2.1 hA.2.2.2.2.2.1 (hA.2.2.2.2.2.2.2.2.2.2.2.1 i _ hi) hd (h p l e s m args below meth c D G ρ A hA H locs a hP hS hL)
theorem r_callT {n idx z i : Nat} {As stk : List MV} {ls0 : List (Option MV)} (hi : i < 3) (hC : M'.1.cls = "java/lang/String") (hcv : mj_CV M' n) (hin : Cond.instanceMethod M'.1 ∈ mj_W) (hse : Cond.selects M'.1.cls M'.1 M'.1 ∈ mj_W) (hw : Cond.methodLink M.1.cls idx M'.1 ∈ mj_W) (hd : decode M.2.1 pc = .ok (.invokevirtual idx, 3)) (hn : As.length = n)
    (hz : (mj_args (rV 200 i :: As)).length + z = M'.2.2.1) (hl0 : mj_args (rV 200 i :: As) ++ List.replicate z none = ls0) (hs : stk = As.reverse ++ rV 200 i :: st) (hr : (st.map fun v => (mj_rv (fun _ _ => 0) v).category).sum ≤ 8)
    (h : R O d M' (fun r σ' => R O (d + 1) M Q (pc + 3) ls (r.toList ++ st) σ') 0 ls0 [] σ) : R O (d + 1) M Q pc ls stk σ := by
  refine r_callV0 hC hcv hin hse hw hd hn ?_ hz hl0 hs hr h
  intro p s m args meth c D G ρ A H locs hA hP hS
  obtain ⟨cell, h1, h2, h3, -⟩ := (hA.2.2.2.2.2.2.2.2.2.2.1 i hi).1.kept hS.2.1
  exact ⟨cell, h1, h2, h3⟩
theorem r_getT {i idx : Nat} (hi : i < 3) (hw : Cond.fieldLink M.1.cls idx "java/lang/String" "value" "[B" ∈ mj_W) (hd : decode M.2.1 pc = .ok (.getfield idx, 3)) (h : R O d M Q (pc + 3) ls (rV 201 i :: st) σ) : R O d M Q pc ls (rV 200 i :: st) σ := by
  intro p l e s m args below meth c D G ρ A hA H locs a hP hS hL
  exact vk_getf hA.1 hA.2.1 (hA.2.2.2.2.2.2.2.2.2.2.1 i hi).2.2.1 hS hA.2.2.2.2.2.1 (hA.2.2.2.2.2.2.1 _ hw) (fun _ h => h) hd (h p l e s m args below meth c D G ρ A hA H locs a hP hS hL)
theorem r_getTc {i idx : Nat} (hi : i < 3) (hw : Cond.fieldLink M.1.cls idx "java/lang/String" "coder" "B" ∈ mj_W) (hd : decode M.2.1 pc = .ok (.getfield idx, 3)) (h : R O d M Q (pc + 3) ls (iV 0 :: st) σ) : R O d M Q pc ls (rV 200 i :: st) σ := by
  intro p l e s m args below meth c D G ρ A hA H locs a hP hS hL
  exact vk_getf hA.1 hA.2.1 (hA.2.2.2.2.2.2.2.2.2.2.1 i hi).2.1 hS hA.2.2.2.2.2.1 (hA.2.2.2.2.2.2.1 _ hw) (fun _ h => h) hd (h p l e s m args below meth c D G ρ A hA H locs a hP hS hL)
theorem r_tb {i : Nat} {j v : Int32} (hi : i < 3) (hin : vp_in j (mj_len.getD i 0)) (hv : (mj_byt.getD i []).getD j.toNatClampNeg 0 = v) (hd : decode M.2.1 pc = .ok (.baload, 1)) (h : R O d M Q (pc + 1) ls (iV v :: st) σ) : R O d M Q pc ls (iV j :: rV 201 i :: st) σ := by
  intro p l e s m args below meth c D G ρ A hA H locs a hP hS hL
  exact va_tb hA.1 hA.2.1 (hA.2.2.2.2.2.2.2.2.2.2.1 i hi).2.2.2 hS hin (congrArg Value.int hv) hd (h p l e s m args below meth c D G ρ A hA H locs a hP hS hL)
theorem r_tlen {i : Nat} {v : Int32} (hi : i < 3) (hv : Int32.ofNat (mj_len.getD i 0) = v) (hd : decode M.2.1 pc = .ok (.arraylength, 1)) (h : R O d M Q (pc + 1) ls (iV v :: st) σ) : R O d M Q pc ls (rV 201 i :: st) σ := by
  intro p l e s m args below meth c D G ρ A hA H locs a hP hS hL
  exact va_tlen hA.1 hA.2.1 (hA.2.2.2.2.2.2.2.2.2.2.1 i hi).2.2.2 hS hv hd (h p l e s m args below meth c D G ρ A hA H locs a hP hS hL)
theorem r_gets {idx : Nat} (hw : Cond.fieldLink M.1.cls idx "java/lang/String" "COMPACT_STRINGS" "Z" ∈ mj_W) (hd : decode M.2.1 pc = .ok (.getstatic idx, 3)) (h : R O d M Q (pc + 3) ls (iV 1 :: st) σ) : R O d M Q pc ls st σ := by
  intro p l e s m args below meth c D G ρ A hA H locs a hP hS hL
  exact va_gets hA.1 hA.2.1 hA.2.2.2.2.2.2.2.2.2.2.2.2.1 hS hA.2.2.2.2.2.1 (hA.2.2.2.2.2.2.1 _ hw) (fun _ h => h) hd (h p l e s m args below meth c D G ρ A hA H locs a hP hS hL)
theorem mj_metV {O : List (Nat × Nat)} {d : Nat} {M : MI} {Q : Option MV → MS → Prop} {σ : MS} {As : List Value} {ls : List (Option MV)} (l : Launch) (D : va_G) (G : ClassId × ClassId × ClassId) (ρ : Nat → Nat → Nat) (sz : Nat) (hy : plainName M.1.cls = true) (hle : (lg_sl As).length ≤ M.2.2.1) (hls : ∀ q ∈ mj_toL ρ 0 ls, q ∈ lv_args 0 As)
    (hinj : ∀ (i j : Nat) (x y : Nat × Nat), O[i]? = some x → O[j]? = some y → ρ x.1 x.2 = ρ y.1 y.2 → i = j) (hR : R O d M Q 0 ls [] σ) :
    Met l M.1 (mj_wsM M) (mj_rm d) (va_Pc As (fun U => U.heap.size = sz ∧ va_P D vwCl (mj_ws O G ρ σ) U.heap ∧ va_K D vwCl (mj_ty G) U ∧ mj_Z ρ (mj_AW O ρ sz) U U.heap)) (mj_QC O D G ρ (mj_AW O ρ sz) Q) 0 0 (mj_AW O ρ sz) := by
  refine Met.ofW (cc := M.2.1) (maxL := M.2.2.1) (ret := M.2.2.2) hy rfl ?_
  intro p e s m args below meth c s₁ B hml hv
  obtain ⟨hargs, hsz, hP, hK, hZ⟩ := hv
  have hts := atoms_spec (ws := mj_wsM M) B.pre
  have hown : s.vm.findClass M.1.cls = some m.cls := findClass_of_methodNamed B.named
  have hA : mj_A O M p s m args meth c D G ρ (mj_AW O ρ sz) := ⟨B.exec, B.bytes, hml, B.returns, B.notSynchronized, hown, fun w hw => hts w (List.mem_cons_of_mem _ hw), hK, ⟨hinj, fun x hx => Or.inl ⟨x, hx, rfl⟩⟩, fun q hq => Or.inr (by rw [← hsz]; exact hq), hZ⟩
  subst hargs
  rw [lg_entry_eq]
  have hl := lv_entry As hle
  exact hR p l e s m _ below meth c D G ρ _ hA s.heap [] _ hP va_S.rf ⟨hl.1, hl.2.1, fun q hq => hl.2.2 q (hls q hq)⟩
theorem mj_blindV {O : List (Nat × Nat)} {D : va_G} {G : ClassId × ClassId × ClassId} {ρ : Nat → Nat → Nat} {As : List Value} {sz : Nat} {σ : MS} : FrameBlind (va_Pc As (fun U => U.heap.size = sz ∧ va_P D vwCl (mj_ws O G ρ σ) U.heap ∧ va_K D vwCl (mj_ty G) U ∧ mj_Z ρ (mj_AW O ρ sz) U U.heap)) := by
  intro a U g mk h
  obtain ⟨h1, h2, h3, h4, h5⟩ := h
  exact ⟨h1, h2, h3, va_K.moved (u := U) (U := U.calling g mk a) (Vm.Alike.refl U.vm) h4, mj_Z.same (U := U) (V := U.calling g mk a) rfl rfl h5⟩
/-- a static of which only 'a reference or null' is said, handed to a method of three arguments as its last -/
theorem r_fmtCall {idx idx2 : Nat} {x y : Int32} (hcv : mj_CV M' 3) (hst : Cond.static M'.1 ∈ mj_W) (hw1 : Cond.fieldLink M.1.cls idx "jdk/internal/util/Preconditions" "SIOOBE_FORMATTER" "Ljava/util/function/BiFunction;" ∈ mj_W) (hw : Cond.methodLink M.1.cls idx2 M'.1 ∈ mj_W) (hd1 : decode M.2.1 pc = .ok (.getstatic idx, 3)) (hd : decode M.2.1 (pc + 3) = .ok (.invokestatic idx2, 3)) (h3 : M'.2.2.1 = 3) (hr : (st.map fun v => (mj_rv (fun _ _ => 0) v).category).sum ≤ 8)
    (h : R O d M' (fun r σ' => R O (d + 1) M Q (pc + 3 + 3) ls (r.toList ++ st) σ') 0 [some (iV x), some (iV y), none] [] σ) : R O (d + 1) M Q pc ls (iV y :: iV x :: st) σ := by
  intro p l e s m args below meth c D G ρ A hA H locs a hP hS hL
  obtain ⟨hAW, hpc⟩ := mj_pre (As := []) hA hP hS
  have gen : ∀ v : Value, (v = .null ∨ ∃ t : Nat, v = .ref t) → W p l e (mj_rm (d + 1)) s m args below meth c H locs 0 0 (MQ below (mj_QC O D G ρ A Q) args s 0 0 A) (F0 m (pc + 3) a (v :: (iV y :: iV x :: st).map (mj_rv ρ))) := by
    intro v hv
    have hle : (lg_sl [Value.int x, Value.int y, v]).length ≤ M'.2.2.1 := by
      rw [h3]
      rcases hv with rfl | ⟨t, rfl⟩ <;> exact Nat.le_of_ble_eq_true rfl
    have hls : ∀ q ∈ mj_toL ρ 0 [some (iV x), some (iV y), none], q ∈ lv_args 0 [Value.int x, Value.int y, v] := by
      intro q hq
      have hq : q ∈ [((0 : Nat), Value.int x), (1, Value.int y)] := hq
      simp only [List.mem_cons, List.not_mem_nil, or_false] at hq
      rcases hq with rfl | rfl
      · exact List.mem_cons_self
      · exact List.mem_cons_of_mem _ List.mem_cons_self
    have hmet := mj_metV l D G ρ H.size hcv.2.2.1 hle hls hA.2.2.2.2.2.2.2.2.1.1 h
    have hrun := va_runS (As := [Value.int x, Value.int y, v]) (rest := st.map (mj_rv ρ)) (g := F0 m (pc + 3) a (v :: (iV y :: iV x :: st).map (mj_rv ρ))) (e := e) (below := below) (meth := meth) (locs := locs) (cells := 0) (slots := 0) (H := H) (Ts := mj_W) (own := M.1.cls) ⟨hA.1, hA.2.1, hA.2.2.1, hA.2.2.2.2.2.1, hA.2.2.2.2.2.2.1⟩ hmet ⟨mj_callB (M := M) (m := m) hA.2.2.2.2.2.2.1 hcv hw, hA.2.2.2.2.2.2.1 _ hst⟩ ⟨mj_blindV, fun U hU hW => ⟨rfl, (hpc U hU hW).2⟩⟩ rfl rfl hL.1 rfl (lv_room (rest := v :: (iV y :: iV x :: st).map (mj_rv ρ)) (by rw [mj_cat]; exact hr)) hd ⟨Nat.le_refl _, Nat.le_refl _⟩
    refine mj_cont hrun hS hAW hAW (fun r σ' H1 locs1 hq hP1 hS1 => ?_)
    have hk := hq p l e s m args below meth c D G ρ A hA H1 locs1 a hP1 hS1 hL
    rw [List.map_append] at hk
    cases r <;> exact hk
  rcases hA.2.2.2.2.2.2.2.2.2.2.2.2.2 with hz | ⟨t, hz⟩
  · exact va_gets hA.1 hA.2.1 hz hS hA.2.2.2.2.2.1 (hA.2.2.2.2.2.2.1 _ hw1) (fun _ h => h) hd1 (gen _ (Or.inl rfl))
  · exact va_gets hA.1 hA.2.1 hz hS hA.2.2.2.2.2.1 (hA.2.2.2.2.2.2.1 _ hw1) (fun _ h => h) hd1 (gen _ (Or.inr ⟨t, rfl⟩))
end MC
/-- fewer locals, place by place -/
def mj_fw : List (Option MV) → List (Option MV) → Prop
  | [], _ => True
  | none :: a, _ :: b => mj_fw a b
  | none :: a, [] => mj_fw a []
  | some x :: a, some y :: b => x = y ∧ mj_fw a b
  | some _ :: _, none :: _ => False
  | some _ :: _, [] => False
theorem mj_fw_at : ∀ (a b : List (Option MV)), mj_fw a b → ∀ (j : Nat) (v : MV), a[j]? = some (some v) → b[j]? = some (some v) := by
  intro a
  induction a with
  | nil => intro b _ j v h; simp at h
  | cons x a ih =>
    intro b h j v hj
    cases x with
    | none =>
      cases b with
      | nil =>
        cases j with
        | zero => simp at hj
        | succ j => have := ih [] h j v (by simpa using hj); simp at this
      | cons y b =>
        cases j with
        | zero => simp at hj
        | succ j => simpa using ih b h j v (by simpa using hj)
    | some x =>
      cases b with
      | nil => exact h.elim
      | cons y b =>
        cases y with
        | none => exact h.elim
        | some y =>
          obtain ⟨rfl, h2⟩ := h
          cases j with
          | zero => simpa using hj
          | succ j => simpa using ih b h2 j v (by simpa using hj)
theorem R.fw {O : List (Nat × Nat)} {d : Nat} {M : MI} {Q : Option MV → MS → Prop} {pc : Nat} {ls ls' : List (Option MV)} {st : List MV} {σ : MS} (h : mj_fw ls' ls) (H : R O d M Q pc ls' st σ) : R O d M Q pc ls st σ := R.fewer (mj_fw_at _ _ h) H
theorem mj_one3 {fl : List (Nat × Nat × Nat)} (j : Nat) (h : fl.zipIdx.all (fun q => q.2 == j || decide (q.1.1 ≤ 2)) = true) : ∀ (n : Nat) (z : Nat × Nat × Nat), fl[n]? = some z → ¬ n = j → z.1 = 0 ∨ z.1 = 1 ∨ z.1 = 2 := by
  intro n z hz hn
  have hm : (z, n) ∈ fl.zipIdx := List.mem_zipIdx_iff_getElem?.mpr hz
  have := List.all_eq_true.mp h _ hm
  simp [hn] at this
  omega
