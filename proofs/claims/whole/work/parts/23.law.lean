/-! the laws' E over whole numbers -/
def gBnd (z : Int) : Option Int := if -1000000000000 ≤ z ∧ z ≤ 1000000000000 then some z else none
def gB2 (p : Prop) [Decidable p] : Option Int := some (if p then 1 else 0)
def gOp (v : Nat) (x y : Int) : Option Int :=
  if v = 43 then gBnd (x + y) else if v = 45 then gBnd (x - y) else if v = 42 then gBnd (x * y) else if v = 47 then (if y = 0 then none else some (x.tdiv y)) else
  if v = 61 then gB2 (x = y) else if v = 60 then gB2 (x < y) else if v = 62 then gB2 (y < x) else if v = 256 then gB2 (x ≤ y) else if v = 258 then gB2 (y ≤ x) else if v = 257 then gB2 (x ≠ y) else
  if v = 261 then gB2 (x ≠ 0 ∧ y ≠ 0) else gB2 (x ≠ 0 ∨ y ≠ 0)
def gBig (z : Int) : Prop := -1000000000000 ≤ z ∧ z ≤ 1000000000000
theorem gBnd_big {z w : Int} (h : gBnd z = some w) : gBig w := by
  unfold gBnd at h; split at h
  · rename_i g; cases h; exact g
  · cases h
theorem gB2_big {p : Prop} [Decidable p] {w : Int} (h : gB2 p = some w) : gBig w := by
  unfold gB2 at h; cases h; unfold gBig; split <;> omega
theorem gOp_big {v : Nat} {x y w : Int} (hx : gBig x) (h : gOp v x y = some w) : gBig w := by
  unfold gOp at h
  repeat' split at h
  all_goals first
    | exact gBnd_big h
    | exact gB2_big h
    | cases h
  rename_i g
  unfold gBig at *
  have h3 : (x.tdiv y).natAbs ≤ x.natAbs := by rw [Int.natAbs_tdiv]; exact Nat.div_le_self _ _
  omega
def gResL : Option Int → Int64
  | none => -9223372036854775808
  | some z => Int64.ofInt z
theorem i64_toInt {z : Int} (h1 : -9223372036854775808 ≤ z) (h2 : z < 9223372036854775808) : (Int64.ofInt z).toInt = z := Int64.toInt_ofInt_of_le (by omega) (by omega)
theorem i64_eq {x y : Int} (hx : -9223372036854775808 ≤ x ∧ x < 9223372036854775808) (hy : -9223372036854775808 ≤ y ∧ y < 9223372036854775808) : Int64.ofInt x = Int64.ofInt y ↔ x = y := by
  rw [← Int64.toInt_inj, i64_toInt hx.1 hx.2, i64_toInt hy.1 hy.2]
theorem i64_lt {x y : Int} (hx : -9223372036854775808 ≤ x ∧ x < 9223372036854775808) (hy : -9223372036854775808 ≤ y ∧ y < 9223372036854775808) : Int64.ofInt x < Int64.ofInt y ↔ x < y := by
  rw [Int64.lt_iff_toInt_lt, i64_toInt hx.1 hx.2, i64_toInt hy.1 hy.2]
theorem i64_le {x y : Int} (hx : -9223372036854775808 ≤ x ∧ x < 9223372036854775808) (hy : -9223372036854775808 ≤ y ∧ y < 9223372036854775808) : Int64.ofInt x ≤ Int64.ofInt y ↔ x ≤ y := by
  rw [Int64.le_iff_toInt_le, i64_toInt hx.1 hx.2, i64_toInt hy.1 hy.2]
theorem i64_min : (-9223372036854775808 : Int64) = Int64.ofInt (-9223372036854775808) := by decide
theorem gResL_min {r : Option Int} (h : ∀ z, r = some z → gBig z) : gResL r = -9223372036854775808 ↔ r = none := by
  cases r with
  | none => simp [gResL]
  | some z =>
    have hz := h z rfl
    unfold gBig at hz
    simp only [gResL, i64_min, reduceCtorEq, iff_false]
    rw [i64_eq (by omega) (by omega)]
    omega
section Lw
variable {d : Nat} {Q : Option MV → MS → Prop} {σ : MS}
theorem S_truth {x : Int32} {p : Prop} [Decidable p] (hx : x = (if p then 1 else 0)) (H : Q (some (lV (gResL (gB2 p)))) σ) : R mj_OC d mX3_truth Q 0 [some (iV x)] [] σ := by
  subst hx
  refine bX3_truth_0 ⟨fun e => ?_, fun e => ?_⟩
  · by_cases hp : p
    · rw [if_pos hp] at e; exact absurd e (by decide)
    · simp only [gB2, hp, if_false, gResL] at H; exact H
  · by_cases hp : p
    · simp only [gB2, hp, if_true, gResL] at H; exact H
    · rw [if_neg hp] at e; exact absurd rfl e
theorem S_inBounds {z : Int} (hz : -4000000000000 ≤ z ∧ z ≤ 4000000000000) (H : Q (some (lV (gResL (gBnd z)))) σ) : R mj_OC d mX3_inBounds Q 0 [some (lV (Int64.ofInt z)), none] [] σ := by
  have e1 : (1000000000000 : Int64) = Int64.ofInt 1000000000000 := by decide
  have e2 : (-1000000000000 : Int64) = Int64.ofInt (-1000000000000) := by decide
  refine bX3_inBounds_0 ⟨fun e => ?_, fun e => ⟨fun f => ?_, fun f => ?_⟩⟩
  · rw [lg_cmp_gt, e1, i64_lt (by omega) (by omega)] at e
    rw [gBnd, if_neg (by omega)] at H; exact H
  · rw [lg_cmp_gt, e1, i64_lt (by omega) (by omega)] at e
    rw [lg_cmp_ge, e2, i64_le (by omega) (by omega)] at f
    rw [gBnd, if_pos (by omega)] at H; exact H
  · rw [lg_cmp_ge, e2, i64_le (by omega) (by omega)] at f
    rw [gBnd, if_neg (by omega)] at H; exact H
theorem i64_div {x y : Int} (hx : -9000000000000000000 ≤ x ∧ x ≤ 9000000000000000000) (hy : -9000000000000000000 ≤ y ∧ y ≤ 9000000000000000000) : Int64.ofInt x / Int64.ofInt y = Int64.ofInt (x.tdiv y) := by
  rw [Int64.ofInt_tdiv] <;> first | (rw [Int64.toInt_minValue]; omega) | (rw [Int64.toInt_maxValue]; omega)
/-- beyond the product's bound, by a division -/
theorem g_prod {a b : Int} (ha : 0 < a) (ha2 : a ≤ 1000000000000) : (b ≤ Int.tdiv 1000000000000 a ∧ -(Int.tdiv 1000000000000 a) ≤ b) ↔ gBig (a * b) := by
  have e : Int.tdiv 1000000000000 a = 1000000000000 / a := Int.tdiv_eq_ediv_of_nonneg (by omega)
  rw [e]
  unfold gBig
  have h1 : b ≤ 1000000000000 / a ↔ a * b ≤ 1000000000000 := by
    rw [Int.le_ediv_iff_mul_le ha, Int.mul_comm]
  have h2 : -(1000000000000 / a) ≤ b ↔ -1000000000000 ≤ a * b := by
    have h3 : -b ≤ 1000000000000 / a ↔ a * (-b) ≤ 1000000000000 := by
      rw [Int.le_ediv_iff_mul_le ha, Int.mul_comm]
    rw [Int.mul_neg] at h3
    constructor
    · intro h; have := h3.mp (by omega); omega
    · intro h; have := h3.mpr (by omega); omega
  rw [h1, h2]
  exact And.comm
theorem S_product {x y : Int} (hx : gBig x) (hy : gBig y) (H : Q (some (lV (gResL (gBnd (x * y))))) σ) : R mj_OC d mX3_product Q 0 [some (lV (Int64.ofInt x)), none, some (lV (Int64.ofInt y)), none, none, none] [] σ := by
  unfold gBig at hx hy
  have e0 : (0 : Int64) = Int64.ofInt 0 := by decide
  have e1 : (1000000000000 : Int64) = Int64.ofInt 1000000000000 := by decide
  have key : ∀ a : Int, 0 < a → a ≤ 1000000000000 → -1000000000000 ≤ Int.tdiv 1000000000000 a ∧ Int.tdiv 1000000000000 a ≤ 1000000000000 := by
    intro a h1 h2
    rw [Int.tdiv_eq_ediv_of_nonneg (by omega)]
    have := Int.ediv_nonneg (show (0 : Int) ≤ 1000000000000 by omega) (Int.le_of_lt h1)
    have := Int.ediv_le_self a (show (0 : Int) ≤ 1000000000000 by omega)
    omega
  have pos : ∀ a b : Int, 0 < a → a ≤ 1000000000000 → -1000000000000 ≤ b → b ≤ 1000000000000 → (0 < lg_cmp (Int64.ofInt b) (1000000000000 / Int64.ofInt a) → ¬ gBig (a * b)) ∧ (¬ 0 < lg_cmp (Int64.ofInt b) (1000000000000 / Int64.ofInt a) → (0 ≤ lg_cmp (Int64.ofInt b) (-(1000000000000 / Int64.ofInt a)) ↔ gBig (a * b))) := by
    intro a b h1 h2 h3 h4
    have hk := key a h1 h2
    rw [e1, i64_div (by omega) (by omega), ← Int64.ofInt_neg, lg_cmp_gt, lg_cmp_ge, i64_lt (by omega) (by omega), i64_le (by omega) (by omega), ← g_prod h1 h2]
    constructor
    · intro h g; omega
    · intro h; constructor
      · intro g; exact ⟨by omega, g⟩
      · intro g; exact g.2
  refine bX3_product_0 ⟨fun c1 => ⟨fun c2 => ⟨?_, fun c3 => ?_, fun c3 => ⟨fun c4 => ?_, fun c4 => ?_⟩⟩, fun c2 => ⟨?_, fun c3 => ?_, fun c3 => ⟨fun c4 => ?_, fun c4 => ?_⟩⟩⟩, fun c1 => ?_⟩
  all_goals (try rw [lg_cmp_eq, e0, i64_eq (by omega) (by omega)] at c1)
  all_goals (try rw [lg_cmp_ge, e0, i64_le (by omega) (by omega)] at c2)
  · rw [e0, i64_eq (by omega) (by omega)]; exact c1
  · have := (pos x y (by omega) hx.2 hy.1 hy.2).1 c3
    unfold gBig at this; rw [gBnd, if_neg this] at H; exact H
  · have := ((pos x y (by omega) hx.2 hy.1 hy.2).2 c3).mp c4
    unfold gBig at this; rw [gBnd, if_pos this, gResL, Int64.ofInt_mul] at H; exact H
  · have := fun g => c4 (((pos x y (by omega) hx.2 hy.1 hy.2).2 c3).mpr g)
    unfold gBig at this; rw [gBnd, if_neg this] at H; exact H
  · rw [← Int64.ofInt_neg, e0, i64_eq (by omega) (by omega)]; omega
  · rw [← Int64.ofInt_neg] at c3
    have := (pos (-x) y (by omega) (by omega) hy.1 hy.2).1 c3
    rw [gBnd, if_neg (by unfold gBig at this; rw [Int.neg_mul] at this; omega)] at H; exact H
  · rw [← Int64.ofInt_neg] at c3 c4
    have := ((pos (-x) y (by omega) (by omega) hy.1 hy.2).2 c3).mp c4
    rw [gBnd, if_pos (by unfold gBig at this; rw [Int.neg_mul] at this; omega), gResL, Int64.ofInt_mul] at H; exact H
  · rw [← Int64.ofInt_neg] at c3 c4
    have := fun g => c4 (((pos (-x) y (by omega) (by omega) hy.1 hy.2).2 c3).mpr g)
    rw [gBnd, if_neg (by intro g; apply this; unfold gBig; rw [Int.neg_mul]; omega)] at H; exact H
  · subst c1
    rw [Int.zero_mul] at H
    exact H
theorem S_valueOf {v : Nat} (hv : ksign v) (hn : v ≠ 260) {x y : Int} (hx : gBig x) (hy : gBig y) (H : Q (some (lV (gResL (gOp v x y)))) σ) : R mj_OC (d + 1) mX3_valueOf Q 0 [some (iV (nI (kCl 2 v))), some (lV (Int64.ofInt x)), none, some (lV (Int64.ofInt y)), none] [] σ := by
  unfold gBig at hx hy
  have e0 : (0 : Int64) = Int64.ofInt 0 := by decide
  have hxe : Int64.ofInt x = 0 ↔ x = 0 := by rw [e0, i64_eq (by omega) (by omega)]
  have hye : Int64.ofInt y = 0 ↔ y = 0 := by rw [e0, i64_eq (by omega) (by omega)]
  have hxy : Int64.ofInt x = Int64.ofInt y ↔ x = y := i64_eq (by omega) (by omega)
  have hlt : Int64.ofInt x < Int64.ofInt y ↔ x < y := i64_lt (by omega) (by omega)
  have hgt : Int64.ofInt y < Int64.ofInt x ↔ y < x := i64_lt (by omega) (by omega)
  have hle : Int64.ofInt x ≤ Int64.ofInt y ↔ x ≤ y := i64_le (by omega) (by omega)
  have hge : Int64.ofInt y ≤ Int64.ofInt x ↔ y ≤ x := i64_le (by omega) (by omega)
  unfold ksign at hv
  rcases hv with rfl | rfl | rfl | rfl | rfl | rfl | rfl | rfl | rfl | rfl | rfl | rfl | rfl
  · refine bX3_valueOf_0 ⟨fun e => absurd e (by decide), fun _ => ⟨fun e => absurd e (by decide), fun _ => ⟨fun _ => by rw [← Int64.ofInt_add]; exact S_inBounds (by omega) (bX3_valueOf_254 H), fun e => absurd rfl e⟩⟩⟩
  · refine bX3_valueOf_0 ⟨fun e => absurd e (by decide), fun _ => ⟨fun e => absurd e (by decide), fun _ => ⟨fun e => absurd e (by decide), fun _ => ⟨fun _ => by rw [← Int64.ofInt_sub]; exact S_inBounds (by omega) (bX3_valueOf_261 H), fun e => absurd rfl e⟩⟩⟩⟩
  · refine bX3_valueOf_0 ⟨fun e => absurd e (by decide), fun _ => ⟨fun e => absurd e (by decide), fun _ => ⟨fun e => absurd e (by decide), fun _ => ⟨fun e => absurd e (by decide), fun _ => ⟨fun _ => S_product hx hy (bX3_valueOf_267 H), fun e => absurd rfl e⟩⟩⟩⟩⟩
  · refine bX3_valueOf_0 ⟨fun e => absurd e (by decide), fun _ => ⟨fun e => absurd e (by decide), fun _ => ⟨fun e => absurd e (by decide), fun _ => ⟨fun e => absurd e (by decide), fun _ => ⟨fun e => absurd e (by decide), fun _ => ⟨fun _ => ⟨fun c => ?_, fun c => ?_⟩, fun e => absurd rfl e⟩⟩⟩⟩⟩⟩
    · rw [lg_cmp_eq, hye] at c
      refine ⟨by rw [hye]; exact c, ?_⟩
      rw [i64_div (by omega) (by omega)]
      have : gOp 47 x y = some (x.tdiv y) := by simp [gOp, c]
      rw [this] at H
      exact H
    · rw [lg_cmp_eq, hye] at c
      have : gOp 47 x y = none := by simp [gOp, c]
      rw [this] at H
      exact H
  · refine bX3_valueOf_0 ⟨fun e => absurd e (by decide), fun _ => ⟨fun e => absurd e (by decide), fun _ => ⟨fun e => absurd e (by decide), fun _ => ⟨fun e => absurd e (by decide), fun _ => ⟨fun e => absurd e (by decide), fun _ => ⟨fun e => absurd e (by decide), fun _ => ⟨fun _ => ⟨fun c => S_truth (p := x = y) (by rw [lg_cmp_eq, hxy] at c; first | rw [if_neg (by omega)] | rw [if_pos (by omega)]) (bX3_valueOf_172 H), fun c => S_truth (p := x = y) (by rw [lg_cmp_eq, hxy] at c; first | rw [if_neg (by omega)] | rw [if_pos (by omega)]) (bX3_valueOf_172 H)⟩, fun e => absurd rfl e⟩⟩⟩⟩⟩⟩⟩
  · refine bX3_valueOf_0 ⟨fun e => absurd e (by decide), fun _ => ⟨fun e => absurd e (by decide), fun _ => ⟨fun e => absurd e (by decide), fun _ => ⟨fun e => absurd e (by decide), fun _ => ⟨fun e => absurd e (by decide), fun _ => ⟨fun e => absurd e (by decide), fun _ => ⟨fun e => absurd e (by decide), fun _ => ⟨fun _ => ⟨fun c => S_truth (p := x < y) (by rw [lg_cmp_ge, hge] at c; first | rw [if_neg (by omega)] | rw [if_pos (by omega)]) (bX3_valueOf_202 H), fun c => S_truth (p := x < y) (by rw [lg_cmp_ge, hge] at c; first | rw [if_neg (by omega)] | rw [if_pos (by omega)]) (bX3_valueOf_202 H)⟩, fun e => absurd rfl e⟩⟩⟩⟩⟩⟩⟩⟩
  · refine bX3_valueOf_0 ⟨fun e => absurd e (by decide), fun _ => ⟨fun e => absurd e (by decide), fun _ => ⟨fun e => absurd e (by decide), fun _ => ⟨fun e => absurd e (by decide), fun _ => ⟨fun e => absurd e (by decide), fun _ => ⟨fun e => absurd e (by decide), fun _ => ⟨fun e => absurd e (by decide), fun _ => ⟨fun e => absurd e (by decide), fun _ => ⟨fun _ => ⟨fun c => S_truth (p := y < x) (by rw [lg_cmp_le, hle] at c; first | rw [if_neg (by omega)] | rw [if_pos (by omega)]) (bX3_valueOf_232 H), fun c => S_truth (p := y < x) (by rw [lg_cmp_le, hle] at c; first | rw [if_neg (by omega)] | rw [if_pos (by omega)]) (bX3_valueOf_232 H)⟩, fun e => absurd rfl e⟩⟩⟩⟩⟩⟩⟩⟩⟩
  · refine bX3_valueOf_0 ⟨fun e => absurd e (by decide), fun _ => ⟨fun e => absurd e (by decide), fun _ => ⟨fun e => absurd e (by decide), fun _ => ⟨fun e => absurd e (by decide), fun _ => ⟨fun e => absurd e (by decide), fun _ => ⟨fun e => absurd e (by decide), fun _ => ⟨fun e => absurd e (by decide), fun _ => ⟨fun e => absurd e (by decide), fun _ => ⟨fun e => absurd e (by decide), fun _ => ⟨fun _ => ⟨fun c => S_truth (p := x ≤ y) (by rw [lg_cmp_gt, hgt] at c; first | rw [if_neg (by omega)] | rw [if_pos (by omega)]) (bX3_valueOf_217 H), fun c => S_truth (p := x ≤ y) (by rw [lg_cmp_gt, hgt] at c; first | rw [if_neg (by omega)] | rw [if_pos (by omega)]) (bX3_valueOf_217 H)⟩, fun e => absurd rfl e⟩⟩⟩⟩⟩⟩⟩⟩⟩⟩
  · refine bX3_valueOf_0 ⟨fun e => absurd e (by decide), fun _ => ⟨fun e => absurd e (by decide), fun _ => ⟨fun e => absurd e (by decide), fun _ => ⟨fun e => absurd e (by decide), fun _ => ⟨fun e => absurd e (by decide), fun _ => ⟨fun e => absurd e (by decide), fun _ => ⟨fun e => absurd e (by decide), fun _ => ⟨fun e => absurd e (by decide), fun _ => ⟨fun e => absurd e (by decide), fun _ => ⟨fun e => absurd e (by decide), fun _ => ⟨fun _ => ⟨fun c => S_truth (p := y ≤ x) (by rw [lg_cmp_lt, hlt] at c; first | rw [if_neg (by omega)] | rw [if_pos (by omega)]) (bX3_valueOf_247 H), fun c => S_truth (p := y ≤ x) (by rw [lg_cmp_lt, hlt] at c; first | rw [if_neg (by omega)] | rw [if_pos (by omega)]) (bX3_valueOf_247 H)⟩, fun e => absurd rfl e⟩⟩⟩⟩⟩⟩⟩⟩⟩⟩⟩
  · refine bX3_valueOf_0 ⟨fun e => absurd e (by decide), fun _ => ⟨fun e => absurd e (by decide), fun _ => ⟨fun e => absurd e (by decide), fun _ => ⟨fun e => absurd e (by decide), fun _ => ⟨fun e => absurd e (by decide), fun _ => ⟨fun e => absurd e (by decide), fun _ => ⟨fun e => absurd e (by decide), fun _ => ⟨fun e => absurd e (by decide), fun _ => ⟨fun e => absurd e (by decide), fun _ => ⟨fun e => absurd e (by decide), fun _ => ⟨fun e => absurd e (by decide), fun _ => ⟨fun _ => ⟨fun c => S_truth (p := x ≠ y) (by rw [lg_cmp_eq, hxy] at c; first | rw [if_neg (by omega)] | rw [if_pos (by omega)]) (bX3_valueOf_187 H), fun c => S_truth (p := x ≠ y) (by rw [lg_cmp_eq, hxy] at c; first | rw [if_neg (by omega)] | rw [if_pos (by omega)]) (bX3_valueOf_187 H)⟩, fun e => absurd rfl e⟩⟩⟩⟩⟩⟩⟩⟩⟩⟩⟩⟩
  · exact absurd rfl hn
  · refine bX3_valueOf_0 ⟨fun e => absurd e (by decide), fun _ => ⟨fun _ => ⟨fun c => S_truth (p := x ≠ 0 ∧ y ≠ 0) (by rw [lg_cmp_eq, hxe] at c; rw [if_neg (by omega)]) (bX3_valueOf_157 H), fun c => ⟨fun c2 => S_truth (p := x ≠ 0 ∧ y ≠ 0) (by rw [lg_cmp_eq, hye] at c2; rw [if_neg (by omega)]) (bX3_valueOf_157 H), fun c2 => S_truth (p := x ≠ 0 ∧ y ≠ 0) (by rw [lg_cmp_eq, hxe] at c; rw [lg_cmp_eq, hye] at c2; rw [if_pos ⟨c, c2⟩]) (bX3_valueOf_157 H)⟩⟩, fun e => absurd rfl e⟩⟩
  · refine bX3_valueOf_0 ⟨fun _ => ⟨fun c => S_truth (p := x ≠ 0 ∨ y ≠ 0) (by rw [lg_cmp_eq, hxe] at c; rw [if_pos (Or.inl c)]) (bX3_valueOf_136 H), fun c => ⟨fun c2 => S_truth (p := x ≠ 0 ∨ y ≠ 0) (by rw [lg_cmp_eq, hxe] at c; rw [lg_cmp_eq, hye] at c2; rw [if_neg (by omega)]) (bX3_valueOf_136 H), fun c2 => S_truth (p := x ≠ 0 ∨ y ≠ 0) (by rw [lg_cmp_eq, hye] at c2; rw [if_pos (Or.inr c2)]) (bX3_valueOf_136 H)⟩⟩, fun e => absurd rfl e⟩
end Lw
