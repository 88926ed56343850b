/-! how minutes go by: by numbers or not, what is tried (0 nothing, 1 no leaks, 2 a pipe shut, 3 no springs, 4 all open, 5 no jams), the pipe shut, the pond whose leak is set, by how much -/
abbrev MD : Type := Bool × Nat × Nat × Option Nat × Nat
def mOpt : Option Nat → Int32
  | none => -1
  | some p => nI p
def MR (σ : MS) (md : MD) : Prop := σ.1 7 0 0 = (if md.1 = true then 1 else 0) ∧ σ.1 7 0 1 = (if md.2.1 = 5 then 0 else 1) ∧ σ.1 7 0 2 = (if md.2.1 = 1 then 0 else 1) ∧ σ.1 7 0 3 = (if md.2.1 = 3 then 0 else 1) ∧ σ.1 7 0 4 = (if md.2.1 = 4 then 1 else 0) ∧ σ.1 7 0 5 = (if md.2.1 = 2 then nI md.2.2.1 else -1) ∧ σ.1 7 0 6 = mOpt md.2.2.2.1 ∧ σ.1 7 0 7 = nI md.2.2.2.2
def MV' (c : CA) (md : MD) : Prop := (md.2.1 = 2 → md.2.2.1 < c 0 2) ∧ (∀ p, md.2.2.2.1 = some p → p < c 0 0) ∧ md.2.2.2.2 ≤ 9
def gT (s : SA) : Nat := (s 0 0).toNatClampNeg
def SVt (s : SA) : Prop := s 0 0 = nI (gT s) ∧ gT s ≤ 100000
def gTurned (c : CA) (t k : Nat) : Bool := decide (∃ i : Nat, i < c 0 3 ∧ c 12 i = k ∧ c 13 i ≤ t ∧ t < c 13 i + c 14 i)
def gOpen (c : CA) (s : SA) (md : MD) (k : Nat) : Bool := if md.2.1 = 4 then true else (!decide (md.2.1 = 2 ∧ k = md.2.2.1) && (!bt (s 3 0) k && gTurned c (gT s) k))
def gOpenMany (c : CA) (s : SA) (md : MD) : Nat := gCnt (gOpen c s md) (c 0 2)
def gNames (c : CA) (s : SA) (md : MD) (pond wide : Nat) : Nat → Int
  | 0 => c 2 pond | 1 => c 3 pond | 2 => (s 4 pond).toInt | 3 => wide | 4 => gOpenMany c s md | 5 => gBoats c s 1 | _ => (s 0 0).toInt
/-- E of a law, put between 0 and 'most'; 'plain' with an error, without a law -/
def gPut (r : Option Int) (most plain : Nat) : Int32 := match r with
  | none => nI plain
  | some z => Int32.ofInt (max 0 (min (most : Int) z))
theorem gTurned_lt {c : CA} (V : CV c) {t k : Nat} (h : gTurned c t k = true) : k < c 0 2 ∧ t < 119 := by
  obtain ⟨i, h1, h2, h3, h4⟩ := of_decide_eq_true h
  have := V.turn h1
  omega
theorem gNames_big (c : CA) (s : SA) (md : MD) (V : CV c) {pond wide : Nat} (hp : pond < c 0 0) (hw : wide ≤ 2000) : ∀ j, j < 7 → gBig (gNames c s md pond wide j) := by
  have h1 := V.pond hp
  have h2 := i32_b (s 4 pond)
  have h3 := i32_b (s 0 0)
  have h4 : gOpenMany c s md ≤ 10 := Nat.le_trans (gCnt_le _ _) V.nk
  have h5 : gBoats c s 1 ≤ 8 := Nat.le_trans (gCnt_le _ _) V.nb
  have h6 := V.nk
  have h7 := V.nb
  intro j hj
  unfold gBig
  have : j = 0 ∨ j = 1 ∨ j = 2 ∨ j = 3 ∨ j = 4 ∨ j = 5 ∨ j = 6 := by omega
  rcases this with rfl | rfl | rfl | rfl | rfl | rfl | rfl <;> simp only [gNames] <;> omega
section Mn
variable {d : Nat} {Q : Option MV → MS → Prop} {σ : MS} {o b : Nat} {c : CA} {s : SA} {md : MD}
theorem MR.keep {L : List (Nat × Nat)} {τ : MS} (h : MR σ md) (hs : SB L σ τ) (hL : (7, 0) ∉ L) : MR τ md := by
  unfold MR; rw [(hs.1 7 0 hL).1]; exact h
theorem S_turnedIn (h : CB σ b c) {t : Nat} (ht : t ≤ 100000) (H : ∀ w : Nat, w < 1024 → (∀ k : Nat, w.testBit k = gTurned c t k) → Q (some (iV (nI w))) σ) : R mj_OC d mX0_turnedIn Q 0 [some (rV 3 b), some (iV (nI t))] [] σ := by
  obtain ⟨hb, C, K, T, V⟩ := h
  refine bX0_turnedIn_0 hb ⟨fun e => absurd e (nI_pos (by omega)), fun _ => ⟨fun e => ?_, fun e => ?_⟩⟩
  · have e2 : 119 ≤ t := (nI_leI (a := 119) (by decide) (by omega)).mp e
    refine H 0 (by omega) (fun k => ?_)
    rw [Nat.zero_testBit]
    cases hg : gTurned c t k with
    | false => rfl
    | true => have := (gTurned_lt V hg).2; omega
  · have e2 : t < 119 := by
      rcases Nat.lt_or_ge t 119 with g | g
      · exact g
      · exact absurd ((nI_leI (a := 119) (by decide) (by omega)).mpr g) e
    refine ⟨vin e2 (Nat.le_refl 119) (by decide), ?_⟩
    rw [cl e2 (by omega)]
    obtain ⟨w, h1, h2, h3⟩ := T t e2
    rw [h1]
    exact H w h2 h3
theorem S_openNow (h : SC σ o b c s) (hm : MR σ md) (ht : SVt s) (hv : MV' c md) (H : ∀ w : Nat, w < 1024 → (∀ k : Nat, w.testBit k = (decide (k < c 0 2) && gOpen c s md k)) → Q (some (iV (nI w))) σ) : R mj_OC (d + 1) mX5_openNow Q 0 [some (rV 7 0), some (rV 6 o), none] [] σ := by
  obtain ⟨ho, hc, ⟨hb, C, K, T, V⟩, S⟩ := id h
  have nk := V.nk
  refine bX5_openNow_0 ho ⟨fun e => ⟨by rw [hc]; exact hb, ?_⟩, fun e => ⟨by rw [hc]; exact hb, ?_⟩⟩
  · have h4 : ¬ md.2.1 = 4 := fun g => by rw [hm.2.2.2.2.1, if_pos g] at e; exact absurd e (by decide)
    rw [hc, S.1, ht.1]
    refine S_turnedIn h.2.2.1 ht.2 (fun w hw hb' => ?_)
    have fin : ∀ y : Int32, (∀ k : Nat, k < 32 → bt y k = (!decide (md.2.1 = 2 ∧ k = md.2.2.1) && !bt (s 3 0) k)) → Q (some (iV (nI w &&& y))) σ := by
      intro y hy
      rw [nI_bits (nI w &&& y)]
      have hle := bits_and (w := w) (by omega) y
      refine H _ (by omega) (fun k => ?_)
      rcases Nat.lt_or_ge k 32 with hk | hk
      · rw [bt_bits, bt_and, bt_nI hk, hb', hy k hk, gOpen, if_neg h4]
        cases hg : gTurned c (gT s) k with
        | false => simp
        | true => simp [(gTurned_lt V hg).1]
      · rw [Nat.testBit_lt_two_pow (Nat.lt_of_le_of_lt hle (Nat.lt_of_lt_of_le hw (Nat.le_trans (by decide : 1024 ≤ 2 ^ 32) (Nat.pow_le_pow_right (by decide) hk))))]
        simp; omega
    refine bX5_openNow_26 ho ⟨fun e2 => ?_, fun e2 => ?_⟩
    · have h2 : md.2.1 = 2 := by
        rcases Nat.decEq md.2.1 2 with g | g
        · exact absurd (by rw [hm.2.2.2.2.2.1, if_neg g]) e2
        · exact g
      have hk2 := hv.1 h2
      rw [hm.2.2.2.2.2.1, if_pos h2, S.2.2.2.1, show ∀ a x y : Int32, a &&& x &&& y = a &&& (x &&& y) from fun a x y => Int32.and_assoc a x y]
      refine fin _ (fun k hk => ?_)
      rw [bt_and, bt_not _ hk, bt_not _ hk, bt_1 (by omega) hk, Bool.and_comm]
      simp [h2, eq_comm]
    · have h2 : ¬ md.2.1 = 2 := fun g => by
        rw [hm.2.2.2.2.2.1, if_pos g] at e2
        have := nI_pos' (n := md.2.2.1) (by have := hv.1 g; omega)
        rw [e2] at this
        exact absurd this (by decide)
      rw [S.2.2.2.1]
      refine fin _ (fun k hk => ?_)
      rw [bt_not _ hk]
      simp [h2]
  · have h4 : md.2.1 = 4 := by
      rcases Nat.decEq md.2.1 4 with g | g
      · exact absurd (by rw [hm.2.2.2.2.1, if_neg g]) e
      · exact g
    rw [hc]
    refine bX0_allPipes_0 hb ?_
    rw [C.nk]
    refine bX5_openNow_14 ho ?_
    have e1 : (1 : Int32) <<< (nI (c 0 2) &&& 31) - 1 = nI (2 ^ (c 0 2) - 1) := by
      rw [sh_1 _ (by omega)]
      have := Nat.one_le_two_pow (n := c 0 2)
      rw [show (1 : Int32) = nI 1 from rfl, pk_sub this]
    rw [e1]
    refine H _ ?_ (fun k => ?_)
    · have := Nat.pow_le_pow_right (n := 2) (by decide) nk
      have := Nat.one_le_two_pow (n := c 0 2)
      omega
    · rw [Nat.testBit_two_pow_sub_one, gOpen, if_pos h4]; simp
theorem i64_nI {n : Nat} (h : n < 2 ^ 31) : (nI n).toInt64 = Int64.ofInt (n : Int) := by
  rw [nI_l h]; exact Int64.ofInt_eq_ofNat.symm
theorem S_worth (h : SC σ o b c s) (hm : MR σ md) (ht : SVt s) (hv : MV' c md) {r pond wide : Nat} (hr : r < 3) (hp : pond < c 0 0) (hw : wide ≤ 2000) (H : ∀ τ : MS, SB [(38, 0), (34, b)] σ τ → Q (some (lV (gResL (gWorth c r (gNames c s md pond wide))))) τ) : R mj_OC (d + 1 + 1 + 1) mX5_worth Q 0 [some (rV 7 0), some (rV 6 o), some (iV (nI r)), some (iV (nI pond)), some (iV (nI wide))] [] σ := by
  obtain ⟨ho, hc, ⟨hb, C, K, T, V⟩, S⟩ := id h
  have np := V.np
  have nk := V.nk
  have nb := V.nb
  refine bX5_worth_0 ho ⟨by rw [hc]; exact hb, ?_⟩
  rw [hc]
  refine S_isTold h.2.2.1 hr (fun hlt => ?_) (fun hlt => ?_)
  · refine bX5_worth_11 ho ⟨fun _ => ⟨by rw [hc]; exact hb, vin hp np (by decide), vin (p := 0) (n := 1) (by omega) (by omega) (by decide), vin (p := 1) (n := 2) (by omega) (by omega) (by decide), vin (p := 2) (n := 3) (by omega) (by omega) (by decide), vin (p := 3) (n := 4) (by omega) (by omega) (by decide), ?_⟩, fun e => absurd e (by decide)⟩
    have pd := V.pond hp
    rw [hc, cl hp (by omega), C.area hp, C.floor hp, S.2.2.2.2.1 pond hp, i64_nI (by omega), i64_nI (by omega), i64_nI (by omega), ← Int64.ofInt_int32ToInt (s 4 pond)]
    have s4 : SB [(38, 0), (34, b)] σ (uL (uL (uL (uL σ 38 0 0 (Int64.ofInt (c 2 pond : Int))) 38 0 1 (Int64.ofInt (c 3 pond : Int))) 38 0 2 (Int64.ofInt (s 4 pond).toInt)) 38 0 3 (Int64.ofInt (wide : Int))) :=
      (((SB.uL (by simp)).tr (SB.uL (by simp))).tr (SB.uL (by simp))).tr (SB.uL (by simp))
    have hL1 : ([(38, 0), (34, b)] : List (Nat × Nat)).all (fun x => !mj_ck x.1) = true := by simp [mj_ck]
    have hL2 : ([(38, 0), (34, b)] : List (Nat × Nat)).all (fun x => !((x.1 == 6 || x.1 == 35 || x.1 == 36 || x.1 == 37) && x.2 == o)) = true := by simp
    have h4 : SC _ o b c s := h.keep s4 hL1 hL2
    refine S_openNow h4 (hm.keep s4 (by simp)) ht hv (fun w hw1 hbits => ?_)
    refine bX5_worth_82 ho ?_
    refine S_bitCount hw1 ?_
    have ecnt : gCnt (fun k => w.testBit k) 10 = gOpenMany c s md := by
      unfold gOpenMany
      rw [gCnt_ext (n := c 0 2) 10 nk (fun k hk => by rw [hbits]; simp; omega)]
      exact gCnt_congr _ (fun k hk => by rw [hbits]; simp [hk])
    rw [ecnt]
    have om : gOpenMany c s md ≤ 10 := Nat.le_trans (gCnt_le _ _) nk
    refine bX5_worth_85 ho ⟨vin (p := 4) (n := 5) (by omega) (by omega) (by decide), ?_⟩
    rw [show ((4 : Int32)).toNatClampNeg = 4 by decide, i64_nI (by omega)]
    have s5 := s4.tr (SB.uL (L := [(38, 0), (34, b)]) (k := 38) (i := 0) (j := 4) (v := Int64.ofInt (gOpenMany c s md : Int)) (by simp))
    have h5 : SC _ o b c s := h.keep s5 hL1 hL2
    refine S_boatsThatAre h5 ?_
    have bm : gBoats c s 1 ≤ 8 := Nat.le_trans (gCnt_le _ _) nb
    refine bX5_worth_97 ho ⟨vin (p := 5) (n := 6) (by omega) (by omega) (by decide), vin (p := 6) (n := 7) (by omega) (by omega) (by decide), by rw [h5.2.1]; exact hb, ?_⟩
    rw [show ((5 : Int32)).toNatClampNeg = 5 by decide, i64_nI (by omega), h5.2.1, h5.2.2.2.1, ← Int64.ofInt_int32ToInt (s 0 0)]
    have s6 := (s5.tr (SB.uL (L := [(38, 0), (34, b)]) (k := 38) (i := 0) (j := 5) (v := Int64.ofInt (gBoats c s 1 : Int)) (by simp))).tr (SB.uL (L := [(38, 0), (34, b)]) (k := 38) (i := 0) (j := 6) (v := Int64.ofInt (s 0 0).toInt) (by simp))
    have h6 : SC _ o b c s := h.keep s6 hL1 hL2
    refine S_lworth h6.2.2.1 hr hlt (nm := gNames c s md pond wide) (fun j hj => ?_) (gNames_big c s md V hp hw) (fun υ hυ => ?_)
    · have : j = 0 ∨ j = 1 ∨ j = 2 ∨ j = 3 ∨ j = 4 ∨ j = 5 ∨ j = 6 := by omega
      rcases this with rfl | rfl | rfl | rfl | rfl | rfl | rfl <;> simp [uL, gNames]
    · exact bX5_worth_126 ho (H υ (s6.tr (hυ.wk (by simp))))
  · refine bX5_worth_11 ho ⟨fun e => absurd rfl e, fun _ => ?_⟩
    have := H σ SB.rf
    rw [gWorth, if_neg hlt] at this
    exact this
theorem S_put {r : Option Int} (hr : ∀ z, r = some z → gBig z) {most plain : Nat} (hm : most ≤ 2000) (H : Q (some (iV (gPut r most plain))) σ) : R mj_OC (d + 1) mX5_put Q 0 [some (lV (gResL r)), none, some (iV (nI most)), some (iV (nI plain))] [] σ := by
  refine bX5_put_0 ⟨fun e => ?_, fun e => ?_⟩
  · rw [lg_cmp_eq, gResL_min hr] at e
    cases r with
    | none => exact absurd rfl e
    | some z =>
      have hz := hr z rfl
      unfold gBig at hz
      have e1 : (if gResL (some z) < (nI most).toInt64 then gResL (some z) else (nI most).toInt64) = Int64.ofInt (min (most : Int) z) := by
        rw [i64_nI (by omega), gResL]
        have hlt : Int64.ofInt z < Int64.ofInt (most : Int) ↔ z < most := i64_lt (by omega) (by omega)
        by_cases g : z < (most : Int)
        · rw [if_pos (hlt.mpr g), Int.min_eq_right (by omega)]
        · rw [if_neg (fun x => g (hlt.mp x)), Int.min_eq_left (by omega)]
      have e2 : (if (Int64.ofInt (min (most : Int) z)) < 0 then (0 : Int64) else Int64.ofInt (min (most : Int) z)) = Int64.ofInt (max 0 (min (most : Int) z)) := by
        rw [show (0 : Int64) = Int64.ofInt 0 by decide]
        have hlt : Int64.ofInt (min (most : Int) z) < Int64.ofInt 0 ↔ min (most : Int) z < 0 := i64_lt (by omega) (by omega)
        by_cases g : min (most : Int) z < 0
        · rw [if_pos (hlt.mpr g), Int.max_eq_left (by omega)]
        · rw [if_neg (fun x => g (hlt.mp x)), Int.max_eq_right (by omega)]
      rw [e1, e2]
      have e3 : (Int64.ofInt (max 0 (min (most : Int) z))).toInt32 = Int32.ofInt (max 0 (min (most : Int) z)) := Int64.toInt32_ofInt
      rw [e3]
      exact H
  · rw [lg_cmp_eq, gResL_min hr] at e
    subst e
    exact H
theorem gEval_big (c : CA) (V : CV c) {nm : Nat → Int} (hnm : ∀ j, j < 7 → gBig (nm j)) : ∀ (n i : Nat) (st st' : List Int), i + n ≤ c 0 8 → (∀ z ∈ st, gBig z) → gEval c nm i n st = some st' → ∀ z ∈ st', gBig z := by
  intro n
  induction n with
  | zero => intro i st st' _ h1 h2; cases h2; exact h1
  | succ n ih =>
    intro i st st' hi h1 h2
    rw [gEval] at h2
    cases hs : gStep c nm i st with
    | none => rw [hs] at h2; cases h2
    | some st1 =>
      rw [hs] at h2
      exact ih (i + 1) st1 st' (by omega) (gStep_big (V.knot (by omega)) hnm h1 hs) h2
theorem gWorth_big (c : CA) (V : CV c) {nm : Nat → Int} (hnm : ∀ j, j < 7 → gBig (nm j)) {r : Nat} (hr : r < 3) : ∀ z, gWorth c r nm = some z → gBig z := by
  intro z h
  have hv := V.law hr
  unfold gWorth at h
  split at h
  · cases he : gEval c nm (c 17 r) (c 18 r - c 17 r) [] with
    | none => rw [he] at h; cases h
    | some st =>
      have := gEval_big c V hnm _ _ _ _ (by omega) (by simp) he
      rw [he] at h
      match st, h, this with
      | w :: _, h, this => cases h; exact this z (by simp)
      | [], h, _ => cases h
  · cases h
end Mn
