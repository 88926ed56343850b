/-! the reference: its canal, its scenes by slots -/
def mLn (c : CA) : Nat → Nat
  | 0 => 9 | 1 => c 0 0 | 2 => c 0 0 | 3 => c 0 0 | 4 => c 0 0 | 5 => c 0 0 | 6 => c 0 1 | 7 => c 0 1 | 8 => c 0 1 | 9 => c 0 2 | 10 => c 0 2 | 11 => c 0 2 | 12 => c 0 3 | 13 => c 0 3 | 14 => c 0 3 | 15 => c 0 4 | 16 => c 0 4 | 17 => 3 | 18 => 3 | 19 => c 0 8 | 20 => c 0 8 | _ => 0
def MC (σ : MS) (c : CA) : Prop := ∀ f j : Nat, j < mLn c f → ¬ (f = 0 ∧ j = 5) → σ.1 (47 + f) 0 j = nI (c f j)
def MSc (σ : MS) (k : Nat) (c : CA) (s : SA) : Prop := σ.1 70 0 k = s 0 0 ∧ σ.1 71 0 k = s 1 0 ∧ σ.1 72 0 k = s 2 0 ∧ σ.1 73 0 k = s 3 0 ∧ (∀ p : Nat, p < 7 → σ.1 74 0 (7 * k + p) = if p < c 0 0 then s 4 p else 0) ∧ (∀ q : Nat, q < 8 → σ.1 75 0 (8 * k + q) = if q < c 0 4 then s 5 q else 0) ∧ ∀ q : Nat, q < 8 → σ.1 76 0 (8 * k + q) = if q < c 0 4 then s 6 q else 0
def MB (σ : MS) (k : Nat) (c : CA) (s : SA) : Prop := k < 23 ∧ MC σ c ∧ CV c ∧ MSc σ k c s
def MM (σ : MS) (md : MD) : Prop := σ.1 45 0 49 = nI md.2.1 ∧ md.2.1 ≤ 5 ∧ (md.2.1 = 2 → σ.1 45 0 50 = nI md.2.2.1) ∧ σ.1 45 0 51 = mOpt md.2.2.2.1 ∧ (∀ p, md.2.2.2.1 = some p → σ.1 45 0 52 = nI md.2.2.2.2)
section MCs
variable {σ : MS} {c : CA} (h : MC σ c)
theorem MC.np (h : MC σ c) : σ.1 47 0 0 = nI (c 0 0) := h 0 0 (show 0 < 9 by decide) (by decide)
theorem MC.nl (h : MC σ c) : σ.1 47 0 1 = nI (c 0 1) := h 0 1 (show 1 < 9 by decide) (by decide)
theorem MC.nk (h : MC σ c) : σ.1 47 0 2 = nI (c 0 2) := h 0 2 (show 2 < 9 by decide) (by decide)
theorem MC.nt (h : MC σ c) : σ.1 47 0 3 = nI (c 0 3) := h 0 3 (show 3 < 9 by decide) (by decide)
theorem MC.nb (h : MC σ c) : σ.1 47 0 4 = nI (c 0 4) := h 0 4 (show 4 < 9 by decide) (by decide)
theorem MC.jam (h : MC σ c) : σ.1 47 0 6 = nI (c 0 6) := h 0 6 (show 6 < 9 by decide) (by decide)
theorem MC.seed (h : MC σ c) : σ.1 47 0 7 = nI (c 0 7) := h 0 7 (show 7 < 9 by decide) (by decide)
theorem MC.no (h : MC σ c) : σ.1 47 0 8 = nI (c 0 8) := h 0 8 (show 8 < 9 by decide) (by decide)
theorem MC.name (h : MC σ c) {p : Nat} (hp : p < c 0 0) : σ.1 48 0 p = nI (c 1 p) := h 1 p hp (by omega)
theorem MC.area (h : MC σ c) {p : Nat} (hp : p < c 0 0) : σ.1 49 0 p = nI (c 2 p) := h 2 p hp (by omega)
theorem MC.floor (h : MC σ c) {p : Nat} (hp : p < c 0 0) : σ.1 50 0 p = nI (c 3 p) := h 3 p hp (by omega)
theorem MC.told (h : MC σ c) {p : Nat} (hp : p < c 0 0) : σ.1 51 0 p = nI (c 4 p) := h 4 p hp (by omega)
theorem MC.spring (h : MC σ c) {p : Nat} (hp : p < c 0 0) : σ.1 52 0 p = nI (c 5 p) := h 5 p hp (by omega)
theorem MC.lpond (h : MC σ c) {p : Nat} (hp : p < c 0 1) : σ.1 53 0 p = nI (c 6 p) := h 6 p hp (by omega)
theorem MC.low (h : MC σ c) {p : Nat} (hp : p < c 0 1) : σ.1 54 0 p = nI (c 7 p) := h 7 p hp (by omega)
theorem MC.high (h : MC σ c) {p : Nat} (hp : p < c 0 1) : σ.1 55 0 p = nI (c 8 p) := h 8 p hp (by omega)
theorem MC.one (h : MC σ c) {p : Nat} (hp : p < c 0 2) : σ.1 56 0 p = nI (c 9 p) := h 9 p hp (by omega)
theorem MC.two (h : MC σ c) {p : Nat} (hp : p < c 0 2) : σ.1 57 0 p = nI (c 10 p) := h 10 p hp (by omega)
theorem MC.wide (h : MC σ c) {p : Nat} (hp : p < c 0 2) : σ.1 58 0 p = nI (c 11 p) := h 11 p hp (by omega)
theorem MC.tpipe (h : MC σ c) {p : Nat} (hp : p < c 0 3) : σ.1 59 0 p = nI (c 12 p) := h 12 p hp (by omega)
theorem MC.tat (h : MC σ c) {p : Nat} (hp : p < c 0 3) : σ.1 60 0 p = nI (c 13 p) := h 13 p hp (by omega)
theorem MC.tfor (h : MC σ c) {p : Nat} (hp : p < c 0 3) : σ.1 61 0 p = nI (c 14 p) := h 14 p hp (by omega)
theorem MC.block (h : MC σ c) {p : Nat} (hp : p < c 0 4) : σ.1 62 0 p = nI (c 15 p) := h 15 p hp (by omega)
theorem MC.bfrom (h : MC σ c) {p : Nat} (hp : p < c 0 4) : σ.1 63 0 p = nI (c 16 p) := h 16 p hp (by omega)
theorem MC.lfrom (h : MC σ c) {p : Nat} (hp : p < 3) : σ.1 64 0 p = nI (c 17 p) := h 17 p hp (by omega)
theorem MC.lto (h : MC σ c) {p : Nat} (hp : p < 3) : σ.1 65 0 p = nI (c 18 p) := h 18 p hp (by omega)
theorem MC.sort (h : MC σ c) {p : Nat} (hp : p < c 0 8) : σ.1 66 0 p = nI (c 19 p) := h 19 p hp (by omega)
theorem MC.val (h : MC σ c) {p : Nat} (hp : p < c 0 8) : σ.1 67 0 p = nI (c 20 p) := h 20 p hp (by omega)
end MCs
def mj_mk (k : Nat) : Bool := 47 ≤ k && k ≤ 67
theorem MC.keep {L : List (Nat × Nat)} {σ τ : MS} {c : CA} (h : MC σ c) (hs : SB L σ τ) (hL : L.all (fun x => !mj_mk x.1) = true) : MC τ c := by
  intro f j hj hn
  rw [← h f j hj hn]
  have hf : f ≤ 20 := by
    rcases Nat.lt_or_ge 20 f with g | g
    · exfalso
      have : mLn c f = 0 := by
        match f, g with
        | f + 21, _ => rfl
      omega
    · exact g
  refine hs.i (fun hm => ?_) j
  have := List.all_eq_true.mp hL _ hm
  simp [mj_mk] at this
  omega
theorem MSc.keep {L : List (Nat × Nat)} {σ τ : MS} {k : Nat} {c : CA} {s : SA} (h : MSc σ k c s) (hs : SB L σ τ) (hL : L.all (fun x => !(70 ≤ x.1 && x.1 ≤ 76)) = true) : MSc τ k c s := by
  have hq : ∀ n : Nat, (70 ≤ n && n ≤ 76) = true → τ.1 n 0 = σ.1 n 0 := fun n hn => (hs.1 n 0 (fun hm => by
    have := List.all_eq_true.mp hL _ hm
    simp only [hn] at this
    exact absurd this (by decide))).1
  unfold MSc
  rw [hq 70 rfl, hq 71 rfl, hq 72 rfl, hq 73 rfl, hq 74 rfl, hq 75 rfl, hq 76 rfl]
  exact h
theorem MB.keep {L : List (Nat × Nat)} {σ τ : MS} {k : Nat} {c : CA} {s : SA} (h : MB σ k c s) (hs : SB L σ τ) (hL : L.all (fun x => !mj_mk x.1) = true) (hM : L.all (fun x => !(70 ≤ x.1 && x.1 ≤ 76)) = true) : MB τ k c s := ⟨h.1, h.2.1.keep hs hL, h.2.2.1, h.2.2.2.keep hs hM⟩
theorem MM.keep {L : List (Nat × Nat)} {σ τ : MS} {md : MD} (h : MM σ md) (hs : SB L σ τ) (hL : (45, 0) ∉ L) : MM τ md := by
  unfold MM; rw [(hs.1 45 0 hL).1]; exact h
/-- writes into a slot of the scenes -/
theorem MB.u74 {σ : MS} {k : Nat} {c : CA} {s : SA} (h : MB σ k c s) {p : Nat} (hp : p < c 0 0) {v : Int32} : MB (uI σ 74 0 (7 * k + p) v) k c (sU s 4 p v) := by
  obtain ⟨hk, C, V, s1, s2, s3, s4, s5, s6, s7⟩ := h
  refine ⟨hk, C.keep (L := [(74, 0)]) (SB.uI (by simp)) rfl, V, by simp [uI, sU, s1], by simp [uI, sU, s2], by simp [uI, sU, s3], by simp [uI, sU, s4], fun q hq => ?_, fun q hq => by simp [uI, sU, s6 q hq], fun q hq => by simp [uI, sU, s7 q hq]⟩
  by_cases e : q = p
  · subst e; simp [uI, sU, hp]
  · have : ¬ 7 * k + q = 7 * k + p := by omega
    simp [uI, sU, e, this, s5 q hq]
theorem MB.u75 {σ : MS} {k : Nat} {c : CA} {s : SA} (h : MB σ k c s) {p : Nat} (hp : p < c 0 4) {v : Int32} : MB (uI σ 75 0 (8 * k + p) v) k c (sU s 5 p v) := by
  obtain ⟨hk, C, V, s1, s2, s3, s4, s5, s6, s7⟩ := h
  refine ⟨hk, C.keep (L := [(75, 0)]) (SB.uI (by simp)) rfl, V, by simp [uI, sU, s1], by simp [uI, sU, s2], by simp [uI, sU, s3], by simp [uI, sU, s4], fun q hq => by simp [uI, sU, s5 q hq], fun q hq => ?_, fun q hq => by simp [uI, sU, s7 q hq]⟩
  by_cases e : q = p
  · subst e; simp [uI, sU, hp]
  · have : ¬ 8 * k + q = 8 * k + p := by omega
    simp [uI, sU, e, this, s6 q hq]
theorem MB.u76 {σ : MS} {k : Nat} {c : CA} {s : SA} (h : MB σ k c s) {p : Nat} (hp : p < c 0 4) {v : Int32} : MB (uI σ 76 0 (8 * k + p) v) k c (sU s 6 p v) := by
  obtain ⟨hk, C, V, s1, s2, s3, s4, s5, s6, s7⟩ := h
  refine ⟨hk, C.keep (L := [(76, 0)]) (SB.uI (by simp)) rfl, V, by simp [uI, sU, s1], by simp [uI, sU, s2], by simp [uI, sU, s3], by simp [uI, sU, s4], fun q hq => by simp [uI, sU, s5 q hq], fun q hq => by simp [uI, sU, s6 q hq], fun q hq => ?_⟩
  by_cases e : q = p
  · subst e; simp [uI, sU, hp]
  · have : ¬ 8 * k + q = 8 * k + p := by omega
    simp [uI, sU, e, this, s7 q hq]
theorem MB.u70 {σ : MS} {k : Nat} {c : CA} {s : SA} (h : MB σ k c s) {f : Nat} {v : Int32} (hf : f ≤ 3) : MB (uI σ (70 + f) 0 k v) k c (sU s f 0 v) := by
  obtain ⟨hk, C, V, s1, s2, s3, s4, s5, s6, s7⟩ := h
  have : f = 0 ∨ f = 1 ∨ f = 2 ∨ f = 3 := by omega
  refine ⟨hk, C.keep (L := [(70 + f, 0)]) (SB.uI (by simp)) (by simp [mj_mk]; omega), V, ?_⟩
  rcases this with rfl | rfl | rfl | rfl <;>
  exact ⟨by simp [uI, sU, s1], by simp [uI, sU, s2], by simp [uI, sU, s3], by simp [uI, sU, s4], fun q hq => by simp [uI, sU, s5 q hq], fun q hq => by simp [uI, sU, s6 q hq], fun q hq => by simp [uI, sU, s7 q hq]⟩
theorem ix7 (k p : Nat) : (7 : Int32) * nI k + nI p = nI (7 * k + p) := by rw [show (7 : Int32) = nI 7 from rfl, pk_mul, nI_add]
theorem ix8 (k p : Nat) : (8 : Int32) * nI k + nI p = nI (8 * k + p) := by rw [show (8 : Int32) = nI 8 from rfl, pk_mul, nI_add]
/-- slot j stands as it stood -/
def KS (σ τ : MS) (j : Nat) : Prop := τ.1 70 0 j = σ.1 70 0 j ∧ τ.1 71 0 j = σ.1 71 0 j ∧ τ.1 72 0 j = σ.1 72 0 j ∧ τ.1 73 0 j = σ.1 73 0 j ∧ (∀ p : Nat, p < 7 → τ.1 74 0 (7 * j + p) = σ.1 74 0 (7 * j + p)) ∧ ∀ q : Nat, q < 8 → τ.1 75 0 (8 * j + q) = σ.1 75 0 (8 * j + q) ∧ τ.1 76 0 (8 * j + q) = σ.1 76 0 (8 * j + q)
theorem KS.rf {σ : MS} {j : Nat} : KS σ σ j := ⟨rfl, rfl, rfl, rfl, fun _ _ => rfl, fun _ _ => ⟨rfl, rfl⟩⟩
theorem KS.tr {σ τ υ : MS} {j : Nat} (h1 : KS σ τ j) (h2 : KS τ υ j) : KS σ υ j := by
  obtain ⟨a1, a2, a3, a4, a5, a6⟩ := h1
  obtain ⟨b1, b2, b3, b4, b5, b6⟩ := h2
  exact ⟨b1.trans a1, b2.trans a2, b3.trans a3, b4.trans a4, fun p hp => (b5 p hp).trans (a5 p hp), fun q hq => ⟨(b6 q hq).1.trans (a6 q hq).1, (b6 q hq).2.trans (a6 q hq).2⟩⟩
theorem KS.of {L : List (Nat × Nat)} {σ τ : MS} (hs : SB L σ τ) (hL : L.all (fun x => !(70 ≤ x.1 && x.1 ≤ 76)) = true) (j : Nat) : KS σ τ j := by
  have hq : ∀ n : Nat, (70 ≤ n && n ≤ 76) = true → τ.1 n 0 = σ.1 n 0 := fun n hn => (hs.1 n 0 (fun hm => by
    have := List.all_eq_true.mp hL _ hm
    simp only [hn] at this
    exact absurd this (by decide))).1
  unfold KS
  rw [hq 70 rfl, hq 71 rfl, hq 72 rfl, hq 73 rfl, hq 74 rfl, hq 75 rfl, hq 76 rfl]
  exact ⟨rfl, rfl, rfl, rfl, fun _ _ => rfl, fun _ _ => ⟨rfl, rfl⟩⟩
theorem KS.u74 {σ : MS} {k j p : Nat} {v : Int32} (hj : j ≠ k) (hp : p < 7) : KS σ (uI σ 74 0 (7 * k + p) v) j := by
  refine ⟨by simp [uI], by simp [uI], by simp [uI], by simp [uI], fun r hr => ?_, fun q _ => by simp [uI]⟩
  have : ¬ 7 * j + r = 7 * k + p := by omega
  simp [uI, this]
theorem KS.u75 {σ : MS} {k j p : Nat} {v : Int32} (hj : j ≠ k) (hp : p < 8) : KS σ (uI σ 75 0 (8 * k + p) v) j := by
  refine ⟨by simp [uI], by simp [uI], by simp [uI], by simp [uI], fun r hr => by simp [uI], fun q hq => ?_⟩
  have : ¬ 8 * j + q = 8 * k + p := by omega
  simp [uI, this]
theorem KS.u76 {σ : MS} {k j p : Nat} {v : Int32} (hj : j ≠ k) (hp : p < 8) : KS σ (uI σ 76 0 (8 * k + p) v) j := by
  refine ⟨by simp [uI], by simp [uI], by simp [uI], by simp [uI], fun r hr => by simp [uI], fun q hq => ?_⟩
  have : ¬ 8 * j + q = 8 * k + p := by omega
  simp [uI, this]
theorem KS.u70 {σ : MS} {k j f : Nat} {v : Int32} (hj : j ≠ k) (hf : f ≤ 3) : KS σ (uI σ (70 + f) 0 k v) j := by
  have : f = 0 ∨ f = 1 ∨ f = 2 ∨ f = 3 := by omega
  rcases this with rfl | rfl | rfl | rfl <;>
  exact ⟨by simp [uI, hj], by simp [uI, hj], by simp [uI, hj], by simp [uI, hj], fun p _ => by simp [uI], fun q _ => by simp [uI]⟩
section Mdl
variable {d : Nat} {Q : Option MV → MS → Prop} {σ : MS} {k : Nat} {c : CA} {s : SA} {md : MD}
theorem MB.w (h : MB σ k c s) {p : Nat} (hp : p < c 0 0) : σ.1 74 0 (7 * k + p) = s 4 p := by rw [h.2.2.2.2.2.2.2.1 p (by have := h.2.2.1.np; omega), if_pos hp]
theorem MB.st (h : MB σ k c s) {q : Nat} (hq : q < c 0 4) : σ.1 75 0 (8 * k + q) = s 5 q := by rw [h.2.2.2.2.2.2.2.2.1 q (by have := h.2.2.1.nb; omega), if_pos hq]
theorem MB.wt (h : MB σ k c s) {q : Nat} (hq : q < c 0 4) : σ.1 76 0 (8 * k + q) = s 6 q := by rw [h.2.2.2.2.2.2.2.2.2 q (by have := h.2.2.1.nb; omega), if_pos hq]
theorem M_fullOf (h : MB σ k c s) {p : Nat} (hp : p < c 0 0) (H : Q (some (iV (gFull c s p))) σ) : R mj_OM d mX11_fullOf Q 0 [some (rV 45 0), some (iV (nI k)), some (iV (nI p))] [] σ := by
  have np := h.2.2.1.np
  have hk := h.1
  refine bX11_fullOf_0 ⟨vin hp (by omega) (by decide), ?_, ?_⟩
  · rw [ix7]; exact vin (show 7 * k + p < 161 by omega) (Nat.le_refl _) (by decide)
  · rw [ix7, cl hp (by omega), nI_clamp (by omega), h.2.1.floor hp, h.2.1.area hp, h.w hp]; exact H
theorem M_higherBy (h : MB σ k c s) {p q : Nat} (hp : p < c 0 0) (hq : q < c 0 0) (H : Q (some (iV (gHi c s p q))) σ) : R mj_OM (d + 1) mX11_higherBy Q 0 [some (rV 45 0), some (iV (nI k)), some (iV (nI p)), some (iV (nI q))] [] σ := by
  have np := h.2.2.1.np
  refine bX11_higherBy_0 (M_fullOf h hp (bX11_higherBy_6 ⟨vin hq (by omega) (by decide), M_fullOf h hq (bX11_higherBy_19 ⟨vin hp (by omega) (by decide), ?_⟩)⟩))
  rw [cl hp (by omega), cl hq (by omega), h.2.1.area hp, h.2.1.area hq]; exact H
theorem M_isHigh (h : MB σ k c s) {p : Nat} (hp : p < c 0 0) {x : Int32} (H1 : x * nI (c 2 p) ≤ gFull c s p → Q (some (iV 1)) σ) (H0 : ¬ x * nI (c 2 p) ≤ gFull c s p → Q (some (iV 0)) σ) : R mj_OM (d + 1) mX11_isHigh Q 0 [some (rV 45 0), some (iV (nI k)), some (iV (nI p)), some (iV x)] [] σ := by
  have np := h.2.2.1.np
  refine bX11_isHigh_0 (M_fullOf h hp (bX11_isHigh_6 ⟨vin hp (by omega) (by decide), fun q => H0 ?_, fun q => H1 ?_⟩))
  · rw [cl hp (by omega), h.2.1.area hp] at q; exact Int32.not_le.mpr q
  · rw [cl hp (by omega), h.2.1.area hp] at q; exact Int32.not_lt.mp q
theorem M_sourceOf (h : MB σ k c s) {n : Nat} (hn : n < c 0 2) (H : Q (some (iV (nI (gGiver c s n)))) σ) : R mj_OM (d + 1 + 1) mX11_sourceOf Q 0 [some (rV 45 0), some (iV (nI k)), some (iV (nI n))] [] σ := by
  have nk := h.2.2.1.nk
  have pp := h.2.2.1.pipe hn
  refine bX11_sourceOf_0 ⟨vin hn (by omega) (by decide), ?_⟩
  rw [cl hn (by omega), h.2.1.one hn, h.2.1.two hn]
  refine M_higherBy h pp.1 pp.2.1 (bX11_sourceOf_17 ⟨fun q => ⟨vin hn (by omega) (by decide), ?_⟩, fun q => ⟨vin hn (by omega) (by decide), ?_⟩⟩)
  · rw [cl hn (by omega), h.2.1.two hn]
    rw [gGiver, if_neg (Int32.not_le.mpr q)] at H; exact H
  · rw [cl hn (by omega), h.2.1.one hn]
    rw [gGiver, if_pos (Int32.not_lt.mp q)] at H; exact H
theorem M_sinkOf (h : MB σ k c s) {n : Nat} (hn : n < c 0 2) (H : Q (some (iV (nI (gTaker c s n)))) σ) : R mj_OM (d + 1 + 1 + 1) mX11_sinkOf Q 0 [some (rV 45 0), some (iV (nI k)), some (iV (nI n))] [] σ := by
  have nk := h.2.2.1.nk
  have np := h.2.2.1.np
  have pp := h.2.2.1.pipe hn
  refine bX11_sinkOf_0 (M_sourceOf h hn (bX11_sinkOf_6 ⟨vin hn (by omega) (by decide), fun q => ?_, fun q => ?_⟩))
  · rw [cl hn (by omega), h.2.1.one hn] at q ⊢
    unfold gGiver at q; unfold gTaker at H
    split at q
    · exact absurd rfl q
    · rename_i g; rw [if_neg g] at H; exact H
  · rw [cl hn (by omega), h.2.1.one hn] at q
    rw [cl hn (by omega), h.2.1.two hn]
    unfold gGiver at q; unfold gTaker at H
    split at q
    · rename_i g; rw [if_pos g] at H; exact H
    · rw [nI_inj (by omega) (by omega)] at q; exact absurd q.symm pp.2.2.1
theorem M_runOf (h : MB σ k c s) {n : Nat} (hn : n < c 0 2) (H : Q (some (iV (gRun c s n))) σ) : R mj_OM (d + 1 + 1 + 1 + 1) mX11_runOf Q 0 [some (rV 45 0), some (iV (nI k)), some (iV (nI n)), none, none] [] σ := by
  have V := h.2.2.1
  have np := V.np
  have hk := h.1
  have g1 := gGiver_lt (s := s) V hn
  have g2 := gTaker_lt (s := s) V hn
  have ea := (nI_pos2 (V.pond g1).1 (V.pond g1).2.1 (V.pond g2).2.1).2
  refine bX11_runOf_0 (M_sourceOf h hn (bX11_runOf_6 (M_sinkOf h hn (bX11_runOf_13 ⟨?_, ?_⟩))))
  · rw [ix7]; exact vin (show 7 * k + gGiver c s n < 161 by omega) (Nat.le_refl _) (by decide)
  · rw [ix7, nI_clamp (by omega), h.w g1]
    refine M_higherBy h g1 g2 (bX11_runOf_34 ⟨vin g1 (by omega) (by decide), vin g2 (by omega) (by decide), ?_, ?_⟩)
    · rw [cl g1 (by omega), cl g2 (by omega), h.2.1.area g1, h.2.1.area g2]; exact ea
    · rw [cl g1 (by omega), cl g2 (by omega), h.2.1.area g1, h.2.1.area g2]; exact H
theorem MB.flowed (h : MB σ k c s) {x y : Nat} (hx : x < c 0 0) (hy : y < c 0 0) (m : Int32) : MB (uI (uI σ 74 0 (7 * k + x) (s 4 x - m)) 74 0 (7 * k + y) ((uI σ 74 0 (7 * k + x) (s 4 x - m)).1 74 0 (7 * k + y) + m)) k c (gMove s x y m) := by
  have h1 : MB _ k c (sU s 4 x (s 4 x - m)) := h.u74 hx
  rw [h1.w hy]
  exact h1.u74 hy
theorem M_flows (h : MB σ k c s) {n : Nat} (hn : n < c 0 2) {most : Int32} (H : ∀ τ : MS, SB [(74, 0)] σ τ → (∀ j, j ≠ k → KS σ τ j) → MB τ k c (gFlow c s n most).2 → Q (some (iV (gFlow c s n most).1)) τ) : R mj_OM (d + 1 + 1 + 1 + 1 + 1) mX11_flows Q 0 [some (rV 45 0), some (iV (nI k)), some (iV (nI n)), some (iV most), none, none, none] [] σ := by
  have V := h.2.2.1
  have np := V.np
  have hk := h.1
  have g1 := gGiver_lt (s := s) V hn
  have g2 := gTaker_lt (s := s) V hn
  refine bX11_flows_0 (M_runOf h hn (bX11_flows_7 (M_sourceOf h hn (bX11_flows_18 (M_sinkOf h hn (bX11_flows_26 ⟨?_, ?_, ?_⟩))))))
  · rw [ix7]; exact vin (show 7 * k + gGiver c s n < 161 by omega) (Nat.le_refl _) (by decide)
  · rw [ix7]; exact vin (show 7 * k + gTaker c s n < 161 by omega) (Nat.le_refl _) (by decide)
  · rw [ix7, ix7, nI_clamp (by omega), nI_clamp (by omega), h.w g1]
    exact H _ ((SB.uI (by simp)).tr (SB.uI (by simp))) (fun j hj => (KS.u74 hj (by omega)).tr (KS.u74 hj (by omega))) (h.flowed g1 g2 _)
theorem M_isJammed (h : MB σ k c s) {n : Nat} (H1 : gJam s n → Q (some (iV 1)) σ) (H0 : ¬ gJam s n → Q (some (iV 0)) σ) : R mj_OM d mX11_isJammed Q 0 [some (rV 45 0), some (iV (nI k)), some (iV (nI n))] [] σ := by
  have hk := h.1
  refine bX11_isJammed_0 ⟨vin hk (Nat.le_refl _) (by decide), fun q => H0 ?_, fun q => H1 ?_⟩
  · rw [cl hk (by omega), h.2.2.2.2.2.2.1] at q; exact q
  · rw [cl hk (by omega), h.2.2.2.2.2.2.1] at q; exact q
theorem M_isTurned (h : MB σ k c s) (ht : SVt s) {n : Nat} (hn : n ≤ 2000) (H1 : gTurned c (gT s) n = true → Q (some (iV 1)) σ) (H0 : gTurned c (gT s) n = false → Q (some (iV 0)) σ) : R mj_OM d mX11_isTurned Q 0 [some (rV 45 0), some (iV (nI k)), some (iV (nI n)), none] [] σ := by
  have V := h.2.2.1
  have nt := V.nt
  have hk := h.1
  refine bX11_isTurned_0 ?_
  have L : ∀ (m i : Nat), i + m = c 0 3 → (∀ j, j < i → ¬ (c 12 j = n ∧ c 13 j ≤ gT s ∧ gT s < c 13 j + c 14 j)) → R mj_OM d mX11_isTurned Q 2 [some (rV 45 0), some (iV (nI k)), some (iV (nI n)), some (iV (nI i))] [] σ := by
    intro m
    induction m with
    | zero =>
      intro i hi hj
      refine bX11_isTurned_2 ⟨vin (p := 3) (n := 4) (by omega) (by omega) (by decide), fun _ => H0 ?_, fun e => ?_⟩
      · refine decide_eq_false ?_
        rintro ⟨j, h1, h2⟩
        exact hj j (by omega) h2
      · rw [h.2.1.nt, ← hi] at e; exact absurd (Int32.le_refl _) e
    | succ m ih =>
      intro i hi hj
      have hi3 : i < c 0 3 := by omega
      have tt := V.turn hi3
      have nk := V.nk
      have next : ¬ (c 12 i = n ∧ c 13 i ≤ gT s ∧ gT s < c 13 i + c 14 i) → R mj_OM d mX11_isTurned Q 2 [some (rV 45 0), some (iV (nI k)), some (iV (nI n)), some (iV (nI i + 1))] [] σ := by
        intro g
        rw [nI_1]
        refine ih (i + 1) (by omega) (fun j hj2 => ?_)
        by_cases e : j = i
        · subst e; exact g
        · exact hj j (by omega)
      have em : σ.1 70 0 (nI k).toNatClampNeg = nI (gT s) := by rw [cl hk (by omega), h.2.2.2.1, ← ht.1]
      refine bX11_isTurned_2 ⟨vin (p := 3) (n := 4) (by omega) (by omega) (by decide), fun e => ?_, fun _ => ⟨vin hi3 (by omega) (by decide), fun e => ?_, fun e => ⟨vin hk (Nat.le_refl _) (by decide), fun e2 => ?_, fun e2 => ⟨fun e3 => ?_, fun e3 => ?_⟩⟩⟩⟩
      · rw [h.2.1.nt, nI_le2 (by omega) (by omega)] at e; omega
      · rw [cl hi3 (by omega), h.2.1.tpipe hi3, nI_inj (by omega) (by omega)] at e
        exact next (fun g => e g.1)
      · rw [em, cl hi3 (by omega), h.2.1.tat hi3, nI_ltI (by have := ht.2; omega) (by omega)] at e2
        exact next (fun g => by omega)
      · rw [em, cl hi3 (by omega), h.2.1.tat hi3, h.2.1.tfor hi3, nI_add, nI_leI (by omega) (by have := ht.2; omega)] at e3
        exact next (fun g => by omega)
      · rw [cl hi3 (by omega), h.2.1.tpipe hi3, nI_inj (by omega) (by omega)] at e
        rw [em, cl hi3 (by omega), h.2.1.tat hi3, nI_ltI (by have := ht.2; omega) (by omega)] at e2
        rw [em, cl hi3 (by omega), h.2.1.tat hi3, h.2.1.tfor hi3, nI_add, nI_leI (by omega) (by have := ht.2; omega)] at e3
        exact H1 (decide_eq_true ⟨i, hi3, e, by omega, by omega⟩)
  exact L (c 0 3) 0 (by omega) (fun j hj => by omega)
theorem M_isOpen (h : MB σ k c s) (hm : MM σ md) (ht : SVt s) (hv : MV' c md) {n : Nat} (hn : n < c 0 2) (H1 : gOpen c s md n = true → Q (some (iV 1)) σ) (H0 : ¬ gOpen c s md n = true → Q (some (iV 0)) σ) : R mj_OM (d + 1) mX11_isOpen Q 0 [some (rV 45 0), some (iV (nI k)), some (iV (nI n))] [] σ := by
  have V := h.2.2.1
  have nk := V.nk
  have e4 : nI md.2.1 = 4 ↔ md.2.1 = 4 := nI_eq (b := 4) (by have := hm.2.1; omega) (by decide)
  have e2 : nI md.2.1 = 2 ↔ md.2.1 = 2 := nI_eq (b := 2) (by have := hm.2.1; omega) (by decide)
  have ej : gJam s n ↔ bt (s 3 0) n = true := bt_sh (by omega)
  have rest : ¬ md.2.1 = 4 → ¬ (md.2.1 = 2 ∧ n = md.2.2.1) → R mj_OM d mX11_isJammed (fun r σ' => R mj_OM (d + 1) mX11_isOpen Q 32 [some (rV 45 0), some (iV (nI k)), some (iV (nI n))] (r.toList ++ []) σ') 0 [some (rV 45 0), some (iV (nI k)), some (iV (nI n))] [] σ := by
    intro g4 g2
    refine M_isJammed h (fun g => bX11_isOpen_32 ⟨fun _ => H0 ?_, fun e => absurd e (by decide)⟩) (fun g => bX11_isOpen_32 ⟨fun e => absurd rfl e, fun _ => ?_⟩)
    · rw [ej] at g; simp [gOpen, g4, g]
    · rw [ej] at g
      refine M_isTurned h ht (by omega) (fun g5 => bX11_isOpen_41 ⟨fun e => absurd e (by decide), fun _ => H1 ?_⟩) (fun g5 => bX11_isOpen_41 ⟨fun _ => H0 ?_, fun e => absurd rfl e⟩)
      · simp [gOpen, g4, g, g5]; omega
      · simp [gOpen, g4, g5]
  refine bX11_isOpen_0 ⟨fun g4 => ⟨fun g2 => ?_, fun g2 => ⟨fun g3 => ?_, fun g3 => ?_⟩⟩, fun g4 => ?_⟩
  · rw [hm.1, e4] at g4; rw [hm.1, e2] at g2
    exact rest g4 (fun g => g2 g.1)
  · rw [hm.1, e4] at g4; rw [hm.1, e2] at g2
    rw [hm.2.2.1 g2, nI_inj (by omega) (by have := hv.1 g2; omega)] at g3
    exact H0 (by simp [gOpen, g4, g2, g3])
  · rw [hm.1, e4] at g4; rw [hm.1, e2] at g2
    rw [hm.2.2.1 g2, nI_inj (by omega) (by have := hv.1 g2; omega)] at g3
    exact rest g4 (fun g => g3 g.2)
  · rw [hm.1, e4] at g4
    exact H1 (by simp [gOpen, g4])
theorem M_openMany (h : MB σ k c s) (hm : MM σ md) (ht : SVt s) (hv : MV' c md) (H : Q (some (iV (nI (gOpenMany c s md)))) σ) : R mj_OM (d + 1 + 1) mX11_openMany Q 0 [some (rV 45 0), some (iV (nI k)), none, none] [] σ := by
  have V := h.2.2.1
  have nk := V.nk
  refine bX11_openMany_0 ?_
  refine up_loop (n := c 0 2) (fun i => R mj_OM (d + 1 + 1) mX11_openMany Q 4 [some (rV 45 0), some (iV (nI k)), some (iV (nI (gCnt (gOpen c s md) i))), some (iV (nI i))] [] σ) ?_ ?_ 0 (Nat.zero_le _)
  · refine bX11_openMany_4 ⟨vin (p := 2) (n := 3) (by omega) (by omega) (by decide), fun _ => H, fun e => ?_⟩
    rw [h.2.1.nk] at e; exact absurd (Int32.le_refl _) e
  · intro i hi ih
    refine bX11_openMany_4 ⟨vin (p := 2) (n := 3) (by omega) (by omega) (by decide), fun e => ?_, fun _ => ?_⟩
    · rw [h.2.1.nk, nI_le2 (by omega) (by omega)] at e; omega
    · refine M_isOpen h hm ht hv hi (fun g => bX11_openMany_21 ⟨fun e => absurd e (by decide), fun _ => ?_⟩) (fun g => bX11_openMany_21 ⟨fun _ => ?_, fun e => absurd rfl e⟩)
      · rw [gCnt, if_pos g] at ih; rw [nI_1, nI_1]; exact ih
      · rw [gCnt, if_neg g] at ih; rw [nI_1, show ∀ z : Int32, z + 0 = z from Int32.add_zero]; exact ih
theorem M_boatsOf (h : MB σ k c s) {x : Int32} (H : Q (some (iV (nI (gBoats c s x)))) σ) : R mj_OM d mX11_boatsOf Q 0 [some (rV 45 0), some (iV (nI k)), some (iV x), none, none] [] σ := by
  have V := h.2.2.1
  have nb := V.nb
  have hk := h.1
  refine bX11_boatsOf_0 ?_
  refine up_loop (n := c 0 4) (fun i => R mj_OM d mX11_boatsOf Q 5 [some (rV 45 0), some (iV (nI k)), some (iV x), some (iV (nI (gCnt (fun q => decide (s 5 q = x)) i))), some (iV (nI i))] [] σ) ?_ ?_ 0 (Nat.zero_le _)
  · refine bX11_boatsOf_5 ⟨vin (p := 4) (n := 5) (by omega) (by omega) (by decide), fun _ => H, fun e => ?_⟩
    rw [h.2.1.nb] at e; exact absurd (Int32.le_refl _) e
  · intro i hi ih
    refine bX11_boatsOf_5 ⟨vin (p := 4) (n := 5) (by omega) (by omega) (by decide), fun e => ?_, fun _ => ⟨?_, fun g => ?_, fun g => ?_⟩⟩
    · rw [h.2.1.nb, nI_le2 (by omega) (by omega)] at e; omega
    · rw [ix8]; exact vin (show 8 * k + i < 184 by omega) (Nat.le_refl _) (by decide)
    · rw [ix8, nI_clamp (by omega), h.st hi] at g
      rw [gCnt, if_neg (by simp [g])] at ih
      rw [nI_1, show ∀ z : Int32, z + 0 = z from Int32.add_zero]; exact ih
    · rw [ix8, nI_clamp (by omega), h.st hi] at g
      rw [gCnt, if_pos (by simp [g])] at ih
      rw [nI_1, nI_1]; exact ih
end Mdl
