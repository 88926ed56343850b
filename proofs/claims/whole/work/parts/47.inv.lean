/-! water is never less than nothing, no level above a full pond's: kept by all that is done -/
section Sd
variable {c : CA} {s : SA} {md : MD}
theorem SI.of {s' : SA} (h : SI c s) (e : ∀ p, s' 4 p = s 4 p) : SI c s' := by
  intro p hp
  have : gW s' p = gW s p := by unfold gW; rw [e]
  unfold gU
  rw [e, this]; exact h p hp
theorem gW_set {p w : Nat} (hw : w < 2 ^ 31) : gW (sU s 4 p (nI w)) p = w := by
  unfold gW; simp only [sU, and_self, if_true]; exact nI_clamp hw
theorem gW_ne {p q : Nat} {v : Int32} (h : q ≠ p) : gW (sU s 4 p v) q = gW s q := by
  unfold gW; simp [sU, h]
theorem SI.set (h : SI c s) (V : CV c) {p w : Nat} (hp : p < c 0 0) (hw : c 3 p * c 2 p + w ≤ 10098 * c 2 p) : SI c (sU s 4 p (nI w)) := by
  have v := V.pond hp
  intro q hq
  by_cases e : q = p
  · subst e
    have : w < 2 ^ 31 := by omega
    unfold gU
    rw [gW_set this]
    exact ⟨by simp [sU], hw⟩
  · unfold gU
    rw [gW_ne e]
    exact ⟨by simp [sU, e]; exact (h q hq).1, (h q hq).2⟩
theorem SI.gt (h : SI c s) (V : CV c) {k : Nat} (hk : k < c 0 2) : gU c s (gTaker c s k) * c 2 (gGiver c s k) ≤ gU c s (gGiver c s k) * c 2 (gTaker c s k) := by
  have pp := V.pipe hk
  have b1 := h.hb V pp.1 pp.2.1
  have b2 := h.hb V pp.2.1 pp.1
  have e := h.hi pp.1 pp.2.1
  unfold gTaker gGiver
  by_cases g : 0 ≤ gHi c s (c 9 k) (c 10 k)
  · rw [if_pos g, if_pos g]
    rw [e] at g
    rcases Nat.lt_or_ge (gU c s (c 9 k) * c 2 (c 10 k)) (gU c s (c 10 k) * c 2 (c 9 k)) with q | q
    · exact absurd g (Int32.not_le.mpr (pk_sneg (by omega) q))
    · exact q
  · rw [if_neg g, if_neg g]
    rw [e] at g
    rcases Nat.lt_or_ge (gU c s (c 9 k) * c 2 (c 10 k)) (gU c s (c 10 k) * c 2 (c 9 k)) with q | q
    · exact Nat.le_of_lt q
    · exact absurd (by rw [pk_sub q]; exact nI_pos' (by omega)) g
theorem gGT_ne (V : CV c) {k : Nat} (hk : k < c 0 2) : gGiver c s k ≠ gTaker c s k := by
  have pp := V.pipe hk
  unfold gGiver gTaker
  split
  · exact pp.2.2.1
  · exact Ne.symm pp.2.2.1
/-- how much runs is a number: no more than there is, and the taker's level stays below the bound -/
theorem SI.rn (h : SI c s) (V : CV c) {k : Nat} (hk : k < c 0 2) : ∃ m : Nat, gRun c s k = nI m ∧ m ≤ gW s (gGiver c s k) ∧ gU c s (gTaker c s k) + m ≤ 10098 * c 2 (gTaker c s k) := by
  have g1 := gGiver_lt (s := s) V hk
  have g2 := gTaker_lt (s := s) V hk
  have v1 := V.pond g1
  have v2 := V.pond g2
  have b1 := h.hb V g1 g2
  have w1 := (h.bd V g1)
  have gt := h.gt V hk
  have e : gHi c s (gGiver c s k) (gTaker c s k) / (nI (c 2 (gGiver c s k)) + nI (c 2 (gTaker c s k))) = nI ((gU c s (gGiver c s k) * c 2 (gTaker c s k) - gU c s (gTaker c s k) * c 2 (gGiver c s k)) / (c 2 (gGiver c s k) + c 2 (gTaker c s k))) := by
    rw [h.hi g1 g2, pk_sub gt, nI_add, pk_div (by omega) (by omega) (by omega)]
  have dm := Nat.div_mul_le_self (gU c s (gGiver c s k) * c 2 (gTaker c s k) - gU c s (gTaker c s k) * c 2 (gGiver c s k)) (c 2 (gGiver c s k) + c 2 (gTaker c s k))
  have dl := Nat.div_le_self (gU c s (gGiver c s k) * c 2 (gTaker c s k) - gU c s (gTaker c s k) * c 2 (gGiver c s k)) (c 2 (gGiver c s k) + c 2 (gTaker c s k))
  unfold gRun
  rw [e, (h _ g1).1]
  generalize hX : (gU c s (gGiver c s k) * c 2 (gTaker c s k) - gU c s (gTaker c s k) * c 2 (gGiver c s k)) / (c 2 (gGiver c s k) + c 2 (gTaker c s k)) = X at dm dl
  have fin : ∀ m : Nat, m ≤ X → gU c s (gTaker c s k) + m ≤ 10098 * c 2 (gTaker c s k) := by
    intro m hm
    refine Nat.le_of_mul_le_mul_right (c := c 2 (gGiver c s k)) ?_ (by omega)
    have a1 : m * c 2 (gGiver c s k) ≤ X * c 2 (gGiver c s k) := Nat.mul_le_mul_right _ hm
    have a2 : X * (c 2 (gGiver c s k) + c 2 (gTaker c s k)) = X * c 2 (gGiver c s k) + X * c 2 (gTaker c s k) := Nat.mul_add _ _ _
    have a3 : gU c s (gGiver c s k) * c 2 (gTaker c s k) ≤ 10098 * c 2 (gGiver c s k) * c 2 (gTaker c s k) := Nat.mul_le_mul_right _ (h _ g1).2
    have a4 : 10098 * c 2 (gGiver c s k) * c 2 (gTaker c s k) = 10098 * c 2 (gTaker c s k) * c 2 (gGiver c s k) := by rw [Nat.mul_assoc, Nat.mul_comm (c 2 (gGiver c s k)), ← Nat.mul_assoc]
    rw [Nat.add_mul]
    omega
  unfold imin
  by_cases q : nI X < nI (gW s (gGiver c s k))
  · rw [if_pos q]
    rw [nI_ltI (by omega) (by omega)] at q
    exact ⟨X, rfl, by omega, fin X (Nat.le_refl _)⟩
  · rw [if_neg q]
    rw [nI_ltI (by omega) (by omega)] at q
    exact ⟨gW s (gGiver c s k), rfl, Nat.le_refl _, fin _ (by omega)⟩
theorem SI.mvd (h : SI c s) (V : CV c) {g t m : Nat} (hg : g < c 0 0) (ht : t < c 0 0) (hne : g ≠ t) (hm : m ≤ gW s g) (hb : gU c s t + m ≤ 10098 * c 2 t) : gMove s g t (nI m) = sU (sU s 4 g (nI (gW s g - m))) 4 t (nI (gW s t + m)) ∧ SI c (gMove s g t (nI m)) := by
  have e1 : s 4 g - nI m = nI (gW s g - m) := by rw [(h g hg).1, pk_sub hm]
  have e2 : (sU s 4 g (nI (gW s g - m))) 4 t + nI m = nI (gW s t + m) := by
    have : (sU s 4 g (nI (gW s g - m))) 4 t = s 4 t := by simp [sU, Ne.symm hne]
    rw [this, (h t ht).1, nI_add]
  have e : gMove s g t (nI m) = sU (sU s 4 g (nI (gW s g - m))) 4 t (nI (gW s t + m)) := by unfold gMove; rw [e1, e2]
  refine ⟨e, ?_⟩
  rw [e]
  have u1 := (h g hg).2
  have u2 := (h t ht).2
  unfold gU at u1 u2 hb
  exact (h.set V hg (by omega)).set V ht (by omega)
theorem SI.flow (h : SI c s) (V : CV c) {k : Nat} (hk : k < c 0 2) {x : Int32} (hx : ¬ x < 0) : ∃ m : Nat, (gFlow c s k x).1 = nI m ∧ m ≤ gW s (gGiver c s k) ∧ gU c s (gTaker c s k) + m ≤ 10098 * c 2 (gTaker c s k) ∧ SI c (gFlow c s k x).2 := by
  have g1 := gGiver_lt (s := s) V hk
  have g2 := gTaker_lt (s := s) V hk
  obtain ⟨m, e, h1, h2⟩ := h.rn V hk
  obtain ⟨j, hj, rfl⟩ := nI_of hx
  have bw := h.bd V g1
  have : ∃ n : Nat, n ≤ m ∧ imin (nI j) (gRun c s k) = nI n := by
    rw [e]; unfold imin
    by_cases q : nI m < nI j
    · exact ⟨m, Nat.le_refl _, if_pos q⟩
    · refine ⟨j, ?_, if_neg q⟩
      rw [nI_ltI (by omega) (by omega)] at q; omega
  obtain ⟨n, hn, en⟩ := this
  refine ⟨n, en, by omega, by omega, ?_⟩
  show SI c (gMove s (gGiver c s k) (gTaker c s k) (imin (nI j) (gRun c s k)))
  rw [en]
  exact (h.mvd V g1 g2 (gGT_ne V hk) (by omega) (by omega)).2
theorem gMore_n {w x : Nat} (hw : w < 2 ^ 30) (hx : x < 2 ^ 30) : gMore (nI w) (nI x) = nI (max w (min 9999 (w + x))) := by
  have e1 : imin 9999 (nI w + nI x) = nI (min 9999 (w + x)) := by
    unfold imin
    rw [nI_add, show (9999 : Int32) = nI 9999 from rfl]
    by_cases q : nI (w + x) < nI 9999
    · rw [if_pos q]; rw [nI_ltI (by omega) (by omega)] at q; congr 1; omega
    · rw [if_neg q]; rw [nI_ltI (by omega) (by omega)] at q; congr 1; omega
  unfold gMore
  rw [e1]; unfold imax
  by_cases q : nI w < nI (min 9999 (w + x))
  · rw [if_pos q]; rw [nI_ltI (by omega) (by omega)] at q; congr 1; omega
  · rw [if_neg q]; rw [nI_ltI (by omega) (by omega)] at q; congr 1; omega
theorem SI.more (h : SI c s) (V : CV c) {p x : Nat} (hp : p < c 0 0) (hx : x < 2 ^ 30) : SI c (sU s 4 p (gMore (s 4 p) (nI x))) := by
  have b := h.bd V hp
  have v := V.pond hp
  rw [(h p hp).1, gMore_n (by omega) hx]
  refine h.set V hp ?_
  have u := (h p hp).2
  unfold gU at u
  have : c 3 p * c 2 p ≤ 99 * c 2 p := Nat.mul_le_mul_right _ v.2.2.1
  omega
theorem SI.less (h : SI c s) (V : CV c) {p x : Nat} (hp : p < c 0 0) (hx : x < 2 ^ 30) : SI c (sU s 4 p (imax 0 (s 4 p - nI x))) := by
  have b := h.bd V hp
  have e : imax 0 (s 4 p - nI x) = nI (gW s p - x) := by
    rw [(h p hp).1]
    exact mx_sub (by omega) (by omega)
  rw [e]
  refine h.set V hp ?_
  have u := (h p hp).2
  unfold gU at u
  omega
theorem gPut_n (r : Option Int) {most plain : Nat} (hp : plain ≤ 2000) (hm : most ≤ 2000) : ∃ m : Nat, m ≤ 2000 ∧ gPut r most plain = nI m := by
  cases r with
  | none => exact ⟨plain, hp, rfl⟩
  | some z =>
    refine ⟨(max 0 (min (most : Int) z)).toNat, by omega, ?_⟩
    have : (max 0 (min (most : Int) z)) = (((max 0 (min (most : Int) z)).toNat : Nat) : Int) := by omega
    show Int32.ofInt (max 0 (min (most : Int) z)) = _
    rw [this]
    exact Int32.ofInt_eq_ofNat
theorem gPipe_si (V : CV c) {k : Nat} (hk : k < c 0 2) (h : SI c s) : SI c (gPipe c md k s) := by
  have pp := V.pipe hk
  unfold gPipe
  split
  · obtain ⟨m, hm, e⟩ := gPut_n (gWorth c 0 (gNames c s md (gGiver c s k) (c 11 k))) (most := 99) (plain := c 11 k) (by omega) (by omega)
    rw [e]
    obtain ⟨_, _, _, _, h2⟩ := h.flow V hk (x := nI m) (nI_pos (by omega))
    refine h2.of (fun p => ?_)
    have e1 : ∀ x : Bool × SA, gJamIt k x 4 p = x.2 4 p := fun x => by unfold gJamIt; split <;> simp [sU]
    have e2 : ∀ s : SA, (gDraw c md s).2 4 p = s 4 p := fun s => by
      unfold gDraw; repeat' split
      all_goals simp [sU]
    rw [e1, e2]
  · exact h
theorem gLeak_si (V : CV c) (hv : MV' c md) {p : Nat} (hp : p < c 0 0) (h : SI c s) : SI c (gLeak c md p s) := by
  unfold gLeak
  split
  · have := hv.2.2
    exact h.less V hp (by omega)
  · obtain ⟨m, hm, e⟩ := gPut_n (gWorth c 1 (gNames c s md p 0)) (most := 99) (plain := 0) (by omega) (by omega)
    rw [e]
    exact h.less V hp (by omega)
theorem gBoat_4 (c : CA) (md : MD) (q : Nat) (s : SA) (p : Nat) : gBoat c md q s 4 p = s 4 p := by
  have e1 : ∀ s : SA, gRaise c md q s 4 p = s 4 p := fun s => by unfold gRaise; split <;> simp [sU]
  have e2 : ∀ (s : SA) (l : Nat), gLetIn c s q l 4 p = s 4 p := fun s l => by unfold gLetIn; split <;> simp [sU]
  unfold gBoat; split
  · rfl
  · rw [e1, e2]
theorem gMinute_si (V : CV c) (hv : MV' c md) (h : SI c s) : SI c (gMinute c md s) := by
  have h1 : SI c (if md.2.1 = 3 then s else gLoop (gSpring c) 0 (c 0 0) s) := by
    split
    · exact h
    · exact gLoop_inv (N := c 0 0) (fun i s hi hs => by
        have v := V.pond hi
        exact hs.more V hi (by omega)) _ _ _ (by omega) h
  have h2 := gLoop_inv (P := SI c) (f := gPipe c md) (N := c 0 2) (fun i s hi hs => gPipe_si V hi hs) (c 0 2) 0 _ (by omega) h1
  have h3 : SI c (if md.2.1 = 1 then gLoop (gPipe c md) 0 (c 0 2) (if md.2.1 = 3 then s else gLoop (gSpring c) 0 (c 0 0) s) else gLoop (gLeak c md) 0 (c 0 0) (gLoop (gPipe c md) 0 (c 0 2) (if md.2.1 = 3 then s else gLoop (gSpring c) 0 (c 0 0) s))) := by
    split
    · exact h2
    · exact gLoop_inv (N := c 0 0) (fun i s hi hs => gLeak_si V hv hi hs) _ _ _ (by omega) h2
  have h4 := gLoop_inv (P := SI c) (f := gBoat c md) (N := c 0 4) (fun i s _ hs => hs.of (fun p => gBoat_4 c md i s p)) (c 0 4) 0 _ (by omega) h3
  exact h4.of (fun p => by simp [gMinute, sU])
theorem gMinutes_si (V : CV c) (hv : MV' c md) : ∀ (n : Nat) (s : SA), SI c s → SI c (gMinutes c md n s) := by
  intro n
  induction n with
  | zero => intro s h; exact h
  | succ n ih => intro s h; exact ih _ (gMinute_si V hv h)
theorem gBegin_si (V : CV c) : SI c (gBegin c) := by
  intro p hp
  have v := V.pond hp
  have e : gW (gBegin c) p = c 4 p := by unfold gW; exact nI_clamp (by omega)
  unfold gU
  rw [e]
  refine ⟨rfl, ?_⟩
  have : c 3 p * c 2 p ≤ 99 * c 2 p := Nat.mul_le_mul_right _ v.2.2.1
  omega
end Sd
