/-! the reference's whole minute -/
theorem sIn.of {c : CA} {s s' : SA} (h : sIn c s) (e0 : s' 0 0 = s 0 0) (e5 : ∀ q : Nat, s' 5 q = s 5 q) : sIn c s' := fun q hq g => by
  rw [e0]; rw [e5] at g; exact h q hq g
theorem gLoop_r {f : Nat → SA → SA} {a j : Nat} (hf : ∀ i s, f i s a j = s a j) : ∀ (n i : Nat) (s : SA), gLoop f i n s a j = s a j := by
  intro n
  induction n with
  | zero => intro i s; rfl
  | succ n ih => intro i s; rw [gLoop, ih, hf]
theorem gSpring_r (c : CA) {a : Nat} (ha : a ≠ 4) (j p : Nat) (s : SA) : gSpring c p s a j = s a j := by simp [gSpring, sU, ha]
theorem gPipe_r (c : CA) (md : MD) {a : Nat} (ha : a ≠ 4 ∧ a ≠ 1 ∧ a ≠ 3) (j k : Nat) (s : SA) : gPipe c md k s a j = s a j := by
  have e : ∀ m, (gFlow c s k m).2 a j = s a j := fun m => by simp [gFlow, gMove, sU, ha.1]
  have e2 : ∀ s', (gDraw c md s').2 a j = s' a j := fun s' => by
    unfold gDraw; repeat' split
    all_goals simp [sU, ha.2.1]
  unfold gPipe gJamIt
  split
  · split
    · simp [sU, ha.2.2, e2, e]
    · rw [e2, e]
  · rfl
theorem gLeak_r (c : CA) (md : MD) {a : Nat} (ha : a ≠ 4) (j p : Nat) (s : SA) : gLeak c md p s a j = s a j := by simp [gLeak, sU, ha]
theorem gBoat_in (c : CA) (md : MD) {s : SA} (h : sIn c s) (q : Nat) : sIn c (gBoat c md q s) := by
  intro p hp g
  rw [gBoat_0]
  by_cases e : p = q
  · subst e
    unfold gBoat at g
    split at g
    · exact h p hp g
    · rename_i hn
      exact fun x => hn (Or.inr x)
  · refine h p hp ?_
    rw [← g]
    unfold gBoat gRaise gLetIn
    repeat' split
    all_goals simp [sU, e]
theorem gLoop_in {c : CA} {f : Nat → SA → SA} (hf : ∀ i s, sIn c s → sIn c (f i s)) : ∀ (n i : Nat) (s : SA), sIn c s → sIn c (gLoop f i n s) := by
  intro n
  induction n with
  | zero => intro i s h; exact h
  | succ n ih => intro i s h; exact ih _ _ (hf i s h)
theorem gSpring_in (c : CA) {s : SA} (h : sIn c s) (p : Nat) : sIn c (gSpring c p s) := h.of (gSpring_0 c p s) (fun q => gSpring_r c (by decide) q p s)
theorem gPipe_in (c : CA) (md : MD) {s : SA} (h : sIn c s) (p : Nat) : sIn c (gPipe c md p s) := h.of (gPipe_0 c md p s) (fun q => gPipe_r c md (by decide) q p s)
theorem gLeak_in (c : CA) (md : MD) {s : SA} (h : sIn c s) (p : Nat) : sIn c (gLeak c md p s) := h.of (gLeak_0 c md p s) (fun q => gLeak_r c md (by decide) q p s)
theorem gMinute_in {c : CA} {md : MD} {s : SA} (V : CV c) (h : sIn c s) (ht : SVt s) : sIn c (gMinute c md s) := by
  have h4 : ∀ s3, s3 0 0 = s 0 0 → sIn c s3 → sIn c (let s4 := gLoop (gBoat c md) 0 (c 0 4) s3; sU s4 0 0 (s4 0 0 + 1)) := by
    intro s3 e3 i3 q hq g
    have i4 := gLoop_in (fun i s h => gBoat_in c md h i) (c 0 4) 0 s3 i3
    have e4 : gLoop (gBoat c md) 0 (c 0 4) s3 0 0 = s 0 0 := by rw [gLoop_0 (fun i s => gBoat_0 c md i s), e3]
    have g2 := i4 q hq (by simpa [sU] using g)
    have b := (V.boat hq).2
    simp only [sU, and_self, if_true]
    rw [e4] at g2 ⊢
    rw [ht.1] at g2 ⊢
    have h1 := ht.2
    rw [Int32.not_lt, nI_leI (by omega) (by omega)] at g2
    rw [nI_1, Int32.not_lt, nI_leI (by omega) (by omega)]
    omega
  unfold gMinute
  have i1 : sIn c (if md.2.1 = 3 then s else gLoop (gSpring c) 0 (c 0 0) s) := by
    split
    · exact h
    · exact gLoop_in (fun i s h => gSpring_in c h i) _ _ _ h
  have e1 : (if md.2.1 = 3 then s else gLoop (gSpring c) 0 (c 0 0) s) 0 0 = s 0 0 := by
    split
    · rfl
    · exact gLoop_0 (fun i s => gSpring_0 c i s) _ _ _
  have i2 := gLoop_in (fun i s h => gPipe_in c md h i) (c 0 2) 0 _ i1
  have e2 : gLoop (gPipe c md) 0 (c 0 2) (if md.2.1 = 3 then s else gLoop (gSpring c) 0 (c 0 0) s) 0 0 = s 0 0 := (gLoop_0 (fun i s => gPipe_0 c md i s) _ _ _).trans e1
  refine h4 _ ?_ ?_
  · split
    · exact e2
    · exact (gLoop_0 (fun i s => gLeak_0 c md i s) _ _ _).trans e2
  · split
    · exact i2
    · exact gLoop_in (fun i s h => gLeak_in c md h i) _ _ _ i2
section Mq
variable {d : Nat} {Q : Option MV → MS → Prop} {k : Nat} {c : CA} {md : MD}
theorem M_pass4 (hv : MV' c md) : ∀ (n i : Nat) (s : SA) (σ : MS), i + n = c 0 4 → MB σ k c s → MM σ md → SVt s → sIn c s → (∀ τ : MS, SZ k σ τ → MB τ k c (let s4 := gLoop (gBoat c md) i n s; sU s4 0 0 (s4 0 0 + 1)) → Q none τ) → R mj_OM (d + 1 + 1 + 1 + 1 + 1 + 1 + 1) mX11_passes Q 126 [some (rV 45 0), some (iV (nI k)), some (iV (i01 md.1)), some (iV (nI i))] [] σ := by
  intro n
  induction n with
  | zero =>
    intro i s σ hi h hm ht hin H
    have nb := h.2.2.1.nb
    have hk := h.1
    refine bX11_passes_126 ⟨vin (p := 4) (n := 5) (by omega) (by omega) (by decide), fun _ => ⟨vin hk (Nat.le_refl _) (by decide), ?_⟩, fun q => ?_⟩
    · rw [cl hk (by omega), h.2.2.2.1]
      exact H _ (SZ.u70 (f := 0) (by omega)) (h.u70 (f := 0) (by omega))
    · rw [h.2.1.nb, show c 0 4 = i by omega] at q; exact absurd (Int32.le_refl _) q
  | succ n ih =>
    intro i s σ hi h hm ht hin H
    have nb := h.2.2.1.nb
    refine bX11_passes_126 ⟨vin (p := 4) (n := 5) (by omega) (by omega) (by decide), fun q => ?_, fun _ => ?_⟩
    · rw [h.2.1.nb, nI_le2 (by omega) (by omega)] at q; omega
    · refine M_moves h hm ht hv hin (show i < c 0 4 by omega) (fun τ hτ h1 => bX11_passes_142 ?_)
      rw [nI_1]
      exact ih (i + 1) _ τ (by omega) h1 (hm.keepY hτ.1 (by simp)) (ht.of (gBoat_0 c md i s)) (gBoat_in c md hin i) (fun υ hυ h2 => H υ (hτ.tr hυ) h2)
theorem M_pass3 (hv : MV' c md) : ∀ (n i : Nat) (s : SA) (σ : MS), i + n = c 0 0 → MB σ k c s → MM σ md → SVt s → sIn c s → (∀ τ : MS, SZ k σ τ → MB τ k c (let s3 := if md.2.1 = 1 then s else gLoop (gLeak c md) i n s; let s4 := gLoop (gBoat c md) 0 (c 0 4) s3; sU s4 0 0 (s4 0 0 + 1)) → Q none τ) → R mj_OM (d + 1 + 1 + 1 + 1 + 1 + 1 + 1) mX11_passes Q 94 [some (rV 45 0), some (iV (nI k)), some (iV (i01 md.1)), some (iV (nI i))] [] σ := by
  intro n
  induction n with
  | zero =>
    intro i s σ hi h hm ht hin H
    refine bX11_passes_94 ⟨vin (p := 0) (n := 5) (by omega) (by omega) (by decide), fun _ => ?_, fun q => ?_⟩
    · refine M_pass4 hv (c 0 4) 0 s σ (by omega) h hm ht hin (fun υ hυ h2 => H υ hυ ?_)
      have : (if md.2.1 = 1 then s else gLoop (gLeak c md) i 0 s) = s := by split <;> rfl
      rw [this]; exact h2
    · rw [h.2.1.np, show c 0 0 = i by omega] at q; exact absurd (Int32.le_refl _) q
  | succ n ih =>
    intro i s σ hi h hm ht hin H
    have np := h.2.2.1.np
    refine bX11_passes_94 ⟨vin (p := 0) (n := 5) (by omega) (by omega) (by decide), fun q => ?_, fun _ => ⟨fun g => ?_, fun g => ?_⟩⟩
    · rw [h.2.1.np, nI_le2 (by omega) (by omega)] at q; omega
    · rw [hm.1, show (1 : Int32) = nI 1 from rfl, nI_inj (by have := hm.2.1; omega) (by omega)] at g
      refine M_pass4 hv (c 0 4) 0 s σ (by omega) h hm ht hin (fun υ hυ h2 => H υ hυ ?_)
      rw [if_pos g]; exact h2
    · rw [hm.1, show (1 : Int32) = nI 1 from rfl, nI_inj (by have := hm.2.1; omega) (by omega)] at g
      refine M_loses h hm ht hv (show i < c 0 0 by omega) (fun τ hτ h1 => bX11_passes_118 ?_)
      rw [nI_1]
      refine ih (i + 1) _ τ (by omega) h1 (hm.keepY hτ.1 (by simp)) (ht.of (gLeak_0 c md i s)) (gLeak_in c md hin i) (fun υ hυ h2 => H υ (hτ.tr hυ) ?_)
      rw [if_neg g] at h2 ⊢; exact h2
theorem M_pass2 (hv : MV' c md) : ∀ (n i : Nat) (s : SA) (σ : MS), i + n = c 0 2 → MB σ k c s → MM σ md → SVt s → sIn c s → (∀ τ : MS, SZ k σ τ → MB τ k c (let s2 := gLoop (gPipe c md) i n s; let s3 := if md.2.1 = 1 then s2 else gLoop (gLeak c md) 0 (c 0 0) s2; let s4 := gLoop (gBoat c md) 0 (c 0 4) s3; sU s4 0 0 (s4 0 0 + 1)) → Q none τ) → R mj_OM (d + 1 + 1 + 1 + 1 + 1 + 1 + 1) mX11_passes Q 60 [some (rV 45 0), some (iV (nI k)), some (iV (i01 md.1)), some (iV (nI i))] [] σ := by
  intro n
  induction n with
  | zero =>
    intro i s σ hi h hm ht hin H
    refine bX11_passes_60 ⟨vin (p := 2) (n := 5) (by omega) (by omega) (by decide), fun _ => M_pass3 hv (c 0 0) 0 s σ (by omega) h hm ht hin H, fun q => ?_⟩
    rw [h.2.1.nk, show c 0 2 = i by omega] at q; exact absurd (Int32.le_refl _) q
  | succ n ih =>
    intro i s σ hi h hm ht hin H
    have nk := h.2.2.1.nk
    have hik : i < c 0 2 := by omega
    refine bX11_passes_60 ⟨vin (p := 2) (n := 5) (by omega) (by omega) (by decide), fun q => ?_, fun _ => ?_⟩
    · rw [h.2.1.nk, nI_le2 (by omega) (by omega)] at q; omega
    · refine M_isOpen h hm ht hv hik (fun ho => bX11_passes_76 ⟨fun g => absurd g (by decide), fun _ => ?_⟩) (fun ho => bX11_passes_76 ⟨fun _ => ?_, fun g => absurd rfl g⟩)
      · refine M_opens h hm ht hv hik ho (fun τ hτ h1 => bX11_passes_86 ?_)
        rw [nI_1]
        exact ih (i + 1) _ τ (by omega) h1 (hm.keepY hτ.1 (by simp)) (ht.of (gPipe_0 c md i s)) (gPipe_in c md hin i) (fun υ hυ h2 => H υ (hτ.tr hυ) h2)
      · have e : gPipe c md i s = s := by rw [gPipe, if_neg ho]
        rw [nI_1]
        refine ih (i + 1) s σ (by omega) h hm ht hin (fun υ hυ h2 => H υ hυ ?_)
        rw [gLoop, e]; exact h2
theorem M_pass1 (hv : MV' c md) : ∀ (n i : Nat) (s : SA) (σ : MS), i + n = c 0 0 → MB σ k c s → MM σ md → SVt s → sIn c s → (∀ τ : MS, SZ k σ τ → MB τ k c (let s1 := if md.2.1 = 3 then s else gLoop (gSpring c) i n s; let s2 := gLoop (gPipe c md) 0 (c 0 2) s1; let s3 := if md.2.1 = 1 then s2 else gLoop (gLeak c md) 0 (c 0 0) s2; let s4 := gLoop (gBoat c md) 0 (c 0 4) s3; sU s4 0 0 (s4 0 0 + 1)) → Q none τ) → R mj_OM (d + 1 + 1 + 1 + 1 + 1 + 1 + 1) mX11_passes Q 2 [some (rV 45 0), some (iV (nI k)), some (iV (i01 md.1)), some (iV (nI i))] [] σ := by
  intro n
  induction n with
  | zero =>
    intro i s σ hi h hm ht hin H
    refine bX11_passes_2 ⟨vin (p := 0) (n := 5) (by omega) (by omega) (by decide), fun _ => ?_, fun q => ?_⟩
    · refine M_pass2 hv (c 0 2) 0 s σ (by omega) h hm ht hin (fun υ hυ h2 => H υ hυ ?_)
      have : (if md.2.1 = 3 then s else gLoop (gSpring c) i 0 s) = s := by split <;> rfl
      rw [this]; exact h2
    · rw [h.2.1.np, show c 0 0 = i by omega] at q; exact absurd (Int32.le_refl _) q
  | succ n ih =>
    intro i s σ hi h hm ht hin H
    have np := h.2.2.1.np
    have hk := h.1
    have hip : i < c 0 0 := by omega
    refine bX11_passes_2 ⟨vin (p := 0) (n := 5) (by omega) (by omega) (by decide), fun q => ?_, fun _ => ⟨fun g => ?_, fun g => ?_⟩⟩
    · rw [h.2.1.np, nI_le2 (by omega) (by omega)] at q; omega
    · rw [hm.1, show (3 : Int32) = nI 3 from rfl, nI_inj (by have := hm.2.1; omega) (by omega)] at g
      refine M_pass2 hv (c 0 2) 0 s σ (by omega) h hm ht hin (fun υ hυ h2 => H υ hυ ?_)
      rw [if_pos g]; exact h2
    · rw [hm.1, show (3 : Int32) = nI 3 from rfl, nI_inj (by have := hm.2.1; omega) (by omega)] at g
      rw [ix7]
      have v1 : vp_in (nI (7 * k + i)) 161 := vin (show 7 * k + i < 161 by omega) (Nat.le_refl _) (by decide)
      refine ⟨v1, vin hip (by omega) (by decide), M_more (bX11_passes_51 ⟨v1, ?_⟩)⟩
      rw [nI_clamp (by omega), cl hip (by omega), h.w hip, h.2.1.spring hip, nI_1]
      refine ih (i + 1) (gSpring c i s) _ (by omega) (h.u74 hip) (hm.keepY (SY.ui (L := mmL) (J := [39]) (by simp [mmL]) (by decide)) (by simp)) (ht.of (gSpring_0 c i s)) (gSpring_in c hin i) (fun υ hυ h2 => H υ ((SZ.u74 (by omega)).tr hυ) ?_)
      rw [if_neg g] at h2 ⊢; exact h2
theorem M_passes {s : SA} {σ : MS} (h : MB σ k c s) (hm : MM σ md) (ht : SVt s) (hv : MV' c md) (hin : sIn c s) (H : ∀ τ : MS, SZ k σ τ → MB τ k c (gMinute c md s) → Q none τ) : R mj_OM (d + 1 + 1 + 1 + 1 + 1 + 1 + 1) mX11_passes Q 0 [some (rV 45 0), some (iV (nI k)), some (iV (i01 md.1)), none] [] σ :=
  bX11_passes_0 (M_pass1 hv (c 0 0) 0 s σ (by omega) h hm ht hin H)
/-- as it goes, from slot one -/
theorem M_goesOn {n : Nat} (hn : n ≤ 100000) (hmd : md.1 = false) (hv : MV' c md) : ∀ (m i : Nat) (s : SA) (σ : MS), i + m = n → MB σ 1 c s → MM σ md → SVt s → gT s + m ≤ 100000 → sIn c s → (∀ τ : MS, SZ 1 σ τ → MB τ 1 c (gMinutes c md m s) → Q none τ) → R mj_OM (d + 1 + 1 + 1 + 1 + 1 + 1 + 1 + 1) mX11_goesOn Q 2 [some (rV 45 0), some (iV (nI n)), some (iV (nI i))] [] σ := by
  intro m
  induction m with
  | zero =>
    intro i s σ hi h hm ht hg hin H
    refine bX11_goesOn_2 ⟨fun _ => H σ SZ.rf h, fun q => ?_⟩
    rw [show n = i by omega] at q; exact absurd (Int32.le_refl _) q
  | succ m ih =>
    intro i s σ hi h hm ht hg hin H
    refine bX11_goesOn_2 ⟨fun q => ?_, fun _ => ?_⟩
    · rw [nI_leI (by omega) (by omega)] at q; omega
    · have hp := M_passes (d := d) (Q := fun r σ' => R mj_OM (d + 1 + 1 + 1 + 1 + 1 + 1 + 1 + 1) mX11_goesOn Q 13 [some (rV 45 0), some (iV (nI n)), some (iV (nI i))] (r.toList ++ []) σ') h hm ht hv hin (fun τ hτ h1 => bX11_goesOn_13 (by
        have st := ht.step (c := c) (md := md) (by omega)
        rw [nI_1]
        exact ih (i + 1) _ τ (by omega) h1 (hm.keepY hτ.1 (by simp)) st.1 (by rw [st.2]; omega) (gMinute_in h.2.2.1 hin ht) (fun υ hυ h2 => H υ (hτ.tr hυ) h2)))
      rw [hmd] at hp
      exact hp
/-! slots: begun, copied -/
def kL : List (Nat × Nat) := [(70, 0), (71, 0), (72, 0), (73, 0), (74, 0), (75, 0), (76, 0)]
theorem MSc.ks {σ τ : MS} {j : Nat} {s : SA} (h : MSc σ j c s) (e : KS σ τ j) : MSc τ j c s := by
  obtain ⟨e1, e2, e3, e4, e5, e6⟩ := e
  obtain ⟨h1, h2, h3, h4, h5, h6, h7⟩ := h
  exact ⟨e1.trans h1, e2.trans h2, e3.trans h3, e4.trans h4, fun p hp => (e5 p hp).trans (h5 p hp), fun q hq => (e6 q hq).1.trans (h6 q hq), fun q hq => (e6 q hq).2.trans (h7 q hq)⟩
theorem MC.kl {σ τ : MS} (C : MC σ c) (hs : SB kL σ τ) : MC τ c := C.keep hs (by decide)
theorem M_starts {σ : MS} (hk : k < 23) (C : MC σ c) (V : CV c) (H : ∀ τ : MS, SB kL σ τ → (∀ j : Nat, j ≠ k → KS σ τ j) → MB τ k c (gBegin c) → Q none τ) : R mj_OM d mX11_starts Q 0 [some (rV 45 0), some (iV (nI k)), none] [] σ := by
  have np := V.np
  have nb := V.nb
  have vk : vp_in (nI k) 23 := vin hk (Nat.le_refl _) (by decide)
  refine bX11_starts_0 ⟨vk, vin (p := 7) (n := 9) (by omega) (by omega) (by decide), ?_⟩
  rw [cl hk (by omega), C.seed]
  -- the boats
  have L2 : ∀ (n i : Nat) (τ : MS), i + n = 8 → SB kL σ τ → (∀ j : Nat, j ≠ k → KS σ τ j) → τ.1 70 0 k = 0 → τ.1 71 0 k = nI (c 0 7) → τ.1 72 0 k = 0 → τ.1 73 0 k = 0 → (∀ p : Nat, p < 7 → τ.1 74 0 (7 * k + p) = if p < c 0 0 then nI (c 4 p) else 0) → (∀ q : Nat, q < i → τ.1 75 0 (8 * k + q) = 0 ∧ τ.1 76 0 (8 * k + q) = 0) → R mj_OM d mX11_starts Q 81 [some (rV 45 0), some (iV (nI k)), some (iV (nI i))] [] τ := by
    intro n
    induction n with
    | zero =>
      intro i τ hi hs ho h0 h1 h2 h3 h4 h5
      refine bX11_starts_81 ⟨fun _ => H τ hs ho ⟨hk, C.kl hs, V, h0, h1, h2, h3, h4, fun q hq => ?_, fun q hq => ?_⟩, fun q => ?_⟩
      · rw [(h5 q (by omega)).1]; simp [gBegin]
      · rw [(h5 q (by omega)).2]; simp [gBegin]
      · rw [show i = 8 by omega] at q; exact absurd (by decide) q
    | succ n ih =>
      intro i τ hi hs ho h0 h1 h2 h3 h4 h5
      refine bX11_starts_81 ⟨fun q => ?_, fun _ => ?_⟩
      · rw [show (8 : Int32) = nI 8 from rfl, nI_le2 (by omega) (by omega)] at q; omega
      · rw [ix8]
        refine ⟨vin (show 8 * k + i < 184 by omega) (Nat.le_refl _) (by decide), ?_⟩
        rw [nI_clamp (by omega), nI_1]
        refine ih (i + 1) _ (by omega) (hs.tr ((SB.uI (by simp [kL])).tr (SB.uI (by simp [kL])))) (fun j hj => ?_) (by simp [uI, h0]) (by simp [uI, h1]) (by simp [uI, h2]) (by simp [uI, h3]) (fun p hp => by simp [uI, h4 p hp]) (fun q hq => ?_)
        · obtain ⟨e1, e2, e3, e4, e5, e6⟩ := ho j hj
          refine ⟨by simp [uI, e1], by simp [uI, e2], by simp [uI, e3], by simp [uI, e4], fun p hp => by simp [uI, e5 p hp], fun q hq => ?_⟩
          have : ¬ 8 * j + q = 8 * k + i := by omega
          simp [uI, this, e6 q hq]
        · by_cases e : q = i
          · subst e; simp [uI]
          · have : ¬ 8 * k + q = 8 * k + i := by omega
            have g := h5 q (by omega)
            simp [uI, e, g]
  have L1 : ∀ (n i : Nat) (τ : MS), i + n = 7 → SB kL σ τ → (∀ j : Nat, j ≠ k → KS σ τ j) → τ.1 70 0 k = 0 → τ.1 71 0 k = nI (c 0 7) → τ.1 72 0 k = 0 → τ.1 73 0 k = 0 → (∀ p : Nat, p < i → τ.1 74 0 (7 * k + p) = if p < c 0 0 then nI (c 4 p) else 0) → R mj_OM d mX11_starts Q 36 [some (rV 45 0), some (iV (nI k)), some (iV (nI i))] [] τ := by
    intro n
    induction n with
    | zero =>
      intro i τ hi hs ho h0 h1 h2 h3 h4
      refine bX11_starts_36 ⟨fun _ => L2 8 0 τ (by omega) hs ho h0 h1 h2 h3 (fun p hp => h4 p (by omega)) (fun q hq => by omega), fun q => ?_⟩
      rw [show i = 7 by omega] at q; exact absurd (by decide) q
    | succ n ih =>
      intro i τ hi hs ho h0 h1 h2 h3 h4
      have Cτ : MC τ c := C.kl hs
      have goal : ∀ v : Int32, v = (if i < c 0 0 then nI (c 4 i) else 0) → R mj_OM d mX11_starts Q 36 [some (rV 45 0), some (iV (nI k)), some (iV (nI i + 1))] [] (uI τ 74 0 (7 * k + i) v) := by
        intro v hv
        rw [nI_1]
        refine ih (i + 1) _ (by omega) (hs.tr (SB.uI (by simp [kL]))) (fun j hj => ?_) (by simp [uI, h0]) (by simp [uI, h1]) (by simp [uI, h2]) (by simp [uI, h3]) (fun q hq => ?_)
        · obtain ⟨e1, e2, e3, e4, e5, e6⟩ := ho j hj
          refine ⟨by simp [uI, e1], by simp [uI, e2], by simp [uI, e3], by simp [uI, e4], fun p hp => ?_, fun q hq => by simp [uI, e6 q hq]⟩
          have : ¬ 7 * j + p = 7 * k + i := by omega
          simp [uI, this, e5 p hp]
        · by_cases e : q = i
          · subst e; simp [uI, hv]
          · have g := h4 q (by omega)
            simp [uI, e, g]
      have v7 : vp_in (nI (7 * k + i)) 161 := vin (show 7 * k + i < 161 by omega) (Nat.le_refl _) (by decide)
      refine bX11_starts_36 ⟨fun q => ?_, fun _ => ⟨vin (p := 0) (n := 9) (by omega) (by omega) (by decide), fun q => ?_, fun q => ?_⟩⟩
      · rw [show (7 : Int32) = nI 7 from rfl, nI_le2 (by omega) (by omega)] at q; omega
      · rw [Cτ.np, nI_le2 (by omega) (by omega)] at q
        rw [ix7, nI_clamp (by omega)]
        exact ⟨v7, goal _ (by rw [if_neg (by omega)])⟩
      · rw [Cτ.np, nI_le2 (by omega) (by omega)] at q
        have hip : i < c 0 0 := by omega
        rw [ix7, nI_clamp (show 7 * k + i < 2 ^ 31 by omega), cl hip (by omega), Cτ.told hip]
        exact ⟨vin hip (by omega) (by decide), v7, goal _ (by rw [if_pos hip])⟩
  refine L1 7 0 _ (by omega) ?_ (fun j hj => ?_) (by simp [uI]) (by simp [uI]) (by simp [uI]) (by simp [uI]) (fun p hp => by omega)
  · exact (((SB.uI (by simp [kL])).tr (SB.uI (by simp [kL]))).tr (SB.uI (by simp [kL]))).tr (SB.uI (by simp [kL]))
  · exact ⟨by simp [uI, hj], by simp [uI, hj], by simp [uI, hj], by simp [uI, hj], fun p _ => by simp [uI], fun q _ => by simp [uI]⟩
theorem M_begins {σ : MS} (C : MC σ c) (V : CV c) (H : ∀ τ : MS, SB kL σ τ → (∀ j : Nat, j ≠ 0 → KS σ τ j) → MB τ 0 c (gBegin c) → Q none τ) : R mj_OM (d + 1) mX11_begins Q 0 [some (rV 45 0)] [] σ :=
  bX11_begins_0 (M_starts (k := 0) (by decide) C V (fun τ hτ ho h => bX11_begins_5 (H τ hτ ho h)))
theorem M_copies {σ : MS} {k2 : Nat} (hk : k < 23) (h2 : k2 < 23) (H : ∀ τ : MS, SB kL σ τ → (∀ j : Nat, j ≠ k → KS σ τ j) → (∀ c s, MB σ k2 c s → MB τ k c s) → Q none τ) : R mj_OM d mX11_copies Q 0 [some (rV 45 0), some (iV (nI k)), some (iV (nI k2)), none] [] σ := by
  have vk : vp_in (nI k) 23 := vin hk (Nat.le_refl _) (by decide)
  have v2 : vp_in (nI k2) 23 := vin h2 (Nat.le_refl _) (by decide)
  refine bX11_copies_0 ⟨v2, vk, ?_⟩
  rw [cl hk (by omega), cl h2 (by omega)]
  have L2 : ∀ (n i : Nat) (τ : MS), i + n = 8 → SB kL σ τ → (∀ j : Nat, j ≠ k → KS σ τ j) → τ.1 70 0 k = σ.1 70 0 k2 → τ.1 71 0 k = σ.1 71 0 k2 → τ.1 72 0 k = σ.1 72 0 k2 → τ.1 73 0 k = σ.1 73 0 k2 → (∀ p : Nat, p < 7 → τ.1 74 0 (7 * k + p) = σ.1 74 0 (7 * k2 + p)) → (∀ q : Nat, q < i → τ.1 75 0 (8 * k + q) = σ.1 75 0 (8 * k2 + q) ∧ τ.1 76 0 (8 * k + q) = σ.1 76 0 (8 * k2 + q)) → (∀ q : Nat, q < 8 → τ.1 75 0 (8 * k2 + q) = σ.1 75 0 (8 * k2 + q) ∧ τ.1 76 0 (8 * k2 + q) = σ.1 76 0 (8 * k2 + q)) → R mj_OM d mX11_copies Q 86 [some (rV 45 0), some (iV (nI k)), some (iV (nI k2)), some (iV (nI i))] [] τ := by
    intro n
    induction n with
    | zero =>
      intro i τ hi hs ho e0 e1 e2 e3 e4 e5 _
      refine bX11_copies_86 ⟨fun _ => H τ hs ho (fun c s h => ?_), fun q => ?_⟩
      · obtain ⟨_, C, V, s1, s2, s3, s4, s5, s6, s7⟩ := h
        exact ⟨hk, C.kl hs, V, e0.trans s1, e1.trans s2, e2.trans s3, e3.trans s4, fun p hp => (e4 p hp).trans (s5 p hp), fun q hq => (e5 q (by omega)).1.trans (s6 q hq), fun q hq => (e5 q (by omega)).2.trans (s7 q hq)⟩
      · rw [show i = 8 by omega] at q; exact absurd (by decide) q
    | succ n ih =>
      intro i τ hi hs ho e0 e1 e2 e3 e4 e5 e6
      refine bX11_copies_86 ⟨fun q => ?_, fun _ => ?_⟩
      · rw [show (8 : Int32) = nI 8 from rfl, nI_le2 (by omega) (by omega)] at q; omega
      · rw [ix8, ix8, nI_1]
        refine ⟨vin (show 8 * k2 + i < 184 by omega) (Nat.le_refl _) (by decide), vin (show 8 * k + i < 184 by omega) (Nat.le_refl _) (by decide), ?_⟩
        rw [nI_clamp (show 8 * k + i < 2 ^ 31 by omega), nI_clamp (show 8 * k2 + i < 2 ^ 31 by omega)]
        have g2 := e6 i (by omega)
        refine ih (i + 1) _ (by omega) (hs.tr ((SB.uI (by simp [kL])).tr (SB.uI (by simp [kL])))) (fun j hj => ?_) (by simp [uI, e0]) (by simp [uI, e1]) (by simp [uI, e2]) (by simp [uI, e3]) (fun p hp => by simp [uI, e4 p hp]) (fun q hq => ?_) (fun q hq => ?_)
        · obtain ⟨o1, o2, o3, o4, o5, o6⟩ := ho j hj
          refine ⟨by simp [uI, o1], by simp [uI, o2], by simp [uI, o3], by simp [uI, o4], fun p hp => by simp [uI, o5 p hp], fun q hq => ?_⟩
          have : ¬ 8 * j + q = 8 * k + i := by omega
          simp [uI, this, o6 q hq]
        · by_cases e : q = i
          · subst e; simp [uI, g2]
          · have : ¬ 8 * k + q = 8 * k + i := by omega
            have g := e5 q (by omega)
            simp [uI, e, g]
        · by_cases e : 8 * k2 + q = 8 * k + i
          · have : k2 = k := by omega
            subst this
            have : q = i := by omega
            subst this
            simp [uI, g2]
          · simp [uI, e, e6 q hq]
  have L1 : ∀ (n i : Nat) (τ : MS), i + n = 7 → SB kL σ τ → (∀ j : Nat, j ≠ k → KS σ τ j) → τ.1 70 0 k = σ.1 70 0 k2 → τ.1 71 0 k = σ.1 71 0 k2 → τ.1 72 0 k = σ.1 72 0 k2 → τ.1 73 0 k = σ.1 73 0 k2 → (∀ p : Nat, p < i → τ.1 74 0 (7 * k + p) = σ.1 74 0 (7 * k2 + p)) → (∀ p : Nat, p < 7 → τ.1 74 0 (7 * k2 + p) = σ.1 74 0 (7 * k2 + p)) → τ.1 75 0 = σ.1 75 0 → τ.1 76 0 = σ.1 76 0 → R mj_OM d mX11_copies Q 50 [some (rV 45 0), some (iV (nI k)), some (iV (nI k2)), some (iV (nI i))] [] τ := by
    intro n
    induction n with
    | zero =>
      intro i τ hi hs ho e0 e1 e2 e3 e4 e5 e6 e7
      refine bX11_copies_50 ⟨fun _ => L2 8 0 τ (by omega) hs ho e0 e1 e2 e3 (fun p hp => e4 p (by omega)) (fun q hq => by omega) (fun q hq => by rw [e6, e7]; exact ⟨rfl, rfl⟩), fun q => ?_⟩
      rw [show i = 7 by omega] at q; exact absurd (by decide) q
    | succ n ih =>
      intro i τ hi hs ho e0 e1 e2 e3 e4 e5 e6 e7
      refine bX11_copies_50 ⟨fun q => ?_, fun _ => ?_⟩
      · rw [show (7 : Int32) = nI 7 from rfl, nI_le2 (by omega) (by omega)] at q; omega
      · rw [ix7, ix7, nI_1]
        refine ⟨vin (show 7 * k2 + i < 161 by omega) (Nat.le_refl _) (by decide), vin (show 7 * k + i < 161 by omega) (Nat.le_refl _) (by decide), ?_⟩
        rw [nI_clamp (show 7 * k + i < 2 ^ 31 by omega), nI_clamp (show 7 * k2 + i < 2 ^ 31 by omega)]
        have g2 := e5 i (by omega)
        refine ih (i + 1) _ (by omega) (hs.tr (SB.uI (by simp [kL]))) (fun j hj => ?_) (by simp [uI, e0]) (by simp [uI, e1]) (by simp [uI, e2]) (by simp [uI, e3]) (fun q hq => ?_) (fun q hq => ?_) (by simp [uI, e6]) (by simp [uI, e7])
        · obtain ⟨o1, o2, o3, o4, o5, o6⟩ := ho j hj
          refine ⟨by simp [uI, o1], by simp [uI, o2], by simp [uI, o3], by simp [uI, o4], fun p hp => ?_, fun q hq => by simp [uI, o6 q hq]⟩
          have : ¬ 7 * j + p = 7 * k + i := by omega
          simp [uI, this, o5 p hp]
        · by_cases e : q = i
          · subst e; simp [uI, g2]
          · have g := e4 q (by omega)
            simp [uI, e, g]
        · by_cases e : 7 * k2 + q = 7 * k + i
          · have : k2 = k := by omega
            subst this
            have : q = i := by omega
            subst this
            simp [uI, g2]
          · simp [uI, e, e5 q hq]
  refine L1 7 0 _ (by omega) ?_ (fun j hj => ?_) (by simp [uI]) (by simp [uI]) (by simp [uI]) (by simp [uI]) (fun p hp => by omega) (fun p _ => by simp [uI]) (by simp [uI]) (by simp [uI])
  · exact (((SB.uI (by simp [kL])).tr (SB.uI (by simp [kL]))).tr (SB.uI (by simp [kL]))).tr (SB.uI (by simp [kL]))
  · exact ⟨by simp [uI, hj], by simp [uI, hj], by simp [uI, hj], by simp [uI, hj], fun p _ => by simp [uI], fun q _ => by simp [uI]⟩
end Mq
