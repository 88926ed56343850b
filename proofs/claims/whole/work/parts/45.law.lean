/-! law -/
def gLw (c : CA) (s : SA) (r p wide : Nat) : Int64 := gResL (gWorth c r (gNames c s md0 p wide))
def gLawQ (c : CA) (s : SA) (w x : Int32) : Int64 :=
  if w = 0 then (match gIx x (c 0 2) with | none => -9223372036854775808 | some k => gLw c s 0 (gGiver c s k) (c 11 k))
  else if w = 1 then (match gIx x (c 0 0) with | none => -9223372036854775808 | some p => gLw c s 1 p 0)
  else if w = 2 then (match gIx x (c 0 4) with | none => -9223372036854775808 | some q => gLw c s 2 (c 6 (c 15 q)) 0)
  else -9223372036854775808
section Rb
variable {d : Nat} {Q : Option MV → MS → Prop} {σ : MS} {b k : Nat} {c : CA} {s : SA} {md : MD}
theorem wq2 {b : Nat} (hb : b < 2) : ∀ x ∈ [(38, 0), (34, b)], x ∈ wqL := by
  have : b = 0 ∨ b = 1 := by omega
  rcases this with rfl | rfl <;> decide
theorem S_law (h : WK σ b c s) (ht : SVt s) {w x : Int32} (H : ∀ τ, SX wqL σ τ → Q (some (lV (gLawQ c s w x))) τ) : R mj_OC (d + 1 + 1 + 1 + 1) mX10_law Q 0 [some (rV 0 0), some (iV w), some (iV x)] [] σ := by
  have V := h.V
  have nk := V.nk
  have nb := V.nb
  have nl := V.nl
  refine bX10_law_0 (S_asItGoes (fun υ hυ hm => ?_))
  have xυ : SX wqL σ υ := hυ.x.wq (by decide)
  have hW := h.q xυ
  have vb : υ.2.2 0 0 < 2 := by rw [hW.1]; exact h.lt
  have H0 := H υ xυ
  have fin : ∀ τ, SB [(38, 0), (34, b)] υ τ → SX wqL σ τ := fun τ hτ => xυ.tr (hτ.x.wq (wq2 h.lt))
  refine bX10_law_7 ⟨fun w0 => ⟨fun w1 => ⟨fun w2 => ?_, fun w2 => ?_⟩, fun w1 => ?_⟩, fun w0 => ?_⟩
  · rw [gLawQ, if_neg w0, if_neg w1, if_neg w2] at H0; exact H0
  · refine S_isBoat hW (fun q hq ex e => bX10_law_87 ⟨fun z => absurd z (by decide), fun _ => ⟨vb, ?_⟩⟩) (fun e => bX10_law_87 ⟨fun _ => ?_, fun z => absurd rfl z⟩)
    · subst ex
      have bl := (V.boat hq).1
      have lp := (V.lock bl).1
      rw [hW.1]
      refine bX4_pondOfBoat_0 h.lt ⟨vin hq (by omega) (by decide), ?_, bX10_law_110 ?_⟩
      · rw [cl hq (by omega), hW.C.block hq]; exact vin bl (by omega) (by decide)
      · rw [cl hq (by omega), hW.C.block hq, cl bl (by omega), hW.C.lpond bl]
        refine S_worth (r := 2) (wide := 0) hW.2 hm ht (MV0 c) (by decide) lp (by omega) (fun τ hτ => bX10_law_114 ?_)
        have := H τ (fin τ hτ)
        rw [gLawQ, if_neg w0, if_neg w1, if_pos w2, e] at this; exact this
    · rw [gLawQ, if_neg w0, if_neg w1, if_pos w2, e] at H0; exact H0
  · refine S_isPond hW (fun p hp ex e => bX10_law_59 ⟨fun z => absurd z (by decide), fun _ => ?_⟩) (fun e => bX10_law_59 ⟨fun _ => ⟨fun _ => ?_, fun w2 => absurd (w1.symm.trans w2) (by decide)⟩, fun z => absurd rfl z⟩)
    · subst ex
      refine S_worth (r := 1) (wide := 0) hW.2 hm ht (MV0 c) (by decide) hp (by omega) (fun τ hτ => bX10_law_76 ?_)
      have := H τ (fin τ hτ)
      rw [gLawQ, if_neg w0, if_pos w1, e] at this; exact this
    · rw [gLawQ, if_neg w0, if_pos w1, e] at H0; exact H0
  · refine S_isPipe hW (fun k hk ex e => bX10_law_16 ⟨fun z => absurd z (by decide), fun _ => ?_⟩) (fun e => bX10_law_16 ⟨fun _ => ⟨fun _ => ⟨fun _ => ?_, fun w2 => absurd (w0.symm.trans w2) (by decide)⟩, fun w1 => absurd (w0.symm.trans w1) (by decide)⟩, fun z => absurd rfl z⟩)
    · subst ex
      have g1 := gGiver_lt (s := s) V hk
      have pp := V.pipe hk
      refine S_giver hW.2 hk (bX10_law_36 ⟨vb, vin hk (by omega) (by decide), ?_⟩)
      rw [hW.1, cl hk (by omega), hW.C.wide hk]
      refine S_worth (r := 0) hW.2 hm ht (MV0 c) (by decide) g1 (by omega) (fun τ hτ => bX10_law_48 ?_)
      have := H τ (fin τ hτ)
      rw [gLawQ, if_pos w0, e] at this; exact this
    · rw [gLawQ, if_pos w0, e] at H0; exact H0
theorem M_law (h : MB σ 0 c s) (hm : MM σ md0) (ht : SVt s) {w x : Int32} (H : ∀ τ, XQ σ τ → Q (some (lV (gLawQ c s w x))) τ) : R mj_OM (d + 1 + 1 + 1 + 1) mX11_law Q 0 [some (rV 45 0), some (iV w), some (iV x), none] [] σ := by
  have V := h.2.2.1
  have nk := V.nk
  have nb := V.nb
  have nl := V.nl
  have h1 := XQ.t.mb h (by decide)
  have hm1 : MM (uI σ 45 0 0 0) md0 := hm.keepY (L := []) (J := [0]) (SY.u45 (by simp)) (by simp)
  have H0 := H _ XQ.t
  have C := h1.2.1
  -- behind the law's own test: what it comes to
  have go : ∀ (r p wide : Nat) (x3 : Int32), r < 3 → w = nI r → p < c 0 0 → wide ≤ 2000 → c 17 r < c 18 r → gLawQ c s w x = gLw c s r p wide → R mj_OM (d + 1 + 1 + 1) mX11_calls (fun q σ' => R mj_OM (d + 1 + 1 + 1 + 1) mX11_law Q 117 [some (rV 45 0), some (iV w), some (iV x), some (iV x3)] (q.toList ++ []) σ') 0 [some (rV 45 0), some (iV (nI 0)), some (iV (nI p)), some (iV (nI wide))] [] (uI σ 45 0 0 0) := by
    intro r p wide x3 hr ew hp hw hl e
    refine M_calls (k := 0) (md := md0) h1 hm1 ht (MV0 c) hp hw (fun τ hτ hn => bX11_law_117 ?_)
    have xτ : XQ σ τ := XQ.t.tr ⟨(hτ.y (J := mqJ) (by decide)).wk (by decide) (fun _ q => q), fun j _ => KS.of hτ rfl j⟩
    have C2 : MC τ c := C.keep hτ rfl
    have fin : ∀ υ, SY [(69, 0)] [39] τ υ → XQ σ υ := fun υ hυ => xτ.tr ⟨hυ.wk (by decide) (by decide), fun j _ => KS.of hυ.1 rfl j⟩
    rw [ew]
    refine M_goes C2 V hr hl hn (gNames_big c s md0 V hp hw) (fun υ z hυ g g2 => bX11_law_122 ⟨fun q => absurd q (by decide), fun _ => ⟨vin (p := 0) (n := 64) (by omega) (by omega) (by decide), ?_⟩⟩) (fun υ hυ g => bX11_law_122 ⟨fun _ => ?_, fun q => absurd rfl q⟩)
    · have := H υ (fin υ hυ)
      rw [e, gLw, g] at this
      rw [g2]; exact this
    · have := H υ (fin υ hυ)
      rw [e, gLw, g] at this; exact this
  have none' : ∀ (r p wide : Nat), ¬ c 17 r < c 18 r → gLawQ c s w x = gLw c s r p wide → Q (some (lV (-9223372036854775808))) (uI σ 45 0 0 0) := by
    intro r p wide hl e
    rw [e, gLw, gWorth, if_neg hl] at H0; exact H0
  refine bX11_law_0 ⟨fun w0 => ⟨fun w1 => ⟨fun w2 => ⟨fun _ => ?_, fun z => absurd rfl z⟩, fun w2 => ?_⟩, fun w1 => ?_⟩, fun w0 => ?_⟩
  · rw [gLawQ, if_neg w0, if_neg w1, if_neg w2] at H0; exact H0
  · refine M_isBoat C V (fun q hq ex e => bX11_law_40 ⟨fun z => absurd z (by decide), fun _ => ⟨fun z => absurd z (by decide), fun _ => ?_⟩⟩) (fun e => bX11_law_40 ⟨fun _ => ⟨fun _ => ?_, fun z => absurd rfl z⟩, fun z => absurd rfl z⟩)
    · subst ex
      have bl := (V.boat hq).1
      have lp := (V.lock bl).1
      have eq : gLawQ c s w (nI q) = gLw c s 2 (c 6 (c 15 q)) 0 := by rw [gLawQ, if_neg w0, if_neg w1, if_pos w2, e]
      have ew : w = nI 2 := w2
      have hl := M_hasLaw (r := 2) (d := d + 1 + 1 + 1) (Q := fun r σ' => R mj_OM (d + 1 + 1 + 1 + 1) mX11_law Q 58 [some (rV 45 0), some (iV w), some (iV (nI q)), some (iV 1)] (r.toList ++ []) σ') C V (by decide) (fun g => bX11_law_58 ⟨fun _ => ⟨fun _ => ⟨fun _ => ⟨vin hq (by omega) (by decide), ?_, fun _ => ?_, fun z => absurd z w0⟩, fun z => absurd z w1⟩, fun z => absurd z w0⟩, fun z => absurd z (by decide)⟩) (fun g => bX11_law_58 ⟨fun z => absurd rfl z, fun _ => none' 2 _ 0 g eq⟩)
      · rw [← ew] at hl; exact hl
      · rw [cl hq (by omega), C.block hq]; exact vin bl (by omega) (by decide)
      · rw [cl hq (by omega), C.block hq, cl bl (by omega), C.lpond bl]
        exact go 2 _ 0 _ (by decide) ew lp (by omega) g eq
    · rw [gLawQ, if_neg w0, if_neg w1, if_pos w2, e] at H0; exact H0
  · refine M_isPond C V (fun p hp ex e => bX11_law_27 ⟨fun z => absurd z (by decide), fun _ => ?_⟩) (fun e => bX11_law_27 ⟨fun _ => ?_, fun z => absurd rfl z⟩)
    · subst ex
      have eq : gLawQ c s w (nI p) = gLw c s 1 p 0 := by rw [gLawQ, if_neg w0, if_pos w1, e]
      have ew : w = nI 1 := w1
      have hl := M_hasLaw (r := 1) (d := d + 1 + 1 + 1) (Q := fun r σ' => R mj_OM (d + 1 + 1 + 1 + 1) mX11_law Q 58 [some (rV 45 0), some (iV w), some (iV (nI p)), some (iV 1)] (r.toList ++ []) σ') C V (by decide) (fun g => bX11_law_58 ⟨fun _ => ⟨fun _ => ⟨fun z => absurd w1 z, fun _ => ⟨fun _ => go 1 p 0 _ (by decide) ew hp (by omega) g eq, fun z => absurd z w0⟩⟩, fun z => absurd z w0⟩, fun z => absurd z (by decide)⟩) (fun g => bX11_law_58 ⟨fun z => absurd rfl z, fun _ => none' 1 p 0 g eq⟩)
      rw [← ew] at hl; exact hl
    · rw [gLawQ, if_neg w0, if_pos w1, e] at H0; exact H0
  · refine M_isPipe C V (fun k hk ex e => bX11_law_14 ⟨fun z => absurd z (by decide), fun _ => ?_⟩) (fun e => bX11_law_14 ⟨fun _ => ?_, fun z => absurd rfl z⟩)
    · subst ex
      have g1 := gGiver_lt (s := s) V hk
      have pp := V.pipe hk
      have eq : gLawQ c s w (nI k) = gLw c s 0 (gGiver c s k) (c 11 k) := by rw [gLawQ, if_pos w0, e]
      have ew : w = nI 0 := w0
      have hl := M_hasLaw (r := 0) (d := d + 1 + 1 + 1) (Q := fun r σ' => R mj_OM (d + 1 + 1 + 1 + 1) mX11_law Q 58 [some (rV 45 0), some (iV w), some (iV (nI k)), some (iV 1)] (r.toList ++ []) σ') C V (by decide) (fun g => bX11_law_58 ⟨fun _ => ⟨fun z => absurd w0 z, fun _ => M_sourceOf (k := 0) h1 hk (bX11_law_77 ⟨fun z => absurd w0 z, fun _ => ⟨vin hk (by omega) (by decide), ?_⟩⟩)⟩, fun z => absurd z (by decide)⟩) (fun g => bX11_law_58 ⟨fun z => absurd rfl z, fun _ => none' 0 _ _ g eq⟩)
      · rw [← ew] at hl; exact hl
      · rw [cl hk (by omega), C.wide hk]
        exact go 0 _ _ _ (by decide) ew g1 (by omega) g eq
    · rw [gLawQ, if_pos w0, e] at H0; exact H0
end Rb
