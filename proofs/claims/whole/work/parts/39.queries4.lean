/-! pipes, names, rests, sums, bits -/
def gNamed (c : CA) (x : Int32) : Int32 := gFd (fun p => decide (nI (c 1 p) = x)) 0 (c 0 0)
theorem and_one (x : Int32) : x &&& 1 = gB32 (bt x 0) := by
  unfold gB32
  split
  · rename_i h; exact (bt_one x).mpr h
  · rename_i h
    rw [← Int32.toBitVec_inj, Int32.toBitVec_and]
    show x.toBitVec &&& 1#32 = 0#32
    apply BitVec.eq_of_getLsbD_eq
    intro i hi
    by_cases h0 : i = 0
    · subst h0
      have h2 : x.toBitVec.getLsbD 0 = false := by
        rcases Bool.eq_false_or_eq_true (x.toBitVec.getLsbD 0) with g | g
        · exact absurd g h
        · exact g
      rw [BitVec.getLsbD_and, h2]; rfl
    · simp [h0]
theorem bit_one {x : Int32} {k : Nat} (hk : k < 32) : (x >>> (nI k &&& 31)) &&& 1 = gB32 (bt x k) := by
  rw [and_one]
  have h1 := bt_sh (x := x) hk
  rw [bt_one] at h1
  rcases Bool.eq_false_or_eq_true (bt x k) with e | e
  · rw [e, h1.mpr e]
  · rw [e]
    rcases Bool.eq_false_or_eq_true (bt (x >>> (nI k &&& 31)) 0) with f | f
    · rw [h1.mp f] at e; exact absurd e (by decide)
    · rw [f]
theorem MV0 (c : CA) : MV' c md0 := ⟨fun z => absurd z (by decide), fun p hp => (by simp [md0] at hp), by decide⟩
section Qv
variable {d : Nat} {Q : Option MV → MS → Prop} {σ : MS} {b k : Nat} {c : CA} {s : SA} {md : MD}
theorem S_pipe (h : WK σ b c s) (ht : SVt s) {x w : Int32} (H : ∀ τ, SX [(7, 0)] σ τ → Q (some (iV (gPipeQ c s x w))) τ) : R mj_OC (d + 1 + 1) mX10_pipe Q 0 [some (rV 0 0), some (iV x), some (iV w)] [] σ := by
  have nk := h.V.nk
  have H0 := H σ SX.rf
  refine bX10_pipe_0 (S_isPipe h (fun l hl ex e => ?_) (fun e => bX10_pipe_5 ⟨fun z => absurd rfl z, fun _ => by rw [gPipeQ, e] at H0; exact H0⟩))
  have eq : gPipeQ c s x w = if w = 0 then nI (c 9 l) else if w = 1 then nI (c 10 l) else if w = 2 then nI (c 11 l) else if w = 3 then gB32 (gOpen c s md0 l) else if w = 4 then gB32 (bt (s 3 0) l) else -1 := by rw [gPipeQ, e]
  rw [eq] at H0
  subst ex
  have vl : vp_in (nI l) 10 := vin hl (by omega) (by decide)
  have vb : σ.2.2 0 0 < 2 := by rw [h.1]; exact h.lt
  refine bX10_pipe_5 ⟨fun _ => ⟨fun w0 => ⟨vb, vl, ?_⟩, fun w0 => ⟨fun w1 => ⟨vb, vl, ?_⟩, fun w1 => ⟨fun w2 => ⟨vb, vl, ?_⟩, fun w2 => ⟨fun w3 => ?_, fun w3 => ⟨fun w4 => ?_, fun w4 => ?_⟩⟩⟩⟩⟩, fun z => absurd z (by decide)⟩
  · rw [if_pos w0] at H0; rw [h.1, cl hl (by omega), h.C.one hl]; exact H0
  · rw [if_neg w0, if_pos w1] at H0; rw [h.1, cl hl (by omega), h.C.two hl]; exact H0
  · rw [if_neg w0, if_neg w1, if_pos w2] at H0; rw [h.1, cl hl (by omega), h.C.wide hl]; exact H0
  · refine S_asItGoes (fun τ hτ hm => bX10_pipe_81 ?_)
    have h2 : SC τ 0 b c s := h.2.keep hτ rfl rfl
    refine S_openNow h2 hm ht (MV0 c) (fun v hv hb => bX10_pipe_92 ?_)
    have H1 := H τ hτ.x
    rw [eq, if_neg w0, if_neg w1, if_neg w2, if_pos w3] at H1
    rw [bit_one (by omega), bt_nI (by omega), hb l, decide_eq_true hl, Bool.true_and]
    exact H1
  · rw [if_neg w0, if_neg w1, if_neg w2, if_neg w3, if_pos w4] at H0
    rw [bit_one (by omega), h.2.jm]; exact H0
  · rw [if_neg w0, if_neg w1, if_neg w2, if_neg w3, if_neg w4] at H0; exact H0
theorem M_pipe (h : MB σ 0 c s) (hm : MM σ md0) (ht : SVt s) {x w : Int32} (H : ∀ τ, XQ σ τ → Q (some (iV (gPipeQ c s x w))) τ) : R mj_OM (d + 1 + 1) mX11_pipe Q 0 [some (rV 45 0), some (iV x), some (iV w)] [] σ := by
  have V := h.2.2.1
  have h1 := XQ.t.mb h (by decide)
  replace H := H _ XQ.t
  have nk := V.nk
  have hm1 : MM (uI σ 45 0 0 0) md0 := hm.keepY (L := []) (J := [0]) (SY.u45 (by simp)) (by simp)
  refine bX11_pipe_0 (M_isPipe h1.2.1 V (fun l hl ex e => ?_) (fun e => bX11_pipe_10 ⟨fun z => absurd rfl z, fun _ => by rw [gPipeQ, e] at H; exact H⟩))
  rw [gPipeQ, e] at H
  simp only at H
  subst ex
  have vl : vp_in (nI l) 20 := vin hl (by omega) (by decide)
  have C := h1.2.1
  refine bX11_pipe_10 ⟨fun _ => ⟨fun w0 => ⟨vl, ?_⟩, fun w0 => ⟨fun w1 => ⟨vl, ?_⟩, fun w1 => ⟨fun w2 => ⟨vl, ?_⟩, fun w2 => ⟨fun w3 => ?_, fun w3 => ⟨fun w4 => ?_, fun w4 => ?_⟩⟩⟩⟩⟩, fun z => absurd z (by decide)⟩
  · rw [if_pos w0] at H; rw [cl hl (by omega), C.one hl]; exact H
  · rw [if_neg w0, if_pos w1] at H; rw [cl hl (by omega), C.two hl]; exact H
  · rw [if_neg w0, if_neg w1, if_pos w2] at H; rw [cl hl (by omega), C.wide hl]; exact H
  · rw [if_neg w0, if_neg w1, if_neg w2, if_pos w3] at H
    refine M_isOpen (k := 0) h1 hm1 ht (MV0 c) hl (fun g => bX11_pipe_79 ⟨fun z => absurd z (by decide), fun _ => ?_⟩) (fun g => bX11_pipe_79 ⟨fun _ => ?_, fun z => absurd rfl z⟩)
    · rw [g] at H; exact H
    · rw [gB32, if_neg g] at H; exact H
  · rw [if_neg w0, if_neg w1, if_neg w2, if_neg w3, if_pos w4] at H
    have ej : gJam s l ↔ bt (s 3 0) l = true := bt_sh (by omega)
    refine M_isJammed (k := 0) h1 (fun g => bX11_pipe_94 ⟨fun z => absurd z (by decide), fun _ => ?_⟩) (fun g => bX11_pipe_94 ⟨fun _ => ?_, fun z => absurd rfl z⟩)
    · rw [ej.mp g] at H; exact H
    · rw [gB32, if_neg (fun z => g (ej.mpr z))] at H; exact H
  · rw [if_neg w0, if_neg w1, if_neg w2, if_neg w3, if_neg w4] at H; exact H
theorem S_pondNamed (C : CR σ b c) (V : CV c) (hb : b < 2) {x : Int32} (H : Q (some (iV (gNamed c x))) σ) : R mj_OC d mX0_pondNamed Q 0 [some (rV 3 b), some (iV x), none] [] σ := by
  have np := V.np
  refine bX0_pondNamed_0 hb ?_
  have L := up_loop (n := c 0 0) (fun i => Q (some (iV (gFd (fun p => decide (nI (c 1 p) = x)) i (c 0 0 - i)))) σ → R mj_OC d mX0_pondNamed Q 2 [some (rV 3 b), some (iV x), some (iV (nI i))] [] σ) ?_ ?_ 0 (Nat.zero_le _) H
  · exact L
  · intro H
    refine bX0_pondNamed_2 hb ⟨fun _ => ?_, fun q => ?_⟩
    · rw [Nat.sub_self] at H; exact H
    · rw [C.np] at q; exact absurd (Int32.le_refl _) q
  · intro i hi ih H
    rw [gFd_step hi] at H
    refine bX0_pondNamed_2 hb ⟨fun q => ?_, fun _ => ⟨vin hi (by omega) (by decide), fun q => ?_, fun q => ?_⟩⟩
    · rw [C.np, nI_le2 (by omega) (by omega)] at q; omega
    · rw [cl hi (by omega), C.name hi] at q
      rw [if_neg (by simp [q])] at H
      rw [nI_1]; exact ih H
    · rw [cl hi (by omega), C.name hi] at q
      rw [if_pos (by simp [q])] at H; exact H
theorem S_named (h : WK σ b c s) {x : Int32} (H : Q (some (iV (gNamed c x))) σ) : R mj_OC (d + 1) mX10_named Q 0 [some (rV 0 0), some (iV x)] [] σ := by
  refine bX10_named_0 ⟨by rw [h.1]; exact h.lt, ?_⟩
  rw [h.1]
  exact S_pondNamed h.C h.V h.lt (bX10_named_8 H)
theorem M_named (h : MB σ 0 c s) {x : Int32} (H : ∀ τ, XQ σ τ → Q (some (iV (gNamed c x))) τ) : R mj_OM (d + 1) mX11_named Q 0 [some (rV 45 0), some (iV x)] [] σ := by
  have V := h.2.2.1
  have h1 := XQ.t.mb h (by decide)
  replace H := H _ XQ.t
  have np := V.np
  have C := h1.2.1
  refine bX11_named_0 ⟨vin (p := 0) (n := 9) (by omega) (by omega) (by decide), bX11_found_0 (n0 := 14) rfl (by decide) ?_⟩
  have en : σ.1 47 0 0 = nI (c 0 0) := h.2.1.np
  rw [en]
  have L := up_loop (n := c 0 0) (fun i => Q (some (iV (gFd (fun p => decide (nI (c 1 p) = x)) i (c 0 0 - i)))) (uI σ 45 0 0 0) → R mj_OM d mX11_found (fun r σ' => R mj_OM (d + 1) mX11_named Q 20 [some (rV 45 0), some (iV x)] (r.toList ++ []) σ') 3 [some (rV 48 0), some (iV 0), some (iV (nI (c 0 0))), some (iV x), some (iV (nI i))] [] (uI σ 45 0 0 0)) ?_ ?_ 0 (Nat.zero_le _) H
  · exact L
  · intro H
    refine bX11_found_3 (n0 := 14) rfl (by decide) ⟨fun _ => bX11_named_20 ?_, fun q => absurd (Int32.le_refl _) q⟩
    rw [Nat.sub_self] at H; exact H
  · intro i hi ih H
    rw [gFd_step hi] at H
    refine bX11_found_3 (n0 := 14) rfl (by decide) ⟨fun q => ?_, fun _ => ⟨?_, fun q => ?_, fun q => bX11_named_20 ?_⟩⟩
    · rw [nI_le2 (by omega) (by omega)] at q; omega
    · rw [Int32.zero_add]; exact vin hi (by omega) (by decide)
    · rw [Int32.zero_add, cl hi (by omega), C.name hi] at q
      rw [if_neg (by simp [q])] at H
      rw [nI_1]; exact ih H
    · rw [Int32.zero_add, cl hi (by omega), C.name hi] at q
      rw [if_pos (by simp [q])] at H; exact H
/-! rests -/
theorem S_keeperHas {u v : Int32} {x y : Nat} (hx : x < 2) (hy : y < 2) (H : Q (some (iV (gHas u v x y))) σ) : R mj_OC d mX10_keeperHas Q 0 [some (iV u), some (iV v), some (iV (nI x)), some (iV (nI y))] [] σ := by
  have ex : nI x = 0 ↔ x = 0 := by rw [show (0 : Int32) = nI 0 from rfl, nI_eq (by omega) (by omega)]
  have ey : nI y = 0 ↔ y = 0 := by rw [show (0 : Int32) = nI 0 from rfl, nI_eq (by omega) (by omega)]
  refine bX10_keeperHas_0 ⟨fun a => ⟨fun z => ?_, fun z => ?_⟩, fun a => ⟨fun z => ?_, fun z => ?_⟩⟩
  all_goals rw [ex] at a
  all_goals rw [ey] at z
  · rw [gHas, if_neg a, if_neg z] at H; exact H
  · rw [gHas, if_neg a, if_pos z] at H; exact H
  · rw [gHas, if_pos a, if_neg z] at H; exact H
  · rw [gHas, if_pos a, if_pos z] at H; exact H
theorem M_hasOf (h : MB σ 0 c s) {p q x y : Nat} (hp : p < c 0 0) (hq : q < c 0 0) (hx : x < 2) (hy : y < 2) (H : Q (some (iV (gHas (s 4 p) (s 4 q) x y))) σ) : R mj_OM d mX11_hasOf Q 0 [some (rV 45 0), some (iV (nI p)), some (iV (nI q)), some (iV (nI x)), some (iV (nI y))] [] σ := by
  have np := h.2.2.1.np
  have ex : nI x = 0 ↔ x = 0 := by rw [show (0 : Int32) = nI 0 from rfl, nI_eq (by omega) (by omega)]
  have ey : nI y = 0 ↔ y = 0 := by rw [show (0 : Int32) = nI 0 from rfl, nI_eq (by omega) (by omega)]
  have wp := h.w hp
  have wq := h.w hq
  rw [Nat.mul_zero, Nat.zero_add] at wp wq
  have v1 : vp_in (nI p) 161 := vin hp (by omega) (by decide)
  have v2 : vp_in (nI q) 161 := vin hq (by omega) (by decide)
  refine bX11_hasOf_0 ⟨fun a => ⟨fun z => ⟨v1, ?_⟩, fun z => ⟨v1, ?_⟩⟩, fun a => ⟨fun z => ?_, fun z => ⟨v2, ?_⟩⟩⟩
  all_goals rw [ex] at a
  all_goals rw [ey] at z
  · rw [gHas, if_neg a, if_neg z] at H; rw [cl hp (by omega), wp]; exact H
  · rw [gHas, if_neg a, if_pos z] at H; rw [cl hp (by omega), wp]; exact H
  · rw [gHas, if_pos a, if_neg z] at H; exact H
  · rw [gHas, if_pos a, if_pos z] at H; rw [cl hq (by omega), wq]; exact H
theorem two_div {i : Nat} (hi : i < 4) : nI i / (2 : Int32) = nI (i / 2) ∧ nI i - nI i / (2 : Int32) * (2 : Int32) = nI (i % 2) ∧ (1 : Int32) - nI (i / 2) = nI (1 - i / 2) ∧ (1 : Int32) - nI (i % 2) = nI (1 - i % 2) := by
  refine ⟨pk_div (d := 2) (by omega) (by omega) (by omega), pk_rem (d := 2) (by omega) (by omega) (by omega), pk_sub (a := 1) (by omega), pk_sub (a := 1) (by omega)⟩
theorem S_isRest (h : SC σ 0 b c s) {p q i : Nat} (hp : p < c 0 0) (hq : q < c 0 0) (hi : i < 4) (H1 : gIsRest s p q i = true → Q (some (iV 1)) σ) (H0 : ¬ gIsRest s p q i = true → Q (some (iV 0)) σ) : R mj_OC (d + 1) mX10_isRest Q 0 [some (rV 0 0), some (iV (nI p)), some (iV (nI q)), some (iV (nI i)), none, none, none, none] [] σ := by
  have np := h.2.2.1.2.2.2.2.np
  obtain ⟨e1, e2, e3, e4⟩ := two_div hi
  refine bX10_isRest_0 ⟨vin hp (by omega) (by decide), vin hq (by omega) (by decide), ?_⟩
  rw [e2, e1, cl hp (by omega), cl hq (by omega), h.wr hp, h.wr hq]
  refine S_keeperHas (by omega) (by omega) (bX10_isRest_43 ?_)
  rw [e3]
  refine S_keeperHas (by omega) (by omega) (bX10_isRest_56 ⟨fun z => H0 (fun g => ?_), fun z => ?_⟩)
  · exact Int32.not_le.mpr z (of_decide_eq_true g).1
  · refine S_keeperHas (by omega) (by omega) (bX10_isRest_70 ?_)
    rw [e4]
    refine S_keeperHas (by omega) (by omega) (bX10_isRest_83 ⟨fun y => H0 (fun g => ?_), fun y => H1 ?_⟩)
    · exact Int32.not_le.mpr y (of_decide_eq_true g).2
    · exact decide_eq_true ⟨Int32.not_lt.mp z, Int32.not_lt.mp y⟩
theorem M_isRest (h : MB σ 0 c s) {p q i : Nat} (hp : p < c 0 0) (hq : q < c 0 0) (hi : i < 4) (H1 : gIsRest s p q i = true → Q (some (iV 1)) σ) (H0 : ¬ gIsRest s p q i = true → Q (some (iV 0)) σ) : R mj_OM (d + 1) mX11_isRest Q 0 [some (rV 45 0), some (iV (nI p)), some (iV (nI q)), some (iV (nI i)), none, none] [] σ := by
  obtain ⟨e1, e2, e3, e4⟩ := two_div hi
  refine bX11_isRest_0 ?_
  rw [e2, e1, e3]
  refine M_hasOf h hp hq (by omega) (by omega) (bX11_isRest_22 (M_hasOf h hp hq (by omega) (by omega) (bX11_isRest_32 ⟨fun z => H0 (fun g => ?_), fun z => ?_⟩)))
  · exact Int32.not_le.mpr z (of_decide_eq_true g).1
  · rw [e4]
    refine M_hasOf h hq hp (by omega) (by omega) (bX11_isRest_47 (M_hasOf h hq hp (by omega) (by omega) (bX11_isRest_57 ⟨fun y => H0 (fun g => ?_), fun y => H1 ?_⟩)))
    · exact Int32.not_le.mpr y (of_decide_eq_true g).2
    · exact decide_eq_true ⟨Int32.not_lt.mp z, Int32.not_lt.mp y⟩
end Qv
