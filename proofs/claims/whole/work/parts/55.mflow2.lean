/-! pass: a way is sent along; the greatest flow is the narrowest cut -/
/-- a way back from p to fr: its ponds, its pipes -/
def PthR (c : CA) (s : SA) (F : Nat → Int) (fr : Nat) (φ : MS) (p m : Nat) (v e : Nat → Nat) : Prop := v 0 = p ∧ v m = fr ∧ (∀ i, i < m → ¬ v i = fr ∧ v i < c 0 0 ∧ v (i + 1) < c 0 0 ∧ e i < c 0 2 ∧ φ.1 79 0 (v i) = nI (e i) ∧ ((c 9 (e i) = v (i + 1) ∧ c 10 (e i) = v i) ∨ (c 10 (e i) = v (i + 1) ∧ c 9 (e i) = v i)) ∧ 0 < rmI c s F (e i) (v (i + 1))) ∧ ∀ i j, i < j → j < m → e i ≠ e j
section Rm
variable {d : Nat} {c : CA} {s : SA} {σ : MS} {F : Nat → Int} {fr : Nat} {φ : MS} {B : Int32} {ρ : Nat → Nat}
theorem path_ex (h : FI c s F fr φ B ρ) : ∀ (N p : Nat), ρ p ≤ N → p < c 0 0 → bt B p = true → ∃ (m : Nat) (v e : Nat → Nat), v 0 = p ∧ v m = fr ∧ ∀ i, i < m → (¬ v i = fr ∧ v i < c 0 0 ∧ v (i + 1) < c 0 0 ∧ e i < c 0 2 ∧ φ.1 79 0 (v i) = nI (e i) ∧ ((c 9 (e i) = v (i + 1) ∧ c 10 (e i) = v i) ∨ (c 10 (e i) = v (i + 1) ∧ c 9 (e i) = v i)) ∧ 0 < rmI c s F (e i) (v (i + 1))) ∧ ρ (v (i + 1)) < ρ (v i) := by
  intro N
  induction N with
  | zero =>
    intro p hN hp hb
    by_cases e : p = fr
    · exact ⟨0, fun _ => p, fun _ => 0, rfl, e, fun i hi => by omega⟩
    · obtain ⟨k, a, _, _, _, _, h5, _⟩ := h.2.2 p hp hb e
      omega
  | succ N ih =>
    intro p hN hp hb
    by_cases e : p = fr
    · exact ⟨0, fun _ => p, fun _ => 0, rfl, e, fun i hi => by omega⟩
    · obtain ⟨k, a, h1, h2, h3, h4, h5, h6, h7⟩ := h.2.2 p hp hb e
      obtain ⟨m, v, w, v0, vm, hv⟩ := ih a (by omega) h3 h4
      refine ⟨m + 1, fun i => if i = 0 then p else v (i - 1), fun i => if i = 0 then k else w (i - 1), by simp, by simp [vm], fun i hi => ?_⟩
      cases i with
      | zero =>
        simp only [if_true, Nat.zero_add, Nat.one_ne_zero, if_false, Nat.sub_self, v0]
        exact ⟨⟨e, hp, h3, h1, h2, h6, h7⟩, h5⟩
      | succ i =>
        have := hv i (by omega)
        simp only [Nat.succ_ne_zero, if_false, Nat.add_sub_cancel]
        exact this
theorem path_of (h : FI c s F fr φ B ρ) {p : Nat} (hp : p < c 0 0) (hb : bt B p = true) : ∃ (m : Nat) (v e : Nat → Nat), PthR c s F fr φ p m v e := by
  obtain ⟨m, v, e, v0, vm, hv⟩ := path_ex h (ρ p) p (Nat.le_refl _) hp hb
  refine ⟨m, v, e, v0, vm, fun i hi => (hv i hi).1, fun i j hij hj he => ?_⟩
  have dec : ∀ j, i + 1 ≤ j → j ≤ m → ρ (v j) ≤ ρ (v (i + 1)) := by
    intro j
    induction j with
    | zero => intro h _; omega
    | succ j ih =>
      intro h1 h2
      by_cases e : j = i
      · subst e; exact Nat.le_refl _
      · have := ih (by omega) (by omega)
        have := (hv j (by omega)).2
        omega
  have a1 := dec j (by omega) (by omega)
  have a2 := dec (j + 1) (by omega) (by omega)
  have a3 := (hv i (by omega)).2
  have e1 := (hv i (by omega)).1.2.2.2.2.2.1
  have e2 := (hv j hj).1.2.2.2.2.2.1
  rw [he] at e1
  have : v i = v j ∨ v i = v (j + 1) := by
    rcases e1 with ⟨b1, b2⟩ | ⟨b1, b2⟩ <;> rcases e2 with ⟨c1, c2⟩ | ⟨c1, c2⟩
    · exact Or.inl (b2.symm.trans c2)
    · exact Or.inr (b2.symm.trans c1)
    · exact Or.inr (b2.symm.trans c1)
    · exact Or.inl (b2.symm.trans c2)
  rcases this with g | g <;> rw [g] at a3 <;> omega
theorem Fl_u {ψ : MS} {k : Nat} {v : Int32} (j : Nat) : Fl (uI ψ 78 0 k v) j = if j = k then v.toInt else Fl ψ j := by
  unfold Fl
  by_cases e : j = k
  · subst e; simp [uI]
  · simp [uI, e]
theorem M_sends {Q : Option MV → MS → Prop} (h : MB σ 0 c s) (hF : FBd c s (Fl σ)) {to m : Nat} {v e : Nat → Nat} (hp : fr < c 0 0) (hq : to < c 0 0) (P : PthR c s (Fl σ) fr σ to m v e)
    (H : ∀ (τ : MS) (x : Int32), SB [(78, 0)] σ τ → FBd c s (Fl τ) → 0 < x.toInt → x.toInt ≤ 100 → (∀ T : Nat → Bool, T fr = true → T to = false → netI c (Fl τ) T = netI c (Fl σ) T + x.toInt) → Q (some (iV x)) τ) :
    R mj_OM (d + 1 + 1) mX11_sends Q 0 [some (rV 45 0), some (iV (nI fr)), some (iV (nI to)), none, none] [] σ := by
  have V := h.2.2.1
  have nk := V.nk
  have np := V.np
  obtain ⟨v0, vm, hv, hd⟩ := P
  have ot : ∀ i, i < m → otN c (e i) (v i) = v (i + 1) := fun i hi => by
    obtain ⟨_, _, _, a1, _, a2, _⟩ := hv i hi
    have pp := V.pipe a1
    unfold otN
    rcases a2 with ⟨b1, b2⟩ | ⟨b1, b2⟩
    · have : ¬ c 9 (e i) = v i := fun z => pp.2.2.1 (z.trans b2.symm)
      rw [if_neg this]; exact b1
    · rw [if_pos b2]; exact b1
  have vle : ∀ i, i ≤ m → v i < c 0 0 := fun i hi => by
    by_cases z : i = m
    · subst z; rw [vm]; exact hp
    · exact (hv i (by omega)).2.1
  have two : ∀ (x : Int32), 0 < x.toInt → x.toInt ≤ 100 → (∀ j, j < m → x.toInt ≤ rmI c s (Fl σ) (e j) (v (j + 1))) → R mj_OM (d + 1 + 1) mX11_sends Q 62 [some (rV 45 0), some (iV (nI fr)), some (iV (nI to)), some (iV x), some (iV (nI (v 0)))] [] σ := by
    intro x x0 x1 xr
    have enx : (-x).toInt = -x.toInt := by
      have e0 : (0 : Int32).toInt = 0 := by decide
      rw [← Int32.zero_sub, subI (by rw [e0]; omega) (by rw [e0]; omega), e0]; omega
    have L : ∀ (r i : Nat) (ψ : MS), i + r = m → SB [(78, 0)] σ ψ → FBd c s (Fl ψ) → (∀ j, i ≤ j → j < m → Fl ψ (e j) = Fl σ (e j)) → (∀ T : Nat → Bool, netI c (Fl ψ) T = netI c (Fl σ) T + (if T (v i) = true then x.toInt else 0) - (if T (v 0) = true then x.toInt else 0)) → R mj_OM (d + 1 + 1) mX11_sends Q 62 [some (rV 45 0), some (iV (nI fr)), some (iV (nI to)), some (iV x), some (iV (nI (v i)))] [] ψ := by
      intro r
      induction r with
      | zero =>
        intro i ψ hi hb hf hu hn
        obtain rfl : i = m := by omega
        refine bX11_sends_62 ⟨fun _ => H ψ x hb hf x0 x1 (fun T t1 t2 => ?_), fun z => absurd (by rw [vm]) z⟩
        have := hn T
        rw [vm, v0, if_pos t1, if_neg (by rw [t2]; decide)] at this
        omega
      | succ r ih =>
        intro i ψ hi hb hf hu hn
        obtain ⟨a0, a1, a2, a3, a4, a5, a6⟩ := hv i (by omega)
        have pp := V.pipe a3
        have hm : MB ψ 0 c s := h.sy hb rfl rfl
        have e79 : ψ.1 79 0 (nI (v i)).toNatClampNeg = nI (e i) := by rw [cl a1 (by omega), hb.i (by simp), a4]
        have ek := cl a3 (by omega)
        have xk := xr i (by omega)
        have uk := hu i (Nat.le_refl _) (by omega)
        have wk := hf.w V a3
        have gu : gUj s (e i) = true := by
          cases g : gUj s (e i) with
          | true => rfl
          | false => rw [rmI, if_neg (by rw [g]; decide)] at a6; exact absurd a6 (by decide)
        have fk := (hf _ a3).1 gu
        have go : ∀ y : Int32, (y.toInt = if c 10 (e i) = v i then x.toInt else -x.toInt) → R mj_OM (d + 1) mX11_otherOf (fun r σ' => R mj_OM (d + 1 + 1) mX11_sends Q 119 [some (rV 45 0), some (iV (nI fr)), some (iV (nI to)), some (iV x), some (iV (nI (v i)))] (r.toList ++ []) σ') 0 [some (rV 45 0), some (iV (nI (e i))), some (iV (nI (v i)))] [] (uI ψ 78 0 (e i) (ψ.1 78 0 (e i) + y)) := by
          intro y hy
          have wf : Fl ψ (e i) = (ψ.1 78 0 (e i)).toInt := rfl
          have yb : -100 ≤ y.toInt ∧ y.toInt ≤ 100 := by rw [hy]; split <;> omega
          have ey : (ψ.1 78 0 (e i) + y).toInt = Fl ψ (e i) + y.toInt := by rw [addI (by omega) (by omega), wf]
          have sb2 : SB [(78, 0)] ψ (uI ψ 78 0 (e i) (ψ.1 78 0 (e i) + y)) := SB.uI (by simp)
          have eu : ∀ j, Fl (uI ψ 78 0 (e i) (ψ.1 78 0 (e i) + y)) j = if j = e i then Fl ψ (e i) + y.toInt else Fl ψ j := fun j => by rw [Fl_u, ey]
          refine M_otherOf (hm.sy sb2 rfl rfl) a3 (by omega) (bX11_sends_119 ?_)
          rw [ot i (by omega)]
          refine ih (i + 1) _ (by omega) (hb.tr sb2) (fun k hk => ?_) (fun j h1 h2 => ?_) (fun T => ?_)
          · rw [eu k]
            by_cases g : k = e i
            · subst g
              rw [if_pos rfl]
              refine ⟨fun _ => ?_, fun z => absurd z (by rw [gu]; decide)⟩
              rw [rmI, if_pos gu] at xk
              rw [← uk] at xk
              rcases a5 with ⟨b1, b2⟩ | ⟨b1, b2⟩
              · rw [if_pos b1] at xk
                rw [if_pos b2] at hy
                omega
              · have n1 : ¬ c 9 (e i) = v (i + 1) := fun z => pp.2.2.1 (z.trans b1.symm)
                have n2 : ¬ c 10 (e i) = v i := fun z => pp.2.2.1 (b2.trans z.symm)
                rw [if_neg n1] at xk
                rw [if_neg n2] at hy
                omega
            · rw [if_neg g]; exact hf k hk
          · rw [eu, if_neg (fun z => hd i j (by omega) h2 z.symm)]
            exact hu j (by omega) h2
          · have up := sumI_upd (f := tmI c (Fl ψ) T) (g := tmI c (Fl (uI ψ 78 0 (e i) (ψ.1 78 0 (e i) + y))) T) (k := e i) (fun j hj => by unfold tmI; rw [eu j, if_neg hj]) (c 0 2) a3
            have hn0 := hn T
            unfold netI at hn0 ⊢
            rw [up, hn0]
            have e1 : tmI c (Fl (uI ψ 78 0 (e i) (ψ.1 78 0 (e i) + y))) T (e i) - tmI c (Fl ψ) T (e i) = (if T (v (i + 1)) = true then x.toInt else 0) - (if T (v i) = true then x.toInt else 0) := by
              unfold tmI
              rw [eu, if_pos rfl, hy]
              rcases a5 with ⟨b1, b2⟩ | ⟨b1, b2⟩
              · rw [if_pos b2, b1, b2]
                cases T (v (i + 1)) <;> cases T (v i) <;> simp <;> omega
              · have n2 : ¬ c 10 (e i) = v i := fun z => pp.2.2.1 (b2.trans z.symm)
                rw [if_neg n2, b1, b2]
                cases T (v (i + 1)) <;> cases T (v i) <;> simp <;> omega
            omega
        refine bX11_sends_62 ⟨fun z => ?_, fun _ => ?_⟩
        · rw [nI_inj (by omega) (by omega)] at z; exact absurd z a0
        · rw [e79, ek, hm.2.1.two a3]
          refine ⟨vin a1 (by omega) (by decide), vin a3 (by omega) (by decide), vin a3 (by omega) (by decide), fun z => ?_, fun z => ?_⟩
          · rw [nI_inj (by omega) (by omega)] at z
            exact go (-x) (by rw [if_neg z]; exact enx)
          · rw [nI_inj (by omega) (by omega)] at z
            exact go x (by rw [if_pos z])
    exact L m 0 σ (by omega) SB.rf hF (fun _ _ _ => rfl) (fun T => by omega)
  have L1 : ∀ (r i : Nat) (x : Int32), i + r = m → 0 < x.toInt → x.toInt ≤ 100 → (∀ j, j < i → x.toInt ≤ rmI c s (Fl σ) (e j) (v (j + 1))) → R mj_OM (d + 1 + 1) mX11_sends Q 6 [some (rV 45 0), some (iV (nI fr)), some (iV (nI to)), some (iV x), some (iV (nI (v i)))] [] σ := by
    intro r
    induction r with
    | zero =>
      intro i x hi x0 x1 xr
      obtain rfl : i = m := by omega
      refine bX11_sends_6 ⟨fun _ => ?_, fun z => absurd (by rw [vm]) z⟩
      have := two x x0 x1 xr
      rw [v0] at this; exact this
    | succ r ih =>
      intro i x hi x0 x1 xr
      obtain ⟨a0, a1, a2, a3, a4, a5, a6⟩ := hv i (by omega)
      have e79 : σ.1 79 0 (nI (v i)).toNatClampNeg = nI (e i) := by rw [cl a1 (by omega), a4]
      refine bX11_sends_6 ⟨fun z => ?_, fun _ => ⟨vin a1 (by omega) (by decide), ?_⟩⟩
      · rw [nI_inj (by omega) (by omega)] at z; exact absurd z a0
      rw [e79]
      refine M_otherOf h a3 (by omega) (bX11_sends_34 ?_)
      rw [ot i (by omega)]
      refine M_roomFrom h hF a3 (by omega) (fun z hz => bX11_sends_37 ⟨vin a1 (by omega) (by decide), ?_⟩)
      rw [e79]
      refine M_otherOf h a3 (by omega) (bX11_sends_54 ?_)
      rw [ot i (by omega)]
      by_cases g : z < x
      · rw [if_pos g]
        rw [i32_lt] at g
        refine ih (i + 1) z (by omega) (by omega) (by omega) (fun j hj => ?_)
        by_cases ej : j = i
        · subst ej; omega
        · have := xr j (by omega); omega
      · rw [if_neg g]
        rw [i32_lt] at g
        refine ih (i + 1) x (by omega) x0 x1 (fun j hj => ?_)
        by_cases ej : j = i
        · subst ej; omega
        · exact xr j (by omega)
  have := L1 m 0 100 (by omega) (by decide) (by decide) (fun j hj => by omega)
  rw [v0] at this
  exact bX11_sends_0 this
theorem M_pass {Q : Option MV → MS → Prop} {x y : Int32} (h : MB σ 0 c s) (H : ∀ τ, XQ σ τ → Q (some (iV (gPass c s x y))) τ) : R mj_OM (d + 1 + 1 + 1) mX11_pass Q 0 [some (rV 45 0), some (iV x), some (iV y), none] [] σ := by
  have V := h.2.2.1
  have np := V.np
  have nk := V.nk
  have h1 := XQ.t.mb h (by decide)
  have H0 := H _ XQ.t
  have of7 : ∀ {L : List (Nat × Nat)} {α β : MS}, SB L α β → (∀ z ∈ L, z = (78, 0) ∨ z = (79, 0)) → XQ α β := fun {L α β} hb hL => ⟨(hb.y (J := mqJ) (fun z => by rcases hL _ z with g | g <;> exact absurd g (by decide))).wk (fun z hz => by rcases hL z hz with rfl | rfl <;> decide) (fun _ q => q), fun j _ => KS.of hb (List.all_eq_true.mpr (fun z hz => by rcases hL z hz with rfl | rfl <;> rfl)) j⟩
  refine bX11_pass_0 (M_isPond h1.2.1 V (fun p hp ex e => bX11_pass_10 ⟨fun z => absurd z (by decide), fun _ => ?_⟩) (fun e => bX11_pass_10 ⟨fun _ => by rw [gPass, e] at H0; exact H0, fun z => absurd rfl z⟩))
  rw [gPass, e] at H0
  simp only at H0
  refine M_isPond h1.2.1 V (fun q hq ey e2 => bX11_pass_18 ⟨fun z => absurd z (by decide), fun _ => ⟨fun ne => ?_, fun eq => ?_⟩⟩) (fun e2 => bX11_pass_18 ⟨fun _ => by rw [e2] at H0; exact H0, fun z => absurd rfl z⟩)
  · rw [e2] at H0
    simp only at H0
    rw [if_neg ne] at H0
    have H2 : ∀ τ, XQ σ τ → Q (some (iV (nI (gCut c s p q)))) τ := fun τ hτ => by
      have := H τ hτ
      rw [gPass, e] at this
      simp only at this
      rw [e2] at this
      simp only at this
      rw [if_neg ne] at this; exact this
    subst ex; subst ey
    have npq : p ≠ q := fun z => ne (by rw [z])
    have L51 : ∀ (r n : Nat) (φ : MS), 991 ≤ n + r → n ≤ 990 → XQ σ φ → FBd c s (Fl φ) → (∀ T : Nat → Bool, T p = true → T q = false → netI c (Fl φ) T = (n : Int)) → R mj_OM (d + 1 + 1 + 1) mX11_pass Q 51 [some (rV 45 0), some (iV (nI p)), some (iV (nI q)), some (iV (nI n))] [] φ := by
      intro r
      induction r with
      | zero => intro n φ h1 h2; omega
      | succ r ih =>
        intro n φ hr hn hx hf ht
        have hm : MB φ 0 c s := hx.mb h (by decide)
        refine bX11_pass_51 (M_findsOne hm hf hp hq (fun τ B ρ t1 t2 t3 => bX11_pass_57 ⟨fun z => absurd z (by decide), fun _ => ?_⟩) (fun τ B ρ t1 t2 t3 t4 => bX11_pass_57 ⟨fun _ => ?_, fun z => absurd rfl z⟩))
        · have eF : Fl τ = Fl φ := by funext k; unfold Fl; rw [t1.i (by simp)]
          have mt : MB τ 0 c s := hm.sy t1 rfl rfl
          obtain ⟨m, v, e, P⟩ := path_of t2 hq t3
          rw [← eF] at P
          refine M_sends mt (by rw [eF]; exact hf) hp hq P (fun υ x u1 u2 u3 u4 u5 => bX11_pass_67 ?_)
          obtain ⟨j, hj⟩ : ∃ j : Nat, x.toInt = (j : Int) := ⟨x.toInt.toNat, by omega⟩
          have ex : x = nI j := i32_eq.mpr (by rw [hj, nI_toInt (by omega)])
          rw [ex, nI_add]
          have ht2 : ∀ T : Nat → Bool, T p = true → T q = false → netI c (Fl υ) T = ((n + j : Nat) : Int) := fun T a1 a2 => by
            rw [u5 T a1 a2, eF, ht T a1 a2, hj]; omega
          have lt : n + j ≤ 990 := by
            have a := ht2 (fun r => decide (r = p)) (by simp) (by simp [npq.symm])
            have b := net_le (T := fun r => decide (r = p)) V u2
            have cc := cutN_le (s := s) (T := fun r => decide (r = p)) V
            omega
          exact ih (n + j) υ (by omega) lt ((hx.tr (of7 t1 (by simp))).tr (of7 u1 (by simp))) u2 ht2
        · have eF : Fl τ = Fl φ := by funext k; unfold Fl; rw [t1.i (by simp)]
          have ce := net_eq (T := fun r => bt B r) V hf (fun k hk a1 a2 => by
            have := t4 (2 * k) (by omega)
            unfold dA otN at this
            rw [show 2 * k / 2 = k by omega, if_pos (show 2 * k % 2 = 0 by omega), if_pos rfl] at this
            exact this a1 a2) (fun k hk a1 a2 => by
            have pp := V.pipe hk
            have := t4 (2 * k + 1) (by omega)
            unfold dA otN at this
            rw [show (2 * k + 1) / 2 = k by omega, if_neg (show ¬ (2 * k + 1) % 2 = 0 by omega), if_neg pp.2.2.1] at this
            exact this a1 a2)
          have en := ht (fun r => bt B r) t2.1 t3
          have gc : gCut c s p q = n := by
            refine gCut_eq (by omega) (fun side _ b1 b2 => ?_) ⟨B.toBitVec.toNat, ?_, t2.1, t3, ?_⟩
            · have a := ht (fun r => side.testBit r) b1 b2
              have b := net_le (T := fun r => side.testBit r) V hf
              omega
            · refine Nat.lt_pow_two_of_testBit _ (fun i hi => ?_)
              rw [bt_bits]
              by_cases g : i < 32
              · cases e : bt B i with
                | false => rfl
                | true => have := t2.2.1 i g e; omega
              · exact BitVec.getLsbD_of_ge _ _ (by omega)
            · have : cutN c s (fun r => B.toBitVec.toNat.testBit r) = cutN c s (fun r => bt B r) := rfl
              rw [this]; omega
          have := H2 τ (hx.tr (of7 t1 (by simp)))
          rw [gc] at this; exact this
    have L30 : ∀ (r i : Nat) (φ : MS), i + r = 10 → SB [(78, 0)] (uI σ 45 0 0 0) φ → (∀ j, j < i → φ.1 78 0 j = 0) → R mj_OM (d + 1 + 1 + 1) mX11_pass Q 30 [some (rV 45 0), some (iV (nI p)), some (iV (nI q)), some (iV (nI i))] [] φ := by
      intro r
      induction r with
      | zero =>
        intro i φ hi hb hz
        obtain rfl : i = 10 := by omega
        refine bX11_pass_30 ⟨fun _ => ?_, fun z => absurd (by decide) z⟩
        have z0 : ∀ k, k < c 0 2 → Fl φ k = 0 := fun k hk => by unfold Fl; rw [hz k (by omega)]; decide
        refine L51 1000 0 φ (by omega) (by omega) (XQ.t.tr (of7 hb (by simp))) (fun k hk => ?_) (fun T _ _ => ?_)
        · rw [z0 k hk]; exact ⟨fun _ => by omega, fun _ => rfl⟩
        · have : ∀ n, n ≤ c 0 2 → sumI (tmI c (Fl φ) T) n = 0 := by
            intro n
            induction n with
            | zero => intro _; rfl
            | succ n ihn =>
              intro hn
              rw [sumI, ihn (by omega)]
              have : tmI c (Fl φ) T n = 0 := by
                unfold tmI
                rw [z0 n (by omega)]
                cases T (c 9 n) <;> cases T (c 10 n) <;> rfl
              omega
          exact this _ (Nat.le_refl _)
      | succ r ih =>
        intro i φ hi hb hz
        refine bX11_pass_30 ⟨fun z => ?_, fun _ => ⟨vin (show i < 10 by omega) (by omega) (by decide), ?_⟩⟩
        · rw [show (10 : Int32) = nI 10 from rfl, nI_le2 (by omega) (by omega)] at z; omega
        · rw [nI_clamp (by omega), nI_1]
          refine ih (i + 1) _ (by omega) (hb.tr (SB.uI (by simp))) (fun j hj => ?_)
          by_cases ej : j = i
          · subst ej; simp [uI]
          · simp [uI, ej]; exact hz j (by omega)
    exact L30 10 0 _ rfl SB.rf (fun j hj => by omega)
  · rw [e2] at H0
    simp only at H0
    rw [if_pos eq] at H0; exact H0
end Rm
