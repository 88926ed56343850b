set_option maxRecDepth 100000 in
theorem bX4_clear_0 {d : Nat} {Q : Option MV → MS → Prop} {u0 : Nat} {σ : MS} (hu0 : u0 < 2) (H : Q none (uI (uI σ 4 u0 0 (0 : Int32)) 4 u0 4 (0 : Int32))) : R mj_OC d mX4_clear Q 0 [some (rV 4 u0)] [] σ := by
  refine r_aload_n dX4_clear_0 rfl rfl ?_
  refine r_iconst (v := (0 : Int32)) dX4_clear_1 rfl ?_
  refine r_putI (k := 4) (i := u0) (j := 0) (ty0 := tyX4) rfl rfl (ho4 hu0) rfl hX4 (by decide) rfl fX4_27 dX4_clear_2 rfl tyX4_ok nmX4 rfl rfl rfl ?_
  refine r_aload_n dX4_clear_5 rfl rfl ?_
  refine r_iconst (v := (0 : Int32)) dX4_clear_6 rfl ?_
  refine r_putI (k := 4) (i := u0) (j := 4) (ty0 := tyX4) rfl rfl (ho4 hu0) rfl hX4 (by decide) rfl fX4_31 dX4_clear_7 rfl tyX4_ok nmX4 rfl rfl rfl ?_
  exact r_vret dX4_clear_10 rfl H
set_option maxRecDepth 100000 in
theorem bX4_add_0 {d : Nat} {Q : Option MV → MS → Prop} {u0 : Nat} {x1 : Int32} {x2 : Int32} {x3 : Int32} {σ : MS} (hu0 : u0 < 2) (H : (((3 : Int32) ≤ (σ.1 4 u0 0) → Q none σ) ∧ (¬ (3 : Int32) ≤ (σ.1 4 u0 0) → (vp_in (σ.1 4 u0 0) 3 ∧ Q none (uI (uI (uI (uI σ 25 u0 (((σ.1 4 u0 0)).toNatClampNeg) x1) 26 u0 (((σ.1 4 u0 0)).toNatClampNeg) x2) 27 u0 (((σ.1 4 u0 0)).toNatClampNeg) x3) 4 u0 0 ((σ.1 4 u0 0) + (1 : Int32))))))) : R mj_OC d mX4_add Q 0 [some (rV 4 u0), some (iV x1), some (iV x2), some (iV x3)] [] σ := by
  refine r_aload_n dX4_add_0 rfl rfl ?_
  refine r_get (k := 4) (i := u0) (j := 0) (v := iV (σ.1 4 u0 0)) rfl rfl (ho4 hu0) rfl hX4 (by decide) rfl fX4_27 dX4_add_1 (fun _ => rfl) ?_
  refine r_iconst (v := (3 : Int32)) dX4_add_4 rfl ?_
  refine r_icmp_ge (tgt := 48) dX4_add_5 (by decide) (fun c => ?_) (fun c => ?_)
  · have H := H.1 c
    exact r_vret dX4_add_48 rfl H
  · have H := H.2 c
    refine r_aload_n dX4_add_8 rfl rfl ?_
    refine r_get (k := 4) (i := u0) (j := 1) (v := rV 25 u0) rfl rfl (ho4 hu0) rfl hX4 (by decide) rfl fX4_9 dX4_add_9 (fun _ => rfl) ?_
    refine r_aload_n dX4_add_12 rfl rfl ?_
    refine r_get (k := 4) (i := u0) (j := 0) (v := iV (σ.1 4 u0 0)) rfl rfl (ho4 hu0) rfl hX4 (by decide) rfl fX4_27 dX4_add_13 (fun _ => rfl) ?_
    refine r_iload_n dX4_add_16 rfl rfl ?_
    obtain ⟨q1, H⟩ := H
    refine r_iast (k := 25) (i := u0) rfl (ho25 hu0) q1 dX4_add_17 ?_
    refine r_aload_n dX4_add_18 rfl rfl ?_
    refine r_get (k := 4) (i := u0) (j := 2) (v := rV 26 u0) rfl rfl (ho4 hu0) rfl hX4 (by decide) rfl fX4_15 dX4_add_19 (fun _ => rfl) ?_
    refine r_aload_n dX4_add_22 rfl rfl ?_
    refine r_get (k := 4) (i := u0) (j := 0) (v := iV (σ.1 4 u0 0)) rfl rfl (ho4 hu0) rfl hX4 (by decide) rfl fX4_27 dX4_add_23 (fun _ => rfl) ?_
    refine r_iload_n dX4_add_26 rfl rfl ?_
    refine r_iast (k := 26) (i := u0) rfl (ho26 hu0) q1 dX4_add_27 ?_
    refine r_aload_n dX4_add_28 rfl rfl ?_
    refine r_get (k := 4) (i := u0) (j := 3) (v := rV 27 u0) rfl rfl (ho4 hu0) rfl hX4 (by decide) rfl fX4_18 dX4_add_29 (fun _ => rfl) ?_
    refine r_aload_n dX4_add_32 rfl rfl ?_
    refine r_get (k := 4) (i := u0) (j := 0) (v := iV (σ.1 4 u0 0)) rfl rfl (ho4 hu0) rfl hX4 (by decide) rfl fX4_27 dX4_add_33 (fun _ => rfl) ?_
    refine r_iload_n dX4_add_36 rfl rfl ?_
    refine r_iast (k := 27) (i := u0) rfl (ho27 hu0) q1 dX4_add_37 ?_
    refine r_aload_n dX4_add_38 rfl rfl ?_
    refine r_dup_r dX4_add_39 ?_
    refine r_get (k := 4) (i := u0) (j := 0) (v := iV (σ.1 4 u0 0)) rfl rfl (ho4 hu0) rfl hX4 (by decide) rfl fX4_27 dX4_add_40 (fun _ => rfl) ?_
    refine r_iconst (v := (1 : Int32)) dX4_add_43 rfl ?_
    refine r_iadd dX4_add_44 ?_
    refine r_putI (k := 4) (i := u0) (j := 0) (ty0 := tyX4) rfl rfl (ho4 hu0) rfl hX4 (by decide) rfl fX4_27 dX4_add_45 rfl tyX4_ok nmX4 rfl rfl rfl ?_
    exact r_vret dX4_add_48 rfl H
set_option maxRecDepth 100000 in
theorem bX4_addBoat_0 {d : Nat} {Q : Option MV → MS → Prop} {u0 : Nat} {x1 : Int32} {x2 : Int32} {σ : MS} (hu0 : u0 < 2) (H : (((8 : Int32) ≤ (σ.1 4 u0 4) → Q none σ) ∧ (¬ (8 : Int32) ≤ (σ.1 4 u0 4) → (vp_in (σ.1 4 u0 4) 8 ∧ Q none (uI (uI (uI σ 28 u0 (((σ.1 4 u0 4)).toNatClampNeg) x1) 29 u0 (((σ.1 4 u0 4)).toNatClampNeg) x2) 4 u0 4 ((σ.1 4 u0 4) + (1 : Int32))))))) : R mj_OC d mX4_addBoat Q 0 [some (rV 4 u0), some (iV x1), some (iV x2)] [] σ := by
  refine r_aload_n dX4_addBoat_0 rfl rfl ?_
  refine r_get (k := 4) (i := u0) (j := 4) (v := iV (σ.1 4 u0 4)) rfl rfl (ho4 hu0) rfl hX4 (by decide) rfl fX4_31 dX4_addBoat_1 (fun _ => rfl) ?_
  refine r_bipush (v := (8 : Int32)) dX4_addBoat_4 rfl ?_
  refine r_icmp_ge (tgt := 39) dX4_addBoat_6 (by decide) (fun c => ?_) (fun c => ?_)
  · have H := H.1 c
    exact r_vret dX4_addBoat_39 rfl H
  · have H := H.2 c
    refine r_aload_n dX4_addBoat_9 rfl rfl ?_
    refine r_get (k := 4) (i := u0) (j := 5) (v := rV 28 u0) rfl rfl (ho4 hu0) rfl hX4 (by decide) rfl fX4_21 dX4_addBoat_10 (fun _ => rfl) ?_
    refine r_aload_n dX4_addBoat_13 rfl rfl ?_
    refine r_get (k := 4) (i := u0) (j := 4) (v := iV (σ.1 4 u0 4)) rfl rfl (ho4 hu0) rfl hX4 (by decide) rfl fX4_31 dX4_addBoat_14 (fun _ => rfl) ?_
    refine r_iload_n dX4_addBoat_17 rfl rfl ?_
    obtain ⟨q1, H⟩ := H
    refine r_iast (k := 28) (i := u0) rfl (ho28 hu0) q1 dX4_addBoat_18 ?_
    refine r_aload_n dX4_addBoat_19 rfl rfl ?_
    refine r_get (k := 4) (i := u0) (j := 6) (v := rV 29 u0) rfl rfl (ho4 hu0) rfl hX4 (by decide) rfl fX4_24 dX4_addBoat_20 (fun _ => rfl) ?_
    refine r_aload_n dX4_addBoat_23 rfl rfl ?_
    refine r_get (k := 4) (i := u0) (j := 4) (v := iV (σ.1 4 u0 4)) rfl rfl (ho4 hu0) rfl hX4 (by decide) rfl fX4_31 dX4_addBoat_24 (fun _ => rfl) ?_
    refine r_iload_n dX4_addBoat_27 rfl rfl ?_
    refine r_iast (k := 29) (i := u0) rfl (ho29 hu0) q1 dX4_addBoat_28 ?_
    refine r_aload_n dX4_addBoat_29 rfl rfl ?_
    refine r_dup_r dX4_addBoat_30 ?_
    refine r_get (k := 4) (i := u0) (j := 4) (v := iV (σ.1 4 u0 4)) rfl rfl (ho4 hu0) rfl hX4 (by decide) rfl fX4_31 dX4_addBoat_31 (fun _ => rfl) ?_
    refine r_iconst (v := (1 : Int32)) dX4_addBoat_34 rfl ?_
    refine r_iadd dX4_addBoat_35 ?_
    refine r_putI (k := 4) (i := u0) (j := 4) (ty0 := tyX4) rfl rfl (ho4 hu0) rfl hX4 (by decide) rfl fX4_31 dX4_addBoat_36 rfl tyX4_ok nmX4 rfl rfl rfl ?_
    exact r_vret dX4_addBoat_39 rfl H
set_option maxRecDepth 100000 in
theorem bX4_ofPond_0 {d : Nat} {Q : Option MV → MS → Prop} {u0 : Nat} {x1 : Int32} {σ : MS} (hu0 : u0 < 2) (H : R mj_OC d mX4_ofPond Q 2 [some (rV 4 u0), some (iV x1), some (iV (0 : Int32))] [] σ) : R mj_OC d mX4_ofPond Q 0 [some (rV 4 u0), some (iV x1), none] [] σ := by
  refine r_iconst (v := (0 : Int32)) dX4_ofPond_0 rfl ?_
  refine r_istore_n dX4_ofPond_1 rfl (by decide) rfl ?_
  exact H
set_option maxRecDepth 100000 in
theorem bX4_ofPond_2 {d : Nat} {Q : Option MV → MS → Prop} {u0 : Nat} {x1 : Int32} {x2 : Int32} {σ : MS} (hu0 : u0 < 2) (H : (((σ.1 4 u0 0) ≤ x2 → Q (some (iV (-1 : Int32))) σ) ∧ (¬ (σ.1 4 u0 0) ≤ x2 → (vp_in x2 3 ∧ ((¬ (σ.1 25 u0 ((x2).toNatClampNeg)) = x1 → R mj_OC d mX4_ofPond Q 2 [some (rV 4 u0), some (iV x1), some (iV (x2 + (1 : Int32)))] [] σ) ∧ ((σ.1 25 u0 ((x2).toNatClampNeg)) = x1 → Q (some (iV x2)) σ)))))) : R mj_OC d mX4_ofPond Q 2 [some (rV 4 u0), some (iV x1), some (iV x2)] [] σ := by
  refine r_iload_n dX4_ofPond_2 rfl rfl ?_
  refine r_aload_n dX4_ofPond_3 rfl rfl ?_
  refine r_get (k := 4) (i := u0) (j := 0) (v := iV (σ.1 4 u0 0)) rfl rfl (ho4 hu0) rfl hX4 (by decide) rfl fX4_27 dX4_ofPond_4 (fun _ => rfl) ?_
  refine r_icmp_ge (tgt := 28) dX4_ofPond_7 (by decide) (fun c => ?_) (fun c => ?_)
  · have H := H.1 c
    refine r_iconst (v := (-1 : Int32)) dX4_ofPond_28 rfl ?_
    exact r_iret dX4_ofPond_29 rfl H
  · have H := H.2 c
    refine r_aload_n dX4_ofPond_10 rfl rfl ?_
    refine r_get (k := 4) (i := u0) (j := 1) (v := rV 25 u0) rfl rfl (ho4 hu0) rfl hX4 (by decide) rfl fX4_9 dX4_ofPond_11 (fun _ => rfl) ?_
    refine r_iload_n dX4_ofPond_14 rfl rfl ?_
    obtain ⟨q1, H⟩ := H
    refine r_iald (k := 25) (i := u0) rfl (ho25 hu0) q1 dX4_ofPond_15 ?_
    refine r_iload_n dX4_ofPond_16 rfl rfl ?_
    refine r_icmp_ne (tgt := 22) dX4_ofPond_17 (by decide) (fun c => ?_) (fun c => ?_)
    · have H := H.1 c
      refine r_iinc (v := x2 + (1 : Int32)) dX4_ofPond_22 rfl rfl (by decide) rfl ?_
      refine r_goto (tgt := 2) dX4_ofPond_25 (by decide) ?_
      exact H
    · have H := H.2 c
      refine r_iload_n dX4_ofPond_20 rfl rfl ?_
      exact r_iret dX4_ofPond_21 rfl H
set_option maxRecDepth 100000 in
theorem bX4_pondOfBoat_0 {d : Nat} {Q : Option MV → MS → Prop} {u0 : Nat} {x1 : Int32} {σ : MS} (hu0 : u0 < 2) (H : (vp_in x1 8 ∧ vp_in (σ.1 28 u0 ((x1).toNatClampNeg)) 3 ∧ Q (some (iV (σ.1 25 u0 (((σ.1 28 u0 ((x1).toNatClampNeg))).toNatClampNeg)))) σ)) : R mj_OC d mX4_pondOfBoat Q 0 [some (rV 4 u0), some (iV x1)] [] σ := by
  refine r_aload_n dX4_pondOfBoat_0 rfl rfl ?_
  refine r_get (k := 4) (i := u0) (j := 1) (v := rV 25 u0) rfl rfl (ho4 hu0) rfl hX4 (by decide) rfl fX4_9 dX4_pondOfBoat_1 (fun _ => rfl) ?_
  refine r_aload_n dX4_pondOfBoat_4 rfl rfl ?_
  refine r_get (k := 4) (i := u0) (j := 5) (v := rV 28 u0) rfl rfl (ho4 hu0) rfl hX4 (by decide) rfl fX4_21 dX4_pondOfBoat_5 (fun _ => rfl) ?_
  refine r_iload_n dX4_pondOfBoat_8 rfl rfl ?_
  obtain ⟨q1, H⟩ := H
  refine r_iald (k := 28) (i := u0) rfl (ho28 hu0) q1 dX4_pondOfBoat_9 ?_
  obtain ⟨q2, H⟩ := H
  refine r_iald (k := 25) (i := u0) rfl (ho25 hu0) q2 dX4_pondOfBoat_10 ?_
  exact r_iret dX4_pondOfBoat_11 rfl H
set_option maxRecDepth 100000 in
theorem bX8_begin_0 {d : Nat} {Q : Option MV → MS → Prop} {u0 : Nat} {u1 : Nat} {σ : MS} (hu0 : u0 < 3) (hu1 : u1 < 2) (H : R mj_OC d mX8_begin Q 7 [some (rV 6 u0), some (rV 3 u1), some (iV (0 : Int32))] [] (uC σ 6 u0 u1)) : R mj_OC d mX8_begin Q 0 [some (rV 6 u0), some (rV 3 u1), none] [] σ := by
  refine r_aload_n dX8_begin_0 rfl rfl ?_
  refine r_aload_n dX8_begin_1 rfl rfl ?_
  refine r_putC (k := 6) (i := u0) (j := 0) (ty0 := tyX8) rfl rfl (ho6 hu0) rfl hX8 (by decide) rfl fX8_21 dX8_begin_2 rfl (mj_one3 0 rfl) tyX8_ok nmX8 rfl rfl ?_
  refine r_iconst (v := (0 : Int32)) dX8_begin_5 rfl ?_
  refine r_istore_n dX8_begin_6 rfl (by decide) rfl ?_
  exact H
set_option maxRecDepth 100000 in
theorem bX8_begin_7 {d : Nat} {Q : Option MV → MS → Prop} {u0 : Nat} {u1 : Nat} {x2 : Int32} {σ : MS} (hu0 : u0 < 3) (hu1 : u1 < 2) (H : (((7 : Int32) ≤ x2 → R mj_OC d mX8_begin Q 33 [some (rV 6 u0), some (rV 3 u1), some (iV (0 : Int32))] [] σ) ∧ (¬ (7 : Int32) ≤ x2 → (vp_in x2 7 ∧ R mj_OC d mX8_begin Q 7 [some (rV 6 u0), some (rV 3 u1), some (iV (x2 + (1 : Int32)))] [] (uI σ 35 u0 ((x2).toNatClampNeg) (σ.1 19 u1 ((x2).toNatClampNeg))))))) : R mj_OC d mX8_begin Q 7 [some (rV 6 u0), some (rV 3 u1), some (iV x2)] [] σ := by
  refine r_iload_n dX8_begin_7 rfl rfl ?_
  refine r_bipush (v := (7 : Int32)) dX8_begin_8 rfl ?_
  refine r_icmp_ge (tgt := 31) dX8_begin_10 (by decide) (fun c => ?_) (fun c => ?_)
  · have H := H.1 c
    refine r_iconst (v := (0 : Int32)) dX8_begin_31 rfl ?_
    refine r_istore_n dX8_begin_32 rfl (by decide) rfl ?_
    exact H
  · have H := H.2 c
    refine r_aload_n dX8_begin_13 rfl rfl ?_
    refine r_get (k := 6) (i := u0) (j := 1) (v := rV 35 u0) rfl rfl (ho6 hu0) rfl hX8 (by decide) rfl fX8_9 dX8_begin_14 (fun _ => rfl) ?_
    refine r_iload_n dX8_begin_17 rfl rfl ?_
    refine r_aload_n dX8_begin_18 rfl rfl ?_
    refine r_get (k := 3) (i := u1) (j := 4) (v := rV 19 u1) rfl rfl (ho3 hu1) rfl hX0 (by decide) rfl fX8_25 dX8_begin_19 (fun _ => rfl) ?_
    refine r_iload_n dX8_begin_22 rfl rfl ?_
    obtain ⟨q1, H⟩ := H
    refine r_iald (k := 19) (i := u1) rfl (ho19 hu1) q1 dX8_begin_23 ?_
    refine r_iast (k := 35) (i := u0) rfl (ho35 hu0) q1 dX8_begin_24 ?_
    refine r_iinc (v := x2 + (1 : Int32)) dX8_begin_25 rfl rfl (by decide) rfl ?_
    refine r_goto (tgt := 7) dX8_begin_28 (by decide) ?_
    exact H
set_option maxRecDepth 100000 in
theorem bX8_begin_33 {d : Nat} {Q : Option MV → MS → Prop} {u0 : Nat} {u1 : Nat} {x2 : Int32} {σ : MS} (hu0 : u0 < 3) (hu1 : u1 < 2) (H : (((8 : Int32) ≤ x2 → Q none (uI (uI (uI (uI σ 6 u0 2 (0 : Int32)) 6 u0 5 (0 : Int32)) 6 u0 6 (0 : Int32)) 6 u0 7 (σ.1 3 u1 13))) ∧ (¬ (8 : Int32) ≤ x2 → (vp_in x2 8 ∧ R mj_OC d mX8_begin Q 33 [some (rV 6 u0), some (rV 3 u1), some (iV (x2 + (1 : Int32)))] [] (uI (uI σ 36 u0 ((x2).toNatClampNeg) (0 : Int32)) 37 u0 ((x2).toNatClampNeg) (0 : Int32)))))) : R mj_OC d mX8_begin Q 33 [some (rV 6 u0), some (rV 3 u1), some (iV x2)] [] σ := by
  refine r_iload_n dX8_begin_33 rfl rfl ?_
  refine r_bipush (v := (8 : Int32)) dX8_begin_34 rfl ?_
  refine r_icmp_ge (tgt := 59) dX8_begin_36 (by decide) (fun c => ?_) (fun c => ?_)
  · have H := H.1 c
    refine r_aload_n dX8_begin_59 rfl rfl ?_
    refine r_iconst (v := (0 : Int32)) dX8_begin_60 rfl ?_
    refine r_putI (k := 6) (i := u0) (j := 2) (ty0 := tyX8) rfl rfl (ho6 hu0) rfl hX8 (by decide) rfl fX8_28 dX8_begin_61 rfl tyX8_ok nmX8 rfl rfl rfl ?_
    refine r_aload_n dX8_begin_64 rfl rfl ?_
    refine r_iconst (v := (0 : Int32)) dX8_begin_65 rfl ?_
    refine r_putI (k := 6) (i := u0) (j := 5) (ty0 := tyX8) rfl rfl (ho6 hu0) rfl hX8 (by decide) rfl fX8_32 dX8_begin_66 rfl tyX8_ok nmX8 rfl rfl rfl ?_
    refine r_aload_n dX8_begin_69 rfl rfl ?_
    refine r_iconst (v := (0 : Int32)) dX8_begin_70 rfl ?_
    refine r_putI (k := 6) (i := u0) (j := 6) (ty0 := tyX8) rfl rfl (ho6 hu0) rfl hX8 (by decide) rfl fX8_35 dX8_begin_71 rfl tyX8_ok nmX8 rfl rfl rfl ?_
    refine r_aload_n dX8_begin_74 rfl rfl ?_
    refine r_aload_n dX8_begin_75 rfl rfl ?_
    refine r_get (k := 3) (i := u1) (j := 13) (v := iV (σ.1 3 u1 13)) rfl rfl (ho3 hu1) rfl hX0 (by decide) rfl fX8_38 dX8_begin_76 (fun _ => rfl) ?_
    refine r_putI (k := 6) (i := u0) (j := 7) (ty0 := tyX8) rfl rfl (ho6 hu0) rfl hX8 (by decide) rfl fX8_41 dX8_begin_79 rfl tyX8_ok nmX8 rfl rfl rfl ?_
    exact r_vret dX8_begin_82 rfl H
  · have H := H.2 c
    refine r_aload_n dX8_begin_39 rfl rfl ?_
    refine r_get (k := 6) (i := u0) (j := 3) (v := rV 36 u0) rfl rfl (ho6 hu0) rfl hX8 (by decide) rfl fX8_15 dX8_begin_40 (fun _ => rfl) ?_
    refine r_iload_n dX8_begin_43 rfl rfl ?_
    refine r_iconst (v := (0 : Int32)) dX8_begin_44 rfl ?_
    obtain ⟨q1, H⟩ := H
    refine r_iast (k := 36) (i := u0) rfl (ho36 hu0) q1 dX8_begin_45 ?_
    refine r_aload_n dX8_begin_46 rfl rfl ?_
    refine r_get (k := 6) (i := u0) (j := 4) (v := rV 37 u0) rfl rfl (ho6 hu0) rfl hX8 (by decide) rfl fX8_18 dX8_begin_47 (fun _ => rfl) ?_
    refine r_iload_n dX8_begin_50 rfl rfl ?_
    refine r_iconst (v := (0 : Int32)) dX8_begin_51 rfl ?_
    refine r_iast (k := 37) (i := u0) rfl (ho37 hu0) q1 dX8_begin_52 ?_
    refine r_iinc (v := x2 + (1 : Int32)) dX8_begin_53 rfl rfl (by decide) rfl ?_
    refine r_goto (tgt := 33) dX8_begin_56 (by decide) ?_
    exact H
set_option maxRecDepth 100000 in
theorem bX8_become_0 {d : Nat} {Q : Option MV → MS → Prop} {u0 : Nat} {u1 : Nat} {σ : MS} (hu0 : u0 < 3) (hu1 : u1 < 3) (H : R mj_OC d mX8_become Q 10 [some (rV 6 u0), some (rV 6 u1), some (iV (0 : Int32))] [] (uC σ 6 u0 (σ.2.2 6 u1))) : R mj_OC d mX8_become Q 0 [some (rV 6 u0), some (rV 6 u1), none] [] σ := by
  refine r_aload_n dX8_become_0 rfl rfl ?_
  refine r_aload_n dX8_become_1 rfl rfl ?_
  refine r_get (k := 6) (i := u1) (j := 0) (v := rV 3 (σ.2.2 6 u1)) rfl rfl (ho6 hu1) rfl hX8 (by decide) rfl fX8_21 dX8_become_2 (fun _ => rfl) ?_
  refine r_putC (k := 6) (i := u0) (j := 0) (ty0 := tyX8) rfl rfl (ho6 hu0) rfl hX8 (by decide) rfl fX8_21 dX8_become_5 rfl (mj_one3 0 rfl) tyX8_ok nmX8 rfl rfl ?_
  refine r_iconst (v := (0 : Int32)) dX8_become_8 rfl ?_
  refine r_istore_n dX8_become_9 rfl (by decide) rfl ?_
  exact H
set_option maxRecDepth 100000 in
theorem bX8_become_10 {d : Nat} {Q : Option MV → MS → Prop} {u0 : Nat} {u1 : Nat} {x2 : Int32} {σ : MS} (hu0 : u0 < 3) (hu1 : u1 < 3) (H : (((7 : Int32) ≤ x2 → R mj_OC d mX8_become Q 36 [some (rV 6 u0), some (rV 6 u1), some (iV (0 : Int32))] [] σ) ∧ (¬ (7 : Int32) ≤ x2 → (vp_in x2 7 ∧ R mj_OC d mX8_become Q 10 [some (rV 6 u0), some (rV 6 u1), some (iV (x2 + (1 : Int32)))] [] (uI σ 35 u0 ((x2).toNatClampNeg) (σ.1 35 u1 ((x2).toNatClampNeg))))))) : R mj_OC d mX8_become Q 10 [some (rV 6 u0), some (rV 6 u1), some (iV x2)] [] σ := by
  refine r_iload_n dX8_become_10 rfl rfl ?_
  refine r_bipush (v := (7 : Int32)) dX8_become_11 rfl ?_
  refine r_icmp_ge (tgt := 34) dX8_become_13 (by decide) (fun c => ?_) (fun c => ?_)
  · have H := H.1 c
    refine r_iconst (v := (0 : Int32)) dX8_become_34 rfl ?_
    refine r_istore_n dX8_become_35 rfl (by decide) rfl ?_
    exact H
  · have H := H.2 c
    refine r_aload_n dX8_become_16 rfl rfl ?_
    refine r_get (k := 6) (i := u0) (j := 1) (v := rV 35 u0) rfl rfl (ho6 hu0) rfl hX8 (by decide) rfl fX8_9 dX8_become_17 (fun _ => rfl) ?_
    refine r_iload_n dX8_become_20 rfl rfl ?_
    refine r_aload_n dX8_become_21 rfl rfl ?_
    refine r_get (k := 6) (i := u1) (j := 1) (v := rV 35 u1) rfl rfl (ho6 hu1) rfl hX8 (by decide) rfl fX8_9 dX8_become_22 (fun _ => rfl) ?_
    refine r_iload_n dX8_become_25 rfl rfl ?_
    obtain ⟨q1, H⟩ := H
    refine r_iald (k := 35) (i := u1) rfl (ho35 hu1) q1 dX8_become_26 ?_
    refine r_iast (k := 35) (i := u0) rfl (ho35 hu0) q1 dX8_become_27 ?_
    refine r_iinc (v := x2 + (1 : Int32)) dX8_become_28 rfl rfl (by decide) rfl ?_
    refine r_goto (tgt := 10) dX8_become_31 (by decide) ?_
    exact H
set_option maxRecDepth 100000 in
theorem bX8_become_36 {d : Nat} {Q : Option MV → MS → Prop} {u0 : Nat} {u1 : Nat} {x2 : Int32} {σ : MS} (hu0 : u0 < 3) (hu1 : u1 < 3) (H : (((8 : Int32) ≤ x2 → Q none (uI (uI (uI (uI σ 6 u0 2 (σ.1 6 u1 2)) 6 u0 5 ((uI σ 6 u0 2 (σ.1 6 u1 2)).1 6 u1 5)) 6 u0 6 ((uI (uI σ 6 u0 2 (σ.1 6 u1 2)) 6 u0 5 ((uI σ 6 u0 2 (σ.1 6 u1 2)).1 6 u1 5)).1 6 u1 6)) 6 u0 7 ((uI (uI (uI σ 6 u0 2 (σ.1 6 u1 2)) 6 u0 5 ((uI σ 6 u0 2 (σ.1 6 u1 2)).1 6 u1 5)) 6 u0 6 ((uI (uI σ 6 u0 2 (σ.1 6 u1 2)) 6 u0 5 ((uI σ 6 u0 2 (σ.1 6 u1 2)).1 6 u1 5)).1 6 u1 6)).1 6 u1 7))) ∧ (¬ (8 : Int32) ≤ x2 → (vp_in x2 8 ∧ R mj_OC d mX8_become Q 36 [some (rV 6 u0), some (rV 6 u1), some (iV (x2 + (1 : Int32)))] [] (uI (uI σ 36 u0 ((x2).toNatClampNeg) (σ.1 36 u1 ((x2).toNatClampNeg))) 37 u0 ((x2).toNatClampNeg) (σ.1 37 u1 ((x2).toNatClampNeg))))))) : R mj_OC d mX8_become Q 36 [some (rV 6 u0), some (rV 6 u1), some (iV x2)] [] σ := by
  refine r_iload_n dX8_become_36 rfl rfl ?_
  refine r_bipush (v := (8 : Int32)) dX8_become_37 rfl ?_
  refine r_icmp_ge (tgt := 72) dX8_become_39 (by decide) (fun c => ?_) (fun c => ?_)
  · have H := H.1 c
    refine r_aload_n dX8_become_72 rfl rfl ?_
    refine r_aload_n dX8_become_73 rfl rfl ?_
    refine r_get (k := 6) (i := u1) (j := 2) (v := iV (σ.1 6 u1 2)) rfl rfl (ho6 hu1) rfl hX8 (by decide) rfl fX8_28 dX8_become_74 (fun _ => rfl) ?_
    refine r_putI (k := 6) (i := u0) (j := 2) (ty0 := tyX8) rfl rfl (ho6 hu0) rfl hX8 (by decide) rfl fX8_28 dX8_become_77 rfl tyX8_ok nmX8 rfl rfl rfl ?_
    refine r_aload_n dX8_become_80 rfl rfl ?_
    refine r_aload_n dX8_become_81 rfl rfl ?_
    refine r_get (k := 6) (i := u1) (j := 5) (v := iV ((uI σ 6 u0 2 (σ.1 6 u1 2)).1 6 u1 5)) rfl rfl (ho6 hu1) rfl hX8 (by decide) rfl fX8_32 dX8_become_82 (fun _ => rfl) ?_
    refine r_putI (k := 6) (i := u0) (j := 5) (ty0 := tyX8) rfl rfl (ho6 hu0) rfl hX8 (by decide) rfl fX8_32 dX8_become_85 rfl tyX8_ok nmX8 rfl rfl rfl ?_
    refine r_aload_n dX8_become_88 rfl rfl ?_
    refine r_aload_n dX8_become_89 rfl rfl ?_
    refine r_get (k := 6) (i := u1) (j := 6) (v := iV ((uI (uI σ 6 u0 2 (σ.1 6 u1 2)) 6 u0 5 ((uI σ 6 u0 2 (σ.1 6 u1 2)).1 6 u1 5)).1 6 u1 6)) rfl rfl (ho6 hu1) rfl hX8 (by decide) rfl fX8_35 dX8_become_90 (fun _ => rfl) ?_
    refine r_putI (k := 6) (i := u0) (j := 6) (ty0 := tyX8) rfl rfl (ho6 hu0) rfl hX8 (by decide) rfl fX8_35 dX8_become_93 rfl tyX8_ok nmX8 rfl rfl rfl ?_
    refine r_aload_n dX8_become_96 rfl rfl ?_
    refine r_aload_n dX8_become_97 rfl rfl ?_
    refine r_get (k := 6) (i := u1) (j := 7) (v := iV ((uI (uI (uI σ 6 u0 2 (σ.1 6 u1 2)) 6 u0 5 ((uI σ 6 u0 2 (σ.1 6 u1 2)).1 6 u1 5)) 6 u0 6 ((uI (uI σ 6 u0 2 (σ.1 6 u1 2)) 6 u0 5 ((uI σ 6 u0 2 (σ.1 6 u1 2)).1 6 u1 5)).1 6 u1 6)).1 6 u1 7)) rfl rfl (ho6 hu1) rfl hX8 (by decide) rfl fX8_41 dX8_become_98 (fun _ => rfl) ?_
    refine r_putI (k := 6) (i := u0) (j := 7) (ty0 := tyX8) rfl rfl (ho6 hu0) rfl hX8 (by decide) rfl fX8_41 dX8_become_101 rfl tyX8_ok nmX8 rfl rfl rfl ?_
    exact r_vret dX8_become_104 rfl H
  · have H := H.2 c
    refine r_aload_n dX8_become_42 rfl rfl ?_
    refine r_get (k := 6) (i := u0) (j := 3) (v := rV 36 u0) rfl rfl (ho6 hu0) rfl hX8 (by decide) rfl fX8_15 dX8_become_43 (fun _ => rfl) ?_
    refine r_iload_n dX8_become_46 rfl rfl ?_
    refine r_aload_n dX8_become_47 rfl rfl ?_
    refine r_get (k := 6) (i := u1) (j := 3) (v := rV 36 u1) rfl rfl (ho6 hu1) rfl hX8 (by decide) rfl fX8_15 dX8_become_48 (fun _ => rfl) ?_
    refine r_iload_n dX8_become_51 rfl rfl ?_
    obtain ⟨q1, H⟩ := H
    refine r_iald (k := 36) (i := u1) rfl (ho36 hu1) q1 dX8_become_52 ?_
    refine r_iast (k := 36) (i := u0) rfl (ho36 hu0) q1 dX8_become_53 ?_
    refine r_aload_n dX8_become_54 rfl rfl ?_
    refine r_get (k := 6) (i := u0) (j := 4) (v := rV 37 u0) rfl rfl (ho6 hu0) rfl hX8 (by decide) rfl fX8_18 dX8_become_55 (fun _ => rfl) ?_
    refine r_iload_n dX8_become_58 rfl rfl ?_
    refine r_aload_n dX8_become_59 rfl rfl ?_
    refine r_get (k := 6) (i := u1) (j := 4) (v := rV 37 u1) rfl rfl (ho6 hu1) rfl hX8 (by decide) rfl fX8_18 dX8_become_60 (fun _ => rfl) ?_
    refine r_iload_n dX8_become_63 rfl rfl ?_
    refine r_iald (k := 37) (i := u1) rfl (ho37 hu1) q1 dX8_become_64 ?_
    refine r_iast (k := 37) (i := u0) rfl (ho37 hu0) q1 dX8_become_65 ?_
    refine r_iinc (v := x2 + (1 : Int32)) dX8_become_66 rfl rfl (by decide) rfl ?_
    refine r_goto (tgt := 36) dX8_become_69 (by decide) ?_
    exact H
set_option maxRecDepth 100000 in
theorem bX8_raised_0 {d : Nat} {Q : Option MV → MS → Prop} {u0 : Nat} {x1 : Int32} {σ : MS} (hu0 : u0 < 3) (H : (σ.2.2 6 u0 < 2 ∧ vp_in x1 7 ∧ Q (some (iV (((σ.1 18 (σ.2.2 6 u0) ((x1).toNatClampNeg)) * (σ.1 17 (σ.2.2 6 u0) ((x1).toNatClampNeg))) + (σ.1 35 u0 ((x1).toNatClampNeg))))) σ)) : R mj_OC d mX8_raised Q 0 [some (rV 6 u0), some (iV x1)] [] σ := by
  refine r_aload_n dX8_raised_0 rfl rfl ?_
  refine r_get (k := 6) (i := u0) (j := 0) (v := rV 3 (σ.2.2 6 u0)) rfl rfl (ho6 hu0) rfl hX8 (by decide) rfl fX8_21 dX8_raised_1 (fun _ => rfl) ?_
  obtain ⟨q1, H⟩ := H
  refine r_get (k := 3) (i := (σ.2.2 6 u0)) (j := 3) (v := rV 18 (σ.2.2 6 u0)) rfl rfl (ho3 q1) rfl hX0 (by decide) rfl fX8_44 dX8_raised_4 (fun _ => rfl) ?_
  refine r_iload_n dX8_raised_7 rfl rfl ?_
  obtain ⟨q2, H⟩ := H
  refine r_iald (k := 18) (i := (σ.2.2 6 u0)) rfl (ho18 q1) q2 dX8_raised_8 ?_
  refine r_aload_n dX8_raised_9 rfl rfl ?_
  refine r_get (k := 6) (i := u0) (j := 0) (v := rV 3 (σ.2.2 6 u0)) rfl rfl (ho6 hu0) rfl hX8 (by decide) rfl fX8_21 dX8_raised_10 (fun _ => rfl) ?_
  refine r_get (k := 3) (i := (σ.2.2 6 u0)) (j := 2) (v := rV 17 (σ.2.2 6 u0)) rfl rfl (ho3 q1) rfl hX0 (by decide) rfl fX8_47 dX8_raised_13 (fun _ => rfl) ?_
  refine r_iload_n dX8_raised_16 rfl rfl ?_
  refine r_iald (k := 17) (i := (σ.2.2 6 u0)) rfl (ho17 q1) q2 dX8_raised_17 ?_
  refine r_imul dX8_raised_18 ?_
  refine r_aload_n dX8_raised_19 rfl rfl ?_
  refine r_get (k := 6) (i := u0) (j := 1) (v := rV 35 u0) rfl rfl (ho6 hu0) rfl hX8 (by decide) rfl fX8_9 dX8_raised_20 (fun _ => rfl) ?_
  refine r_iload_n dX8_raised_23 rfl rfl ?_
  refine r_iald (k := 35) (i := u0) rfl (ho35 hu0) q2 dX8_raised_24 ?_
  refine r_iadd dX8_raised_25 ?_
  exact r_iret dX8_raised_26 rfl H
set_option maxRecDepth 100000 in
theorem bX8_higherBy_0 {d : Nat} {Q : Option MV → MS → Prop} {u0 : Nat} {x1 : Int32} {x2 : Int32} {σ : MS} (hu0 : u0 < 3) (H : (σ.2.2 6 u0 < 2 ∧ vp_in x1 7 ∧ vp_in x2 7 ∧ Q (some (iV ((((((σ.1 18 (σ.2.2 6 u0) ((x1).toNatClampNeg)) - (σ.1 18 (σ.2.2 6 u0) ((x2).toNatClampNeg))) * (σ.1 17 (σ.2.2 6 u0) ((x1).toNatClampNeg))) * (σ.1 17 (σ.2.2 6 u0) ((x2).toNatClampNeg))) + ((σ.1 35 u0 ((x1).toNatClampNeg)) * (σ.1 17 (σ.2.2 6 u0) ((x2).toNatClampNeg)))) - ((σ.1 35 u0 ((x2).toNatClampNeg)) * (σ.1 17 (σ.2.2 6 u0) ((x1).toNatClampNeg)))))) σ)) : R mj_OC d mX8_higherBy Q 0 [some (rV 6 u0), some (iV x1), some (iV x2), none, none] [] σ := by
  refine r_aload_n dX8_higherBy_0 rfl rfl ?_
  refine r_get (k := 6) (i := u0) (j := 0) (v := rV 3 (σ.2.2 6 u0)) rfl rfl (ho6 hu0) rfl hX8 (by decide) rfl fX8_21 dX8_higherBy_1 (fun _ => rfl) ?_
  obtain ⟨q1, H⟩ := H
  refine r_get (k := 3) (i := (σ.2.2 6 u0)) (j := 2) (v := rV 17 (σ.2.2 6 u0)) rfl rfl (ho3 q1) rfl hX0 (by decide) rfl fX8_47 dX8_higherBy_4 (fun _ => rfl) ?_
  refine r_iload_n dX8_higherBy_7 rfl rfl ?_
  obtain ⟨q2, H⟩ := H
  refine r_iald (k := 17) (i := (σ.2.2 6 u0)) rfl (ho17 q1) q2 dX8_higherBy_8 ?_
  refine r_istore_n dX8_higherBy_9 rfl (by decide) rfl ?_
  refine r_aload_n dX8_higherBy_10 rfl rfl ?_
  refine r_get (k := 6) (i := u0) (j := 0) (v := rV 3 (σ.2.2 6 u0)) rfl rfl (ho6 hu0) rfl hX8 (by decide) rfl fX8_21 dX8_higherBy_11 (fun _ => rfl) ?_
  refine r_get (k := 3) (i := (σ.2.2 6 u0)) (j := 2) (v := rV 17 (σ.2.2 6 u0)) rfl rfl (ho3 q1) rfl hX0 (by decide) rfl fX8_47 dX8_higherBy_14 (fun _ => rfl) ?_
  refine r_iload_n dX8_higherBy_17 rfl rfl ?_
  obtain ⟨q3, H⟩ := H
  refine r_iald (k := 17) (i := (σ.2.2 6 u0)) rfl (ho17 q1) q3 dX8_higherBy_18 ?_
  refine r_istore dX8_higherBy_19 (by decide) rfl ?_
  refine r_aload_n dX8_higherBy_21 rfl rfl ?_
  refine r_get (k := 6) (i := u0) (j := 0) (v := rV 3 (σ.2.2 6 u0)) rfl rfl (ho6 hu0) rfl hX8 (by decide) rfl fX8_21 dX8_higherBy_22 (fun _ => rfl) ?_
  refine r_get (k := 3) (i := (σ.2.2 6 u0)) (j := 3) (v := rV 18 (σ.2.2 6 u0)) rfl rfl (ho3 q1) rfl hX0 (by decide) rfl fX8_44 dX8_higherBy_25 (fun _ => rfl) ?_
  refine r_iload_n dX8_higherBy_28 rfl rfl ?_
  refine r_iald (k := 18) (i := (σ.2.2 6 u0)) rfl (ho18 q1) q2 dX8_higherBy_29 ?_
  refine r_aload_n dX8_higherBy_30 rfl rfl ?_
  refine r_get (k := 6) (i := u0) (j := 0) (v := rV 3 (σ.2.2 6 u0)) rfl rfl (ho6 hu0) rfl hX8 (by decide) rfl fX8_21 dX8_higherBy_31 (fun _ => rfl) ?_
  refine r_get (k := 3) (i := (σ.2.2 6 u0)) (j := 3) (v := rV 18 (σ.2.2 6 u0)) rfl rfl (ho3 q1) rfl hX0 (by decide) rfl fX8_44 dX8_higherBy_34 (fun _ => rfl) ?_
  refine r_iload_n dX8_higherBy_37 rfl rfl ?_
  refine r_iald (k := 18) (i := (σ.2.2 6 u0)) rfl (ho18 q1) q3 dX8_higherBy_38 ?_
  refine r_isub dX8_higherBy_39 ?_
  refine r_iload_n dX8_higherBy_40 rfl rfl ?_
  refine r_imul dX8_higherBy_41 ?_
  refine r_iload dX8_higherBy_42 rfl ?_
  refine r_imul dX8_higherBy_44 ?_
  refine r_aload_n dX8_higherBy_45 rfl rfl ?_
  refine r_get (k := 6) (i := u0) (j := 1) (v := rV 35 u0) rfl rfl (ho6 hu0) rfl hX8 (by decide) rfl fX8_9 dX8_higherBy_46 (fun _ => rfl) ?_
  refine r_iload_n dX8_higherBy_49 rfl rfl ?_
  refine r_iald (k := 35) (i := u0) rfl (ho35 hu0) q2 dX8_higherBy_50 ?_
  refine r_iload dX8_higherBy_51 rfl ?_
  refine r_imul dX8_higherBy_53 ?_
  refine r_iadd dX8_higherBy_54 ?_
  refine r_aload_n dX8_higherBy_55 rfl rfl ?_
  refine r_get (k := 6) (i := u0) (j := 1) (v := rV 35 u0) rfl rfl (ho6 hu0) rfl hX8 (by decide) rfl fX8_9 dX8_higherBy_56 (fun _ => rfl) ?_
  refine r_iload_n dX8_higherBy_59 rfl rfl ?_
  refine r_iald (k := 35) (i := u0) rfl (ho35 hu0) q3 dX8_higherBy_60 ?_
  refine r_iload_n dX8_higherBy_61 rfl rfl ?_
  refine r_imul dX8_higherBy_62 ?_
  refine r_isub dX8_higherBy_63 ?_
  exact r_iret dX8_higherBy_64 rfl H
set_option maxRecDepth 100000 in
theorem bX8_isAtLeast_0 {d : Nat} {Q : Option MV → MS → Prop} {u0 : Nat} {x1 : Int32} {x2 : Int32} {σ : MS} (hu0 : u0 < 3) (H : (R mj_OC d mX8_raised (fun r σ' => R mj_OC (d + 1) mX8_isAtLeast Q 5 [some (rV 6 u0), some (iV x1), some (iV x2)] (r.toList ++ []) σ') 0 [some (rV 6 u0), some (iV x1)] [] σ)) : R mj_OC (d + 1) mX8_isAtLeast Q 0 [some (rV 6 u0), some (iV x1), some (iV x2)] [] σ := by
  refine r_aload_n dX8_isAtLeast_0 rfl rfl ?_
  refine r_iload_n dX8_isAtLeast_1 rfl rfl ?_
  refine r_callV (z := 0) (k := 6) (i := u0) (As := [iV x1]) (st := []) kX8_raised i_X8_raised e_X8_raised lX8_50 dX8_isAtLeast_2 rfl rfl (ho6 hu0) rfl rfl rfl rfl rfl (Nat.le_of_ble_eq_true rfl) ?_
  exact H
set_option maxRecDepth 100000 in
theorem bX8_isAtLeast_5 {d : Nat} {Q : Option MV → MS → Prop} {u0 : Nat} {x1 : Int32} {x2 : Int32} {s0 : Int32} {σ : MS} (hu0 : u0 < 3) (H : (σ.2.2 6 u0 < 2 ∧ vp_in x1 7 ∧ ((s0 < (x2 * (σ.1 17 (σ.2.2 6 u0) ((x1).toNatClampNeg))) → Q (some (iV (0 : Int32))) σ) ∧ (¬ s0 < (x2 * (σ.1 17 (σ.2.2 6 u0) ((x1).toNatClampNeg))) → Q (some (iV (1 : Int32))) σ)))) : R mj_OC d mX8_isAtLeast Q 5 [some (rV 6 u0), some (iV x1), some (iV x2)] [iV s0] σ := by
  refine r_iload_n dX8_isAtLeast_5 rfl rfl ?_
  refine r_aload_n dX8_isAtLeast_6 rfl rfl ?_
  refine r_get (k := 6) (i := u0) (j := 0) (v := rV 3 (σ.2.2 6 u0)) rfl rfl (ho6 hu0) rfl hX8 (by decide) rfl fX8_21 dX8_isAtLeast_7 (fun _ => rfl) ?_
  obtain ⟨q1, H⟩ := H
  refine r_get (k := 3) (i := (σ.2.2 6 u0)) (j := 2) (v := rV 17 (σ.2.2 6 u0)) rfl rfl (ho3 q1) rfl hX0 (by decide) rfl fX8_47 dX8_isAtLeast_10 (fun _ => rfl) ?_
  refine r_iload_n dX8_isAtLeast_13 rfl rfl ?_
  obtain ⟨q2, H⟩ := H
  refine r_iald (k := 17) (i := (σ.2.2 6 u0)) rfl (ho17 q1) q2 dX8_isAtLeast_14 ?_
  refine r_imul dX8_isAtLeast_15 ?_
  refine r_icmp_lt (tgt := 23) dX8_isAtLeast_16 (by decide) (fun c => ?_) (fun c => ?_)
  · have H := H.1 c
    refine r_iconst (v := (0 : Int32)) dX8_isAtLeast_23 rfl ?_
    exact r_zret dX8_isAtLeast_24 rfl (by decide) H
  · have H := H.2 c
    refine r_iconst (v := (1 : Int32)) dX8_isAtLeast_19 rfl ?_
    refine r_goto (tgt := 24) dX8_isAtLeast_20 (by decide) ?_
    exact r_zret dX8_isAtLeast_24 rfl (by decide) H
set_option maxRecDepth 100000 in
theorem bX8_isAtMost_0 {d : Nat} {Q : Option MV → MS → Prop} {u0 : Nat} {x1 : Int32} {x2 : Int32} {σ : MS} (hu0 : u0 < 3) (H : (R mj_OC d mX8_raised (fun r σ' => R mj_OC (d + 1) mX8_isAtMost Q 5 [some (rV 6 u0), some (iV x1), some (iV x2)] (r.toList ++ []) σ') 0 [some (rV 6 u0), some (iV x1)] [] σ)) : R mj_OC (d + 1) mX8_isAtMost Q 0 [some (rV 6 u0), some (iV x1), some (iV x2)] [] σ := by
  refine r_aload_n dX8_isAtMost_0 rfl rfl ?_
  refine r_iload_n dX8_isAtMost_1 rfl rfl ?_
  refine r_callV (z := 0) (k := 6) (i := u0) (As := [iV x1]) (st := []) kX8_raised i_X8_raised e_X8_raised lX8_50 dX8_isAtMost_2 rfl rfl (ho6 hu0) rfl rfl rfl rfl rfl (Nat.le_of_ble_eq_true rfl) ?_
  exact H
set_option maxRecDepth 100000 in
theorem bX8_isAtMost_5 {d : Nat} {Q : Option MV → MS → Prop} {u0 : Nat} {x1 : Int32} {x2 : Int32} {s0 : Int32} {σ : MS} (hu0 : u0 < 3) (H : (σ.2.2 6 u0 < 2 ∧ vp_in x1 7 ∧ (((x2 * (σ.1 17 (σ.2.2 6 u0) ((x1).toNatClampNeg))) < s0 → Q (some (iV (0 : Int32))) σ) ∧ (¬ (x2 * (σ.1 17 (σ.2.2 6 u0) ((x1).toNatClampNeg))) < s0 → Q (some (iV (1 : Int32))) σ)))) : R mj_OC d mX8_isAtMost Q 5 [some (rV 6 u0), some (iV x1), some (iV x2)] [iV s0] σ := by
  refine r_iload_n dX8_isAtMost_5 rfl rfl ?_
  refine r_aload_n dX8_isAtMost_6 rfl rfl ?_
  refine r_get (k := 6) (i := u0) (j := 0) (v := rV 3 (σ.2.2 6 u0)) rfl rfl (ho6 hu0) rfl hX8 (by decide) rfl fX8_21 dX8_isAtMost_7 (fun _ => rfl) ?_
  obtain ⟨q1, H⟩ := H
  refine r_get (k := 3) (i := (σ.2.2 6 u0)) (j := 2) (v := rV 17 (σ.2.2 6 u0)) rfl rfl (ho3 q1) rfl hX0 (by decide) rfl fX8_47 dX8_isAtMost_10 (fun _ => rfl) ?_
  refine r_iload_n dX8_isAtMost_13 rfl rfl ?_
  obtain ⟨q2, H⟩ := H
  refine r_iald (k := 17) (i := (σ.2.2 6 u0)) rfl (ho17 q1) q2 dX8_isAtMost_14 ?_
  refine r_imul dX8_isAtMost_15 ?_
  refine r_icmp_gt (tgt := 23) dX8_isAtMost_16 (by decide) (fun c => ?_) (fun c => ?_)
  · have H := H.1 c
    refine r_iconst (v := (0 : Int32)) dX8_isAtMost_23 rfl ?_
    exact r_zret dX8_isAtMost_24 rfl (by decide) H
  · have H := H.2 c
    refine r_iconst (v := (1 : Int32)) dX8_isAtMost_19 rfl ?_
    refine r_goto (tgt := 24) dX8_isAtMost_20 (by decide) ?_
    exact r_zret dX8_isAtMost_24 rfl (by decide) H
set_option maxRecDepth 100000 in
theorem bX8_isJammed_0 {d : Nat} {Q : Option MV → MS → Prop} {u0 : Nat} {x1 : Int32} {σ : MS} (hu0 : u0 < 3) (H : ((¬ (((σ.1 6 u0 2) >>> (x1 &&& 31)) &&& (1 : Int32)) = (1 : Int32) → Q (some (iV (0 : Int32))) σ) ∧ ((((σ.1 6 u0 2) >>> (x1 &&& 31)) &&& (1 : Int32)) = (1 : Int32) → Q (some (iV (1 : Int32))) σ))) : R mj_OC d mX8_isJammed Q 0 [some (rV 6 u0), some (iV x1)] [] σ := by
  refine r_aload_n dX8_isJammed_0 rfl rfl ?_
  refine r_get (k := 6) (i := u0) (j := 2) (v := iV (σ.1 6 u0 2)) rfl rfl (ho6 hu0) rfl hX8 (by decide) rfl fX8_28 dX8_isJammed_1 (fun _ => rfl) ?_
  refine r_iload_n dX8_isJammed_4 rfl rfl ?_
  refine r_ishr dX8_isJammed_5 ?_
  refine r_iconst (v := (1 : Int32)) dX8_isJammed_6 rfl ?_
  refine r_iand dX8_isJammed_7 ?_
  refine r_iconst (v := (1 : Int32)) dX8_isJammed_8 rfl ?_
  refine r_icmp_ne (tgt := 16) dX8_isJammed_9 (by decide) (fun c => ?_) (fun c => ?_)
  · have H := H.1 c
    refine r_iconst (v := (0 : Int32)) dX8_isJammed_16 rfl ?_
    exact r_zret dX8_isJammed_17 rfl (by decide) H
  · have H := H.2 c
    refine r_iconst (v := (1 : Int32)) dX8_isJammed_12 rfl ?_
    refine r_goto (tgt := 17) dX8_isJammed_13 (by decide) ?_
    exact r_zret dX8_isJammed_17 rfl (by decide) H
set_option maxRecDepth 100000 in
theorem bX8_giver_0 {d : Nat} {Q : Option MV → MS → Prop} {u0 : Nat} {x1 : Int32} {σ : MS} (hu0 : u0 < 3) (H : (σ.2.2 6 u0 < 2 ∧ vp_in x1 10 ∧ (R mj_OC d mX8_higherBy (fun r σ' => R mj_OC (d + 1) mX8_giver Q 26 [some (rV 6 u0), some (iV x1), some (iV (σ.1 21 (σ.2.2 6 u0) ((x1).toNatClampNeg))), some (iV (σ.1 22 (σ.2.2 6 u0) ((x1).toNatClampNeg)))] (r.toList ++ []) σ') 0 [some (rV 6 u0), some (iV (σ.1 21 (σ.2.2 6 u0) ((x1).toNatClampNeg))), some (iV (σ.1 22 (σ.2.2 6 u0) ((x1).toNatClampNeg))), none, none] [] σ))) : R mj_OC (d + 1) mX8_giver Q 0 [some (rV 6 u0), some (iV x1), none, none] [] σ := by
  refine r_aload_n dX8_giver_0 rfl rfl ?_
  refine r_get (k := 6) (i := u0) (j := 0) (v := rV 3 (σ.2.2 6 u0)) rfl rfl (ho6 hu0) rfl hX8 (by decide) rfl fX8_21 dX8_giver_1 (fun _ => rfl) ?_
  obtain ⟨q1, H⟩ := H
  refine r_get (k := 3) (i := (σ.2.2 6 u0)) (j := 7) (v := rV 21 (σ.2.2 6 u0)) rfl rfl (ho3 q1) rfl hX0 (by decide) rfl fX8_54 dX8_giver_4 (fun _ => rfl) ?_
  refine r_iload_n dX8_giver_7 rfl rfl ?_
  obtain ⟨q2, H⟩ := H
  refine r_iald (k := 21) (i := (σ.2.2 6 u0)) rfl (ho21 q1) q2 dX8_giver_8 ?_
  refine r_istore_n dX8_giver_9 rfl (by decide) rfl ?_
  refine r_aload_n dX8_giver_10 rfl rfl ?_
  refine r_get (k := 6) (i := u0) (j := 0) (v := rV 3 (σ.2.2 6 u0)) rfl rfl (ho6 hu0) rfl hX8 (by decide) rfl fX8_21 dX8_giver_11 (fun _ => rfl) ?_
  refine r_get (k := 3) (i := (σ.2.2 6 u0)) (j := 8) (v := rV 22 (σ.2.2 6 u0)) rfl rfl (ho3 q1) rfl hX0 (by decide) rfl fX8_57 dX8_giver_14 (fun _ => rfl) ?_
  refine r_iload_n dX8_giver_17 rfl rfl ?_
  refine r_iald (k := 22) (i := (σ.2.2 6 u0)) rfl (ho22 q1) q2 dX8_giver_18 ?_
  refine r_istore_n dX8_giver_19 rfl (by decide) rfl ?_
  refine r_aload_n dX8_giver_20 rfl rfl ?_
  refine r_iload_n dX8_giver_21 rfl rfl ?_
  refine r_iload_n dX8_giver_22 rfl rfl ?_
  refine r_callV (z := 2) (k := 6) (i := u0) (As := [iV (σ.1 21 (σ.2.2 6 u0) ((x1).toNatClampNeg)), iV (σ.1 22 (σ.2.2 6 u0) ((x1).toNatClampNeg))]) (st := []) kX8_higherBy i_X8_higherBy e_X8_higherBy lX8_60 dX8_giver_23 rfl rfl (ho6 hu0) rfl rfl rfl rfl rfl (Nat.le_of_ble_eq_true rfl) ?_
  exact H
set_option maxRecDepth 100000 in
theorem bX8_giver_26 {d : Nat} {Q : Option MV → MS → Prop} {u0 : Nat} {x1 : Int32} {x2 : Int32} {x3 : Int32} {s0 : Int32} {σ : MS} (hu0 : u0 < 3) (H : ((s0 < 0 → Q (some (iV x3)) σ) ∧ (¬ s0 < 0 → Q (some (iV x2)) σ))) : R mj_OC d mX8_giver Q 26 [some (rV 6 u0), some (iV x1), some (iV x2), some (iV x3)] [iV s0] σ := by
  refine r_if_lt (tgt := 33) dX8_giver_26 (by decide) (fun c => ?_) (fun c => ?_)
  · have H := H.1 c
    refine r_iload_n dX8_giver_33 rfl rfl ?_
    exact r_iret dX8_giver_34 rfl H
  · have H := H.2 c
    refine r_iload_n dX8_giver_29 rfl rfl ?_
    refine r_goto (tgt := 34) dX8_giver_30 (by decide) ?_
    exact r_iret dX8_giver_34 rfl H
set_option maxRecDepth 100000 in
theorem bX8_movable_0 {d : Nat} {Q : Option MV → MS → Prop} {u0 : Nat} {x1 : Int32} {σ : MS} (hu0 : u0 < 3) (H : (R mj_OC d mX8_giver (fun r σ' => R mj_OC (d + 1) mX8_movable Q 5 [some (rV 6 u0), some (iV x1), none, none, none] (r.toList ++ []) σ') 0 [some (rV 6 u0), some (iV x1), none, none] [] σ)) : R mj_OC (d + 1) mX8_movable Q 0 [some (rV 6 u0), some (iV x1), none, none, none] [] σ := by
  refine r_aload_n dX8_movable_0 rfl rfl ?_
  refine r_iload_n dX8_movable_1 rfl rfl ?_
  refine r_callV (z := 2) (k := 6) (i := u0) (As := [iV x1]) (st := []) kX8_giver i_X8_giver e_X8_giver lX8_64 dX8_movable_2 rfl rfl (ho6 hu0) rfl rfl rfl rfl rfl (Nat.le_of_ble_eq_true rfl) ?_
  exact H
set_option maxRecDepth 100000 in
theorem bX8_movable_5 {d : Nat} {Q : Option MV → MS → Prop} {u0 : Nat} {x1 : Int32} {s0 : Int32} {σ : MS} (hu0 : u0 < 3) (H : (σ.2.2 6 u0 < 2 ∧ vp_in x1 10 ∧ vp_in s0 7 ∧ vp_in (((σ.1 21 (σ.2.2 6 u0) ((x1).toNatClampNeg)) + (σ.1 22 (σ.2.2 6 u0) ((x1).toNatClampNeg))) - s0) 7 ∧ ((((σ.1 17 (σ.2.2 6 u0) ((s0).toNatClampNeg)) + (σ.1 17 (σ.2.2 6 u0) (((((σ.1 21 (σ.2.2 6 u0) ((x1).toNatClampNeg)) + (σ.1 22 (σ.2.2 6 u0) ((x1).toNatClampNeg))) - s0)).toNatClampNeg))) ≤ 0 → Q (some (iV (0 : Int32))) σ) ∧ (¬ ((σ.1 17 (σ.2.2 6 u0) ((s0).toNatClampNeg)) + (σ.1 17 (σ.2.2 6 u0) (((((σ.1 21 (σ.2.2 6 u0) ((x1).toNatClampNeg)) + (σ.1 22 (σ.2.2 6 u0) ((x1).toNatClampNeg))) - s0)).toNatClampNeg))) ≤ 0 → (R mj_OC d mX8_higherBy (fun r σ' => R mj_OC (d + 1) mX8_movable Q 66 [some (rV 6 u0), some (iV x1), some (iV s0), some (iV (((σ.1 21 (σ.2.2 6 u0) ((x1).toNatClampNeg)) + (σ.1 22 (σ.2.2 6 u0) ((x1).toNatClampNeg))) - s0)), some (iV ((σ.1 17 (σ.2.2 6 u0) ((s0).toNatClampNeg)) + (σ.1 17 (σ.2.2 6 u0) (((((σ.1 21 (σ.2.2 6 u0) ((x1).toNatClampNeg)) + (σ.1 22 (σ.2.2 6 u0) ((x1).toNatClampNeg))) - s0)).toNatClampNeg))))] (r.toList ++ [iV (σ.1 35 u0 ((s0).toNatClampNeg))]) σ') 0 [some (rV 6 u0), some (iV s0), some (iV (((σ.1 21 (σ.2.2 6 u0) ((x1).toNatClampNeg)) + (σ.1 22 (σ.2.2 6 u0) ((x1).toNatClampNeg))) - s0)), none, none] [] σ))))) : R mj_OC (d + 1) mX8_movable Q 5 [some (rV 6 u0), some (iV x1), none, none, none] [iV s0] σ := by
  refine r_istore_n dX8_movable_5 rfl (by decide) rfl ?_
  refine r_aload_n dX8_movable_6 rfl rfl ?_
  refine r_get (k := 6) (i := u0) (j := 0) (v := rV 3 (σ.2.2 6 u0)) rfl rfl (ho6 hu0) rfl hX8 (by decide) rfl fX8_21 dX8_movable_7 (fun _ => rfl) ?_
  obtain ⟨q1, H⟩ := H
  refine r_get (k := 3) (i := (σ.2.2 6 u0)) (j := 7) (v := rV 21 (σ.2.2 6 u0)) rfl rfl (ho3 q1) rfl hX0 (by decide) rfl fX8_54 dX8_movable_10 (fun _ => rfl) ?_
  refine r_iload_n dX8_movable_13 rfl rfl ?_
  obtain ⟨q2, H⟩ := H
  refine r_iald (k := 21) (i := (σ.2.2 6 u0)) rfl (ho21 q1) q2 dX8_movable_14 ?_
  refine r_aload_n dX8_movable_15 rfl rfl ?_
  refine r_get (k := 6) (i := u0) (j := 0) (v := rV 3 (σ.2.2 6 u0)) rfl rfl (ho6 hu0) rfl hX8 (by decide) rfl fX8_21 dX8_movable_16 (fun _ => rfl) ?_
  refine r_get (k := 3) (i := (σ.2.2 6 u0)) (j := 8) (v := rV 22 (σ.2.2 6 u0)) rfl rfl (ho3 q1) rfl hX0 (by decide) rfl fX8_57 dX8_movable_19 (fun _ => rfl) ?_
  refine r_iload_n dX8_movable_22 rfl rfl ?_
  refine r_iald (k := 22) (i := (σ.2.2 6 u0)) rfl (ho22 q1) q2 dX8_movable_23 ?_
  refine r_iadd dX8_movable_24 ?_
  refine r_iload_n dX8_movable_25 rfl rfl ?_
  refine r_isub dX8_movable_26 ?_
  refine r_istore_n dX8_movable_27 rfl (by decide) rfl ?_
  refine r_aload_n dX8_movable_28 rfl rfl ?_
  refine r_get (k := 6) (i := u0) (j := 0) (v := rV 3 (σ.2.2 6 u0)) rfl rfl (ho6 hu0) rfl hX8 (by decide) rfl fX8_21 dX8_movable_29 (fun _ => rfl) ?_
  refine r_get (k := 3) (i := (σ.2.2 6 u0)) (j := 2) (v := rV 17 (σ.2.2 6 u0)) rfl rfl (ho3 q1) rfl hX0 (by decide) rfl fX8_47 dX8_movable_32 (fun _ => rfl) ?_
  refine r_iload_n dX8_movable_35 rfl rfl ?_
  obtain ⟨q3, H⟩ := H
  refine r_iald (k := 17) (i := (σ.2.2 6 u0)) rfl (ho17 q1) q3 dX8_movable_36 ?_
  refine r_aload_n dX8_movable_37 rfl rfl ?_
  refine r_get (k := 6) (i := u0) (j := 0) (v := rV 3 (σ.2.2 6 u0)) rfl rfl (ho6 hu0) rfl hX8 (by decide) rfl fX8_21 dX8_movable_38 (fun _ => rfl) ?_
  refine r_get (k := 3) (i := (σ.2.2 6 u0)) (j := 2) (v := rV 17 (σ.2.2 6 u0)) rfl rfl (ho3 q1) rfl hX0 (by decide) rfl fX8_47 dX8_movable_41 (fun _ => rfl) ?_
  refine r_iload_n dX8_movable_44 rfl rfl ?_
  obtain ⟨q4, H⟩ := H
  refine r_iald (k := 17) (i := (σ.2.2 6 u0)) rfl (ho17 q1) q4 dX8_movable_45 ?_
  refine r_iadd dX8_movable_46 ?_
  refine r_istore dX8_movable_47 (by decide) rfl ?_
  refine r_iload dX8_movable_49 rfl ?_
  refine r_if_le (tgt := 75) dX8_movable_51 (by decide) (fun c => ?_) (fun c => ?_)
  · have H := H.1 c
    refine r_iconst (v := (0 : Int32)) dX8_movable_75 rfl ?_
    exact r_iret dX8_movable_76 rfl H
  · have H := H.2 c
    refine r_aload_n dX8_movable_54 rfl rfl ?_
    refine r_get (k := 6) (i := u0) (j := 1) (v := rV 35 u0) rfl rfl (ho6 hu0) rfl hX8 (by decide) rfl fX8_9 dX8_movable_55 (fun _ => rfl) ?_
    refine r_iload_n dX8_movable_58 rfl rfl ?_
    refine r_iald (k := 35) (i := u0) rfl (ho35 hu0) q3 dX8_movable_59 ?_
    refine r_aload_n dX8_movable_60 rfl rfl ?_
    refine r_iload_n dX8_movable_61 rfl rfl ?_
    refine r_iload_n dX8_movable_62 rfl rfl ?_
    refine r_callV (z := 2) (k := 6) (i := u0) (As := [iV s0, iV (((σ.1 21 (σ.2.2 6 u0) ((x1).toNatClampNeg)) + (σ.1 22 (σ.2.2 6 u0) ((x1).toNatClampNeg))) - s0)]) (st := [iV (σ.1 35 u0 ((s0).toNatClampNeg))]) kX8_higherBy i_X8_higherBy e_X8_higherBy lX8_60 dX8_movable_63 rfl rfl (ho6 hu0) rfl rfl rfl rfl rfl (Nat.le_of_ble_eq_true rfl) ?_
    exact H
set_option maxRecDepth 100000 in
theorem bX8_movable_66 {d : Nat} {Q : Option MV → MS → Prop} {u0 : Nat} {x1 : Int32} {x2 : Int32} {x3 : Int32} {x4 : Int32} {s0 : Int32} {s1 : Int32} {σ : MS} (hu0 : u0 < 3) (H : ((¬ x4 = 0) ∧ Q (some (iV (if (s0 / x4) < s1 then (s0 / x4) else s1))) σ)) : R mj_OC (d + 1) mX8_movable Q 66 [some (rV 6 u0), some (iV x1), some (iV x2), some (iV x3), some (iV x4)] [iV s0, iV s1] σ := by
  refine r_iload dX8_movable_66 rfl ?_
  obtain ⟨q1, H⟩ := H
  refine r_idiv dX8_movable_68 q1 ?_
  refine r_mmin lX8_67 dX8_movable_69 (Nat.le_of_ble_eq_true rfl) ?_
  refine r_goto (tgt := 76) dX8_movable_72 (by decide) ?_
  exact r_iret dX8_movable_76 rfl H
set_option maxRecDepth 100000 in
theorem bX8_run_0 {d : Nat} {Q : Option MV → MS → Prop} {u0 : Nat} {x1 : Int32} {x2 : Int32} {σ : MS} (hu0 : u0 < 3) (H : (R mj_OC d mX8_giver (fun r σ' => R mj_OC (d + 1) mX8_run Q 5 [some (rV 6 u0), some (iV x1), some (iV x2), none, none] (r.toList ++ []) σ') 0 [some (rV 6 u0), some (iV x1), none, none] [] σ)) : R mj_OC (d + 1) mX8_run Q 0 [some (rV 6 u0), some (iV x1), some (iV x2), none, none] [] σ := by
  refine r_aload_n dX8_run_0 rfl rfl ?_
  refine r_iload_n dX8_run_1 rfl rfl ?_
  refine r_callV (z := 2) (k := 6) (i := u0) (As := [iV x1]) (st := []) kX8_giver i_X8_giver e_X8_giver lX8_64 dX8_run_2 rfl rfl (ho6 hu0) rfl rfl rfl rfl rfl (Nat.le_of_ble_eq_true rfl) ?_
  exact H
set_option maxRecDepth 100000 in
theorem bX8_run_5 {d : Nat} {Q : Option MV → MS → Prop} {u0 : Nat} {x1 : Int32} {x2 : Int32} {s0 : Int32} {σ : MS} (hu0 : u0 < 3) (H : (R mj_OC d mX8_movable (fun r σ' => R mj_OC (d + 1) mX8_run Q 12 [some (rV 6 u0), some (iV x1), some (iV x2), some (iV s0), none] (r.toList ++ [iV x2]) σ') 0 [some (rV 6 u0), some (iV x1), none, none, none] [] σ)) : R mj_OC (d + 1) mX8_run Q 5 [some (rV 6 u0), some (iV x1), some (iV x2), none, none] [iV s0] σ := by
  refine r_istore_n dX8_run_5 rfl (by decide) rfl ?_
  refine r_iload_n dX8_run_6 rfl rfl ?_
  refine r_aload_n dX8_run_7 rfl rfl ?_
  refine r_iload_n dX8_run_8 rfl rfl ?_
  refine r_callV (z := 3) (k := 6) (i := u0) (As := [iV x1]) (st := [iV x2]) kX8_movable i_X8_movable e_X8_movable lX8_72 dX8_run_9 rfl rfl (ho6 hu0) rfl rfl rfl rfl rfl (Nat.le_of_ble_eq_true rfl) ?_
  exact H
set_option maxRecDepth 100000 in
theorem bX8_run_12 {d : Nat} {Q : Option MV → MS → Prop} {u0 : Nat} {x1 : Int32} {x2 : Int32} {x3 : Int32} {s0 : Int32} {s1 : Int32} {σ : MS} (hu0 : u0 < 3) (H : (σ.2.2 6 u0 < 2 ∧ vp_in x1 10 ∧ (R mj_OC d mX8_move (fun r σ' => R mj_OC (d + 1) mX8_run Q 45 [some (rV 6 u0), some (iV x1), some (iV x2), some (iV x3), some (iV (if s0 < s1 then s0 else s1))] (r.toList ++ []) σ') 0 [some (rV 6 u0), some (iV x3), some (iV (((σ.1 21 (σ.2.2 6 u0) ((x1).toNatClampNeg)) + (σ.1 22 (σ.2.2 6 u0) ((x1).toNatClampNeg))) - x3)), some (iV (if s0 < s1 then s0 else s1))] [] σ))) : R mj_OC (d + 1) mX8_run Q 12 [some (rV 6 u0), some (iV x1), some (iV x2), some (iV x3), none] [iV s0, iV s1] σ := by
  refine r_mmin lX8_67 dX8_run_12 (Nat.le_of_ble_eq_true rfl) ?_
  refine r_istore dX8_run_15 (by decide) rfl ?_
  refine r_aload_n dX8_run_17 rfl rfl ?_
  refine r_iload_n dX8_run_18 rfl rfl ?_
  refine r_aload_n dX8_run_19 rfl rfl ?_
  refine r_get (k := 6) (i := u0) (j := 0) (v := rV 3 (σ.2.2 6 u0)) rfl rfl (ho6 hu0) rfl hX8 (by decide) rfl fX8_21 dX8_run_20 (fun _ => rfl) ?_
  obtain ⟨q1, H⟩ := H
  refine r_get (k := 3) (i := (σ.2.2 6 u0)) (j := 7) (v := rV 21 (σ.2.2 6 u0)) rfl rfl (ho3 q1) rfl hX0 (by decide) rfl fX8_54 dX8_run_23 (fun _ => rfl) ?_
  refine r_iload_n dX8_run_26 rfl rfl ?_
  obtain ⟨q2, H⟩ := H
  refine r_iald (k := 21) (i := (σ.2.2 6 u0)) rfl (ho21 q1) q2 dX8_run_27 ?_
  refine r_aload_n dX8_run_28 rfl rfl ?_
  refine r_get (k := 6) (i := u0) (j := 0) (v := rV 3 (σ.2.2 6 u0)) rfl rfl (ho6 hu0) rfl hX8 (by decide) rfl fX8_21 dX8_run_29 (fun _ => rfl) ?_
  refine r_get (k := 3) (i := (σ.2.2 6 u0)) (j := 8) (v := rV 22 (σ.2.2 6 u0)) rfl rfl (ho3 q1) rfl hX0 (by decide) rfl fX8_57 dX8_run_32 (fun _ => rfl) ?_
  refine r_iload_n dX8_run_35 rfl rfl ?_
  refine r_iald (k := 22) (i := (σ.2.2 6 u0)) rfl (ho22 q1) q2 dX8_run_36 ?_
  refine r_iadd dX8_run_37 ?_
  refine r_iload_n dX8_run_38 rfl rfl ?_
  refine r_isub dX8_run_39 ?_
  refine r_iload dX8_run_40 rfl ?_
  refine r_callV (z := 0) (k := 6) (i := u0) (As := [iV x3, iV (((σ.1 21 (σ.2.2 6 u0) ((x1).toNatClampNeg)) + (σ.1 22 (σ.2.2 6 u0) ((x1).toNatClampNeg))) - x3), iV (if s0 < s1 then s0 else s1)]) (st := []) kX8_move i_X8_move e_X8_move lX8_75 dX8_run_42 rfl rfl (ho6 hu0) rfl rfl rfl rfl rfl (Nat.le_of_ble_eq_true rfl) ?_
  exact H
set_option maxRecDepth 100000 in
theorem bX8_run_45 {d : Nat} {Q : Option MV → MS → Prop} {u0 : Nat} {x1 : Int32} {x2 : Int32} {x3 : Int32} {x4 : Int32} {σ : MS} (hu0 : u0 < 3) (H : Q (some (iV x4)) σ) : R mj_OC d mX8_run Q 45 [some (rV 6 u0), some (iV x1), some (iV x2), some (iV x3), some (iV x4)] [] σ := by
  refine r_iload dX8_run_45 rfl ?_
  exact r_iret dX8_run_47 rfl H
set_option maxRecDepth 100000 in
theorem bX8_move_0 {d : Nat} {Q : Option MV → MS → Prop} {u0 : Nat} {x1 : Int32} {x2 : Int32} {x3 : Int32} {σ : MS} (hu0 : u0 < 3) (H : (vp_in x1 7 ∧ vp_in x2 7 ∧ Q none (uI (uI σ 35 u0 ((x1).toNatClampNeg) ((σ.1 35 u0 ((x1).toNatClampNeg)) - x3)) 35 u0 ((x2).toNatClampNeg) (((uI σ 35 u0 ((x1).toNatClampNeg) ((σ.1 35 u0 ((x1).toNatClampNeg)) - x3)).1 35 u0 ((x2).toNatClampNeg)) + x3)))) : R mj_OC d mX8_move Q 0 [some (rV 6 u0), some (iV x1), some (iV x2), some (iV x3)] [] σ := by
  refine r_aload_n dX8_move_0 rfl rfl ?_
  refine r_get (k := 6) (i := u0) (j := 1) (v := rV 35 u0) rfl rfl (ho6 hu0) rfl hX8 (by decide) rfl fX8_9 dX8_move_1 (fun _ => rfl) ?_
  refine r_iload_n dX8_move_4 rfl rfl ?_
  refine r_dup2_ri dX8_move_5 ?_
  obtain ⟨q1, H⟩ := H
  refine r_iald (k := 35) (i := u0) rfl (ho35 hu0) q1 dX8_move_6 ?_
  refine r_iload_n dX8_move_7 rfl rfl ?_
  refine r_isub dX8_move_8 ?_
  refine r_iast (k := 35) (i := u0) rfl (ho35 hu0) q1 dX8_move_9 ?_
  refine r_aload_n dX8_move_10 rfl rfl ?_
  refine r_get (k := 6) (i := u0) (j := 1) (v := rV 35 u0) rfl rfl (ho6 hu0) rfl hX8 (by decide) rfl fX8_9 dX8_move_11 (fun _ => rfl) ?_
  refine r_iload_n dX8_move_14 rfl rfl ?_
  refine r_dup2_ri dX8_move_15 ?_
  obtain ⟨q2, H⟩ := H
  refine r_iald (k := 35) (i := u0) rfl (ho35 hu0) q2 dX8_move_16 ?_
  refine r_iload_n dX8_move_17 rfl rfl ?_
  refine r_iadd dX8_move_18 ?_
  refine r_iast (k := 35) (i := u0) rfl (ho35 hu0) q2 dX8_move_19 ?_
  exact r_vret dX8_move_20 rfl H
set_option maxRecDepth 100000 in
theorem bX8_runAll_0 {d : Nat} {Q : Option MV → MS → Prop} {u0 : Nat} {σ : MS} (hu0 : u0 < 3) (H : R mj_OC d mX8_runAll Q 4 [some (rV 6 u0), some (iV (0 : Int32)), some (iV (0 : Int32))] [] σ) : R mj_OC d mX8_runAll Q 0 [some (rV 6 u0), none, none] [] σ := by
  refine r_iconst (v := (0 : Int32)) dX8_runAll_0 rfl ?_
  refine r_istore_n dX8_runAll_1 rfl (by decide) rfl ?_
  refine r_iconst (v := (0 : Int32)) dX8_runAll_2 rfl ?_
  refine r_istore_n dX8_runAll_3 rfl (by decide) rfl ?_
  exact H
set_option maxRecDepth 100000 in
theorem bX8_runAll_4 {d : Nat} {Q : Option MV → MS → Prop} {u0 : Nat} {x1 : Int32} {x2 : Int32} {σ : MS} (hu0 : u0 < 3) (H : (σ.2.2 6 u0 < 2 ∧ (((σ.1 3 (σ.2.2 6 u0) 6) ≤ x2 → Q (some (iV x1)) σ) ∧ (¬ (σ.1 3 (σ.2.2 6 u0) 6) ≤ x2 → (R mj_OC d mX8_isJammed (fun r σ' => R mj_OC (d + 1) mX8_runAll Q 20 [some (rV 6 u0), some (iV x1), some (iV x2)] (r.toList ++ []) σ') 0 [some (rV 6 u0), some (iV x2)] [] σ))))) : R mj_OC (d + 1) mX8_runAll Q 4 [some (rV 6 u0), some (iV x1), some (iV x2)] [] σ := by
  refine r_iload_n dX8_runAll_4 rfl rfl ?_
  refine r_aload_n dX8_runAll_5 rfl rfl ?_
  refine r_get (k := 6) (i := u0) (j := 0) (v := rV 3 (σ.2.2 6 u0)) rfl rfl (ho6 hu0) rfl hX8 (by decide) rfl fX8_21 dX8_runAll_6 (fun _ => rfl) ?_
  obtain ⟨q1, H⟩ := H
  refine r_get (k := 3) (i := (σ.2.2 6 u0)) (j := 6) (v := iV (σ.1 3 (σ.2.2 6 u0) 6)) rfl rfl (ho3 q1) rfl hX0 (by decide) rfl fX8_79 dX8_runAll_9 (fun _ => rfl) ?_
  refine r_icmp_ge (tgt := 39) dX8_runAll_12 (by decide) (fun c => ?_) (fun c => ?_)
  · have H := H.1 c
    refine r_iload_n dX8_runAll_39 rfl rfl ?_
    exact r_iret dX8_runAll_40 rfl H
  · have H := H.2 c
    refine r_aload_n dX8_runAll_15 rfl rfl ?_
    refine r_iload_n dX8_runAll_16 rfl rfl ?_
    refine r_callV (z := 0) (k := 6) (i := u0) (As := [iV x2]) (st := []) kX8_isJammed i_X8_isJammed e_X8_isJammed lX8_82 dX8_runAll_17 rfl rfl (ho6 hu0) rfl rfl rfl rfl rfl (Nat.le_of_ble_eq_true rfl) ?_
    exact H
set_option maxRecDepth 100000 in
theorem bX8_runAll_20 {d : Nat} {Q : Option MV → MS → Prop} {u0 : Nat} {x1 : Int32} {x2 : Int32} {s0 : Int32} {σ : MS} (hu0 : u0 < 3) (H : ((¬ s0 = 0 → R mj_OC (d + 1) mX8_runAll Q 4 [some (rV 6 u0), some (iV x1), some (iV (x2 + (1 : Int32)))] [] σ) ∧ (s0 = 0 → (R mj_OC d mX8_run (fun r σ' => R mj_OC (d + 1) mX8_runAll Q 31 [some (rV 6 u0), some (iV x1), some (iV x2)] (r.toList ++ [iV x1]) σ') 0 [some (rV 6 u0), some (iV x2), some (iV (2147483647 : Int32)), none, none] [] σ)))) : R mj_OC (d + 1) mX8_runAll Q 20 [some (rV 6 u0), some (iV x1), some (iV x2)] [iV s0] σ := by
  refine r_if_ne (tgt := 33) dX8_runAll_20 (by decide) (fun c => ?_) (fun c => ?_)
  · have H := H.1 c
    refine r_iinc (v := x2 + (1 : Int32)) dX8_runAll_33 rfl rfl (by decide) rfl ?_
    refine r_goto (tgt := 4) dX8_runAll_36 (by decide) ?_
    exact H
  · have H := H.2 c
    refine r_iload_n dX8_runAll_23 rfl rfl ?_
    refine r_aload_n dX8_runAll_24 rfl rfl ?_
    refine r_iload_n dX8_runAll_25 rfl rfl ?_
    refine r_ldc (v := (2147483647 : Int32)) oX8_88 dX8_runAll_26 ?_
    refine r_callV (z := 2) (k := 6) (i := u0) (As := [iV x2, iV (2147483647 : Int32)]) (st := [iV x1]) kX8_run i_X8_run e_X8_run lX8_89 dX8_runAll_28 rfl rfl (ho6 hu0) rfl rfl rfl rfl rfl (Nat.le_of_ble_eq_true rfl) ?_
    exact H
set_option maxRecDepth 100000 in
theorem bX8_runAll_31 {d : Nat} {Q : Option MV → MS → Prop} {u0 : Nat} {x1 : Int32} {x2 : Int32} {s0 : Int32} {s1 : Int32} {σ : MS} (hu0 : u0 < 3) (H : R mj_OC d mX8_runAll Q 4 [some (rV 6 u0), some (iV (s1 + s0)), some (iV (x2 + (1 : Int32)))] [] σ) : R mj_OC d mX8_runAll Q 31 [some (rV 6 u0), some (iV x1), some (iV x2)] [iV s0, iV s1] σ := by
  refine r_iadd dX8_runAll_31 ?_
  refine r_istore_n dX8_runAll_32 rfl (by decide) rfl ?_
  refine r_iinc (v := x2 + (1 : Int32)) dX8_runAll_33 rfl rfl (by decide) rfl ?_
  refine r_goto (tgt := 4) dX8_runAll_36 (by decide) ?_
  exact H
set_option maxRecDepth 100000 in
theorem bX8_pour_0 {d : Nat} {Q : Option MV → MS → Prop} {u0 : Nat} {x1 : Int32} {x2 : Int32} {σ : MS} (hu0 : u0 < 3) (H : (vp_in x1 7 ∧ (((9999 : Int32) ≤ (σ.1 35 u0 ((x1).toNatClampNeg)) → Q none σ) ∧ (¬ (9999 : Int32) ≤ (σ.1 35 u0 ((x1).toNatClampNeg)) → Q none (uI σ 35 u0 ((x1).toNatClampNeg) (if ((σ.1 35 u0 ((x1).toNatClampNeg)) + x2) < (9999 : Int32) then ((σ.1 35 u0 ((x1).toNatClampNeg)) + x2) else (9999 : Int32))))))) : R mj_OC (d + 1) mX8_pour Q 0 [some (rV 6 u0), some (iV x1), some (iV x2)] [] σ := by
  refine r_aload_n dX8_pour_0 rfl rfl ?_
  refine r_get (k := 6) (i := u0) (j := 1) (v := rV 35 u0) rfl rfl (ho6 hu0) rfl hX8 (by decide) rfl fX8_9 dX8_pour_1 (fun _ => rfl) ?_
  refine r_iload_n dX8_pour_4 rfl rfl ?_
  obtain ⟨q1, H⟩ := H
  refine r_iald (k := 35) (i := u0) rfl (ho35 hu0) q1 dX8_pour_5 ?_
  refine r_sipush (v := (9999 : Int32)) dX8_pour_6 rfl ?_
  refine r_icmp_ge (tgt := 32) dX8_pour_9 (by decide) (fun c => ?_) (fun c => ?_)
  · have H := H.1 c
    exact r_vret dX8_pour_32 rfl H
  · have H := H.2 c
    refine r_aload_n dX8_pour_12 rfl rfl ?_
    refine r_get (k := 6) (i := u0) (j := 1) (v := rV 35 u0) rfl rfl (ho6 hu0) rfl hX8 (by decide) rfl fX8_9 dX8_pour_13 (fun _ => rfl) ?_
    refine r_iload_n dX8_pour_16 rfl rfl ?_
    refine r_sipush (v := (9999 : Int32)) dX8_pour_17 rfl ?_
    refine r_aload_n dX8_pour_20 rfl rfl ?_
    refine r_get (k := 6) (i := u0) (j := 1) (v := rV 35 u0) rfl rfl (ho6 hu0) rfl hX8 (by decide) rfl fX8_9 dX8_pour_21 (fun _ => rfl) ?_
    refine r_iload_n dX8_pour_24 rfl rfl ?_
    refine r_iald (k := 35) (i := u0) rfl (ho35 hu0) q1 dX8_pour_25 ?_
    refine r_iload_n dX8_pour_26 rfl rfl ?_
    refine r_iadd dX8_pour_27 ?_
    refine r_mmin lX8_67 dX8_pour_28 (Nat.le_of_ble_eq_true rfl) ?_
    refine r_iast (k := 35) (i := u0) rfl (ho35 hu0) q1 dX8_pour_31 ?_
    exact r_vret dX8_pour_32 rfl H
set_option maxRecDepth 100000 in
theorem bX8_lose_0 {d : Nat} {Q : Option MV → MS → Prop} {u0 : Nat} {x1 : Int32} {x2 : Int32} {σ : MS} (hu0 : u0 < 3) (H : (vp_in x1 7 ∧ Q none (uI σ 35 u0 ((x1).toNatClampNeg) (if (0 : Int32) < ((σ.1 35 u0 ((x1).toNatClampNeg)) - x2) then ((σ.1 35 u0 ((x1).toNatClampNeg)) - x2) else (0 : Int32))))) : R mj_OC (d + 1) mX8_lose Q 0 [some (rV 6 u0), some (iV x1), some (iV x2)] [] σ := by
  refine r_aload_n dX8_lose_0 rfl rfl ?_
  refine r_get (k := 6) (i := u0) (j := 1) (v := rV 35 u0) rfl rfl (ho6 hu0) rfl hX8 (by decide) rfl fX8_9 dX8_lose_1 (fun _ => rfl) ?_
  refine r_iload_n dX8_lose_4 rfl rfl ?_
  refine r_iconst (v := (0 : Int32)) dX8_lose_5 rfl ?_
  refine r_aload_n dX8_lose_6 rfl rfl ?_
  refine r_get (k := 6) (i := u0) (j := 1) (v := rV 35 u0) rfl rfl (ho6 hu0) rfl hX8 (by decide) rfl fX8_9 dX8_lose_7 (fun _ => rfl) ?_
  refine r_iload_n dX8_lose_10 rfl rfl ?_
  obtain ⟨q1, H⟩ := H
  refine r_iald (k := 35) (i := u0) rfl (ho35 hu0) q1 dX8_lose_11 ?_
  refine r_iload_n dX8_lose_12 rfl rfl ?_
  refine r_isub dX8_lose_13 ?_
  refine r_mmax lX8_92 dX8_lose_14 (Nat.le_of_ble_eq_true rfl) ?_
  refine r_iast (k := 35) (i := u0) rfl (ho35 hu0) q1 dX8_lose_17 ?_
  exact r_vret dX8_lose_18 rfl H
set_option maxRecDepth 100000 in
theorem bX8_waterOf_0 {d : Nat} {Q : Option MV → MS → Prop} {u0 : Nat} {x1 : Int32} {σ : MS} (hu0 : u0 < 3) (H : R mj_OC d mX8_waterOf Q 4 [some (rV 6 u0), some (iV x1), some (iV (0 : Int32)), some (iV (0 : Int32))] [] σ) : R mj_OC d mX8_waterOf Q 0 [some (rV 6 u0), some (iV x1), none, none] [] σ := by
  refine r_iconst (v := (0 : Int32)) dX8_waterOf_0 rfl ?_
  refine r_istore_n dX8_waterOf_1 rfl (by decide) rfl ?_
  refine r_iconst (v := (0 : Int32)) dX8_waterOf_2 rfl ?_
  refine r_istore_n dX8_waterOf_3 rfl (by decide) rfl ?_
  exact H
set_option maxRecDepth 100000 in
theorem bX8_waterOf_4 {d : Nat} {Q : Option MV → MS → Prop} {u0 : Nat} {x1 : Int32} {x2 : Int32} {x3 : Int32} {σ : MS} (hu0 : u0 < 3) (H : (σ.2.2 6 u0 < 2 ∧ (((σ.1 3 (σ.2.2 6 u0) 0) ≤ x3 → Q (some (iV x2)) σ) ∧ (¬ (σ.1 3 (σ.2.2 6 u0) 0) ≤ x3 → ((¬ ((x1 >>> (x3 &&& 31)) &&& (1 : Int32)) = (1 : Int32) → R mj_OC d mX8_waterOf Q 4 [some (rV 6 u0), some (iV x1), some (iV x2), some (iV (x3 + (1 : Int32)))] [] σ) ∧ (((x1 >>> (x3 &&& 31)) &&& (1 : Int32)) = (1 : Int32) → (vp_in x3 7 ∧ R mj_OC d mX8_waterOf Q 4 [some (rV 6 u0), some (iV x1), some (iV (x2 + (σ.1 35 u0 ((x3).toNatClampNeg)))), some (iV (x3 + (1 : Int32)))] [] σ))))))) : R mj_OC d mX8_waterOf Q 4 [some (rV 6 u0), some (iV x1), some (iV x2), some (iV x3)] [] σ := by
  refine r_iload_n dX8_waterOf_4 rfl rfl ?_
  refine r_aload_n dX8_waterOf_5 rfl rfl ?_
  refine r_get (k := 6) (i := u0) (j := 0) (v := rV 3 (σ.2.2 6 u0)) rfl rfl (ho6 hu0) rfl hX8 (by decide) rfl fX8_21 dX8_waterOf_6 (fun _ => rfl) ?_
  obtain ⟨q1, H⟩ := H
  refine r_get (k := 3) (i := (σ.2.2 6 u0)) (j := 0) (v := iV (σ.1 3 (σ.2.2 6 u0) 0)) rfl rfl (ho3 q1) rfl hX0 (by decide) rfl fX8_95 dX8_waterOf_9 (fun _ => rfl) ?_
  refine r_icmp_ge (tgt := 39) dX8_waterOf_12 (by decide) (fun c => ?_) (fun c => ?_)
  · have H := H.1 c
    refine r_iload_n dX8_waterOf_39 rfl rfl ?_
    exact r_iret dX8_waterOf_40 rfl H
  · have H := H.2 c
    refine r_iload_n dX8_waterOf_15 rfl rfl ?_
    refine r_iload_n dX8_waterOf_16 rfl rfl ?_
    refine r_ishr dX8_waterOf_17 ?_
    refine r_iconst (v := (1 : Int32)) dX8_waterOf_18 rfl ?_
    refine r_iand dX8_waterOf_19 ?_
    refine r_iconst (v := (1 : Int32)) dX8_waterOf_20 rfl ?_
    refine r_icmp_ne (tgt := 33) dX8_waterOf_21 (by decide) (fun c => ?_) (fun c => ?_)
    · have H := H.1 c
      refine r_iinc (v := x3 + (1 : Int32)) dX8_waterOf_33 rfl rfl (by decide) rfl ?_
      refine r_goto (tgt := 4) dX8_waterOf_36 (by decide) ?_
      exact H
    · have H := H.2 c
      refine r_iload_n dX8_waterOf_24 rfl rfl ?_
      refine r_aload_n dX8_waterOf_25 rfl rfl ?_
      refine r_get (k := 6) (i := u0) (j := 1) (v := rV 35 u0) rfl rfl (ho6 hu0) rfl hX8 (by decide) rfl fX8_9 dX8_waterOf_26 (fun _ => rfl) ?_
      refine r_iload_n dX8_waterOf_29 rfl rfl ?_
      obtain ⟨q2, H⟩ := H
      refine r_iald (k := 35) (i := u0) rfl (ho35 hu0) q2 dX8_waterOf_30 ?_
      refine r_iadd dX8_waterOf_31 ?_
      refine r_istore_n dX8_waterOf_32 rfl (by decide) rfl ?_
      refine r_iinc (v := x3 + (1 : Int32)) dX8_waterOf_33 rfl rfl (by decide) rfl ?_
      refine r_goto (tgt := 4) dX8_waterOf_36 (by decide) ?_
      exact H
set_option maxRecDepth 100000 in
theorem bX8_boatIn_0 {d : Nat} {Q : Option MV → MS → Prop} {u0 : Nat} {x1 : Int32} {σ : MS} (hu0 : u0 < 3) (H : R mj_OC d mX8_boatIn Q 2 [some (rV 6 u0), some (iV x1), some (iV (0 : Int32))] [] σ) : R mj_OC d mX8_boatIn Q 0 [some (rV 6 u0), some (iV x1), none] [] σ := by
  refine r_iconst (v := (0 : Int32)) dX8_boatIn_0 rfl ?_
  refine r_istore_n dX8_boatIn_1 rfl (by decide) rfl ?_
  exact H
set_option maxRecDepth 100000 in
theorem bX8_boatIn_2 {d : Nat} {Q : Option MV → MS → Prop} {u0 : Nat} {x1 : Int32} {x2 : Int32} {σ : MS} (hu0 : u0 < 3) (H : (σ.2.2 6 u0 < 2 ∧ (((σ.1 4 (σ.2.2 6 u0) 4) ≤ x2 → Q (some (iV (-1 : Int32))) σ) ∧ (¬ (σ.1 4 (σ.2.2 6 u0) 4) ≤ x2 → (vp_in x2 8 ∧ ((¬ (σ.1 36 u0 ((x2).toNatClampNeg)) = (1 : Int32) → R mj_OC d mX8_boatIn Q 2 [some (rV 6 u0), some (iV x1), some (iV (x2 + (1 : Int32)))] [] σ) ∧ ((σ.1 36 u0 ((x2).toNatClampNeg)) = (1 : Int32) → ((¬ (σ.1 28 (σ.2.2 6 u0) ((x2).toNatClampNeg)) = x1 → R mj_OC d mX8_boatIn Q 2 [some (rV 6 u0), some (iV x1), some (iV (x2 + (1 : Int32)))] [] σ) ∧ ((σ.1 28 (σ.2.2 6 u0) ((x2).toNatClampNeg)) = x1 → Q (some (iV x2)) σ))))))))) : R mj_OC d mX8_boatIn Q 2 [some (rV 6 u0), some (iV x1), some (iV x2)] [] σ := by
  refine r_iload_n dX8_boatIn_2 rfl rfl ?_
  refine r_aload_n dX8_boatIn_3 rfl rfl ?_
  refine r_get (k := 6) (i := u0) (j := 0) (v := rV 3 (σ.2.2 6 u0)) rfl rfl (ho6 hu0) rfl hX8 (by decide) rfl fX8_21 dX8_boatIn_4 (fun _ => rfl) ?_
  obtain ⟨q1, H⟩ := H
  refine r_get (k := 3) (i := (σ.2.2 6 u0)) (j := 14) (v := rV 4 (σ.2.2 6 u0)) rfl rfl (ho3 q1) rfl hX0 (by decide) rfl fX8_98 dX8_boatIn_7 (fun _ => rfl) ?_
  refine r_get (k := 4) (i := (σ.2.2 6 u0)) (j := 4) (v := iV (σ.1 4 (σ.2.2 6 u0) 4)) rfl rfl (ho4 q1) rfl hX4 (by decide) rfl fX8_102 dX8_boatIn_10 (fun _ => rfl) ?_
  refine r_icmp_ge (tgt := 50) dX8_boatIn_13 (by decide) (fun c => ?_) (fun c => ?_)
  · have H := H.1 c
    refine r_iconst (v := (-1 : Int32)) dX8_boatIn_50 rfl ?_
    exact r_iret dX8_boatIn_51 rfl H
  · have H := H.2 c
    refine r_aload_n dX8_boatIn_16 rfl rfl ?_
    refine r_get (k := 6) (i := u0) (j := 3) (v := rV 36 u0) rfl rfl (ho6 hu0) rfl hX8 (by decide) rfl fX8_15 dX8_boatIn_17 (fun _ => rfl) ?_
    refine r_iload_n dX8_boatIn_20 rfl rfl ?_
    obtain ⟨q2, H⟩ := H
    refine r_iald (k := 36) (i := u0) rfl (ho36 hu0) q2 dX8_boatIn_21 ?_
    refine r_iconst (v := (1 : Int32)) dX8_boatIn_22 rfl ?_
    refine r_icmp_ne (tgt := 44) dX8_boatIn_23 (by decide) (fun c => ?_) (fun c => ?_)
    · have H := H.1 c
      refine r_iinc (v := x2 + (1 : Int32)) dX8_boatIn_44 rfl rfl (by decide) rfl ?_
      refine r_goto (tgt := 2) dX8_boatIn_47 (by decide) ?_
      exact H
    · have H := H.2 c
      refine r_aload_n dX8_boatIn_26 rfl rfl ?_
      refine r_get (k := 6) (i := u0) (j := 0) (v := rV 3 (σ.2.2 6 u0)) rfl rfl (ho6 hu0) rfl hX8 (by decide) rfl fX8_21 dX8_boatIn_27 (fun _ => rfl) ?_
      refine r_get (k := 3) (i := (σ.2.2 6 u0)) (j := 14) (v := rV 4 (σ.2.2 6 u0)) rfl rfl (ho3 q1) rfl hX0 (by decide) rfl fX8_98 dX8_boatIn_30 (fun _ => rfl) ?_
      refine r_get (k := 4) (i := (σ.2.2 6 u0)) (j := 5) (v := rV 28 (σ.2.2 6 u0)) rfl rfl (ho4 q1) rfl hX4 (by decide) rfl fX8_107 dX8_boatIn_33 (fun _ => rfl) ?_
      refine r_iload_n dX8_boatIn_36 rfl rfl ?_
      refine r_iald (k := 28) (i := (σ.2.2 6 u0)) rfl (ho28 q1) q2 dX8_boatIn_37 ?_
      refine r_iload_n dX8_boatIn_38 rfl rfl ?_
      refine r_icmp_ne (tgt := 44) dX8_boatIn_39 (by decide) (fun c => ?_) (fun c => ?_)
      · have H := H.1 c
        refine r_iinc (v := x2 + (1 : Int32)) dX8_boatIn_44 rfl rfl (by decide) rfl ?_
        refine r_goto (tgt := 2) dX8_boatIn_47 (by decide) ?_
        exact H
      · have H := H.2 c
        refine r_iload_n dX8_boatIn_42 rfl rfl ?_
        exact r_iret dX8_boatIn_43 rfl H
set_option maxRecDepth 100000 in
theorem bX8_letIn_0 {d : Nat} {Q : Option MV → MS → Prop} {u0 : Nat} {x1 : Int32} {x2 : Int32} {σ : MS} (hu0 : u0 < 3) (H : (vp_in x1 8 ∧ ((¬ (σ.1 36 u0 ((x1).toNatClampNeg)) = 0 → Q none σ) ∧ ((σ.1 36 u0 ((x1).toNatClampNeg)) = 0 → (R mj_OC d mX8_boatIn (fun r σ' => R mj_OC (d + 1) mX8_letIn Q 14 [some (rV 6 u0), some (iV x1), some (iV x2)] (r.toList ++ []) σ') 0 [some (rV 6 u0), some (iV x2), none] [] σ))))) : R mj_OC (d + 1) mX8_letIn Q 0 [some (rV 6 u0), some (iV x1), some (iV x2)] [] σ := by
  refine r_aload_n dX8_letIn_0 rfl rfl ?_
  refine r_get (k := 6) (i := u0) (j := 3) (v := rV 36 u0) rfl rfl (ho6 hu0) rfl hX8 (by decide) rfl fX8_15 dX8_letIn_1 (fun _ => rfl) ?_
  refine r_iload_n dX8_letIn_4 rfl rfl ?_
  obtain ⟨q1, H⟩ := H
  refine r_iald (k := 36) (i := u0) rfl (ho36 hu0) q1 dX8_letIn_5 ?_
  refine r_if_ne (tgt := 56) dX8_letIn_6 (by decide) (fun c => ?_) (fun c => ?_)
  · have H := H.1 c
    exact r_vret dX8_letIn_56 rfl H
  · have H := H.2 c
    refine r_aload_n dX8_letIn_9 rfl rfl ?_
    refine r_iload_n dX8_letIn_10 rfl rfl ?_
    refine r_callV (z := 1) (k := 6) (i := u0) (As := [iV x2]) (st := []) kX8_boatIn i_X8_boatIn e_X8_boatIn lX8_110 dX8_letIn_11 rfl rfl (ho6 hu0) rfl rfl rfl rfl rfl (Nat.le_of_ble_eq_true rfl) ?_
    exact H
set_option maxRecDepth 100000 in
theorem bX8_letIn_14 {d : Nat} {Q : Option MV → MS → Prop} {u0 : Nat} {x1 : Int32} {x2 : Int32} {s0 : Int32} {σ : MS} (hu0 : u0 < 3) (H : ((¬ s0 = (-1 : Int32) → Q none σ) ∧ (s0 = (-1 : Int32) → (σ.2.2 6 u0 < 2 ∧ vp_in x2 3 ∧ (R mj_OC d mX8_isAtMost (fun r σ' => R mj_OC (d + 1) mX8_letIn Q 46 [some (rV 6 u0), some (iV x1), some (iV x2)] (r.toList ++ []) σ') 0 [some (rV 6 u0), some (iV (σ.1 25 (σ.2.2 6 u0) ((x2).toNatClampNeg))), some (iV (σ.1 26 (σ.2.2 6 u0) ((x2).toNatClampNeg)))] [] σ))))) : R mj_OC (d + 1) mX8_letIn Q 14 [some (rV 6 u0), some (iV x1), some (iV x2)] [iV s0] σ := by
  refine r_iconst (v := (-1 : Int32)) dX8_letIn_14 rfl ?_
  refine r_icmp_ne (tgt := 56) dX8_letIn_15 (by decide) (fun c => ?_) (fun c => ?_)
  · have H := H.1 c
    exact r_vret dX8_letIn_56 rfl H
  · have H := H.2 c
    refine r_aload_n dX8_letIn_18 rfl rfl ?_
    refine r_aload_n dX8_letIn_19 rfl rfl ?_
    refine r_get (k := 6) (i := u0) (j := 0) (v := rV 3 (σ.2.2 6 u0)) rfl rfl (ho6 hu0) rfl hX8 (by decide) rfl fX8_21 dX8_letIn_20 (fun _ => rfl) ?_
    obtain ⟨q1, H⟩ := H
    refine r_get (k := 3) (i := (σ.2.2 6 u0)) (j := 14) (v := rV 4 (σ.2.2 6 u0)) rfl rfl (ho3 q1) rfl hX0 (by decide) rfl fX8_98 dX8_letIn_23 (fun _ => rfl) ?_
    refine r_get (k := 4) (i := (σ.2.2 6 u0)) (j := 1) (v := rV 25 (σ.2.2 6 u0)) rfl rfl (ho4 q1) rfl hX4 (by decide) rfl fX8_113 dX8_letIn_26 (fun _ => rfl) ?_
    refine r_iload_n dX8_letIn_29 rfl rfl ?_
    obtain ⟨q2, H⟩ := H
    refine r_iald (k := 25) (i := (σ.2.2 6 u0)) rfl (ho25 q1) q2 dX8_letIn_30 ?_
    refine r_aload_n dX8_letIn_31 rfl rfl ?_
    refine r_get (k := 6) (i := u0) (j := 0) (v := rV 3 (σ.2.2 6 u0)) rfl rfl (ho6 hu0) rfl hX8 (by decide) rfl fX8_21 dX8_letIn_32 (fun _ => rfl) ?_
    refine r_get (k := 3) (i := (σ.2.2 6 u0)) (j := 14) (v := rV 4 (σ.2.2 6 u0)) rfl rfl (ho3 q1) rfl hX0 (by decide) rfl fX8_98 dX8_letIn_35 (fun _ => rfl) ?_
    refine r_get (k := 4) (i := (σ.2.2 6 u0)) (j := 2) (v := rV 26 (σ.2.2 6 u0)) rfl rfl (ho4 q1) rfl hX4 (by decide) rfl fX8_116 dX8_letIn_38 (fun _ => rfl) ?_
    refine r_iload_n dX8_letIn_41 rfl rfl ?_
    refine r_iald (k := 26) (i := (σ.2.2 6 u0)) rfl (ho26 q1) q2 dX8_letIn_42 ?_
    refine r_callV (z := 0) (k := 6) (i := u0) (As := [iV (σ.1 25 (σ.2.2 6 u0) ((x2).toNatClampNeg)), iV (σ.1 26 (σ.2.2 6 u0) ((x2).toNatClampNeg))]) (st := []) kX8_isAtMost i_X8_isAtMost e_X8_isAtMost lX8_119 dX8_letIn_43 rfl rfl (ho6 hu0) rfl rfl rfl rfl rfl (Nat.le_of_ble_eq_true rfl) ?_
    exact H
set_option maxRecDepth 100000 in
theorem bX8_letIn_46 {d : Nat} {Q : Option MV → MS → Prop} {u0 : Nat} {x1 : Int32} {x2 : Int32} {s0 : Int32} {σ : MS} (hu0 : u0 < 3) (H : ((s0 = 0 → Q none σ) ∧ (¬ s0 = 0 → (vp_in x1 8 ∧ Q none (uI σ 36 u0 ((x1).toNatClampNeg) (1 : Int32)))))) : R mj_OC d mX8_letIn Q 46 [some (rV 6 u0), some (iV x1), some (iV x2)] [iV s0] σ := by
  refine r_if_eq (tgt := 56) dX8_letIn_46 (by decide) (fun c => ?_) (fun c => ?_)
  · have H := H.1 c
    exact r_vret dX8_letIn_56 rfl H
  · have H := H.2 c
    refine r_aload_n dX8_letIn_49 rfl rfl ?_
    refine r_get (k := 6) (i := u0) (j := 3) (v := rV 36 u0) rfl rfl (ho6 hu0) rfl hX8 (by decide) rfl fX8_15 dX8_letIn_50 (fun _ => rfl) ?_
    refine r_iload_n dX8_letIn_53 rfl rfl ?_
    refine r_iconst (v := (1 : Int32)) dX8_letIn_54 rfl ?_
    obtain ⟨q1, H⟩ := H
    refine r_iast (k := 36) (i := u0) rfl (ho36 hu0) q1 dX8_letIn_55 ?_
    exact r_vret dX8_letIn_56 rfl H
set_option maxRecDepth 100000 in
theorem bX8_canGoUp_0 {d : Nat} {Q : Option MV → MS → Prop} {u0 : Nat} {x1 : Int32} {x2 : Int32} {σ : MS} (hu0 : u0 < 3) (H : (vp_in x1 8 ∧ ((¬ (σ.1 36 u0 ((x1).toNatClampNeg)) = (1 : Int32) → Q (some (iV (0 : Int32))) σ) ∧ ((σ.1 36 u0 ((x1).toNatClampNeg)) = (1 : Int32) → (σ.2.2 6 u0 < 2 ∧ vp_in x2 3 ∧ (R mj_OC d mX8_isAtLeast (fun r σ' => R mj_OC (d + 1) mX8_canGoUp Q 38 [some (rV 6 u0), some (iV x1), some (iV x2)] (r.toList ++ []) σ') 0 [some (rV 6 u0), some (iV (σ.1 25 (σ.2.2 6 u0) ((x2).toNatClampNeg))), some (iV (σ.1 27 (σ.2.2 6 u0) ((x2).toNatClampNeg)))] [] σ)))))) : R mj_OC (d + 1) mX8_canGoUp Q 0 [some (rV 6 u0), some (iV x1), some (iV x2)] [] σ := by
  refine r_aload_n dX8_canGoUp_0 rfl rfl ?_
  refine r_get (k := 6) (i := u0) (j := 3) (v := rV 36 u0) rfl rfl (ho6 hu0) rfl hX8 (by decide) rfl fX8_15 dX8_canGoUp_1 (fun _ => rfl) ?_
  refine r_iload_n dX8_canGoUp_4 rfl rfl ?_
  obtain ⟨q1, H⟩ := H
  refine r_iald (k := 36) (i := u0) rfl (ho36 hu0) q1 dX8_canGoUp_5 ?_
  refine r_iconst (v := (1 : Int32)) dX8_canGoUp_6 rfl ?_
  refine r_icmp_ne (tgt := 45) dX8_canGoUp_7 (by decide) (fun c => ?_) (fun c => ?_)
  · have H := H.1 c
    refine r_iconst (v := (0 : Int32)) dX8_canGoUp_45 rfl ?_
    exact r_zret dX8_canGoUp_46 rfl (by decide) H
  · have H := H.2 c
    refine r_aload_n dX8_canGoUp_10 rfl rfl ?_
    refine r_aload_n dX8_canGoUp_11 rfl rfl ?_
    refine r_get (k := 6) (i := u0) (j := 0) (v := rV 3 (σ.2.2 6 u0)) rfl rfl (ho6 hu0) rfl hX8 (by decide) rfl fX8_21 dX8_canGoUp_12 (fun _ => rfl) ?_
    obtain ⟨q2, H⟩ := H
    refine r_get (k := 3) (i := (σ.2.2 6 u0)) (j := 14) (v := rV 4 (σ.2.2 6 u0)) rfl rfl (ho3 q2) rfl hX0 (by decide) rfl fX8_98 dX8_canGoUp_15 (fun _ => rfl) ?_
    refine r_get (k := 4) (i := (σ.2.2 6 u0)) (j := 1) (v := rV 25 (σ.2.2 6 u0)) rfl rfl (ho4 q2) rfl hX4 (by decide) rfl fX8_113 dX8_canGoUp_18 (fun _ => rfl) ?_
    refine r_iload_n dX8_canGoUp_21 rfl rfl ?_
    obtain ⟨q3, H⟩ := H
    refine r_iald (k := 25) (i := (σ.2.2 6 u0)) rfl (ho25 q2) q3 dX8_canGoUp_22 ?_
    refine r_aload_n dX8_canGoUp_23 rfl rfl ?_
    refine r_get (k := 6) (i := u0) (j := 0) (v := rV 3 (σ.2.2 6 u0)) rfl rfl (ho6 hu0) rfl hX8 (by decide) rfl fX8_21 dX8_canGoUp_24 (fun _ => rfl) ?_
    refine r_get (k := 3) (i := (σ.2.2 6 u0)) (j := 14) (v := rV 4 (σ.2.2 6 u0)) rfl rfl (ho3 q2) rfl hX0 (by decide) rfl fX8_98 dX8_canGoUp_27 (fun _ => rfl) ?_
    refine r_get (k := 4) (i := (σ.2.2 6 u0)) (j := 3) (v := rV 27 (σ.2.2 6 u0)) rfl rfl (ho4 q2) rfl hX4 (by decide) rfl fX8_123 dX8_canGoUp_30 (fun _ => rfl) ?_
    refine r_iload_n dX8_canGoUp_33 rfl rfl ?_
    refine r_iald (k := 27) (i := (σ.2.2 6 u0)) rfl (ho27 q2) q3 dX8_canGoUp_34 ?_
    refine r_callV (z := 0) (k := 6) (i := u0) (As := [iV (σ.1 25 (σ.2.2 6 u0) ((x2).toNatClampNeg)), iV (σ.1 27 (σ.2.2 6 u0) ((x2).toNatClampNeg))]) (st := []) kX8_isAtLeast i_X8_isAtLeast e_X8_isAtLeast lX8_126 dX8_canGoUp_35 rfl rfl (ho6 hu0) rfl rfl rfl rfl rfl (Nat.le_of_ble_eq_true rfl) ?_
    exact H
set_option maxRecDepth 100000 in
theorem bX8_canGoUp_38 {d : Nat} {Q : Option MV → MS → Prop} {u0 : Nat} {x1 : Int32} {x2 : Int32} {s0 : Int32} {σ : MS} (hu0 : u0 < 3) (H : ((s0 = 0 → Q (some (iV (0 : Int32))) σ) ∧ (¬ s0 = 0 → Q (some (iV (1 : Int32))) σ))) : R mj_OC d mX8_canGoUp Q 38 [some (rV 6 u0), some (iV x1), some (iV x2)] [iV s0] σ := by
  refine r_if_eq (tgt := 45) dX8_canGoUp_38 (by decide) (fun c => ?_) (fun c => ?_)
  · have H := H.1 c
    refine r_iconst (v := (0 : Int32)) dX8_canGoUp_45 rfl ?_
    exact r_zret dX8_canGoUp_46 rfl (by decide) H
  · have H := H.2 c
    refine r_iconst (v := (1 : Int32)) dX8_canGoUp_41 rfl ?_
    refine r_goto (tgt := 46) dX8_canGoUp_42 (by decide) ?_
    exact r_zret dX8_canGoUp_46 rfl (by decide) H
set_option maxRecDepth 100000 in
theorem bX8_boatsThatAre_0 {d : Nat} {Q : Option MV → MS → Prop} {u0 : Nat} {x1 : Int32} {σ : MS} (hu0 : u0 < 3) (H : R mj_OC d mX8_boatsThatAre Q 4 [some (rV 6 u0), some (iV x1), some (iV (0 : Int32)), some (iV (0 : Int32))] [] σ) : R mj_OC d mX8_boatsThatAre Q 0 [some (rV 6 u0), some (iV x1), none, none] [] σ := by
  refine r_iconst (v := (0 : Int32)) dX8_boatsThatAre_0 rfl ?_
  refine r_istore_n dX8_boatsThatAre_1 rfl (by decide) rfl ?_
  refine r_iconst (v := (0 : Int32)) dX8_boatsThatAre_2 rfl ?_
  refine r_istore_n dX8_boatsThatAre_3 rfl (by decide) rfl ?_
  exact H
set_option maxRecDepth 100000 in
theorem bX8_boatsThatAre_4 {d : Nat} {Q : Option MV → MS → Prop} {u0 : Nat} {x1 : Int32} {x2 : Int32} {x3 : Int32} {σ : MS} (hu0 : u0 < 3) (H : (σ.2.2 6 u0 < 2 ∧ (((σ.1 4 (σ.2.2 6 u0) 4) ≤ x3 → Q (some (iV x2)) σ) ∧ (¬ (σ.1 4 (σ.2.2 6 u0) 4) ≤ x3 → (vp_in x3 8 ∧ ((¬ (σ.1 36 u0 ((x3).toNatClampNeg)) = x1 → R mj_OC d mX8_boatsThatAre Q 4 [some (rV 6 u0), some (iV x1), some (iV x2), some (iV (x3 + (1 : Int32)))] [] σ) ∧ ((σ.1 36 u0 ((x3).toNatClampNeg)) = x1 → R mj_OC d mX8_boatsThatAre Q 4 [some (rV 6 u0), some (iV x1), some (iV (x2 + (1 : Int32))), some (iV (x3 + (1 : Int32)))] [] σ))))))) : R mj_OC d mX8_boatsThatAre Q 4 [some (rV 6 u0), some (iV x1), some (iV x2), some (iV x3)] [] σ := by
  refine r_iload_n dX8_boatsThatAre_4 rfl rfl ?_
  refine r_aload_n dX8_boatsThatAre_5 rfl rfl ?_
  refine r_get (k := 6) (i := u0) (j := 0) (v := rV 3 (σ.2.2 6 u0)) rfl rfl (ho6 hu0) rfl hX8 (by decide) rfl fX8_21 dX8_boatsThatAre_6 (fun _ => rfl) ?_
  obtain ⟨q1, H⟩ := H
  refine r_get (k := 3) (i := (σ.2.2 6 u0)) (j := 14) (v := rV 4 (σ.2.2 6 u0)) rfl rfl (ho3 q1) rfl hX0 (by decide) rfl fX8_98 dX8_boatsThatAre_9 (fun _ => rfl) ?_
  refine r_get (k := 4) (i := (σ.2.2 6 u0)) (j := 4) (v := iV (σ.1 4 (σ.2.2 6 u0) 4)) rfl rfl (ho4 q1) rfl hX4 (by decide) rfl fX8_102 dX8_boatsThatAre_12 (fun _ => rfl) ?_
  refine r_icmp_ge (tgt := 37) dX8_boatsThatAre_15 (by decide) (fun c => ?_) (fun c => ?_)
  · have H := H.1 c
    refine r_iload_n dX8_boatsThatAre_37 rfl rfl ?_
    exact r_iret dX8_boatsThatAre_38 rfl H
  · have H := H.2 c
    refine r_aload_n dX8_boatsThatAre_18 rfl rfl ?_
    refine r_get (k := 6) (i := u0) (j := 3) (v := rV 36 u0) rfl rfl (ho6 hu0) rfl hX8 (by decide) rfl fX8_15 dX8_boatsThatAre_19 (fun _ => rfl) ?_
    refine r_iload_n dX8_boatsThatAre_22 rfl rfl ?_
    obtain ⟨q2, H⟩ := H
    refine r_iald (k := 36) (i := u0) rfl (ho36 hu0) q2 dX8_boatsThatAre_23 ?_
    refine r_iload_n dX8_boatsThatAre_24 rfl rfl ?_
    refine r_icmp_ne (tgt := 31) dX8_boatsThatAre_25 (by decide) (fun c => ?_) (fun c => ?_)
    · have H := H.1 c
      refine r_iinc (v := x3 + (1 : Int32)) dX8_boatsThatAre_31 rfl rfl (by decide) rfl ?_
      refine r_goto (tgt := 4) dX8_boatsThatAre_34 (by decide) ?_
      exact H
    · have H := H.2 c
      refine r_iinc (v := x2 + (1 : Int32)) dX8_boatsThatAre_28 rfl rfl (by decide) rfl ?_
      refine r_iinc (v := x3 + (1 : Int32)) dX8_boatsThatAre_31 rfl rfl (by decide) rfl ?_
      refine r_goto (tgt := 4) dX8_boatsThatAre_34 (by decide) ?_
      exact H
set_option maxRecDepth 100000 in
theorem bX8_waitedByAll_0 {d : Nat} {Q : Option MV → MS → Prop} {u0 : Nat} {σ : MS} (hu0 : u0 < 3) (H : R mj_OC d mX8_waitedByAll Q 4 [some (rV 6 u0), some (iV (0 : Int32)), some (iV (0 : Int32))] [] σ) : R mj_OC d mX8_waitedByAll Q 0 [some (rV 6 u0), none, none] [] σ := by
  refine r_iconst (v := (0 : Int32)) dX8_waitedByAll_0 rfl ?_
  refine r_istore_n dX8_waitedByAll_1 rfl (by decide) rfl ?_
  refine r_iconst (v := (0 : Int32)) dX8_waitedByAll_2 rfl ?_
  refine r_istore_n dX8_waitedByAll_3 rfl (by decide) rfl ?_
  exact H
set_option maxRecDepth 100000 in
theorem bX8_waitedByAll_4 {d : Nat} {Q : Option MV → MS → Prop} {u0 : Nat} {x1 : Int32} {x2 : Int32} {σ : MS} (hu0 : u0 < 3) (H : (σ.2.2 6 u0 < 2 ∧ (((σ.1 4 (σ.2.2 6 u0) 4) ≤ x2 → Q (some (iV x1)) σ) ∧ (¬ (σ.1 4 (σ.2.2 6 u0) 4) ≤ x2 → (vp_in x2 8 ∧ R mj_OC d mX8_waitedByAll Q 4 [some (rV 6 u0), some (iV (x1 + (σ.1 37 u0 ((x2).toNatClampNeg)))), some (iV (x2 + (1 : Int32)))] [] σ))))) : R mj_OC d mX8_waitedByAll Q 4 [some (rV 6 u0), some (iV x1), some (iV x2)] [] σ := by
  refine r_iload_n dX8_waitedByAll_4 rfl rfl ?_
  refine r_aload_n dX8_waitedByAll_5 rfl rfl ?_
  refine r_get (k := 6) (i := u0) (j := 0) (v := rV 3 (σ.2.2 6 u0)) rfl rfl (ho6 hu0) rfl hX8 (by decide) rfl fX8_21 dX8_waitedByAll_6 (fun _ => rfl) ?_
  obtain ⟨q1, H⟩ := H
  refine r_get (k := 3) (i := (σ.2.2 6 u0)) (j := 14) (v := rV 4 (σ.2.2 6 u0)) rfl rfl (ho3 q1) rfl hX0 (by decide) rfl fX8_98 dX8_waitedByAll_9 (fun _ => rfl) ?_
  refine r_get (k := 4) (i := (σ.2.2 6 u0)) (j := 4) (v := iV (σ.1 4 (σ.2.2 6 u0) 4)) rfl rfl (ho4 q1) rfl hX4 (by decide) rfl fX8_102 dX8_waitedByAll_12 (fun _ => rfl) ?_
  refine r_icmp_ge (tgt := 33) dX8_waitedByAll_15 (by decide) (fun c => ?_) (fun c => ?_)
  · have H := H.1 c
    refine r_iload_n dX8_waitedByAll_33 rfl rfl ?_
    exact r_iret dX8_waitedByAll_34 rfl H
  · have H := H.2 c
    refine r_iload_n dX8_waitedByAll_18 rfl rfl ?_
    refine r_aload_n dX8_waitedByAll_19 rfl rfl ?_
    refine r_get (k := 6) (i := u0) (j := 4) (v := rV 37 u0) rfl rfl (ho6 hu0) rfl hX8 (by decide) rfl fX8_18 dX8_waitedByAll_20 (fun _ => rfl) ?_
    refine r_iload_n dX8_waitedByAll_23 rfl rfl ?_
    obtain ⟨q2, H⟩ := H
    refine r_iald (k := 37) (i := u0) rfl (ho37 hu0) q2 dX8_waitedByAll_24 ?_
    refine r_iadd dX8_waitedByAll_25 ?_
    refine r_istore_n dX8_waitedByAll_26 rfl (by decide) rfl ?_
    refine r_iinc (v := x2 + (1 : Int32)) dX8_waitedByAll_27 rfl rfl (by decide) rfl ?_
    refine r_goto (tgt := 4) dX8_waitedByAll_30 (by decide) ?_
    exact H
set_option maxRecDepth 100000 in
theorem bX8_nextNumber_0 {d : Nat} {Q : Option MV → MS → Prop} {u0 : Nat} {σ : MS} (hu0 : u0 < 3) (H : Q (some (iV (((((((σ.1 6 u0 7).toInt64) * (1103515245 : Int64)) + (12345 : Int64)) &&& (2147483647 : Int64)).toInt32) >>> ((16 : Int32) &&& 31)))) (uI σ 6 u0 7 ((((((σ.1 6 u0 7).toInt64) * (1103515245 : Int64)) + (12345 : Int64)) &&& (2147483647 : Int64)).toInt32))) : R mj_OC d mX8_nextNumber Q 0 [some (rV 6 u0)] [] σ := by
  refine r_aload_n dX8_nextNumber_0 rfl rfl ?_
  refine r_aload_n dX8_nextNumber_1 rfl rfl ?_
  refine r_get (k := 6) (i := u0) (j := 7) (v := iV (σ.1 6 u0 7)) rfl rfl (ho6 hu0) rfl hX8 (by decide) rfl fX8_41 dX8_nextNumber_2 (fun _ => rfl) ?_
  refine r_i2l (v := (σ.1 6 u0 7).toInt64) dX8_nextNumber_5 rfl ?_
  refine r_ldc2 (v := (1103515245 : Int64)) olX8_129 dX8_nextNumber_6 ?_
  refine r_lmul dX8_nextNumber_9 ?_
  refine r_ldc2 (v := (12345 : Int64)) olX8_131 dX8_nextNumber_10 ?_
  refine r_ladd dX8_nextNumber_13 ?_
  refine r_ldc2 (v := (2147483647 : Int64)) olX8_133 dX8_nextNumber_14 ?_
  refine r_land dX8_nextNumber_17 ?_
  refine r_l2i (v := (((((σ.1 6 u0 7).toInt64) * (1103515245 : Int64)) + (12345 : Int64)) &&& (2147483647 : Int64)).toInt32) dX8_nextNumber_18 rfl ?_
  refine r_putI (k := 6) (i := u0) (j := 7) (ty0 := tyX8) rfl rfl (ho6 hu0) rfl hX8 (by decide) rfl fX8_41 dX8_nextNumber_19 rfl tyX8_ok nmX8 rfl rfl rfl ?_
  refine r_aload_n dX8_nextNumber_22 rfl rfl ?_
  refine r_get (k := 6) (i := u0) (j := 7) (v := iV ((((((σ.1 6 u0 7).toInt64) * (1103515245 : Int64)) + (12345 : Int64)) &&& (2147483647 : Int64)).toInt32)) rfl rfl (ho6 hu0) rfl hX8 (by decide) rfl fX8_41 dX8_nextNumber_23 (fun _ => by simp [mj_fv, mj_rv, uI]) ?_
  refine r_bipush (v := (16 : Int32)) dX8_nextNumber_26 rfl ?_
  refine r_ishr dX8_nextNumber_28 ?_
  exact r_iret dX8_nextNumber_29 rfl H
