set_option maxRecDepth 100000 in
theorem bX0_clear_0 {d : Nat} {Q : Option MV → MS → Prop} {u0 : Nat} {σ : MS} (hu0 : u0 < 2) (H : R mj_OC d mX0_clear Q 17 [some (rV 3 u0), some (iV (0 : Int32))] [] (uI (uI (uI σ 3 u0 0 (0 : Int32)) 3 u0 6 (0 : Int32)) 3 u0 10 (0 : Int32))) : R mj_OC d mX0_clear Q 0 [some (rV 3 u0), none] [] σ := by
  refine r_aload_n dX0_clear_0 rfl rfl ?_
  refine r_iconst (v := (0 : Int32)) dX0_clear_1 rfl ?_
  refine r_putI (k := 3) (i := u0) (j := 0) (ty0 := tyX0) rfl rfl (ho3 hu0) rfl hX0 (by decide) rfl fX0_53 dX0_clear_2 rfl tyX0_ok nmX0 rfl rfl rfl ?_
  refine r_aload_n dX0_clear_5 rfl rfl ?_
  refine r_iconst (v := (0 : Int32)) dX0_clear_6 rfl ?_
  refine r_putI (k := 3) (i := u0) (j := 6) (ty0 := tyX0) rfl rfl (ho3 hu0) rfl hX0 (by decide) rfl fX0_57 dX0_clear_7 rfl tyX0_ok nmX0 rfl rfl rfl ?_
  refine r_aload_n dX0_clear_10 rfl rfl ?_
  refine r_iconst (v := (0 : Int32)) dX0_clear_11 rfl ?_
  refine r_putI (k := 3) (i := u0) (j := 10) (ty0 := tyX0) rfl rfl (ho3 hu0) rfl hX0 (by decide) rfl fX0_60 dX0_clear_12 rfl tyX0_ok nmX0 rfl rfl rfl ?_
  refine r_iconst (v := (0 : Int32)) dX0_clear_15 rfl ?_
  refine r_istore_n dX0_clear_16 rfl (by decide) rfl ?_
  exact H
set_option maxRecDepth 100000 in
theorem bX0_clear_17 {d : Nat} {Q : Option MV → MS → Prop} {u0 : Nat} {x1 : Int32} {σ : MS} (hu0 : u0 < 2) (H : (((119 : Int32) ≤ x1 → (R mj_OC d mX4_clear (fun r σ' => R mj_OC (d + 1) mX0_clear Q 53 [some (rV 3 u0), some (iV x1)] (r.toList ++ []) σ') 0 [some (rV 4 u0)] [] (uI (uI σ 3 u0 12 (0 : Int32)) 3 u0 13 (0 : Int32)))) ∧ (¬ (119 : Int32) ≤ x1 → (vp_in x1 119 ∧ R mj_OC (d + 1) mX0_clear Q 17 [some (rV 3 u0), some (iV (x1 + (1 : Int32)))] [] (uI σ 24 u0 ((x1).toNatClampNeg) (0 : Int32)))))) : R mj_OC (d + 1) mX0_clear Q 17 [some (rV 3 u0), some (iV x1)] [] σ := by
  refine r_iload_n dX0_clear_17 rfl rfl ?_
  refine r_bipush (v := (119 : Int32)) dX0_clear_18 rfl ?_
  refine r_icmp_ge (tgt := 36) dX0_clear_20 (by decide) (fun c => ?_) (fun c => ?_)
  · have H := H.1 c
    refine r_aload_n dX0_clear_36 rfl rfl ?_
    refine r_iconst (v := (0 : Int32)) dX0_clear_37 rfl ?_
    refine r_putI (k := 3) (i := u0) (j := 12) (ty0 := tyX0) rfl rfl (ho3 hu0) rfl hX0 (by decide) rfl fX0_63 dX0_clear_38 rfl tyX0_ok nmX0 rfl rfl rfl ?_
    refine r_aload_n dX0_clear_41 rfl rfl ?_
    refine r_iconst (v := (0 : Int32)) dX0_clear_42 rfl ?_
    refine r_putI (k := 3) (i := u0) (j := 13) (ty0 := tyX0) rfl rfl (ho3 hu0) rfl hX0 (by decide) rfl fX0_66 dX0_clear_43 rfl tyX0_ok nmX0 rfl rfl rfl ?_
    refine r_aload_n dX0_clear_46 rfl rfl ?_
    refine r_get (k := 3) (i := u0) (j := 14) (v := rV 4 u0) rfl rfl (ho3 hu0) rfl hX0 (by decide) rfl fX0_42 dX0_clear_47 (fun _ => rfl) ?_
    refine r_callV (z := 0) (k := 4) (i := u0) (As := []) (st := []) kX4_clear i_X4_clear e_X4_clear lX0_69 dX0_clear_50 rfl rfl (ho4 hu0) rfl rfl rfl rfl rfl (Nat.le_of_ble_eq_true rfl) ?_
    exact H
  · have H := H.2 c
    refine r_aload_n dX0_clear_23 rfl rfl ?_
    refine r_get (k := 3) (i := u0) (j := 11) (v := rV 24 u0) rfl rfl (ho3 hu0) rfl hX0 (by decide) rfl fX0_36 dX0_clear_24 (fun _ => rfl) ?_
    refine r_iload_n dX0_clear_27 rfl rfl ?_
    refine r_iconst (v := (0 : Int32)) dX0_clear_28 rfl ?_
    obtain ⟨q1, H⟩ := H
    refine r_iast (k := 24) (i := u0) rfl (ho24 hu0) q1 dX0_clear_29 ?_
    refine r_iinc (v := x1 + (1 : Int32)) dX0_clear_30 rfl rfl (by decide) rfl ?_
    refine r_goto (tgt := 17) dX0_clear_33 (by decide) ?_
    exact H
set_option maxRecDepth 100000 in
theorem bX0_clear_53 {d : Nat} {Q : Option MV → MS → Prop} {u0 : Nat} {x1 : Int32} {σ : MS} (hu0 : u0 < 2) (H : (R mj_OC d mX3_clear (fun r σ' => R mj_OC (d + 1) mX0_clear Q 60 [some (rV 3 u0), some (iV x1)] (r.toList ++ []) σ') 0 [some (rV 5 u0), none] [] σ)) : R mj_OC (d + 1) mX0_clear Q 53 [some (rV 3 u0), some (iV x1)] [] σ := by
  refine r_aload_n dX0_clear_53 rfl rfl ?_
  refine r_get (k := 3) (i := u0) (j := 15) (v := rV 5 u0) rfl rfl (ho3 hu0) rfl hX0 (by decide) rfl fX0_49 dX0_clear_54 (fun _ => rfl) ?_
  refine r_callV (z := 1) (k := 5) (i := u0) (As := []) (st := []) kX3_clear i_X3_clear e_X3_clear lX0_72 dX0_clear_57 rfl rfl (ho5 hu0) rfl rfl rfl rfl rfl (Nat.le_of_ble_eq_true rfl) ?_
  exact H
set_option maxRecDepth 100000 in
theorem bX0_clear_60 {d : Nat} {Q : Option MV → MS → Prop} {u0 : Nat} {x1 : Int32} {σ : MS} (hu0 : u0 < 2) (H : Q none σ) : R mj_OC d mX0_clear Q 60 [some (rV 3 u0), some (iV x1)] [] σ := by
  exact r_vret dX0_clear_60 rfl H
set_option maxRecDepth 100000 in
theorem bX0_hasAllOf_0 {d : Nat} {Q : Option MV → MS → Prop} {u0 : Nat} {x1 : Int32} {σ : MS} (hu0 : u0 < 2) (H : ((x1 = 0 → (((σ.1 3 u0 0) < (7 : Int32) → Q (some (iV (0 : Int32))) σ) ∧ (¬ (σ.1 3 u0 0) < (7 : Int32) → Q (some (iV (1 : Int32))) σ))) ∧ (¬ x1 = 0 → ((x1 = 1 → (((σ.1 4 u0 0) < (3 : Int32) → Q (some (iV (0 : Int32))) σ) ∧ (¬ (σ.1 4 u0 0) < (3 : Int32) → Q (some (iV (1 : Int32))) σ))) ∧ (¬ x1 = 1 → ((x1 = 2 → (((σ.1 3 u0 6) < (10 : Int32) → Q (some (iV (0 : Int32))) σ) ∧ (¬ (σ.1 3 u0 6) < (10 : Int32) → Q (some (iV (1 : Int32))) σ))) ∧ (¬ x1 = 2 → ((x1 = 3 → (((σ.1 3 u0 10) < (12 : Int32) → Q (some (iV (0 : Int32))) σ) ∧ (¬ (σ.1 3 u0 10) < (12 : Int32) → Q (some (iV (1 : Int32))) σ))) ∧ (¬ x1 = 3 → ((x1 = 4 → (((σ.1 4 u0 4) < (8 : Int32) → Q (some (iV (0 : Int32))) σ) ∧ (¬ (σ.1 4 u0 4) < (8 : Int32) → Q (some (iV (1 : Int32))) σ))) ∧ (¬ x1 = 4 → Q (some (iV (0 : Int32))) σ))))))))))) : R mj_OC d mX0_hasAllOf Q 0 [some (rV 3 u0), some (iV x1)] [] σ := by
  refine r_iload_n dX0_hasAllOf_0 rfl rfl ?_
  by_cases c0 : x1 = 0
  · have H := H.1 c0
    refine r_tableIn (tgt := 36) (off := 35) dX0_hasAllOf_1 (by rw [c0]; decide) (by rw [c0]; decide) (by rw [c0]; rfl) (by decide) ?_
    refine r_aload_n dX0_hasAllOf_36 rfl rfl ?_
    refine r_get (k := 3) (i := u0) (j := 0) (v := iV (σ.1 3 u0 0)) rfl rfl (ho3 hu0) rfl hX0 (by decide) rfl fX0_53 dX0_hasAllOf_37 (fun _ => rfl) ?_
    refine r_bipush (v := (7 : Int32)) dX0_hasAllOf_40 rfl ?_
    refine r_icmp_lt (tgt := 49) dX0_hasAllOf_42 (by decide) (fun c => ?_) (fun c => ?_)
    · have H := H.1 c
      refine r_iconst (v := (0 : Int32)) dX0_hasAllOf_49 rfl ?_
      exact r_zret dX0_hasAllOf_50 rfl (by decide) H
    · have H := H.2 c
      refine r_iconst (v := (1 : Int32)) dX0_hasAllOf_45 rfl ?_
      refine r_goto (tgt := 50) dX0_hasAllOf_46 (by decide) ?_
      exact r_zret dX0_hasAllOf_50 rfl (by decide) H
  replace H := H.2 c0
  by_cases c1 : x1 = 1
  · have H := H.1 c1
    refine r_tableIn (tgt := 51) (off := 50) dX0_hasAllOf_1 (by rw [c1]; decide) (by rw [c1]; decide) (by rw [c1]; rfl) (by decide) ?_
    refine r_aload_n dX0_hasAllOf_51 rfl rfl ?_
    refine r_get (k := 3) (i := u0) (j := 14) (v := rV 4 u0) rfl rfl (ho3 hu0) rfl hX0 (by decide) rfl fX0_42 dX0_hasAllOf_52 (fun _ => rfl) ?_
    refine r_get (k := 4) (i := u0) (j := 0) (v := iV (σ.1 4 u0 0)) rfl rfl (ho4 hu0) rfl hX4 (by decide) rfl fX0_73 dX0_hasAllOf_55 (fun _ => rfl) ?_
    refine r_iconst (v := (3 : Int32)) dX0_hasAllOf_58 rfl ?_
    refine r_icmp_lt (tgt := 66) dX0_hasAllOf_59 (by decide) (fun c => ?_) (fun c => ?_)
    · have H := H.1 c
      refine r_iconst (v := (0 : Int32)) dX0_hasAllOf_66 rfl ?_
      exact r_zret dX0_hasAllOf_67 rfl (by decide) H
    · have H := H.2 c
      refine r_iconst (v := (1 : Int32)) dX0_hasAllOf_62 rfl ?_
      refine r_goto (tgt := 67) dX0_hasAllOf_63 (by decide) ?_
      exact r_zret dX0_hasAllOf_67 rfl (by decide) H
  replace H := H.2 c1
  by_cases c2 : x1 = 2
  · have H := H.1 c2
    refine r_tableIn (tgt := 68) (off := 67) dX0_hasAllOf_1 (by rw [c2]; decide) (by rw [c2]; decide) (by rw [c2]; rfl) (by decide) ?_
    refine r_aload_n dX0_hasAllOf_68 rfl rfl ?_
    refine r_get (k := 3) (i := u0) (j := 6) (v := iV (σ.1 3 u0 6)) rfl rfl (ho3 hu0) rfl hX0 (by decide) rfl fX0_57 dX0_hasAllOf_69 (fun _ => rfl) ?_
    refine r_bipush (v := (10 : Int32)) dX0_hasAllOf_72 rfl ?_
    refine r_icmp_lt (tgt := 81) dX0_hasAllOf_74 (by decide) (fun c => ?_) (fun c => ?_)
    · have H := H.1 c
      refine r_iconst (v := (0 : Int32)) dX0_hasAllOf_81 rfl ?_
      exact r_zret dX0_hasAllOf_82 rfl (by decide) H
    · have H := H.2 c
      refine r_iconst (v := (1 : Int32)) dX0_hasAllOf_77 rfl ?_
      refine r_goto (tgt := 82) dX0_hasAllOf_78 (by decide) ?_
      exact r_zret dX0_hasAllOf_82 rfl (by decide) H
  replace H := H.2 c2
  by_cases c3 : x1 = 3
  · have H := H.1 c3
    refine r_tableIn (tgt := 83) (off := 82) dX0_hasAllOf_1 (by rw [c3]; decide) (by rw [c3]; decide) (by rw [c3]; rfl) (by decide) ?_
    refine r_aload_n dX0_hasAllOf_83 rfl rfl ?_
    refine r_get (k := 3) (i := u0) (j := 10) (v := iV (σ.1 3 u0 10)) rfl rfl (ho3 hu0) rfl hX0 (by decide) rfl fX0_60 dX0_hasAllOf_84 (fun _ => rfl) ?_
    refine r_bipush (v := (12 : Int32)) dX0_hasAllOf_87 rfl ?_
    refine r_icmp_lt (tgt := 96) dX0_hasAllOf_89 (by decide) (fun c => ?_) (fun c => ?_)
    · have H := H.1 c
      refine r_iconst (v := (0 : Int32)) dX0_hasAllOf_96 rfl ?_
      exact r_zret dX0_hasAllOf_97 rfl (by decide) H
    · have H := H.2 c
      refine r_iconst (v := (1 : Int32)) dX0_hasAllOf_92 rfl ?_
      refine r_goto (tgt := 97) dX0_hasAllOf_93 (by decide) ?_
      exact r_zret dX0_hasAllOf_97 rfl (by decide) H
  replace H := H.2 c3
  by_cases c4 : x1 = 4
  · have H := H.1 c4
    refine r_tableIn (tgt := 98) (off := 97) dX0_hasAllOf_1 (by rw [c4]; decide) (by rw [c4]; decide) (by rw [c4]; rfl) (by decide) ?_
    refine r_aload_n dX0_hasAllOf_98 rfl rfl ?_
    refine r_get (k := 3) (i := u0) (j := 14) (v := rV 4 u0) rfl rfl (ho3 hu0) rfl hX0 (by decide) rfl fX0_42 dX0_hasAllOf_99 (fun _ => rfl) ?_
    refine r_get (k := 4) (i := u0) (j := 4) (v := iV (σ.1 4 u0 4)) rfl rfl (ho4 hu0) rfl hX4 (by decide) rfl fX0_76 dX0_hasAllOf_102 (fun _ => rfl) ?_
    refine r_bipush (v := (8 : Int32)) dX0_hasAllOf_105 rfl ?_
    refine r_icmp_lt (tgt := 114) dX0_hasAllOf_107 (by decide) (fun c => ?_) (fun c => ?_)
    · have H := H.1 c
      refine r_iconst (v := (0 : Int32)) dX0_hasAllOf_114 rfl ?_
      exact r_zret dX0_hasAllOf_115 rfl (by decide) H
    · have H := H.2 c
      refine r_iconst (v := (1 : Int32)) dX0_hasAllOf_110 rfl ?_
      refine r_goto (tgt := 115) dX0_hasAllOf_111 (by decide) ?_
      exact r_zret dX0_hasAllOf_115 rfl (by decide) H
  replace H := H.2 c4
  refine r_tableOut (tgt := 116) dX0_hasAllOf_1 (by have z0 := lv_neT c0 (show (0 : Int32).toInt = 0 by decide); have z1 := lv_neT c1 (show (1 : Int32).toInt = 1 by decide); have z2 := lv_neT c2 (show (2 : Int32).toInt = 2 by decide); have z3 := lv_neT c3 (show (3 : Int32).toInt = 3 by decide); have z4 := lv_neT c4 (show (4 : Int32).toInt = 4 by decide); omega) (by decide) ?_
  refine r_iconst (v := (0 : Int32)) dX0_hasAllOf_116 rfl ?_
  exact r_zret dX0_hasAllOf_117 rfl (by decide) H
set_option maxRecDepth 100000 in
theorem bX0_addPond_0 {d : Nat} {Q : Option MV → MS → Prop} {u0 : Nat} {x1 : Int32} {x2 : Int32} {x3 : Int32} {x4 : Int32} {σ : MS} (hu0 : u0 < 2) (H : (((7 : Int32) ≤ (σ.1 3 u0 0) → Q none σ) ∧ (¬ (7 : Int32) ≤ (σ.1 3 u0 0) → (vp_in (σ.1 3 u0 0) 7 ∧ Q none (uI (uI (uI (uI (uI (uI σ 16 u0 (((σ.1 3 u0 0)).toNatClampNeg) x1) 17 u0 (((σ.1 3 u0 0)).toNatClampNeg) x2) 18 u0 (((σ.1 3 u0 0)).toNatClampNeg) x3) 19 u0 (((σ.1 3 u0 0)).toNatClampNeg) x4) 20 u0 (((σ.1 3 u0 0)).toNatClampNeg) (0 : Int32)) 3 u0 0 ((σ.1 3 u0 0) + (1 : Int32))))))) : R mj_OC d mX0_addPond Q 0 [some (rV 3 u0), some (iV x1), some (iV x2), some (iV x3), some (iV x4)] [] σ := by
  refine r_aload_n dX0_addPond_0 rfl rfl ?_
  refine r_get (k := 3) (i := u0) (j := 0) (v := iV (σ.1 3 u0 0)) rfl rfl (ho3 hu0) rfl hX0 (by decide) rfl fX0_53 dX0_addPond_1 (fun _ => rfl) ?_
  refine r_bipush (v := (7 : Int32)) dX0_addPond_4 rfl ?_
  refine r_icmp_ge (tgt := 70) dX0_addPond_6 (by decide) (fun c => ?_) (fun c => ?_)
  · have H := H.1 c
    exact r_vret dX0_addPond_70 rfl H
  · have H := H.2 c
    refine r_aload_n dX0_addPond_9 rfl rfl ?_
    refine r_get (k := 3) (i := u0) (j := 1) (v := rV 16 u0) rfl rfl (ho3 hu0) rfl hX0 (by decide) rfl fX0_9 dX0_addPond_10 (fun _ => rfl) ?_
    refine r_aload_n dX0_addPond_13 rfl rfl ?_
    refine r_get (k := 3) (i := u0) (j := 0) (v := iV (σ.1 3 u0 0)) rfl rfl (ho3 hu0) rfl hX0 (by decide) rfl fX0_53 dX0_addPond_14 (fun _ => rfl) ?_
    refine r_iload_n dX0_addPond_17 rfl rfl ?_
    obtain ⟨q1, H⟩ := H
    refine r_iast (k := 16) (i := u0) rfl (ho16 hu0) q1 dX0_addPond_18 ?_
    refine r_aload_n dX0_addPond_19 rfl rfl ?_
    refine r_get (k := 3) (i := u0) (j := 2) (v := rV 17 u0) rfl rfl (ho3 hu0) rfl hX0 (by decide) rfl fX0_15 dX0_addPond_20 (fun _ => rfl) ?_
    refine r_aload_n dX0_addPond_23 rfl rfl ?_
    refine r_get (k := 3) (i := u0) (j := 0) (v := iV (σ.1 3 u0 0)) rfl rfl (ho3 hu0) rfl hX0 (by decide) rfl fX0_53 dX0_addPond_24 (fun _ => rfl) ?_
    refine r_iload_n dX0_addPond_27 rfl rfl ?_
    refine r_iast (k := 17) (i := u0) rfl (ho17 hu0) q1 dX0_addPond_28 ?_
    refine r_aload_n dX0_addPond_29 rfl rfl ?_
    refine r_get (k := 3) (i := u0) (j := 3) (v := rV 18 u0) rfl rfl (ho3 hu0) rfl hX0 (by decide) rfl fX0_18 dX0_addPond_30 (fun _ => rfl) ?_
    refine r_aload_n dX0_addPond_33 rfl rfl ?_
    refine r_get (k := 3) (i := u0) (j := 0) (v := iV (σ.1 3 u0 0)) rfl rfl (ho3 hu0) rfl hX0 (by decide) rfl fX0_53 dX0_addPond_34 (fun _ => rfl) ?_
    refine r_iload_n dX0_addPond_37 rfl rfl ?_
    refine r_iast (k := 18) (i := u0) rfl (ho18 hu0) q1 dX0_addPond_38 ?_
    refine r_aload_n dX0_addPond_39 rfl rfl ?_
    refine r_get (k := 3) (i := u0) (j := 4) (v := rV 19 u0) rfl rfl (ho3 hu0) rfl hX0 (by decide) rfl fX0_21 dX0_addPond_40 (fun _ => rfl) ?_
    refine r_aload_n dX0_addPond_43 rfl rfl ?_
    refine r_get (k := 3) (i := u0) (j := 0) (v := iV (σ.1 3 u0 0)) rfl rfl (ho3 hu0) rfl hX0 (by decide) rfl fX0_53 dX0_addPond_44 (fun _ => rfl) ?_
    refine r_iload dX0_addPond_47 rfl ?_
    refine r_iast (k := 19) (i := u0) rfl (ho19 hu0) q1 dX0_addPond_49 ?_
    refine r_aload_n dX0_addPond_50 rfl rfl ?_
    refine r_get (k := 3) (i := u0) (j := 5) (v := rV 20 u0) rfl rfl (ho3 hu0) rfl hX0 (by decide) rfl fX0_24 dX0_addPond_51 (fun _ => rfl) ?_
    refine r_aload_n dX0_addPond_54 rfl rfl ?_
    refine r_get (k := 3) (i := u0) (j := 0) (v := iV (σ.1 3 u0 0)) rfl rfl (ho3 hu0) rfl hX0 (by decide) rfl fX0_53 dX0_addPond_55 (fun _ => rfl) ?_
    refine r_iconst (v := (0 : Int32)) dX0_addPond_58 rfl ?_
    refine r_iast (k := 20) (i := u0) rfl (ho20 hu0) q1 dX0_addPond_59 ?_
    refine r_aload_n dX0_addPond_60 rfl rfl ?_
    refine r_dup_r dX0_addPond_61 ?_
    refine r_get (k := 3) (i := u0) (j := 0) (v := iV (σ.1 3 u0 0)) rfl rfl (ho3 hu0) rfl hX0 (by decide) rfl fX0_53 dX0_addPond_62 (fun _ => rfl) ?_
    refine r_iconst (v := (1 : Int32)) dX0_addPond_65 rfl ?_
    refine r_iadd dX0_addPond_66 ?_
    refine r_putI (k := 3) (i := u0) (j := 0) (ty0 := tyX0) rfl rfl (ho3 hu0) rfl hX0 (by decide) rfl fX0_53 dX0_addPond_67 rfl tyX0_ok nmX0 rfl rfl rfl ?_
    exact r_vret dX0_addPond_70 rfl H
set_option maxRecDepth 100000 in
theorem bX0_addPipe_0 {d : Nat} {Q : Option MV → MS → Prop} {u0 : Nat} {x1 : Int32} {x2 : Int32} {x3 : Int32} {σ : MS} (hu0 : u0 < 2) (H : (((10 : Int32) ≤ (σ.1 3 u0 6) → Q none σ) ∧ (¬ (10 : Int32) ≤ (σ.1 3 u0 6) → (vp_in (σ.1 3 u0 6) 10 ∧ Q none (uI (uI (uI (uI σ 21 u0 (((σ.1 3 u0 6)).toNatClampNeg) x1) 22 u0 (((σ.1 3 u0 6)).toNatClampNeg) x2) 23 u0 (((σ.1 3 u0 6)).toNatClampNeg) x3) 3 u0 6 ((σ.1 3 u0 6) + (1 : Int32))))))) : R mj_OC d mX0_addPipe Q 0 [some (rV 3 u0), some (iV x1), some (iV x2), some (iV x3)] [] σ := by
  refine r_aload_n dX0_addPipe_0 rfl rfl ?_
  refine r_get (k := 3) (i := u0) (j := 6) (v := iV (σ.1 3 u0 6)) rfl rfl (ho3 hu0) rfl hX0 (by decide) rfl fX0_57 dX0_addPipe_1 (fun _ => rfl) ?_
  refine r_bipush (v := (10 : Int32)) dX0_addPipe_4 rfl ?_
  refine r_icmp_ge (tgt := 49) dX0_addPipe_6 (by decide) (fun c => ?_) (fun c => ?_)
  · have H := H.1 c
    exact r_vret dX0_addPipe_49 rfl H
  · have H := H.2 c
    refine r_aload_n dX0_addPipe_9 rfl rfl ?_
    refine r_get (k := 3) (i := u0) (j := 7) (v := rV 21 u0) rfl rfl (ho3 hu0) rfl hX0 (by decide) rfl fX0_27 dX0_addPipe_10 (fun _ => rfl) ?_
    refine r_aload_n dX0_addPipe_13 rfl rfl ?_
    refine r_get (k := 3) (i := u0) (j := 6) (v := iV (σ.1 3 u0 6)) rfl rfl (ho3 hu0) rfl hX0 (by decide) rfl fX0_57 dX0_addPipe_14 (fun _ => rfl) ?_
    refine r_iload_n dX0_addPipe_17 rfl rfl ?_
    obtain ⟨q1, H⟩ := H
    refine r_iast (k := 21) (i := u0) rfl (ho21 hu0) q1 dX0_addPipe_18 ?_
    refine r_aload_n dX0_addPipe_19 rfl rfl ?_
    refine r_get (k := 3) (i := u0) (j := 8) (v := rV 22 u0) rfl rfl (ho3 hu0) rfl hX0 (by decide) rfl fX0_30 dX0_addPipe_20 (fun _ => rfl) ?_
    refine r_aload_n dX0_addPipe_23 rfl rfl ?_
    refine r_get (k := 3) (i := u0) (j := 6) (v := iV (σ.1 3 u0 6)) rfl rfl (ho3 hu0) rfl hX0 (by decide) rfl fX0_57 dX0_addPipe_24 (fun _ => rfl) ?_
    refine r_iload_n dX0_addPipe_27 rfl rfl ?_
    refine r_iast (k := 22) (i := u0) rfl (ho22 hu0) q1 dX0_addPipe_28 ?_
    refine r_aload_n dX0_addPipe_29 rfl rfl ?_
    refine r_get (k := 3) (i := u0) (j := 9) (v := rV 23 u0) rfl rfl (ho3 hu0) rfl hX0 (by decide) rfl fX0_33 dX0_addPipe_30 (fun _ => rfl) ?_
    refine r_aload_n dX0_addPipe_33 rfl rfl ?_
    refine r_get (k := 3) (i := u0) (j := 6) (v := iV (σ.1 3 u0 6)) rfl rfl (ho3 hu0) rfl hX0 (by decide) rfl fX0_57 dX0_addPipe_34 (fun _ => rfl) ?_
    refine r_iload_n dX0_addPipe_37 rfl rfl ?_
    refine r_iast (k := 23) (i := u0) rfl (ho23 hu0) q1 dX0_addPipe_38 ?_
    refine r_aload_n dX0_addPipe_39 rfl rfl ?_
    refine r_dup_r dX0_addPipe_40 ?_
    refine r_get (k := 3) (i := u0) (j := 6) (v := iV (σ.1 3 u0 6)) rfl rfl (ho3 hu0) rfl hX0 (by decide) rfl fX0_57 dX0_addPipe_41 (fun _ => rfl) ?_
    refine r_iconst (v := (1 : Int32)) dX0_addPipe_44 rfl ?_
    refine r_iadd dX0_addPipe_45 ?_
    refine r_putI (k := 3) (i := u0) (j := 6) (ty0 := tyX0) rfl rfl (ho3 hu0) rfl hX0 (by decide) rfl fX0_57 dX0_addPipe_46 rfl tyX0_ok nmX0 rfl rfl rfl ?_
    exact r_vret dX0_addPipe_49 rfl H
set_option maxRecDepth 100000 in
theorem bX0_addTurn_0 {d : Nat} {Q : Option MV → MS → Prop} {u0 : Nat} {x1 : Int32} {x2 : Int32} {x3 : Int32} {σ : MS} (hu0 : u0 < 2) (H : R mj_OC d mX0_addTurn Q 3 [some (rV 3 u0), some (iV x1), some (iV x2), some (iV x3), some (iV x2)] [] σ) : R mj_OC d mX0_addTurn Q 0 [some (rV 3 u0), some (iV x1), some (iV x2), some (iV x3), none] [] σ := by
  refine r_iload_n dX0_addTurn_0 rfl rfl ?_
  refine r_istore dX0_addTurn_1 (by decide) rfl ?_
  exact H
set_option maxRecDepth 100000 in
theorem bX0_addTurn_3 {d : Nat} {Q : Option MV → MS → Prop} {u0 : Nat} {x1 : Int32} {x2 : Int32} {x3 : Int32} {x4 : Int32} {σ : MS} (hu0 : u0 < 2) (H : (((x2 + x3) ≤ x4 → Q none (uI σ 3 u0 10 ((σ.1 3 u0 10) + (1 : Int32)))) ∧ (¬ (x2 + x3) ≤ x4 → (((119 : Int32) ≤ x4 → Q none (uI σ 3 u0 10 ((σ.1 3 u0 10) + (1 : Int32)))) ∧ (¬ (119 : Int32) ≤ x4 → (vp_in x4 119 ∧ R mj_OC d mX0_addTurn Q 3 [some (rV 3 u0), some (iV x1), some (iV x2), some (iV x3), some (iV (x4 + (1 : Int32)))] [] (uI σ 24 u0 ((x4).toNatClampNeg) ((σ.1 24 u0 ((x4).toNatClampNeg)) ||| ((1 : Int32) <<< (x1 &&& 31)))))))))) : R mj_OC d mX0_addTurn Q 3 [some (rV 3 u0), some (iV x1), some (iV x2), some (iV x3), some (iV x4)] [] σ := by
  refine r_iload dX0_addTurn_3 rfl ?_
  refine r_iload_n dX0_addTurn_5 rfl rfl ?_
  refine r_iload_n dX0_addTurn_6 rfl rfl ?_
  refine r_iadd dX0_addTurn_7 ?_
  refine r_icmp_ge (tgt := 37) dX0_addTurn_8 (by decide) (fun c => ?_) (fun c => ?_)
  · have H := H.1 c
    refine r_aload_n dX0_addTurn_37 rfl rfl ?_
    refine r_dup_r dX0_addTurn_38 ?_
    refine r_get (k := 3) (i := u0) (j := 10) (v := iV (σ.1 3 u0 10)) rfl rfl (ho3 hu0) rfl hX0 (by decide) rfl fX0_60 dX0_addTurn_39 (fun _ => rfl) ?_
    refine r_iconst (v := (1 : Int32)) dX0_addTurn_42 rfl ?_
    refine r_iadd dX0_addTurn_43 ?_
    refine r_putI (k := 3) (i := u0) (j := 10) (ty0 := tyX0) rfl rfl (ho3 hu0) rfl hX0 (by decide) rfl fX0_60 dX0_addTurn_44 rfl tyX0_ok nmX0 rfl rfl rfl ?_
    exact r_vret dX0_addTurn_47 rfl H
  · have H := H.2 c
    refine r_iload dX0_addTurn_11 rfl ?_
    refine r_bipush (v := (119 : Int32)) dX0_addTurn_13 rfl ?_
    refine r_icmp_ge (tgt := 37) dX0_addTurn_15 (by decide) (fun c => ?_) (fun c => ?_)
    · have H := H.1 c
      refine r_aload_n dX0_addTurn_37 rfl rfl ?_
      refine r_dup_r dX0_addTurn_38 ?_
      refine r_get (k := 3) (i := u0) (j := 10) (v := iV (σ.1 3 u0 10)) rfl rfl (ho3 hu0) rfl hX0 (by decide) rfl fX0_60 dX0_addTurn_39 (fun _ => rfl) ?_
      refine r_iconst (v := (1 : Int32)) dX0_addTurn_42 rfl ?_
      refine r_iadd dX0_addTurn_43 ?_
      refine r_putI (k := 3) (i := u0) (j := 10) (ty0 := tyX0) rfl rfl (ho3 hu0) rfl hX0 (by decide) rfl fX0_60 dX0_addTurn_44 rfl tyX0_ok nmX0 rfl rfl rfl ?_
      exact r_vret dX0_addTurn_47 rfl H
    · have H := H.2 c
      refine r_aload_n dX0_addTurn_18 rfl rfl ?_
      refine r_get (k := 3) (i := u0) (j := 11) (v := rV 24 u0) rfl rfl (ho3 hu0) rfl hX0 (by decide) rfl fX0_36 dX0_addTurn_19 (fun _ => rfl) ?_
      refine r_iload dX0_addTurn_22 rfl ?_
      refine r_dup2_ri dX0_addTurn_24 ?_
      obtain ⟨q1, H⟩ := H
      refine r_iald (k := 24) (i := u0) rfl (ho24 hu0) q1 dX0_addTurn_25 ?_
      refine r_iconst (v := (1 : Int32)) dX0_addTurn_26 rfl ?_
      refine r_iload_n dX0_addTurn_27 rfl rfl ?_
      refine r_ishl dX0_addTurn_28 ?_
      refine r_ior dX0_addTurn_29 ?_
      refine r_iast (k := 24) (i := u0) rfl (ho24 hu0) q1 dX0_addTurn_30 ?_
      refine r_iinc (v := x4 + (1 : Int32)) dX0_addTurn_31 rfl rfl (by decide) rfl ?_
      refine r_goto (tgt := 3) dX0_addTurn_34 (by decide) ?_
      exact H
set_option maxRecDepth 100000 in
theorem bX0_pondNamed_0 {d : Nat} {Q : Option MV → MS → Prop} {u0 : Nat} {x1 : Int32} {σ : MS} (hu0 : u0 < 2) (H : R mj_OC d mX0_pondNamed Q 2 [some (rV 3 u0), some (iV x1), some (iV (0 : Int32))] [] σ) : R mj_OC d mX0_pondNamed Q 0 [some (rV 3 u0), some (iV x1), none] [] σ := by
  refine r_iconst (v := (0 : Int32)) dX0_pondNamed_0 rfl ?_
  refine r_istore_n dX0_pondNamed_1 rfl (by decide) rfl ?_
  exact H
set_option maxRecDepth 100000 in
theorem bX0_pondNamed_2 {d : Nat} {Q : Option MV → MS → Prop} {u0 : Nat} {x1 : Int32} {x2 : Int32} {σ : MS} (hu0 : u0 < 2) (H : (((σ.1 3 u0 0) ≤ x2 → Q (some (iV (-1 : Int32))) σ) ∧ (¬ (σ.1 3 u0 0) ≤ x2 → (vp_in x2 7 ∧ ((¬ (σ.1 16 u0 ((x2).toNatClampNeg)) = x1 → R mj_OC d mX0_pondNamed Q 2 [some (rV 3 u0), some (iV x1), some (iV (x2 + (1 : Int32)))] [] σ) ∧ ((σ.1 16 u0 ((x2).toNatClampNeg)) = x1 → Q (some (iV x2)) σ)))))) : R mj_OC d mX0_pondNamed Q 2 [some (rV 3 u0), some (iV x1), some (iV x2)] [] σ := by
  refine r_iload_n dX0_pondNamed_2 rfl rfl ?_
  refine r_aload_n dX0_pondNamed_3 rfl rfl ?_
  refine r_get (k := 3) (i := u0) (j := 0) (v := iV (σ.1 3 u0 0)) rfl rfl (ho3 hu0) rfl hX0 (by decide) rfl fX0_53 dX0_pondNamed_4 (fun _ => rfl) ?_
  refine r_icmp_ge (tgt := 28) dX0_pondNamed_7 (by decide) (fun c => ?_) (fun c => ?_)
  · have H := H.1 c
    refine r_iconst (v := (-1 : Int32)) dX0_pondNamed_28 rfl ?_
    exact r_iret dX0_pondNamed_29 rfl H
  · have H := H.2 c
    refine r_aload_n dX0_pondNamed_10 rfl rfl ?_
    refine r_get (k := 3) (i := u0) (j := 1) (v := rV 16 u0) rfl rfl (ho3 hu0) rfl hX0 (by decide) rfl fX0_9 dX0_pondNamed_11 (fun _ => rfl) ?_
    refine r_iload_n dX0_pondNamed_14 rfl rfl ?_
    obtain ⟨q1, H⟩ := H
    refine r_iald (k := 16) (i := u0) rfl (ho16 hu0) q1 dX0_pondNamed_15 ?_
    refine r_iload_n dX0_pondNamed_16 rfl rfl ?_
    refine r_icmp_ne (tgt := 22) dX0_pondNamed_17 (by decide) (fun c => ?_) (fun c => ?_)
    · have H := H.1 c
      refine r_iinc (v := x2 + (1 : Int32)) dX0_pondNamed_22 rfl rfl (by decide) rfl ?_
      refine r_goto (tgt := 2) dX0_pondNamed_25 (by decide) ?_
      exact H
    · have H := H.2 c
      refine r_iload_n dX0_pondNamed_20 rfl rfl ?_
      exact r_iret dX0_pondNamed_21 rfl H
set_option maxRecDepth 100000 in
theorem bX0_hasPipe_0 {d : Nat} {Q : Option MV → MS → Prop} {u0 : Nat} {x1 : Int32} {x2 : Int32} {σ : MS} (hu0 : u0 < 2) (H : R mj_OC d mX0_hasPipe Q 2 [some (rV 3 u0), some (iV x1), some (iV x2), some (iV (0 : Int32))] [] σ) : R mj_OC d mX0_hasPipe Q 0 [some (rV 3 u0), some (iV x1), some (iV x2), none] [] σ := by
  refine r_iconst (v := (0 : Int32)) dX0_hasPipe_0 rfl ?_
  refine r_istore_n dX0_hasPipe_1 rfl (by decide) rfl ?_
  exact H
set_option maxRecDepth 100000 in
theorem bX0_hasPipe_2 {d : Nat} {Q : Option MV → MS → Prop} {u0 : Nat} {x1 : Int32} {x2 : Int32} {x3 : Int32} {σ : MS} (hu0 : u0 < 2) (H : (((σ.1 3 u0 6) ≤ x3 → Q (some (iV (0 : Int32))) σ) ∧ (¬ (σ.1 3 u0 6) ≤ x3 → (vp_in x3 10 ∧ ((¬ (σ.1 21 u0 ((x3).toNatClampNeg)) = x1 → ((¬ (σ.1 21 u0 ((x3).toNatClampNeg)) = x2 → R mj_OC d mX0_hasPipe Q 2 [some (rV 3 u0), some (iV x1), some (iV x2), some (iV (x3 + (1 : Int32)))] [] σ) ∧ ((σ.1 21 u0 ((x3).toNatClampNeg)) = x2 → ((¬ (σ.1 22 u0 ((x3).toNatClampNeg)) = x1 → R mj_OC d mX0_hasPipe Q 2 [some (rV 3 u0), some (iV x1), some (iV x2), some (iV (x3 + (1 : Int32)))] [] σ) ∧ ((σ.1 22 u0 ((x3).toNatClampNeg)) = x1 → Q (some (iV (1 : Int32))) σ))))) ∧ ((σ.1 21 u0 ((x3).toNatClampNeg)) = x1 → (((σ.1 22 u0 ((x3).toNatClampNeg)) = x2 → Q (some (iV (1 : Int32))) σ) ∧ (¬ (σ.1 22 u0 ((x3).toNatClampNeg)) = x2 → ((¬ (σ.1 21 u0 ((x3).toNatClampNeg)) = x2 → R mj_OC d mX0_hasPipe Q 2 [some (rV 3 u0), some (iV x1), some (iV x2), some (iV (x3 + (1 : Int32)))] [] σ) ∧ ((σ.1 21 u0 ((x3).toNatClampNeg)) = x2 → ((¬ (σ.1 22 u0 ((x3).toNatClampNeg)) = x1 → R mj_OC d mX0_hasPipe Q 2 [some (rV 3 u0), some (iV x1), some (iV x2), some (iV (x3 + (1 : Int32)))] [] σ) ∧ ((σ.1 22 u0 ((x3).toNatClampNeg)) = x1 → Q (some (iV (1 : Int32))) σ)))))))))))) : R mj_OC d mX0_hasPipe Q 2 [some (rV 3 u0), some (iV x1), some (iV x2), some (iV x3)] [] σ := by
  refine r_iload_n dX0_hasPipe_2 rfl rfl ?_
  refine r_aload_n dX0_hasPipe_3 rfl rfl ?_
  refine r_get (k := 3) (i := u0) (j := 6) (v := iV (σ.1 3 u0 6)) rfl rfl (ho3 hu0) rfl hX0 (by decide) rfl fX0_57 dX0_hasPipe_4 (fun _ => rfl) ?_
  refine r_icmp_ge (tgt := 58) dX0_hasPipe_7 (by decide) (fun c => ?_) (fun c => ?_)
  · have H := H.1 c
    refine r_iconst (v := (0 : Int32)) dX0_hasPipe_58 rfl ?_
    exact r_zret dX0_hasPipe_59 rfl (by decide) H
  · have H := H.2 c
    refine r_aload_n dX0_hasPipe_10 rfl rfl ?_
    refine r_get (k := 3) (i := u0) (j := 7) (v := rV 21 u0) rfl rfl (ho3 hu0) rfl hX0 (by decide) rfl fX0_27 dX0_hasPipe_11 (fun _ => rfl) ?_
    refine r_iload_n dX0_hasPipe_14 rfl rfl ?_
    obtain ⟨q1, H⟩ := H
    refine r_iald (k := 21) (i := u0) rfl (ho21 hu0) q1 dX0_hasPipe_15 ?_
    refine r_iload_n dX0_hasPipe_16 rfl rfl ?_
    refine r_icmp_ne (tgt := 30) dX0_hasPipe_17 (by decide) (fun c => ?_) (fun c => ?_)
    · have H := H.1 c
      refine r_aload_n dX0_hasPipe_30 rfl rfl ?_
      refine r_get (k := 3) (i := u0) (j := 7) (v := rV 21 u0) rfl rfl (ho3 hu0) rfl hX0 (by decide) rfl fX0_27 dX0_hasPipe_31 (fun _ => rfl) ?_
      refine r_iload_n dX0_hasPipe_34 rfl rfl ?_
      refine r_iald (k := 21) (i := u0) rfl (ho21 hu0) q1 dX0_hasPipe_35 ?_
      refine r_iload_n dX0_hasPipe_36 rfl rfl ?_
      refine r_icmp_ne (tgt := 52) dX0_hasPipe_37 (by decide) (fun c => ?_) (fun c => ?_)
      · have H := H.1 c
        refine r_iinc (v := x3 + (1 : Int32)) dX0_hasPipe_52 rfl rfl (by decide) rfl ?_
        refine r_goto (tgt := 2) dX0_hasPipe_55 (by decide) ?_
        exact H
      · have H := H.2 c
        refine r_aload_n dX0_hasPipe_40 rfl rfl ?_
        refine r_get (k := 3) (i := u0) (j := 8) (v := rV 22 u0) rfl rfl (ho3 hu0) rfl hX0 (by decide) rfl fX0_30 dX0_hasPipe_41 (fun _ => rfl) ?_
        refine r_iload_n dX0_hasPipe_44 rfl rfl ?_
        refine r_iald (k := 22) (i := u0) rfl (ho22 hu0) q1 dX0_hasPipe_45 ?_
        refine r_iload_n dX0_hasPipe_46 rfl rfl ?_
        refine r_icmp_ne (tgt := 52) dX0_hasPipe_47 (by decide) (fun c => ?_) (fun c => ?_)
        · have H := H.1 c
          refine r_iinc (v := x3 + (1 : Int32)) dX0_hasPipe_52 rfl rfl (by decide) rfl ?_
          refine r_goto (tgt := 2) dX0_hasPipe_55 (by decide) ?_
          exact H
        · have H := H.2 c
          refine r_iconst (v := (1 : Int32)) dX0_hasPipe_50 rfl ?_
          exact r_zret dX0_hasPipe_51 rfl (by decide) H
    · have H := H.2 c
      refine r_aload_n dX0_hasPipe_20 rfl rfl ?_
      refine r_get (k := 3) (i := u0) (j := 8) (v := rV 22 u0) rfl rfl (ho3 hu0) rfl hX0 (by decide) rfl fX0_30 dX0_hasPipe_21 (fun _ => rfl) ?_
      refine r_iload_n dX0_hasPipe_24 rfl rfl ?_
      refine r_iald (k := 22) (i := u0) rfl (ho22 hu0) q1 dX0_hasPipe_25 ?_
      refine r_iload_n dX0_hasPipe_26 rfl rfl ?_
      refine r_icmp_eq (tgt := 50) dX0_hasPipe_27 (by decide) (fun c => ?_) (fun c => ?_)
      · have H := H.1 c
        refine r_iconst (v := (1 : Int32)) dX0_hasPipe_50 rfl ?_
        exact r_zret dX0_hasPipe_51 rfl (by decide) H
      · have H := H.2 c
        refine r_aload_n dX0_hasPipe_30 rfl rfl ?_
        refine r_get (k := 3) (i := u0) (j := 7) (v := rV 21 u0) rfl rfl (ho3 hu0) rfl hX0 (by decide) rfl fX0_27 dX0_hasPipe_31 (fun _ => rfl) ?_
        refine r_iload_n dX0_hasPipe_34 rfl rfl ?_
        refine r_iald (k := 21) (i := u0) rfl (ho21 hu0) q1 dX0_hasPipe_35 ?_
        refine r_iload_n dX0_hasPipe_36 rfl rfl ?_
        refine r_icmp_ne (tgt := 52) dX0_hasPipe_37 (by decide) (fun c => ?_) (fun c => ?_)
        · have H := H.1 c
          refine r_iinc (v := x3 + (1 : Int32)) dX0_hasPipe_52 rfl rfl (by decide) rfl ?_
          refine r_goto (tgt := 2) dX0_hasPipe_55 (by decide) ?_
          exact H
        · have H := H.2 c
          refine r_aload_n dX0_hasPipe_40 rfl rfl ?_
          refine r_get (k := 3) (i := u0) (j := 8) (v := rV 22 u0) rfl rfl (ho3 hu0) rfl hX0 (by decide) rfl fX0_30 dX0_hasPipe_41 (fun _ => rfl) ?_
          refine r_iload_n dX0_hasPipe_44 rfl rfl ?_
          refine r_iald (k := 22) (i := u0) rfl (ho22 hu0) q1 dX0_hasPipe_45 ?_
          refine r_iload_n dX0_hasPipe_46 rfl rfl ?_
          refine r_icmp_ne (tgt := 52) dX0_hasPipe_47 (by decide) (fun c => ?_) (fun c => ?_)
          · have H := H.1 c
            refine r_iinc (v := x3 + (1 : Int32)) dX0_hasPipe_52 rfl rfl (by decide) rfl ?_
            refine r_goto (tgt := 2) dX0_hasPipe_55 (by decide) ?_
            exact H
          · have H := H.2 c
            refine r_iconst (v := (1 : Int32)) dX0_hasPipe_50 rfl ?_
            exact r_zret dX0_hasPipe_51 rfl (by decide) H
set_option maxRecDepth 100000 in
theorem bX0_turnedIn_0 {d : Nat} {Q : Option MV → MS → Prop} {u0 : Nat} {x1 : Int32} {σ : MS} (hu0 : u0 < 2) (H : ((x1 < 0 → Q (some (iV (0 : Int32))) σ) ∧ (¬ x1 < 0 → (((119 : Int32) ≤ x1 → Q (some (iV (0 : Int32))) σ) ∧ (¬ (119 : Int32) ≤ x1 → (vp_in x1 119 ∧ Q (some (iV (σ.1 24 u0 ((x1).toNatClampNeg)))) σ)))))) : R mj_OC d mX0_turnedIn Q 0 [some (rV 3 u0), some (iV x1)] [] σ := by
  refine r_iload_n dX0_turnedIn_0 rfl rfl ?_
  refine r_if_lt (tgt := 19) dX0_turnedIn_1 (by decide) (fun c => ?_) (fun c => ?_)
  · have H := H.1 c
    refine r_iconst (v := (0 : Int32)) dX0_turnedIn_19 rfl ?_
    exact r_iret dX0_turnedIn_20 rfl H
  · have H := H.2 c
    refine r_iload_n dX0_turnedIn_4 rfl rfl ?_
    refine r_bipush (v := (119 : Int32)) dX0_turnedIn_5 rfl ?_
    refine r_icmp_ge (tgt := 19) dX0_turnedIn_7 (by decide) (fun c => ?_) (fun c => ?_)
    · have H := H.1 c
      refine r_iconst (v := (0 : Int32)) dX0_turnedIn_19 rfl ?_
      exact r_iret dX0_turnedIn_20 rfl H
    · have H := H.2 c
      refine r_aload_n dX0_turnedIn_10 rfl rfl ?_
      refine r_get (k := 3) (i := u0) (j := 11) (v := rV 24 u0) rfl rfl (ho3 hu0) rfl hX0 (by decide) rfl fX0_36 dX0_turnedIn_11 (fun _ => rfl) ?_
      refine r_iload_n dX0_turnedIn_14 rfl rfl ?_
      obtain ⟨q1, H⟩ := H
      refine r_iald (k := 24) (i := u0) rfl (ho24 hu0) q1 dX0_turnedIn_15 ?_
      refine r_goto (tgt := 20) dX0_turnedIn_16 (by decide) ?_
      exact r_iret dX0_turnedIn_20 rfl H
set_option maxRecDepth 100000 in
theorem bX0_allPonds_0 {d : Nat} {Q : Option MV → MS → Prop} {u0 : Nat} {σ : MS} (hu0 : u0 < 2) (H : Q (some (iV (((1 : Int32) <<< ((σ.1 3 u0 0) &&& 31)) - (1 : Int32)))) σ) : R mj_OC d mX0_allPonds Q 0 [some (rV 3 u0)] [] σ := by
  refine r_iconst (v := (1 : Int32)) dX0_allPonds_0 rfl ?_
  refine r_aload_n dX0_allPonds_1 rfl rfl ?_
  refine r_get (k := 3) (i := u0) (j := 0) (v := iV (σ.1 3 u0 0)) rfl rfl (ho3 hu0) rfl hX0 (by decide) rfl fX0_53 dX0_allPonds_2 (fun _ => rfl) ?_
  refine r_ishl dX0_allPonds_5 ?_
  refine r_iconst (v := (1 : Int32)) dX0_allPonds_6 rfl ?_
  refine r_isub dX0_allPonds_7 ?_
  exact r_iret dX0_allPonds_8 rfl H
set_option maxRecDepth 100000 in
theorem bX0_allPipes_0 {d : Nat} {Q : Option MV → MS → Prop} {u0 : Nat} {σ : MS} (hu0 : u0 < 2) (H : Q (some (iV (((1 : Int32) <<< ((σ.1 3 u0 6) &&& 31)) - (1 : Int32)))) σ) : R mj_OC d mX0_allPipes Q 0 [some (rV 3 u0)] [] σ := by
  refine r_iconst (v := (1 : Int32)) dX0_allPipes_0 rfl ?_
  refine r_aload_n dX0_allPipes_1 rfl rfl ?_
  refine r_get (k := 3) (i := u0) (j := 6) (v := iV (σ.1 3 u0 6)) rfl rfl (ho3 hu0) rfl hX0 (by decide) rfl fX0_57 dX0_allPipes_2 (fun _ => rfl) ?_
  refine r_ishl dX0_allPipes_5 ?_
  refine r_iconst (v := (1 : Int32)) dX0_allPipes_6 rfl ?_
  refine r_isub dX0_allPipes_7 ?_
  exact r_iret dX0_allPipes_8 rfl H
set_option maxRecDepth 100000 in
theorem bX0_waterFor_0 {d : Nat} {Q : Option MV → MS → Prop} {u0 : Nat} {x1 : Int32} {x2 : Int32} {σ : MS} (hu0 : u0 < 2) (H : (vp_in x1 7 ∧ Q (some (iV (if (0 : Int32) < ((x2 - (σ.1 18 u0 ((x1).toNatClampNeg))) * (σ.1 17 u0 ((x1).toNatClampNeg))) then ((x2 - (σ.1 18 u0 ((x1).toNatClampNeg))) * (σ.1 17 u0 ((x1).toNatClampNeg))) else (0 : Int32)))) σ)) : R mj_OC (d + 1) mX0_waterFor Q 0 [some (rV 3 u0), some (iV x1), some (iV x2)] [] σ := by
  refine r_iconst (v := (0 : Int32)) dX0_waterFor_0 rfl ?_
  refine r_iload_n dX0_waterFor_1 rfl rfl ?_
  refine r_aload_n dX0_waterFor_2 rfl rfl ?_
  refine r_get (k := 3) (i := u0) (j := 3) (v := rV 18 u0) rfl rfl (ho3 hu0) rfl hX0 (by decide) rfl fX0_18 dX0_waterFor_3 (fun _ => rfl) ?_
  refine r_iload_n dX0_waterFor_6 rfl rfl ?_
  obtain ⟨q1, H⟩ := H
  refine r_iald (k := 18) (i := u0) rfl (ho18 hu0) q1 dX0_waterFor_7 ?_
  refine r_isub dX0_waterFor_8 ?_
  refine r_aload_n dX0_waterFor_9 rfl rfl ?_
  refine r_get (k := 3) (i := u0) (j := 2) (v := rV 17 u0) rfl rfl (ho3 hu0) rfl hX0 (by decide) rfl fX0_15 dX0_waterFor_10 (fun _ => rfl) ?_
  refine r_iload_n dX0_waterFor_13 rfl rfl ?_
  refine r_iald (k := 17) (i := u0) rfl (ho17 hu0) q1 dX0_waterFor_14 ?_
  refine r_imul dX0_waterFor_15 ?_
  refine r_mmax lX0_79 dX0_waterFor_16 (Nat.le_of_ble_eq_true rfl) ?_
  exact r_iret dX0_waterFor_19 rfl H
set_option maxRecDepth 100000 in
theorem bX0_liftOf_0 {d : Nat} {Q : Option MV → MS → Prop} {u0 : Nat} {x1 : Int32} {σ : MS} (hu0 : u0 < 2) (H : (vp_in x1 3 ∧ vp_in (σ.1 25 u0 ((x1).toNatClampNeg)) 7 ∧ Q (some (iV ((σ.1 17 u0 (((σ.1 25 u0 ((x1).toNatClampNeg))).toNatClampNeg)) * (if (0 : Int32) < ((σ.1 27 u0 ((x1).toNatClampNeg)) - (σ.1 26 u0 ((x1).toNatClampNeg))) then ((σ.1 27 u0 ((x1).toNatClampNeg)) - (σ.1 26 u0 ((x1).toNatClampNeg))) else (0 : Int32))))) σ)) : R mj_OC (d + 1) mX0_liftOf Q 0 [some (rV 3 u0), some (iV x1)] [] σ := by
  refine r_aload_n dX0_liftOf_0 rfl rfl ?_
  refine r_get (k := 3) (i := u0) (j := 2) (v := rV 17 u0) rfl rfl (ho3 hu0) rfl hX0 (by decide) rfl fX0_15 dX0_liftOf_1 (fun _ => rfl) ?_
  refine r_aload_n dX0_liftOf_4 rfl rfl ?_
  refine r_get (k := 3) (i := u0) (j := 14) (v := rV 4 u0) rfl rfl (ho3 hu0) rfl hX0 (by decide) rfl fX0_42 dX0_liftOf_5 (fun _ => rfl) ?_
  refine r_get (k := 4) (i := u0) (j := 1) (v := rV 25 u0) rfl rfl (ho4 hu0) rfl hX4 (by decide) rfl fX0_85 dX0_liftOf_8 (fun _ => rfl) ?_
  refine r_iload_n dX0_liftOf_11 rfl rfl ?_
  obtain ⟨q1, H⟩ := H
  refine r_iald (k := 25) (i := u0) rfl (ho25 hu0) q1 dX0_liftOf_12 ?_
  obtain ⟨q2, H⟩ := H
  refine r_iald (k := 17) (i := u0) rfl (ho17 hu0) q2 dX0_liftOf_13 ?_
  refine r_iconst (v := (0 : Int32)) dX0_liftOf_14 rfl ?_
  refine r_aload_n dX0_liftOf_15 rfl rfl ?_
  refine r_get (k := 3) (i := u0) (j := 14) (v := rV 4 u0) rfl rfl (ho3 hu0) rfl hX0 (by decide) rfl fX0_42 dX0_liftOf_16 (fun _ => rfl) ?_
  refine r_get (k := 4) (i := u0) (j := 3) (v := rV 27 u0) rfl rfl (ho4 hu0) rfl hX4 (by decide) rfl fX0_88 dX0_liftOf_19 (fun _ => rfl) ?_
  refine r_iload_n dX0_liftOf_22 rfl rfl ?_
  refine r_iald (k := 27) (i := u0) rfl (ho27 hu0) q1 dX0_liftOf_23 ?_
  refine r_aload_n dX0_liftOf_24 rfl rfl ?_
  refine r_get (k := 3) (i := u0) (j := 14) (v := rV 4 u0) rfl rfl (ho3 hu0) rfl hX0 (by decide) rfl fX0_42 dX0_liftOf_25 (fun _ => rfl) ?_
  refine r_get (k := 4) (i := u0) (j := 2) (v := rV 26 u0) rfl rfl (ho4 hu0) rfl hX4 (by decide) rfl fX0_91 dX0_liftOf_28 (fun _ => rfl) ?_
  refine r_iload_n dX0_liftOf_31 rfl rfl ?_
  refine r_iald (k := 26) (i := u0) rfl (ho26 hu0) q1 dX0_liftOf_32 ?_
  refine r_isub dX0_liftOf_33 ?_
  refine r_mmax lX0_79 dX0_liftOf_34 (Nat.le_of_ble_eq_true rfl) ?_
  refine r_imul dX0_liftOf_37 ?_
  exact r_iret dX0_liftOf_38 rfl H
set_option maxRecDepth 100000 in
theorem bX0_areaUpTo_0 {d : Nat} {Q : Option MV → MS → Prop} {u0 : Nat} {x1 : Int32} {x2 : Int32} {σ : MS} (hu0 : u0 < 2) (H : R mj_OC d mX0_areaUpTo Q 5 [some (rV 3 u0), some (iV x1), some (iV x2), some (lV (0 : Int64)), none, some (iV (0 : Int32))] [] σ) : R mj_OC d mX0_areaUpTo Q 0 [some (rV 3 u0), some (iV x1), some (iV x2), none, none, none] [] σ := by
  refine r_lconst (v := (0 : Int64)) dX0_areaUpTo_0 rfl ?_
  refine r_lstore_n dX0_areaUpTo_1 rfl (by decide) rfl ?_
  refine r_iconst (v := (0 : Int32)) dX0_areaUpTo_2 rfl ?_
  refine r_istore dX0_areaUpTo_3 (by decide) rfl ?_
  exact H
set_option maxRecDepth 100000 in
theorem bX0_areaUpTo_5 {d : Nat} {Q : Option MV → MS → Prop} {u0 : Nat} {x1 : Int32} {x2 : Int32} {x3 : Int64} {x5 : Int32} {σ : MS} (hu0 : u0 < 2) (H : (((σ.1 3 u0 0) ≤ x5 → Q (some (lV x3)) σ) ∧ (¬ (σ.1 3 u0 0) ≤ x5 → ((¬ ((x1 >>> (x5 &&& 31)) &&& (1 : Int32)) = (1 : Int32) → R mj_OC d mX0_areaUpTo Q 5 [some (rV 3 u0), some (iV x1), some (iV x2), some (lV x3), none, some (iV (x5 + (1 : Int32)))] [] σ) ∧ (((x1 >>> (x5 &&& 31)) &&& (1 : Int32)) = (1 : Int32) → (vp_in x5 7 ∧ ((x2 < (σ.1 18 u0 ((x5).toNatClampNeg)) → R mj_OC d mX0_areaUpTo Q 5 [some (rV 3 u0), some (iV x1), some (iV x2), some (lV x3), none, some (iV (x5 + (1 : Int32)))] [] σ) ∧ (¬ x2 < (σ.1 18 u0 ((x5).toNatClampNeg)) → R mj_OC d mX0_areaUpTo Q 5 [some (rV 3 u0), some (iV x1), some (iV x2), some (lV (x3 + ((σ.1 17 u0 ((x5).toNatClampNeg)).toInt64))), none, some (iV (x5 + (1 : Int32)))] [] σ)))))))) : R mj_OC d mX0_areaUpTo Q 5 [some (rV 3 u0), some (iV x1), some (iV x2), some (lV x3), none, some (iV x5)] [] σ := by
  refine r_iload dX0_areaUpTo_5 rfl ?_
  refine r_aload_n dX0_areaUpTo_7 rfl rfl ?_
  refine r_get (k := 3) (i := u0) (j := 0) (v := iV (σ.1 3 u0 0)) rfl rfl (ho3 hu0) rfl hX0 (by decide) rfl fX0_53 dX0_areaUpTo_8 (fun _ => rfl) ?_
  refine r_icmp_ge (tgt := 52) dX0_areaUpTo_11 (by decide) (fun c => ?_) (fun c => ?_)
  · have H := H.1 c
    refine r_lload_n dX0_areaUpTo_52 rfl rfl ?_
    exact r_lret dX0_areaUpTo_53 rfl H
  · have H := H.2 c
    refine r_iload_n dX0_areaUpTo_14 rfl rfl ?_
    refine r_iload dX0_areaUpTo_15 rfl ?_
    refine r_ishr dX0_areaUpTo_17 ?_
    refine r_iconst (v := (1 : Int32)) dX0_areaUpTo_18 rfl ?_
    refine r_iand dX0_areaUpTo_19 ?_
    refine r_iconst (v := (1 : Int32)) dX0_areaUpTo_20 rfl ?_
    refine r_icmp_ne (tgt := 46) dX0_areaUpTo_21 (by decide) (fun c => ?_) (fun c => ?_)
    · have H := H.1 c
      refine r_iinc (v := x5 + (1 : Int32)) dX0_areaUpTo_46 rfl rfl (by decide) rfl ?_
      refine r_goto (tgt := 5) dX0_areaUpTo_49 (by decide) ?_
      exact H
    · have H := H.2 c
      refine r_aload_n dX0_areaUpTo_24 rfl rfl ?_
      refine r_get (k := 3) (i := u0) (j := 3) (v := rV 18 u0) rfl rfl (ho3 hu0) rfl hX0 (by decide) rfl fX0_18 dX0_areaUpTo_25 (fun _ => rfl) ?_
      refine r_iload dX0_areaUpTo_28 rfl ?_
      obtain ⟨q1, H⟩ := H
      refine r_iald (k := 18) (i := u0) rfl (ho18 hu0) q1 dX0_areaUpTo_30 ?_
      refine r_iload_n dX0_areaUpTo_31 rfl rfl ?_
      refine r_icmp_gt (tgt := 46) dX0_areaUpTo_32 (by decide) (fun c => ?_) (fun c => ?_)
      · have H := H.1 c
        refine r_iinc (v := x5 + (1 : Int32)) dX0_areaUpTo_46 rfl rfl (by decide) rfl ?_
        refine r_goto (tgt := 5) dX0_areaUpTo_49 (by decide) ?_
        exact H
      · have H := H.2 c
        refine r_lload_n dX0_areaUpTo_35 rfl rfl ?_
        refine r_aload_n dX0_areaUpTo_36 rfl rfl ?_
        refine r_get (k := 3) (i := u0) (j := 2) (v := rV 17 u0) rfl rfl (ho3 hu0) rfl hX0 (by decide) rfl fX0_15 dX0_areaUpTo_37 (fun _ => rfl) ?_
        refine r_iload dX0_areaUpTo_40 rfl ?_
        refine r_iald (k := 17) (i := u0) rfl (ho17 hu0) q1 dX0_areaUpTo_42 ?_
        refine r_i2l (v := (σ.1 17 u0 ((x5).toNatClampNeg)).toInt64) dX0_areaUpTo_43 rfl ?_
        refine r_ladd dX0_areaUpTo_44 ?_
        refine r_lstore_n dX0_areaUpTo_45 rfl (by decide) rfl ?_
        refine r_iinc (v := x5 + (1 : Int32)) dX0_areaUpTo_46 rfl rfl (by decide) rfl ?_
        refine r_goto (tgt := 5) dX0_areaUpTo_49 (by decide) ?_
        exact H
set_option maxRecDepth 100000 in
theorem bX0_bedUpTo_0 {d : Nat} {Q : Option MV → MS → Prop} {u0 : Nat} {x1 : Int32} {x2 : Int32} {σ : MS} (hu0 : u0 < 2) (H : R mj_OC d mX0_bedUpTo Q 5 [some (rV 3 u0), some (iV x1), some (iV x2), some (lV (0 : Int64)), none, some (iV (0 : Int32))] [] σ) : R mj_OC d mX0_bedUpTo Q 0 [some (rV 3 u0), some (iV x1), some (iV x2), none, none, none] [] σ := by
  refine r_lconst (v := (0 : Int64)) dX0_bedUpTo_0 rfl ?_
  refine r_lstore_n dX0_bedUpTo_1 rfl (by decide) rfl ?_
  refine r_iconst (v := (0 : Int32)) dX0_bedUpTo_2 rfl ?_
  refine r_istore dX0_bedUpTo_3 (by decide) rfl ?_
  exact H
set_option maxRecDepth 100000 in
theorem bX0_bedUpTo_5 {d : Nat} {Q : Option MV → MS → Prop} {u0 : Nat} {x1 : Int32} {x2 : Int32} {x3 : Int64} {x5 : Int32} {σ : MS} (hu0 : u0 < 2) (H : (((σ.1 3 u0 0) ≤ x5 → Q (some (lV x3)) σ) ∧ (¬ (σ.1 3 u0 0) ≤ x5 → ((¬ ((x1 >>> (x5 &&& 31)) &&& (1 : Int32)) = (1 : Int32) → R mj_OC d mX0_bedUpTo Q 5 [some (rV 3 u0), some (iV x1), some (iV x2), some (lV x3), none, some (iV (x5 + (1 : Int32)))] [] σ) ∧ (((x1 >>> (x5 &&& 31)) &&& (1 : Int32)) = (1 : Int32) → (vp_in x5 7 ∧ ((x2 < (σ.1 18 u0 ((x5).toNatClampNeg)) → R mj_OC d mX0_bedUpTo Q 5 [some (rV 3 u0), some (iV x1), some (iV x2), some (lV x3), none, some (iV (x5 + (1 : Int32)))] [] σ) ∧ (¬ x2 < (σ.1 18 u0 ((x5).toNatClampNeg)) → R mj_OC d mX0_bedUpTo Q 5 [some (rV 3 u0), some (iV x1), some (iV x2), some (lV (x3 + (((σ.1 17 u0 ((x5).toNatClampNeg)) * (σ.1 18 u0 ((x5).toNatClampNeg))).toInt64))), none, some (iV (x5 + (1 : Int32)))] [] σ)))))))) : R mj_OC d mX0_bedUpTo Q 5 [some (rV 3 u0), some (iV x1), some (iV x2), some (lV x3), none, some (iV x5)] [] σ := by
  refine r_iload dX0_bedUpTo_5 rfl ?_
  refine r_aload_n dX0_bedUpTo_7 rfl rfl ?_
  refine r_get (k := 3) (i := u0) (j := 0) (v := iV (σ.1 3 u0 0)) rfl rfl (ho3 hu0) rfl hX0 (by decide) rfl fX0_53 dX0_bedUpTo_8 (fun _ => rfl) ?_
  refine r_icmp_ge (tgt := 60) dX0_bedUpTo_11 (by decide) (fun c => ?_) (fun c => ?_)
  · have H := H.1 c
    refine r_lload_n dX0_bedUpTo_60 rfl rfl ?_
    exact r_lret dX0_bedUpTo_61 rfl H
  · have H := H.2 c
    refine r_iload_n dX0_bedUpTo_14 rfl rfl ?_
    refine r_iload dX0_bedUpTo_15 rfl ?_
    refine r_ishr dX0_bedUpTo_17 ?_
    refine r_iconst (v := (1 : Int32)) dX0_bedUpTo_18 rfl ?_
    refine r_iand dX0_bedUpTo_19 ?_
    refine r_iconst (v := (1 : Int32)) dX0_bedUpTo_20 rfl ?_
    refine r_icmp_ne (tgt := 54) dX0_bedUpTo_21 (by decide) (fun c => ?_) (fun c => ?_)
    · have H := H.1 c
      refine r_iinc (v := x5 + (1 : Int32)) dX0_bedUpTo_54 rfl rfl (by decide) rfl ?_
      refine r_goto (tgt := 5) dX0_bedUpTo_57 (by decide) ?_
      exact H
    · have H := H.2 c
      refine r_aload_n dX0_bedUpTo_24 rfl rfl ?_
      refine r_get (k := 3) (i := u0) (j := 3) (v := rV 18 u0) rfl rfl (ho3 hu0) rfl hX0 (by decide) rfl fX0_18 dX0_bedUpTo_25 (fun _ => rfl) ?_
      refine r_iload dX0_bedUpTo_28 rfl ?_
      obtain ⟨q1, H⟩ := H
      refine r_iald (k := 18) (i := u0) rfl (ho18 hu0) q1 dX0_bedUpTo_30 ?_
      refine r_iload_n dX0_bedUpTo_31 rfl rfl ?_
      refine r_icmp_gt (tgt := 54) dX0_bedUpTo_32 (by decide) (fun c => ?_) (fun c => ?_)
      · have H := H.1 c
        refine r_iinc (v := x5 + (1 : Int32)) dX0_bedUpTo_54 rfl rfl (by decide) rfl ?_
        refine r_goto (tgt := 5) dX0_bedUpTo_57 (by decide) ?_
        exact H
      · have H := H.2 c
        refine r_lload_n dX0_bedUpTo_35 rfl rfl ?_
        refine r_aload_n dX0_bedUpTo_36 rfl rfl ?_
        refine r_get (k := 3) (i := u0) (j := 2) (v := rV 17 u0) rfl rfl (ho3 hu0) rfl hX0 (by decide) rfl fX0_15 dX0_bedUpTo_37 (fun _ => rfl) ?_
        refine r_iload dX0_bedUpTo_40 rfl ?_
        refine r_iald (k := 17) (i := u0) rfl (ho17 hu0) q1 dX0_bedUpTo_42 ?_
        refine r_aload_n dX0_bedUpTo_43 rfl rfl ?_
        refine r_get (k := 3) (i := u0) (j := 3) (v := rV 18 u0) rfl rfl (ho3 hu0) rfl hX0 (by decide) rfl fX0_18 dX0_bedUpTo_44 (fun _ => rfl) ?_
        refine r_iload dX0_bedUpTo_47 rfl ?_
        refine r_iald (k := 18) (i := u0) rfl (ho18 hu0) q1 dX0_bedUpTo_49 ?_
        refine r_imul dX0_bedUpTo_50 ?_
        refine r_i2l (v := ((σ.1 17 u0 ((x5).toNatClampNeg)) * (σ.1 18 u0 ((x5).toNatClampNeg))).toInt64) dX0_bedUpTo_51 rfl ?_
        refine r_ladd dX0_bedUpTo_52 ?_
        refine r_lstore_n dX0_bedUpTo_53 rfl (by decide) rfl ?_
        refine r_iinc (v := x5 + (1 : Int32)) dX0_bedUpTo_54 rfl rfl (by decide) rfl ?_
        refine r_goto (tgt := 5) dX0_bedUpTo_57 (by decide) ?_
        exact H
set_option maxRecDepth 100000 in
theorem bX0_nextTo_0 {d : Nat} {Q : Option MV → MS → Prop} {u0 : Nat} {x1 : Int32} {x2 : Int32} {σ : MS} (hu0 : u0 < 2) (H : R mj_OC d mX0_nextTo Q 5 [some (rV 3 u0), some (iV x1), some (iV x2), some (iV (0 : Int32)), some (iV (0 : Int32)), none] [] σ) : R mj_OC d mX0_nextTo Q 0 [some (rV 3 u0), some (iV x1), some (iV x2), none, none, none] [] σ := by
  refine r_iconst (v := (0 : Int32)) dX0_nextTo_0 rfl ?_
  refine r_istore_n dX0_nextTo_1 rfl (by decide) rfl ?_
  refine r_iconst (v := (0 : Int32)) dX0_nextTo_2 rfl ?_
  refine r_istore dX0_nextTo_3 (by decide) rfl ?_
  exact H
set_option maxRecDepth 100000 in
theorem bX0_nextTo_5 {d : Nat} {Q : Option MV → MS → Prop} {u0 : Nat} {x1 : Int32} {x2 : Int32} {x3 : Int32} {x4 : Int32} {σ : MS} (hu0 : u0 < 2) (H : (((σ.1 3 u0 6) ≤ x4 → Q (some (iV x3)) σ) ∧ (¬ (σ.1 3 u0 6) ≤ x4 → (vp_in x4 10 ∧ ((¬ ((x2 >>> (x4 &&& 31)) &&& (1 : Int32)) = 0 → R mj_OC d mX0_nextTo Q 5 [some (rV 3 u0), some (iV x1), some (iV x2), some (iV x3), some (iV (x4 + (1 : Int32))), none] [] σ) ∧ (((x2 >>> (x4 &&& 31)) &&& (1 : Int32)) = 0 → ((((((1 : Int32) <<< ((σ.1 21 u0 ((x4).toNatClampNeg)) &&& 31)) ||| ((1 : Int32) <<< ((σ.1 22 u0 ((x4).toNatClampNeg)) &&& 31))) &&& x1) = 0 → R mj_OC d mX0_nextTo Q 5 [some (rV 3 u0), some (iV x1), some (iV x2), some (iV x3), some (iV (x4 + (1 : Int32))), none] [] σ) ∧ (¬ ((((1 : Int32) <<< ((σ.1 21 u0 ((x4).toNatClampNeg)) &&& 31)) ||| ((1 : Int32) <<< ((σ.1 22 u0 ((x4).toNatClampNeg)) &&& 31))) &&& x1) = 0 → R mj_OC d mX0_nextTo Q 5 [some (rV 3 u0), some (iV x1), some (iV x2), some (iV (x3 ||| (((1 : Int32) <<< ((σ.1 21 u0 ((x4).toNatClampNeg)) &&& 31)) ||| ((1 : Int32) <<< ((σ.1 22 u0 ((x4).toNatClampNeg)) &&& 31))))), some (iV (x4 + (1 : Int32))), none] [] σ)))))))) : R mj_OC d mX0_nextTo Q 5 [some (rV 3 u0), some (iV x1), some (iV x2), some (iV x3), some (iV x4), none] [] σ := by
  refine r_iload dX0_nextTo_5 rfl ?_
  refine r_aload_n dX0_nextTo_7 rfl rfl ?_
  refine r_get (k := 3) (i := u0) (j := 6) (v := iV (σ.1 3 u0 6)) rfl rfl (ho3 hu0) rfl hX0 (by decide) rfl fX0_57 dX0_nextTo_8 (fun _ => rfl) ?_
  refine r_icmp_ge (tgt := 62) dX0_nextTo_11 (by decide) (fun c => ?_) (fun c => ?_)
  · have H := H.1 c
    refine r_iload_n dX0_nextTo_62 rfl rfl ?_
    exact r_iret dX0_nextTo_63 rfl H
  · have H := H.2 c
    refine r_iconst (v := (1 : Int32)) dX0_nextTo_14 rfl ?_
    refine r_aload_n dX0_nextTo_15 rfl rfl ?_
    refine r_get (k := 3) (i := u0) (j := 7) (v := rV 21 u0) rfl rfl (ho3 hu0) rfl hX0 (by decide) rfl fX0_27 dX0_nextTo_16 (fun _ => rfl) ?_
    refine r_iload dX0_nextTo_19 rfl ?_
    obtain ⟨q1, H⟩ := H
    refine r_iald (k := 21) (i := u0) rfl (ho21 hu0) q1 dX0_nextTo_21 ?_
    refine r_ishl dX0_nextTo_22 ?_
    refine r_iconst (v := (1 : Int32)) dX0_nextTo_23 rfl ?_
    refine r_aload_n dX0_nextTo_24 rfl rfl ?_
    refine r_get (k := 3) (i := u0) (j := 8) (v := rV 22 u0) rfl rfl (ho3 hu0) rfl hX0 (by decide) rfl fX0_30 dX0_nextTo_25 (fun _ => rfl) ?_
    refine r_iload dX0_nextTo_28 rfl ?_
    refine r_iald (k := 22) (i := u0) rfl (ho22 hu0) q1 dX0_nextTo_30 ?_
    refine r_ishl dX0_nextTo_31 ?_
    refine r_ior dX0_nextTo_32 ?_
    refine r_istore dX0_nextTo_33 (by decide) rfl ?_
    refine r_iload_n dX0_nextTo_35 rfl rfl ?_
    refine r_iload dX0_nextTo_36 rfl ?_
    refine r_ishr dX0_nextTo_38 ?_
    refine r_iconst (v := (1 : Int32)) dX0_nextTo_39 rfl ?_
    refine r_iand dX0_nextTo_40 ?_
    refine r_if_ne (tgt := 56) dX0_nextTo_41 (by decide) (fun c => ?_) (fun c => ?_)
    · have H := H.1 c
      refine r_iinc (v := x4 + (1 : Int32)) dX0_nextTo_56 rfl rfl (by decide) rfl ?_
      refine r_goto (tgt := 5) dX0_nextTo_59 (by decide) ?_
      exact R.fw (ls' := [some (rV 3 u0), some (iV x1), some (iV x2), some (iV x3), some (iV (x4 + (1 : Int32))), none]) ⟨rfl, ⟨rfl, ⟨rfl, ⟨rfl, ⟨rfl, trivial⟩⟩⟩⟩⟩ H
    · have H := H.2 c
      refine r_iload dX0_nextTo_44 rfl ?_
      refine r_iload_n dX0_nextTo_46 rfl rfl ?_
      refine r_iand dX0_nextTo_47 ?_
      refine r_if_eq (tgt := 56) dX0_nextTo_48 (by decide) (fun c => ?_) (fun c => ?_)
      · have H := H.1 c
        refine r_iinc (v := x4 + (1 : Int32)) dX0_nextTo_56 rfl rfl (by decide) rfl ?_
        refine r_goto (tgt := 5) dX0_nextTo_59 (by decide) ?_
        exact R.fw (ls' := [some (rV 3 u0), some (iV x1), some (iV x2), some (iV x3), some (iV (x4 + (1 : Int32))), none]) ⟨rfl, ⟨rfl, ⟨rfl, ⟨rfl, ⟨rfl, trivial⟩⟩⟩⟩⟩ H
      · have H := H.2 c
        refine r_iload_n dX0_nextTo_51 rfl rfl ?_
        refine r_iload dX0_nextTo_52 rfl ?_
        refine r_ior dX0_nextTo_54 ?_
        refine r_istore_n dX0_nextTo_55 rfl (by decide) rfl ?_
        refine r_iinc (v := x4 + (1 : Int32)) dX0_nextTo_56 rfl rfl (by decide) rfl ?_
        refine r_goto (tgt := 5) dX0_nextTo_59 (by decide) ?_
        exact R.fw (ls' := [some (rV 3 u0), some (iV x1), some (iV x2), some (iV (x3 ||| (((1 : Int32) <<< ((σ.1 21 u0 ((x4).toNatClampNeg)) &&& 31)) ||| ((1 : Int32) <<< ((σ.1 22 u0 ((x4).toNatClampNeg)) &&& 31))))), some (iV (x4 + (1 : Int32))), none]) ⟨rfl, ⟨rfl, ⟨rfl, ⟨rfl, ⟨rfl, trivial⟩⟩⟩⟩⟩ H
set_option maxRecDepth 100000 in
theorem bX0_wideAcross_0 {d : Nat} {Q : Option MV → MS → Prop} {u0 : Nat} {x1 : Int32} {x2 : Int32} {σ : MS} (hu0 : u0 < 2) (H : R mj_OC d mX0_wideAcross Q 5 [some (rV 3 u0), some (iV x1), some (iV x2), some (iV (0 : Int32)), some (iV (0 : Int32))] [] σ) : R mj_OC d mX0_wideAcross Q 0 [some (rV 3 u0), some (iV x1), some (iV x2), none, none] [] σ := by
  refine r_iconst (v := (0 : Int32)) dX0_wideAcross_0 rfl ?_
  refine r_istore_n dX0_wideAcross_1 rfl (by decide) rfl ?_
  refine r_iconst (v := (0 : Int32)) dX0_wideAcross_2 rfl ?_
  refine r_istore dX0_wideAcross_3 (by decide) rfl ?_
  exact H
set_option maxRecDepth 100000 in
theorem bX0_wideAcross_5 {d : Nat} {Q : Option MV → MS → Prop} {u0 : Nat} {x1 : Int32} {x2 : Int32} {x3 : Int32} {x4 : Int32} {σ : MS} (hu0 : u0 < 2) (H : (((σ.1 3 u0 6) ≤ x4 → Q (some (iV x3)) σ) ∧ (¬ (σ.1 3 u0 6) ≤ x4 → ((¬ ((x2 >>> (x4 &&& 31)) &&& (1 : Int32)) = 0 → R mj_OC d mX0_wideAcross Q 5 [some (rV 3 u0), some (iV x1), some (iV x2), some (iV x3), some (iV (x4 + (1 : Int32)))] [] σ) ∧ (((x2 >>> (x4 &&& 31)) &&& (1 : Int32)) = 0 → (vp_in x4 10 ∧ ((((x1 >>> ((σ.1 21 u0 ((x4).toNatClampNeg)) &&& 31)) &&& (1 : Int32)) = ((x1 >>> ((σ.1 22 u0 ((x4).toNatClampNeg)) &&& 31)) &&& (1 : Int32)) → R mj_OC d mX0_wideAcross Q 5 [some (rV 3 u0), some (iV x1), some (iV x2), some (iV x3), some (iV (x4 + (1 : Int32)))] [] σ) ∧ (¬ ((x1 >>> ((σ.1 21 u0 ((x4).toNatClampNeg)) &&& 31)) &&& (1 : Int32)) = ((x1 >>> ((σ.1 22 u0 ((x4).toNatClampNeg)) &&& 31)) &&& (1 : Int32)) → R mj_OC d mX0_wideAcross Q 5 [some (rV 3 u0), some (iV x1), some (iV x2), some (iV (x3 + (σ.1 23 u0 ((x4).toNatClampNeg)))), some (iV (x4 + (1 : Int32)))] [] σ)))))))) : R mj_OC d mX0_wideAcross Q 5 [some (rV 3 u0), some (iV x1), some (iV x2), some (iV x3), some (iV x4)] [] σ := by
  refine r_iload dX0_wideAcross_5 rfl ?_
  refine r_aload_n dX0_wideAcross_7 rfl rfl ?_
  refine r_get (k := 3) (i := u0) (j := 6) (v := iV (σ.1 3 u0 6)) rfl rfl (ho3 hu0) rfl hX0 (by decide) rfl fX0_57 dX0_wideAcross_8 (fun _ => rfl) ?_
  refine r_icmp_ge (tgt := 64) dX0_wideAcross_11 (by decide) (fun c => ?_) (fun c => ?_)
  · have H := H.1 c
    refine r_iload_n dX0_wideAcross_64 rfl rfl ?_
    exact r_iret dX0_wideAcross_65 rfl H
  · have H := H.2 c
    refine r_iload_n dX0_wideAcross_14 rfl rfl ?_
    refine r_iload dX0_wideAcross_15 rfl ?_
    refine r_ishr dX0_wideAcross_17 ?_
    refine r_iconst (v := (1 : Int32)) dX0_wideAcross_18 rfl ?_
    refine r_iand dX0_wideAcross_19 ?_
    refine r_if_ne (tgt := 58) dX0_wideAcross_20 (by decide) (fun c => ?_) (fun c => ?_)
    · have H := H.1 c
      refine r_iinc (v := x4 + (1 : Int32)) dX0_wideAcross_58 rfl rfl (by decide) rfl ?_
      refine r_goto (tgt := 5) dX0_wideAcross_61 (by decide) ?_
      exact H
    · have H := H.2 c
      refine r_iload_n dX0_wideAcross_23 rfl rfl ?_
      refine r_aload_n dX0_wideAcross_24 rfl rfl ?_
      refine r_get (k := 3) (i := u0) (j := 7) (v := rV 21 u0) rfl rfl (ho3 hu0) rfl hX0 (by decide) rfl fX0_27 dX0_wideAcross_25 (fun _ => rfl) ?_
      refine r_iload dX0_wideAcross_28 rfl ?_
      obtain ⟨q1, H⟩ := H
      refine r_iald (k := 21) (i := u0) rfl (ho21 hu0) q1 dX0_wideAcross_30 ?_
      refine r_ishr dX0_wideAcross_31 ?_
      refine r_iconst (v := (1 : Int32)) dX0_wideAcross_32 rfl ?_
      refine r_iand dX0_wideAcross_33 ?_
      refine r_iload_n dX0_wideAcross_34 rfl rfl ?_
      refine r_aload_n dX0_wideAcross_35 rfl rfl ?_
      refine r_get (k := 3) (i := u0) (j := 8) (v := rV 22 u0) rfl rfl (ho3 hu0) rfl hX0 (by decide) rfl fX0_30 dX0_wideAcross_36 (fun _ => rfl) ?_
      refine r_iload dX0_wideAcross_39 rfl ?_
      refine r_iald (k := 22) (i := u0) rfl (ho22 hu0) q1 dX0_wideAcross_41 ?_
      refine r_ishr dX0_wideAcross_42 ?_
      refine r_iconst (v := (1 : Int32)) dX0_wideAcross_43 rfl ?_
      refine r_iand dX0_wideAcross_44 ?_
      refine r_icmp_eq (tgt := 58) dX0_wideAcross_45 (by decide) (fun c => ?_) (fun c => ?_)
      · have H := H.1 c
        refine r_iinc (v := x4 + (1 : Int32)) dX0_wideAcross_58 rfl rfl (by decide) rfl ?_
        refine r_goto (tgt := 5) dX0_wideAcross_61 (by decide) ?_
        exact H
      · have H := H.2 c
        refine r_iload_n dX0_wideAcross_48 rfl rfl ?_
        refine r_aload_n dX0_wideAcross_49 rfl rfl ?_
        refine r_get (k := 3) (i := u0) (j := 9) (v := rV 23 u0) rfl rfl (ho3 hu0) rfl hX0 (by decide) rfl fX0_33 dX0_wideAcross_50 (fun _ => rfl) ?_
        refine r_iload dX0_wideAcross_53 rfl ?_
        refine r_iald (k := 23) (i := u0) rfl (ho23 hu0) q1 dX0_wideAcross_55 ?_
        refine r_iadd dX0_wideAcross_56 ?_
        refine r_istore_n dX0_wideAcross_57 rfl (by decide) rfl ?_
        refine r_iinc (v := x4 + (1 : Int32)) dX0_wideAcross_58 rfl rfl (by decide) rfl ?_
        refine r_goto (tgt := 5) dX0_wideAcross_61 (by decide) ?_
        exact H
set_option maxRecDepth 100000 in
theorem bX1_clear_0 {d : Nat} {Q : Option MV → MS → Prop}  {σ : MS}  (H : Q none (uI (uI σ 9 0 0 (0 : Int32)) 9 0 1 (-1 : Int32))) : R mj_OC d mX1_clear Q 0 [some (rV 9 0)] [] σ := by
  refine r_aload_n dX1_clear_0 rfl rfl ?_
  refine r_iconst (v := (0 : Int32)) dX1_clear_1 rfl ?_
  refine r_putI (k := 9) (i := 0) (j := 0) (ty0 := tyX1) rfl rfl ho9 rfl hX1 (by decide) rfl fX1_32 dX1_clear_2 rfl tyX1_ok nmX1 rfl rfl rfl ?_
  refine r_aload_n dX1_clear_5 rfl rfl ?_
  refine r_iconst (v := (-1 : Int32)) dX1_clear_6 rfl ?_
  refine r_putI (k := 9) (i := 0) (j := 1) (ty0 := tyX1) rfl rfl ho9 rfl hX1 (by decide) rfl fX1_11 dX1_clear_7 rfl tyX1_ok nmX1 rfl rfl rfl ?_
  exact r_vret dX1_clear_10 rfl H
set_option maxRecDepth 100000 in
theorem bX1_isFull_0 {d : Nat} {Q : Option MV → MS → Prop}  {σ : MS}  (H : (((σ.1 9 0 0) < (24 : Int32) → Q (some (iV (0 : Int32))) σ) ∧ (¬ (σ.1 9 0 0) < (24 : Int32) → Q (some (iV (1 : Int32))) σ))) : R mj_OC d mX1_isFull Q 0 [some (rV 9 0)] [] σ := by
  refine r_aload_n dX1_isFull_0 rfl rfl ?_
  refine r_get (k := 9) (i := 0) (j := 0) (v := iV (σ.1 9 0 0)) rfl rfl ho9 rfl hX1 (by decide) rfl fX1_32 dX1_isFull_1 (fun _ => rfl) ?_
  refine r_bipush (v := (24 : Int32)) dX1_isFull_4 rfl ?_
  refine r_icmp_lt (tgt := 13) dX1_isFull_6 (by decide) (fun c => ?_) (fun c => ?_)
  · have H := H.1 c
    refine r_iconst (v := (0 : Int32)) dX1_isFull_13 rfl ?_
    exact r_zret dX1_isFull_14 rfl (by decide) H
  · have H := H.2 c
    refine r_iconst (v := (1 : Int32)) dX1_isFull_9 rfl ?_
    refine r_goto (tgt := 14) dX1_isFull_10 (by decide) ?_
    exact r_zret dX1_isFull_14 rfl (by decide) H
set_option maxRecDepth 100000 in
theorem bX1_add_0 {d : Nat} {Q : Option MV → MS → Prop} {x1 : Int32} {x2 : Int32} {x3 : Int32} {x4 : Int32} {σ : MS}  (H : (R mj_OC d mX1_isFull (fun r σ' => R mj_OC (d + 1) mX1_add Q 4 [some (rV 9 0), some (iV x1), some (iV x2), some (iV x3), some (iV x4)] (r.toList ++ []) σ') 0 [some (rV 9 0)] [] σ)) : R mj_OC (d + 1) mX1_add Q 0 [some (rV 9 0), some (iV x1), some (iV x2), some (iV x3), some (iV x4)] [] σ := by
  refine r_aload_n dX1_add_0 rfl rfl ?_
  refine r_callV (z := 0) (k := 9) (i := 0) (As := []) (st := []) kX1_isFull i_X1_isFull e_X1_isFull lX1_35 dX1_add_1 rfl rfl ho9 rfl rfl rfl rfl rfl (Nat.le_of_ble_eq_true rfl) ?_
  exact H
set_option maxRecDepth 100000 in
theorem bX1_add_4 {d : Nat} {Q : Option MV → MS → Prop} {x1 : Int32} {x2 : Int32} {x3 : Int32} {x4 : Int32} {s0 : Int32} {σ : MS}  (H : ((s0 = 0 → (vp_in (σ.1 9 0 0) 24 ∧ Q (some (iV (((σ.1 9 0 0) + (1 : Int32)) - (1 : Int32)))) (uI (uI (uI (uI (uI σ 39 0 (((σ.1 9 0 0)).toNatClampNeg) x1) 40 0 (((σ.1 9 0 0)).toNatClampNeg) x2) 41 0 (((σ.1 9 0 0)).toNatClampNeg) x3) 42 0 (((σ.1 9 0 0)).toNatClampNeg) x4) 9 0 0 ((σ.1 9 0 0) + (1 : Int32))))) ∧ (¬ s0 = 0 → Q (some (iV (-1 : Int32))) σ))) : R mj_OC d mX1_add Q 4 [some (rV 9 0), some (iV x1), some (iV x2), some (iV x3), some (iV x4)] [iV s0] σ := by
  refine r_if_eq (tgt := 9) dX1_add_4 (by decide) (fun c => ?_) (fun c => ?_)
  · have H := H.1 c
    refine r_aload_n dX1_add_9 rfl rfl ?_
    refine r_get (k := 9) (i := 0) (j := 2) (v := rV 39 0) rfl rfl ho9 rfl hX1 (by decide) rfl fX1_15 dX1_add_10 (fun _ => rfl) ?_
    refine r_aload_n dX1_add_13 rfl rfl ?_
    refine r_get (k := 9) (i := 0) (j := 0) (v := iV (σ.1 9 0 0)) rfl rfl ho9 rfl hX1 (by decide) rfl fX1_32 dX1_add_14 (fun _ => rfl) ?_
    refine r_iload_n dX1_add_17 rfl rfl ?_
    obtain ⟨q1, H⟩ := H
    refine r_iast (k := 39) (i := 0) rfl ho39 q1 dX1_add_18 ?_
    refine r_aload_n dX1_add_19 rfl rfl ?_
    refine r_get (k := 9) (i := 0) (j := 3) (v := rV 40 0) rfl rfl ho9 rfl hX1 (by decide) rfl fX1_19 dX1_add_20 (fun _ => rfl) ?_
    refine r_aload_n dX1_add_23 rfl rfl ?_
    refine r_get (k := 9) (i := 0) (j := 0) (v := iV (σ.1 9 0 0)) rfl rfl ho9 rfl hX1 (by decide) rfl fX1_32 dX1_add_24 (fun _ => rfl) ?_
    refine r_iload_n dX1_add_27 rfl rfl ?_
    refine r_iast (k := 40) (i := 0) rfl ho40 q1 dX1_add_28 ?_
    refine r_aload_n dX1_add_29 rfl rfl ?_
    refine r_get (k := 9) (i := 0) (j := 4) (v := rV 41 0) rfl rfl ho9 rfl hX1 (by decide) rfl fX1_22 dX1_add_30 (fun _ => rfl) ?_
    refine r_aload_n dX1_add_33 rfl rfl ?_
    refine r_get (k := 9) (i := 0) (j := 0) (v := iV (σ.1 9 0 0)) rfl rfl ho9 rfl hX1 (by decide) rfl fX1_32 dX1_add_34 (fun _ => rfl) ?_
    refine r_iload_n dX1_add_37 rfl rfl ?_
    refine r_iast (k := 41) (i := 0) rfl ho41 q1 dX1_add_38 ?_
    refine r_aload_n dX1_add_39 rfl rfl ?_
    refine r_get (k := 9) (i := 0) (j := 5) (v := rV 42 0) rfl rfl ho9 rfl hX1 (by decide) rfl fX1_25 dX1_add_40 (fun _ => rfl) ?_
    refine r_aload_n dX1_add_43 rfl rfl ?_
    refine r_get (k := 9) (i := 0) (j := 0) (v := iV (σ.1 9 0 0)) rfl rfl ho9 rfl hX1 (by decide) rfl fX1_32 dX1_add_44 (fun _ => rfl) ?_
    refine r_iload dX1_add_47 rfl ?_
    refine r_iast (k := 42) (i := 0) rfl ho42 q1 dX1_add_49 ?_
    refine r_aload_n dX1_add_50 rfl rfl ?_
    refine r_dup_r dX1_add_51 ?_
    refine r_get (k := 9) (i := 0) (j := 0) (v := iV (σ.1 9 0 0)) rfl rfl ho9 rfl hX1 (by decide) rfl fX1_32 dX1_add_52 (fun _ => rfl) ?_
    refine r_iconst (v := (1 : Int32)) dX1_add_55 rfl ?_
    refine r_iadd dX1_add_56 ?_
    refine r_putI (k := 9) (i := 0) (j := 0) (ty0 := tyX1) rfl rfl ho9 rfl hX1 (by decide) rfl fX1_32 dX1_add_57 rfl tyX1_ok nmX1 rfl rfl rfl ?_
    refine r_aload_n dX1_add_60 rfl rfl ?_
    refine r_get (k := 9) (i := 0) (j := 0) (v := iV ((σ.1 9 0 0) + (1 : Int32))) rfl rfl ho9 rfl hX1 (by decide) rfl fX1_32 dX1_add_61 (fun _ => rfl) ?_
    refine r_iconst (v := (1 : Int32)) dX1_add_64 rfl ?_
    refine r_isub dX1_add_65 ?_
    exact r_iret dX1_add_66 rfl H
  · have H := H.2 c
    refine r_iconst (v := (-1 : Int32)) dX1_add_7 rfl ?_
    exact r_iret dX1_add_8 rfl H
set_option maxRecDepth 100000 in
theorem bX1_knownCount_0 {d : Nat} {Q : Option MV → MS → Prop}  {σ : MS}  (H : ((¬ (σ.1 9 0 1) = (-1 : Int32) → Q (some (iV (σ.1 9 0 1))) σ) ∧ ((σ.1 9 0 1) = (-1 : Int32) → Q (some (iV (σ.1 9 0 0))) σ))) : R mj_OC d mX1_knownCount Q 0 [some (rV 9 0)] [] σ := by
  refine r_aload_n dX1_knownCount_0 rfl rfl ?_
  refine r_get (k := 9) (i := 0) (j := 1) (v := iV (σ.1 9 0 1)) rfl rfl ho9 rfl hX1 (by decide) rfl fX1_11 dX1_knownCount_1 (fun _ => rfl) ?_
  refine r_iconst (v := (-1 : Int32)) dX1_knownCount_4 rfl ?_
  refine r_icmp_ne (tgt := 15) dX1_knownCount_5 (by decide) (fun c => ?_) (fun c => ?_)
  · have H := H.1 c
    refine r_aload_n dX1_knownCount_15 rfl rfl ?_
    refine r_get (k := 9) (i := 0) (j := 1) (v := iV (σ.1 9 0 1)) rfl rfl ho9 rfl hX1 (by decide) rfl fX1_11 dX1_knownCount_16 (fun _ => rfl) ?_
    exact r_iret dX1_knownCount_19 rfl H
  · have H := H.2 c
    refine r_aload_n dX1_knownCount_8 rfl rfl ?_
    refine r_get (k := 9) (i := 0) (j := 0) (v := iV (σ.1 9 0 0)) rfl rfl ho9 rfl hX1 (by decide) rfl fX1_32 dX1_knownCount_9 (fun _ => rfl) ?_
    refine r_goto (tgt := 19) dX1_knownCount_12 (by decide) ?_
    exact r_iret dX1_knownCount_19 rfl H
set_option maxRecDepth 100000 in
theorem bX1_settle_0 {d : Nat} {Q : Option MV → MS → Prop}  {σ : MS}  (H : R mj_OC d mX1_settle Q 2 [some (rV 9 0), some (iV (0 : Int32))] [] σ) : R mj_OC d mX1_settle Q 0 [some (rV 9 0), none] [] σ := by
  refine r_iconst (v := (0 : Int32)) dX1_settle_0 rfl ?_
  refine r_istore_n dX1_settle_1 rfl (by decide) rfl ?_
  exact H
set_option maxRecDepth 100000 in
theorem bX1_settle_2 {d : Nat} {Q : Option MV → MS → Prop} {x1 : Int32} {σ : MS}  (H : (((24 : Int32) ≤ x1 → (R mj_OC d mX1_knownCount (fun r σ' => R mj_OC (d + 1) mX1_settle Q 25 [some (rV 9 0), some (iV x1)] (r.toList ++ []) σ') 0 [some (rV 9 0)] [] σ)) ∧ (¬ (24 : Int32) ≤ x1 → (vp_in x1 24 ∧ R mj_OC (d + 1) mX1_settle Q 2 [some (rV 9 0), some (iV (x1 + (1 : Int32)))] [] (uI σ 43 0 ((x1).toNatClampNeg) (0 : Int32)))))) : R mj_OC (d + 1) mX1_settle Q 2 [some (rV 9 0), some (iV x1)] [] σ := by
  refine r_iload_n dX1_settle_2 rfl rfl ?_
  refine r_bipush (v := (24 : Int32)) dX1_settle_3 rfl ?_
  refine r_icmp_ge (tgt := 21) dX1_settle_5 (by decide) (fun c => ?_) (fun c => ?_)
  · have H := H.1 c
    refine r_aload_n dX1_settle_21 rfl rfl ?_
    refine r_callV (z := 0) (k := 9) (i := 0) (As := []) (st := []) kX1_knownCount i_X1_knownCount e_X1_knownCount lX1_39 dX1_settle_22 rfl rfl ho9 rfl rfl rfl rfl rfl (Nat.le_of_ble_eq_true rfl) ?_
    exact H
  · have H := H.2 c
    refine r_aload_n dX1_settle_8 rfl rfl ?_
    refine r_get (k := 9) (i := 0) (j := 6) (v := rV 43 0) rfl rfl ho9 rfl hX1 (by decide) rfl fX1_28 dX1_settle_9 (fun _ => rfl) ?_
    refine r_iload_n dX1_settle_12 rfl rfl ?_
    refine r_iconst (v := (0 : Int32)) dX1_settle_13 rfl ?_
    obtain ⟨q1, H⟩ := H
    refine r_zast (k := 43) (i := 0) rfl ho43 q1 (by decide) dX1_settle_14 ?_
    refine r_iinc (v := x1 + (1 : Int32)) dX1_settle_15 rfl rfl (by decide) rfl ?_
    refine r_goto (tgt := 2) dX1_settle_18 (by decide) ?_
    exact H
set_option maxRecDepth 100000 in
theorem bX1_settle_25 {d : Nat} {Q : Option MV → MS → Prop} {x1 : Int32} {s0 : Int32} {σ : MS}  (H : R mj_OC d mX1_settle Q 28 [some (rV 9 0), some (iV (s0 - (1 : Int32)))] [] σ) : R mj_OC d mX1_settle Q 25 [some (rV 9 0), some (iV x1)] [iV s0] σ := by
  refine r_iconst (v := (1 : Int32)) dX1_settle_25 rfl ?_
  refine r_isub dX1_settle_26 ?_
  refine r_istore_n dX1_settle_27 rfl (by decide) rfl ?_
  exact H
set_option maxRecDepth 100000 in
theorem bX1_settle_28 {d : Nat} {Q : Option MV → MS → Prop} {x1 : Int32} {σ : MS}  (H : ((x1 < 0 → Q none σ) ∧ (¬ x1 < 0 → (vp_in x1 24 ∧ ((¬ (σ.1 39 0 ((x1).toNatClampNeg)) = (2 : Int32) → R mj_OC d mX1_settle Q 28 [some (rV 9 0), some (iV (x1 + (-1 : Int32)))] [] σ) ∧ ((σ.1 39 0 ((x1).toNatClampNeg)) = (2 : Int32) → ((¬ (σ.1 43 0 ((x1).toNatClampNeg)) = 0 → R mj_OC d mX1_settle Q 28 [some (rV 9 0), some (iV (x1 + (-1 : Int32)))] [] σ) ∧ ((σ.1 43 0 ((x1).toNatClampNeg)) = 0 → (vp_in (σ.1 41 0 ((x1).toNatClampNeg)) 24 ∧ R mj_OC d mX1_settle Q 28 [some (rV 9 0), some (iV (x1 + (-1 : Int32)))] [] (uI σ 43 0 (((σ.1 41 0 ((x1).toNatClampNeg))).toNatClampNeg) (1 : Int32))))))))))) : R mj_OC d mX1_settle Q 28 [some (rV 9 0), some (iV x1)] [] σ := by
  refine r_iload_n dX1_settle_28 rfl rfl ?_
  refine r_if_lt (tgt := 69) dX1_settle_29 (by decide) (fun c => ?_) (fun c => ?_)
  · have H := H.1 c
    exact r_vret dX1_settle_69 rfl H
  · have H := H.2 c
    refine r_aload_n dX1_settle_32 rfl rfl ?_
    refine r_get (k := 9) (i := 0) (j := 2) (v := rV 39 0) rfl rfl ho9 rfl hX1 (by decide) rfl fX1_15 dX1_settle_33 (fun _ => rfl) ?_
    refine r_iload_n dX1_settle_36 rfl rfl ?_
    obtain ⟨q1, H⟩ := H
    refine r_iald (k := 39) (i := 0) rfl ho39 q1 dX1_settle_37 ?_
    refine r_iconst (v := (2 : Int32)) dX1_settle_38 rfl ?_
    refine r_icmp_ne (tgt := 63) dX1_settle_39 (by decide) (fun c => ?_) (fun c => ?_)
    · have H := H.1 c
      refine r_iinc (v := x1 + (-1 : Int32)) dX1_settle_63 rfl rfl (by decide) rfl ?_
      refine r_goto (tgt := 28) dX1_settle_66 (by decide) ?_
      exact H
    · have H := H.2 c
      refine r_aload_n dX1_settle_42 rfl rfl ?_
      refine r_get (k := 9) (i := 0) (j := 6) (v := rV 43 0) rfl rfl ho9 rfl hX1 (by decide) rfl fX1_28 dX1_settle_43 (fun _ => rfl) ?_
      refine r_iload_n dX1_settle_46 rfl rfl ?_
      refine r_zald (k := 43) (i := 0) rfl ho43 q1 dX1_settle_47 ?_
      refine r_if_ne (tgt := 63) dX1_settle_48 (by decide) (fun c => ?_) (fun c => ?_)
      · have H := H.1 c
        refine r_iinc (v := x1 + (-1 : Int32)) dX1_settle_63 rfl rfl (by decide) rfl ?_
        refine r_goto (tgt := 28) dX1_settle_66 (by decide) ?_
        exact H
      · have H := H.2 c
        refine r_aload_n dX1_settle_51 rfl rfl ?_
        refine r_get (k := 9) (i := 0) (j := 6) (v := rV 43 0) rfl rfl ho9 rfl hX1 (by decide) rfl fX1_28 dX1_settle_52 (fun _ => rfl) ?_
        refine r_aload_n dX1_settle_55 rfl rfl ?_
        refine r_get (k := 9) (i := 0) (j := 4) (v := rV 41 0) rfl rfl ho9 rfl hX1 (by decide) rfl fX1_22 dX1_settle_56 (fun _ => rfl) ?_
        refine r_iload_n dX1_settle_59 rfl rfl ?_
        refine r_iald (k := 41) (i := 0) rfl ho41 q1 dX1_settle_60 ?_
        refine r_iconst (v := (1 : Int32)) dX1_settle_61 rfl ?_
        obtain ⟨q2, H⟩ := H
        refine r_zast (k := 43) (i := 0) rfl ho43 q2 (by decide) dX1_settle_62 ?_
        refine r_iinc (v := x1 + (-1 : Int32)) dX1_settle_63 rfl rfl (by decide) rfl ?_
        refine r_goto (tgt := 28) dX1_settle_66 (by decide) ?_
        exact H
set_option maxRecDepth 100000 in
theorem bX1_counts_0 {d : Nat} {Q : Option MV → MS → Prop} {x1 : Int32} {σ : MS}  (H : (vp_in x1 24 ∧ (((σ.1 39 0 ((x1).toNatClampNeg)) = (2 : Int32) → Q (some (iV (0 : Int32))) σ) ∧ (¬ (σ.1 39 0 ((x1).toNatClampNeg)) = (2 : Int32) → ((¬ (σ.1 43 0 ((x1).toNatClampNeg)) = 0 → Q (some (iV (0 : Int32))) σ) ∧ ((σ.1 43 0 ((x1).toNatClampNeg)) = 0 → Q (some (iV (1 : Int32))) σ)))))) : R mj_OC d mX1_counts Q 0 [some (rV 9 0), some (iV x1)] [] σ := by
  refine r_aload_n dX1_counts_0 rfl rfl ?_
  refine r_get (k := 9) (i := 0) (j := 2) (v := rV 39 0) rfl rfl ho9 rfl hX1 (by decide) rfl fX1_15 dX1_counts_1 (fun _ => rfl) ?_
  refine r_iload_n dX1_counts_4 rfl rfl ?_
  obtain ⟨q1, H⟩ := H
  refine r_iald (k := 39) (i := 0) rfl ho39 q1 dX1_counts_5 ?_
  refine r_iconst (v := (2 : Int32)) dX1_counts_6 rfl ?_
  refine r_icmp_eq (tgt := 23) dX1_counts_7 (by decide) (fun c => ?_) (fun c => ?_)
  · have H := H.1 c
    refine r_iconst (v := (0 : Int32)) dX1_counts_23 rfl ?_
    exact r_zret dX1_counts_24 rfl (by decide) H
  · have H := H.2 c
    refine r_aload_n dX1_counts_10 rfl rfl ?_
    refine r_get (k := 9) (i := 0) (j := 6) (v := rV 43 0) rfl rfl ho9 rfl hX1 (by decide) rfl fX1_28 dX1_counts_11 (fun _ => rfl) ?_
    refine r_iload_n dX1_counts_14 rfl rfl ?_
    refine r_zald (k := 43) (i := 0) rfl ho43 q1 dX1_counts_15 ?_
    refine r_if_ne (tgt := 23) dX1_counts_16 (by decide) (fun c => ?_) (fun c => ?_)
    · have H := H.1 c
      refine r_iconst (v := (0 : Int32)) dX1_counts_23 rfl ?_
      exact r_zret dX1_counts_24 rfl (by decide) H
    · have H := H.2 c
      refine r_iconst (v := (1 : Int32)) dX1_counts_19 rfl ?_
      refine r_goto (tgt := 24) dX1_counts_20 (by decide) ?_
      exact r_zret dX1_counts_24 rfl (by decide) H
set_option maxRecDepth 100000 in
theorem bX1_lastKnownMinute_0 {d : Nat} {Q : Option MV → MS → Prop}  {σ : MS}  (H : R mj_OC d mX1_lastKnownMinute Q 4 [some (rV 9 0), some (iV (0 : Int32)), some (iV (0 : Int32))] [] σ) : R mj_OC d mX1_lastKnownMinute Q 0 [some (rV 9 0), none, none] [] σ := by
  refine r_iconst (v := (0 : Int32)) dX1_lastKnownMinute_0 rfl ?_
  refine r_istore_n dX1_lastKnownMinute_1 rfl (by decide) rfl ?_
  refine r_iconst (v := (0 : Int32)) dX1_lastKnownMinute_2 rfl ?_
  refine r_istore_n dX1_lastKnownMinute_3 rfl (by decide) rfl ?_
  exact H
set_option maxRecDepth 100000 in
theorem bX1_lastKnownMinute_4 {d : Nat} {Q : Option MV → MS → Prop} {x1 : Int32} {x2 : Int32} {σ : MS}  (H : (R mj_OC d mX1_knownCount (fun r σ' => R mj_OC (d + 1) mX1_lastKnownMinute Q 9 [some (rV 9 0), some (iV x1), some (iV x2)] (r.toList ++ [iV x2]) σ') 0 [some (rV 9 0)] [] σ)) : R mj_OC (d + 1) mX1_lastKnownMinute Q 4 [some (rV 9 0), some (iV x1), some (iV x2)] [] σ := by
  refine r_iload_n dX1_lastKnownMinute_4 rfl rfl ?_
  refine r_aload_n dX1_lastKnownMinute_5 rfl rfl ?_
  refine r_callV (z := 0) (k := 9) (i := 0) (As := []) (st := [iV x2]) kX1_knownCount i_X1_knownCount e_X1_knownCount lX1_39 dX1_lastKnownMinute_6 rfl rfl ho9 rfl rfl rfl rfl rfl (Nat.le_of_ble_eq_true rfl) ?_
  exact H
set_option maxRecDepth 100000 in
theorem bX1_lastKnownMinute_9 {d : Nat} {Q : Option MV → MS → Prop} {x1 : Int32} {x2 : Int32} {s0 : Int32} {s1 : Int32} {σ : MS}  (H : ((s0 ≤ s1 → Q (some (iV x1)) σ) ∧ (¬ s0 ≤ s1 → (R mj_OC d mX1_counts (fun r σ' => R mj_OC (d + 1) mX1_lastKnownMinute Q 17 [some (rV 9 0), some (iV x1), some (iV x2)] (r.toList ++ []) σ') 0 [some (rV 9 0), some (iV x2)] [] σ)))) : R mj_OC (d + 1) mX1_lastKnownMinute Q 9 [some (rV 9 0), some (iV x1), some (iV x2)] [iV s0, iV s1] σ := by
  refine r_icmp_ge (tgt := 37) dX1_lastKnownMinute_9 (by decide) (fun c => ?_) (fun c => ?_)
  · have H := H.1 c
    refine r_iload_n dX1_lastKnownMinute_37 rfl rfl ?_
    exact r_iret dX1_lastKnownMinute_38 rfl H
  · have H := H.2 c
    refine r_aload_n dX1_lastKnownMinute_12 rfl rfl ?_
    refine r_iload_n dX1_lastKnownMinute_13 rfl rfl ?_
    refine r_callV (z := 0) (k := 9) (i := 0) (As := [iV x2]) (st := []) kX1_counts i_X1_counts e_X1_counts lX1_43 dX1_lastKnownMinute_14 rfl rfl ho9 rfl rfl rfl rfl rfl (Nat.le_of_ble_eq_true rfl) ?_
    exact H
set_option maxRecDepth 100000 in
theorem bX1_lastKnownMinute_17 {d : Nat} {Q : Option MV → MS → Prop} {x1 : Int32} {x2 : Int32} {s0 : Int32} {σ : MS}  (H : ((s0 = 0 → R mj_OC (d + 1) mX1_lastKnownMinute Q 4 [some (rV 9 0), some (iV x1), some (iV (x2 + (1 : Int32)))] [] σ) ∧ (¬ s0 = 0 → (vp_in x2 24 ∧ R mj_OC (d + 1) mX1_lastKnownMinute Q 4 [some (rV 9 0), some (iV (if x1 < (σ.1 40 0 ((x2).toNatClampNeg)) then (σ.1 40 0 ((x2).toNatClampNeg)) else x1)), some (iV (x2 + (1 : Int32)))] [] σ)))) : R mj_OC (d + 1) mX1_lastKnownMinute Q 17 [some (rV 9 0), some (iV x1), some (iV x2)] [iV s0] σ := by
  refine r_if_eq (tgt := 31) dX1_lastKnownMinute_17 (by decide) (fun c => ?_) (fun c => ?_)
  · have H := H.1 c
    refine r_iinc (v := x2 + (1 : Int32)) dX1_lastKnownMinute_31 rfl rfl (by decide) rfl ?_
    refine r_goto (tgt := 4) dX1_lastKnownMinute_34 (by decide) ?_
    exact H
  · have H := H.2 c
    refine r_iload_n dX1_lastKnownMinute_20 rfl rfl ?_
    refine r_aload_n dX1_lastKnownMinute_21 rfl rfl ?_
    refine r_get (k := 9) (i := 0) (j := 3) (v := rV 40 0) rfl rfl ho9 rfl hX1 (by decide) rfl fX1_19 dX1_lastKnownMinute_22 (fun _ => rfl) ?_
    refine r_iload_n dX1_lastKnownMinute_25 rfl rfl ?_
    obtain ⟨q1, H⟩ := H
    refine r_iald (k := 40) (i := 0) rfl ho40 q1 dX1_lastKnownMinute_26 ?_
    refine r_mmax lX1_47 dX1_lastKnownMinute_27 (Nat.le_of_ble_eq_true rfl) ?_
    refine r_istore_n dX1_lastKnownMinute_30 rfl (by decide) rfl ?_
    refine r_iinc (v := x2 + (1 : Int32)) dX1_lastKnownMinute_31 rfl rfl (by decide) rfl ?_
    refine r_goto (tgt := 4) dX1_lastKnownMinute_34 (by decide) ?_
    exact H
set_option maxRecDepth 100000 in
theorem bX1_hold_0 {d : Nat} {Q : Option MV → MS → Prop} {x1 : Int32} {k2 : Nat} {n2 : Nat} {u2 : Nat} {σ : MS} (hk2 : mj_sch k2 = .inr (0, n2)) (gk2 : (k2, u2) ∈ mj_OC) (H : R mj_OC d mX1_hold Q 2 [some (rV 9 0), some (iV x1), some (rV k2 u2), some (iV (0 : Int32))] [] σ) : R mj_OC d mX1_hold Q 0 [some (rV 9 0), some (iV x1), some (rV k2 u2), none] [] σ := by
  refine r_iconst (v := (0 : Int32)) dX1_hold_0 rfl ?_
  refine r_istore_n dX1_hold_1 rfl (by decide) rfl ?_
  exact H
set_option maxRecDepth 100000 in
theorem bX1_hold_2 {d : Nat} {Q : Option MV → MS → Prop} {x1 : Int32} {k2 : Nat} {n2 : Nat} {u2 : Nat} {x3 : Int32} {σ : MS} (hk2 : mj_sch k2 = .inr (0, n2)) (gk2 : (k2, u2) ∈ mj_OC) (H : (R mj_OC d mX1_knownCount (fun r σ' => R mj_OC (d + 1) mX1_hold Q 7 [some (rV 9 0), some (iV x1), some (rV k2 u2), some (iV x3)] (r.toList ++ [iV x3]) σ') 0 [some (rV 9 0)] [] σ)) : R mj_OC (d + 1) mX1_hold Q 2 [some (rV 9 0), some (iV x1), some (rV k2 u2), some (iV x3)] [] σ := by
  refine r_iload_n dX1_hold_2 rfl rfl ?_
  refine r_aload_n dX1_hold_3 rfl rfl ?_
  refine r_callV (z := 0) (k := 9) (i := 0) (As := []) (st := [iV x3]) kX1_knownCount i_X1_knownCount e_X1_knownCount lX1_39 dX1_hold_4 rfl rfl ho9 rfl rfl rfl rfl rfl (Nat.le_of_ble_eq_true rfl) ?_
  exact H
set_option maxRecDepth 100000 in
theorem bX1_hold_7 {d : Nat} {Q : Option MV → MS → Prop} {x1 : Int32} {k2 : Nat} {n2 : Nat} {u2 : Nat} {x3 : Int32} {s0 : Int32} {s1 : Int32} {σ : MS} (hk2 : mj_sch k2 = .inr (0, n2)) (gk2 : (k2, u2) ∈ mj_OC) (H : ((s0 ≤ s1 → Q (some (iV (1 : Int32))) σ) ∧ (¬ s0 ≤ s1 → (R mj_OC d mX1_counts (fun r σ' => R mj_OC (d + 1) mX1_hold Q 15 [some (rV 9 0), some (iV x1), some (rV k2 u2), some (iV x3)] (r.toList ++ []) σ') 0 [some (rV 9 0), some (iV x3)] [] σ)))) : R mj_OC (d + 1) mX1_hold Q 7 [some (rV 9 0), some (iV x1), some (rV k2 u2), some (iV x3)] [iV s0, iV s1] σ := by
  refine r_icmp_ge (tgt := 76) dX1_hold_7 (by decide) (fun c => ?_) (fun c => ?_)
  · have H := H.1 c
    refine r_iconst (v := (1 : Int32)) dX1_hold_76 rfl ?_
    exact r_zret dX1_hold_77 rfl (by decide) H
  · have H := H.2 c
    refine r_aload_n dX1_hold_10 rfl rfl ?_
    refine r_iload_n dX1_hold_11 rfl rfl ?_
    refine r_callV (z := 0) (k := 9) (i := 0) (As := [iV x3]) (st := []) kX1_counts i_X1_counts e_X1_counts lX1_43 dX1_hold_12 rfl rfl ho9 rfl rfl rfl rfl rfl (Nat.le_of_ble_eq_true rfl) ?_
    exact H
set_option maxRecDepth 100000 in
theorem bX1_hold_15 {d : Nat} {Q : Option MV → MS → Prop} {x1 : Int32} {k2 : Nat} {n2 : Nat} {u2 : Nat} {x3 : Int32} {s0 : Int32} {σ : MS} (hk2 : mj_sch k2 = .inr (0, n2)) (gk2 : (k2, u2) ∈ mj_OC) (H : ((s0 = 0 → R mj_OC d mX1_hold Q 2 [some (rV 9 0), some (iV x1), some (rV k2 u2), some (iV (x3 + (1 : Int32)))] [] σ) ∧ (¬ s0 = 0 → (vp_in x3 24 ∧ ((¬ (σ.1 40 0 ((x3).toNatClampNeg)) = x1 → R mj_OC d mX1_hold Q 2 [some (rV 9 0), some (iV x1), some (rV k2 u2), some (iV (x3 + (1 : Int32)))] [] σ) ∧ ((σ.1 40 0 ((x3).toNatClampNeg)) = x1 → (vp_in (σ.1 41 0 ((x3).toNatClampNeg)) n2 ∧ (((σ.1 k2 u2 (((σ.1 41 0 ((x3).toNatClampNeg))).toNatClampNeg)) < (σ.1 42 0 ((x3).toNatClampNeg)) → ((¬ (σ.1 39 0 ((x3).toNatClampNeg)) = (1 : Int32) → (((0 : Int32) = (0 : Int32) → R mj_OC d mX1_hold Q 2 [some (rV 9 0), some (iV x1), some (rV k2 u2), some (iV (x3 + (1 : Int32)))] [] σ) ∧ (¬ (0 : Int32) = (0 : Int32) → Q (some (iV (0 : Int32))) σ))) ∧ ((σ.1 39 0 ((x3).toNatClampNeg)) = (1 : Int32) → (((0 : Int32) = (1 : Int32) → R mj_OC d mX1_hold Q 2 [some (rV 9 0), some (iV x1), some (rV k2 u2), some (iV (x3 + (1 : Int32)))] [] σ) ∧ (¬ (0 : Int32) = (1 : Int32) → Q (some (iV (0 : Int32))) σ))))) ∧ (¬ (σ.1 k2 u2 (((σ.1 41 0 ((x3).toNatClampNeg))).toNatClampNeg)) < (σ.1 42 0 ((x3).toNatClampNeg)) → ((¬ (σ.1 39 0 ((x3).toNatClampNeg)) = (1 : Int32) → (((1 : Int32) = (0 : Int32) → R mj_OC d mX1_hold Q 2 [some (rV 9 0), some (iV x1), some (rV k2 u2), some (iV (x3 + (1 : Int32)))] [] σ) ∧ (¬ (1 : Int32) = (0 : Int32) → Q (some (iV (0 : Int32))) σ))) ∧ ((σ.1 39 0 ((x3).toNatClampNeg)) = (1 : Int32) → (((1 : Int32) = (1 : Int32) → R mj_OC d mX1_hold Q 2 [some (rV 9 0), some (iV x1), some (rV k2 u2), some (iV (x3 + (1 : Int32)))] [] σ) ∧ (¬ (1 : Int32) = (1 : Int32) → Q (some (iV (0 : Int32))) σ))))))))))))) : R mj_OC d mX1_hold Q 15 [some (rV 9 0), some (iV x1), some (rV k2 u2), some (iV x3)] [iV s0] σ := by
  refine r_if_eq (tgt := 70) dX1_hold_15 (by decide) (fun c => ?_) (fun c => ?_)
  · have H := H.1 c
    refine r_iinc (v := x3 + (1 : Int32)) dX1_hold_70 rfl rfl (by decide) rfl ?_
    refine r_goto (tgt := 2) dX1_hold_73 (by decide) ?_
    exact H
  · have H := H.2 c
    refine r_aload_n dX1_hold_18 rfl rfl ?_
    refine r_get (k := 9) (i := 0) (j := 3) (v := rV 40 0) rfl rfl ho9 rfl hX1 (by decide) rfl fX1_19 dX1_hold_19 (fun _ => rfl) ?_
    refine r_iload_n dX1_hold_22 rfl rfl ?_
    obtain ⟨q1, H⟩ := H
    refine r_iald (k := 40) (i := 0) rfl ho40 q1 dX1_hold_23 ?_
    refine r_iload_n dX1_hold_24 rfl rfl ?_
    refine r_icmp_ne (tgt := 70) dX1_hold_25 (by decide) (fun c => ?_) (fun c => ?_)
    · have H := H.1 c
      refine r_iinc (v := x3 + (1 : Int32)) dX1_hold_70 rfl rfl (by decide) rfl ?_
      refine r_goto (tgt := 2) dX1_hold_73 (by decide) ?_
      exact H
    · have H := H.2 c
      refine r_aload_n dX1_hold_28 rfl rfl ?_
      refine r_aload_n dX1_hold_29 rfl rfl ?_
      refine r_get (k := 9) (i := 0) (j := 4) (v := rV 41 0) rfl rfl ho9 rfl hX1 (by decide) rfl fX1_22 dX1_hold_30 (fun _ => rfl) ?_
      refine r_iload_n dX1_hold_33 rfl rfl ?_
      refine r_iald (k := 41) (i := 0) rfl ho41 q1 dX1_hold_34 ?_
      obtain ⟨q2, H⟩ := H
      refine r_iald (k := k2) (i := u2) hk2 gk2 q2 dX1_hold_35 ?_
      refine r_aload_n dX1_hold_36 rfl rfl ?_
      refine r_get (k := 9) (i := 0) (j := 5) (v := rV 42 0) rfl rfl ho9 rfl hX1 (by decide) rfl fX1_25 dX1_hold_37 (fun _ => rfl) ?_
      refine r_iload_n dX1_hold_40 rfl rfl ?_
      refine r_iald (k := 42) (i := 0) rfl ho42 q1 dX1_hold_41 ?_
      refine r_icmp_lt (tgt := 49) dX1_hold_42 (by decide) (fun c => ?_) (fun c => ?_)
      · have H := H.1 c
        refine r_iconst (v := (0 : Int32)) dX1_hold_49 rfl ?_
        refine r_aload_n dX1_hold_50 rfl rfl ?_
        refine r_get (k := 9) (i := 0) (j := 2) (v := rV 39 0) rfl rfl ho9 rfl hX1 (by decide) rfl fX1_15 dX1_hold_51 (fun _ => rfl) ?_
        refine r_iload_n dX1_hold_54 rfl rfl ?_
        refine r_iald (k := 39) (i := 0) rfl ho39 q1 dX1_hold_55 ?_
        refine r_iconst (v := (1 : Int32)) dX1_hold_56 rfl ?_
        refine r_icmp_ne (tgt := 64) dX1_hold_57 (by decide) (fun c => ?_) (fun c => ?_)
        · have H := H.1 c
          refine r_iconst (v := (0 : Int32)) dX1_hold_64 rfl ?_
          refine r_icmp_eq (tgt := 70) dX1_hold_65 (by decide) (fun c => ?_) (fun c => ?_)
          · have H := H.1 c
            refine r_iinc (v := x3 + (1 : Int32)) dX1_hold_70 rfl rfl (by decide) rfl ?_
            refine r_goto (tgt := 2) dX1_hold_73 (by decide) ?_
            exact H
          · have H := H.2 c
            refine r_iconst (v := (0 : Int32)) dX1_hold_68 rfl ?_
            exact r_zret dX1_hold_69 rfl (by decide) H
        · have H := H.2 c
          refine r_iconst (v := (1 : Int32)) dX1_hold_60 rfl ?_
          refine r_goto (tgt := 65) dX1_hold_61 (by decide) ?_
          refine r_icmp_eq (tgt := 70) dX1_hold_65 (by decide) (fun c => ?_) (fun c => ?_)
          · have H := H.1 c
            refine r_iinc (v := x3 + (1 : Int32)) dX1_hold_70 rfl rfl (by decide) rfl ?_
            refine r_goto (tgt := 2) dX1_hold_73 (by decide) ?_
            exact H
          · have H := H.2 c
            refine r_iconst (v := (0 : Int32)) dX1_hold_68 rfl ?_
            exact r_zret dX1_hold_69 rfl (by decide) H
      · have H := H.2 c
        refine r_iconst (v := (1 : Int32)) dX1_hold_45 rfl ?_
        refine r_goto (tgt := 50) dX1_hold_46 (by decide) ?_
        refine r_aload_n dX1_hold_50 rfl rfl ?_
        refine r_get (k := 9) (i := 0) (j := 2) (v := rV 39 0) rfl rfl ho9 rfl hX1 (by decide) rfl fX1_15 dX1_hold_51 (fun _ => rfl) ?_
        refine r_iload_n dX1_hold_54 rfl rfl ?_
        refine r_iald (k := 39) (i := 0) rfl ho39 q1 dX1_hold_55 ?_
        refine r_iconst (v := (1 : Int32)) dX1_hold_56 rfl ?_
        refine r_icmp_ne (tgt := 64) dX1_hold_57 (by decide) (fun c => ?_) (fun c => ?_)
        · have H := H.1 c
          refine r_iconst (v := (0 : Int32)) dX1_hold_64 rfl ?_
          refine r_icmp_eq (tgt := 70) dX1_hold_65 (by decide) (fun c => ?_) (fun c => ?_)
          · have H := H.1 c
            refine r_iinc (v := x3 + (1 : Int32)) dX1_hold_70 rfl rfl (by decide) rfl ?_
            refine r_goto (tgt := 2) dX1_hold_73 (by decide) ?_
            exact H
          · have H := H.2 c
            refine r_iconst (v := (0 : Int32)) dX1_hold_68 rfl ?_
            exact r_zret dX1_hold_69 rfl (by decide) H
        · have H := H.2 c
          refine r_iconst (v := (1 : Int32)) dX1_hold_60 rfl ?_
          refine r_goto (tgt := 65) dX1_hold_61 (by decide) ?_
          refine r_icmp_eq (tgt := 70) dX1_hold_65 (by decide) (fun c => ?_) (fun c => ?_)
          · have H := H.1 c
            refine r_iinc (v := x3 + (1 : Int32)) dX1_hold_70 rfl rfl (by decide) rfl ?_
            refine r_goto (tgt := 2) dX1_hold_73 (by decide) ?_
            exact H
          · have H := H.2 c
            refine r_iconst (v := (0 : Int32)) dX1_hold_68 rfl ?_
            exact r_zret dX1_hold_69 rfl (by decide) H
set_option maxRecDepth 100000 in
theorem bX2_clear_0 {d : Nat} {Q : Option MV → MS → Prop}  {σ : MS}  (H : Q none (uI σ 10 0 0 (0 : Int32))) : R mj_OC d mX2_clear Q 0 [some (rV 10 0)] [] σ := by
  refine r_aload_n dX2_clear_0 rfl rfl ?_
  refine r_iconst (v := (0 : Int32)) dX2_clear_1 rfl ?_
  refine r_putI (k := 10) (i := 0) (j := 0) (ty0 := tyX2) rfl rfl ho10 rfl hX2 (by decide) rfl fX2_15 dX2_clear_2 rfl tyX2_ok nmX2 rfl rfl rfl ?_
  exact r_vret dX2_clear_5 rfl H
set_option maxRecDepth 100000 in
theorem bX2_note_0 {d : Nat} {Q : Option MV → MS → Prop} {u1 : Nat} {σ : MS} (hu1 : u1 < 3) (H : R mj_OC d mX2_note Q 2 [some (rV 10 0), some (rV 6 u1), some (iV (0 : Int32))] [] σ) : R mj_OC d mX2_note Q 0 [some (rV 10 0), some (rV 6 u1), none] [] σ := by
  refine r_iconst (v := (0 : Int32)) dX2_note_0 rfl ?_
  refine r_istore_n dX2_note_1 rfl (by decide) rfl ?_
  exact H
set_option maxRecDepth 100000 in
theorem bX2_note_2 {d : Nat} {Q : Option MV → MS → Prop} {u1 : Nat} {x2 : Int32} {σ : MS} (hu1 : u1 < 3) (H : (((7 : Int32) ≤ x2 → (vp_in (((σ.1 10 0 1) * (8 : Int32)) + (7 : Int32)) 160 ∧ Q none (uI (uI (uI σ 44 0 (((((σ.1 10 0 1) * (8 : Int32)) + (7 : Int32))).toNatClampNeg) (σ.1 6 u1 2)) 10 0 1 (((σ.1 10 0 1) + (1 : Int32)) - ((σ.1 10 0 1) + (1 : Int32)) / (20 : Int32) * (20 : Int32))) 10 0 0 (if ((σ.1 10 0 0) + (1 : Int32)) < (20 : Int32) then ((σ.1 10 0 0) + (1 : Int32)) else (20 : Int32))))) ∧ (¬ (7 : Int32) ≤ x2 → (vp_in x2 7 ∧ vp_in (((σ.1 10 0 1) * (8 : Int32)) + x2) 160 ∧ R mj_OC (d + 1) mX2_note Q 2 [some (rV 10 0), some (rV 6 u1), some (iV (x2 + (1 : Int32)))] [] (uI σ 44 0 (((((σ.1 10 0 1) * (8 : Int32)) + x2)).toNatClampNeg) (σ.1 35 u1 ((x2).toNatClampNeg))))))) : R mj_OC (d + 1) mX2_note Q 2 [some (rV 10 0), some (rV 6 u1), some (iV x2)] [] σ := by
  refine r_iload_n dX2_note_2 rfl rfl ?_
  refine r_bipush (v := (7 : Int32)) dX2_note_3 rfl ?_
  refine r_icmp_ge (tgt := 34) dX2_note_5 (by decide) (fun c => ?_) (fun c => ?_)
  · have H := H.1 c
    refine r_aload_n dX2_note_34 rfl rfl ?_
    refine r_get (k := 10) (i := 0) (j := 2) (v := rV 44 0) rfl rfl ho10 rfl hX2 (by decide) rfl fX2_11 dX2_note_35 (fun _ => rfl) ?_
    refine r_aload_n dX2_note_38 rfl rfl ?_
    refine r_get (k := 10) (i := 0) (j := 1) (v := iV (σ.1 10 0 1)) rfl rfl ho10 rfl hX2 (by decide) rfl fX2_19 dX2_note_39 (fun _ => rfl) ?_
    refine r_bipush (v := (8 : Int32)) dX2_note_42 rfl ?_
    refine r_imul dX2_note_44 ?_
    refine r_bipush (v := (7 : Int32)) dX2_note_45 rfl ?_
    refine r_iadd dX2_note_47 ?_
    refine r_aload_n dX2_note_48 rfl rfl ?_
    refine r_get (k := 6) (i := u1) (j := 2) (v := iV (σ.1 6 u1 2)) rfl rfl (ho6 hu1) rfl hX8 (by decide) rfl fX2_27 dX2_note_49 (fun _ => rfl) ?_
    obtain ⟨q1, H⟩ := H
    refine r_iast (k := 44) (i := 0) rfl ho44 q1 dX2_note_52 ?_
    refine r_aload_n dX2_note_53 rfl rfl ?_
    refine r_aload_n dX2_note_54 rfl rfl ?_
    refine r_get (k := 10) (i := 0) (j := 1) (v := iV (σ.1 10 0 1)) rfl rfl ho10 rfl hX2 (by decide) rfl fX2_19 dX2_note_55 (fun _ => rfl) ?_
    refine r_iconst (v := (1 : Int32)) dX2_note_58 rfl ?_
    refine r_iadd dX2_note_59 ?_
    refine r_bipush (v := (20 : Int32)) dX2_note_60 rfl ?_
    refine r_irem dX2_note_62 (by decide) ?_
    refine r_putI (k := 10) (i := 0) (j := 1) (ty0 := tyX2) rfl rfl ho10 rfl hX2 (by decide) rfl fX2_19 dX2_note_63 rfl tyX2_ok nmX2 rfl rfl rfl ?_
    refine r_aload_n dX2_note_66 rfl rfl ?_
    refine r_bipush (v := (20 : Int32)) dX2_note_67 rfl ?_
    refine r_aload_n dX2_note_69 rfl rfl ?_
    refine r_get (k := 10) (i := 0) (j := 0) (v := iV (σ.1 10 0 0)) rfl rfl ho10 rfl hX2 (by decide) rfl fX2_15 dX2_note_70 (fun _ => rfl) ?_
    refine r_iconst (v := (1 : Int32)) dX2_note_73 rfl ?_
    refine r_iadd dX2_note_74 ?_
    refine r_mmin lX2_30 dX2_note_75 (Nat.le_of_ble_eq_true rfl) ?_
    refine r_putI (k := 10) (i := 0) (j := 0) (ty0 := tyX2) rfl rfl ho10 rfl hX2 (by decide) rfl fX2_15 dX2_note_78 rfl tyX2_ok nmX2 rfl rfl rfl ?_
    exact r_vret dX2_note_81 rfl H
  · have H := H.2 c
    refine r_aload_n dX2_note_8 rfl rfl ?_
    refine r_get (k := 10) (i := 0) (j := 2) (v := rV 44 0) rfl rfl ho10 rfl hX2 (by decide) rfl fX2_11 dX2_note_9 (fun _ => rfl) ?_
    refine r_aload_n dX2_note_12 rfl rfl ?_
    refine r_get (k := 10) (i := 0) (j := 1) (v := iV (σ.1 10 0 1)) rfl rfl ho10 rfl hX2 (by decide) rfl fX2_19 dX2_note_13 (fun _ => rfl) ?_
    refine r_bipush (v := (8 : Int32)) dX2_note_16 rfl ?_
    refine r_imul dX2_note_18 ?_
    refine r_iload_n dX2_note_19 rfl rfl ?_
    refine r_iadd dX2_note_20 ?_
    refine r_aload_n dX2_note_21 rfl rfl ?_
    refine r_get (k := 6) (i := u1) (j := 1) (v := rV 35 u1) rfl rfl (ho6 hu1) rfl hX8 (by decide) rfl fX2_22 dX2_note_22 (fun _ => rfl) ?_
    refine r_iload_n dX2_note_25 rfl rfl ?_
    obtain ⟨q2, H⟩ := H
    refine r_iald (k := 35) (i := u1) rfl (ho35 hu1) q2 dX2_note_26 ?_
    obtain ⟨q3, H⟩ := H
    refine r_iast (k := 44) (i := 0) rfl ho44 q3 dX2_note_27 ?_
    refine r_iinc (v := x2 + (1 : Int32)) dX2_note_28 rfl rfl (by decide) rfl ?_
    refine r_goto (tgt := 2) dX2_note_31 (by decide) ?_
    exact H
set_option maxRecDepth 100000 in
theorem bX2_takeBack_0 {d : Nat} {Q : Option MV → MS → Prop} {u1 : Nat} {σ : MS} (hu1 : u1 < 3) (H : ((¬ (σ.1 10 0 0) = 0 → R mj_OC d mX2_takeBack Q 37 [some (rV 10 0), some (rV 6 u1), some (iV (0 : Int32))] [] (uI (uI σ 10 0 0 ((σ.1 10 0 0) - (1 : Int32))) 10 0 1 ((((σ.1 10 0 1) + (20 : Int32)) - (1 : Int32)) - (((σ.1 10 0 1) + (20 : Int32)) - (1 : Int32)) / (20 : Int32) * (20 : Int32)))) ∧ ((σ.1 10 0 0) = 0 → Q (some (iV (0 : Int32))) σ))) : R mj_OC d mX2_takeBack Q 0 [some (rV 10 0), some (rV 6 u1), none] [] σ := by
  refine r_aload_n dX2_takeBack_0 rfl rfl ?_
  refine r_get (k := 10) (i := 0) (j := 0) (v := iV (σ.1 10 0 0)) rfl rfl ho10 rfl hX2 (by decide) rfl fX2_15 dX2_takeBack_1 (fun _ => rfl) ?_
  refine r_if_ne (tgt := 9) dX2_takeBack_4 (by decide) (fun c => ?_) (fun c => ?_)
  · have H := H.1 c
    refine r_aload_n dX2_takeBack_9 rfl rfl ?_
    refine r_dup_r dX2_takeBack_10 ?_
    refine r_get (k := 10) (i := 0) (j := 0) (v := iV (σ.1 10 0 0)) rfl rfl ho10 rfl hX2 (by decide) rfl fX2_15 dX2_takeBack_11 (fun _ => rfl) ?_
    refine r_iconst (v := (1 : Int32)) dX2_takeBack_14 rfl ?_
    refine r_isub dX2_takeBack_15 ?_
    refine r_putI (k := 10) (i := 0) (j := 0) (ty0 := tyX2) rfl rfl ho10 rfl hX2 (by decide) rfl fX2_15 dX2_takeBack_16 rfl tyX2_ok nmX2 rfl rfl rfl ?_
    refine r_aload_n dX2_takeBack_19 rfl rfl ?_
    refine r_aload_n dX2_takeBack_20 rfl rfl ?_
    refine r_get (k := 10) (i := 0) (j := 1) (v := iV (σ.1 10 0 1)) rfl rfl ho10 rfl hX2 (by decide) rfl fX2_19 dX2_takeBack_21 (fun _ => rfl) ?_
    refine r_bipush (v := (20 : Int32)) dX2_takeBack_24 rfl ?_
    refine r_iadd dX2_takeBack_26 ?_
    refine r_iconst (v := (1 : Int32)) dX2_takeBack_27 rfl ?_
    refine r_isub dX2_takeBack_28 ?_
    refine r_bipush (v := (20 : Int32)) dX2_takeBack_29 rfl ?_
    refine r_irem dX2_takeBack_31 (by decide) ?_
    refine r_putI (k := 10) (i := 0) (j := 1) (ty0 := tyX2) rfl rfl ho10 rfl hX2 (by decide) rfl fX2_19 dX2_takeBack_32 rfl tyX2_ok nmX2 rfl rfl rfl ?_
    refine r_iconst (v := (0 : Int32)) dX2_takeBack_35 rfl ?_
    refine r_istore_n dX2_takeBack_36 rfl (by decide) rfl ?_
    exact H
  · have H := H.2 c
    refine r_iconst (v := (0 : Int32)) dX2_takeBack_7 rfl ?_
    exact r_zret dX2_takeBack_8 rfl (by decide) H
set_option maxRecDepth 100000 in
theorem bX2_takeBack_37 {d : Nat} {Q : Option MV → MS → Prop} {u1 : Nat} {x2 : Int32} {σ : MS} (hu1 : u1 < 3) (H : (((7 : Int32) ≤ x2 → (vp_in (((σ.1 10 0 1) * (8 : Int32)) + (7 : Int32)) 160 ∧ Q (some (iV (1 : Int32))) (uI σ 6 u1 2 (σ.1 44 0 (((((σ.1 10 0 1) * (8 : Int32)) + (7 : Int32))).toNatClampNeg))))) ∧ (¬ (7 : Int32) ≤ x2 → (vp_in (((σ.1 10 0 1) * (8 : Int32)) + x2) 160 ∧ vp_in x2 7 ∧ R mj_OC d mX2_takeBack Q 37 [some (rV 10 0), some (rV 6 u1), some (iV (x2 + (1 : Int32)))] [] (uI σ 35 u1 ((x2).toNatClampNeg) (σ.1 44 0 (((((σ.1 10 0 1) * (8 : Int32)) + x2)).toNatClampNeg))))))) : R mj_OC d mX2_takeBack Q 37 [some (rV 10 0), some (rV 6 u1), some (iV x2)] [] σ := by
  refine r_iload_n dX2_takeBack_37 rfl rfl ?_
  refine r_bipush (v := (7 : Int32)) dX2_takeBack_38 rfl ?_
  refine r_icmp_ge (tgt := 69) dX2_takeBack_40 (by decide) (fun c => ?_) (fun c => ?_)
  · have H := H.1 c
    refine r_aload_n dX2_takeBack_69 rfl rfl ?_
    refine r_aload_n dX2_takeBack_70 rfl rfl ?_
    refine r_get (k := 10) (i := 0) (j := 2) (v := rV 44 0) rfl rfl ho10 rfl hX2 (by decide) rfl fX2_11 dX2_takeBack_71 (fun _ => rfl) ?_
    refine r_aload_n dX2_takeBack_74 rfl rfl ?_
    refine r_get (k := 10) (i := 0) (j := 1) (v := iV (σ.1 10 0 1)) rfl rfl ho10 rfl hX2 (by decide) rfl fX2_19 dX2_takeBack_75 (fun _ => rfl) ?_
    refine r_bipush (v := (8 : Int32)) dX2_takeBack_78 rfl ?_
    refine r_imul dX2_takeBack_80 ?_
    refine r_bipush (v := (7 : Int32)) dX2_takeBack_81 rfl ?_
    refine r_iadd dX2_takeBack_83 ?_
    obtain ⟨q1, H⟩ := H
    refine r_iald (k := 44) (i := 0) rfl ho44 q1 dX2_takeBack_84 ?_
    refine r_putI (k := 6) (i := u1) (j := 2) (ty0 := tyX8) rfl rfl (ho6 hu1) rfl hX8 (by decide) rfl fX2_27 dX2_takeBack_85 rfl tyX8_ok nmX8 rfl rfl rfl ?_
    refine r_iconst (v := (1 : Int32)) dX2_takeBack_88 rfl ?_
    exact r_zret dX2_takeBack_89 rfl (by decide) H
  · have H := H.2 c
    refine r_aload_n dX2_takeBack_43 rfl rfl ?_
    refine r_get (k := 6) (i := u1) (j := 1) (v := rV 35 u1) rfl rfl (ho6 hu1) rfl hX8 (by decide) rfl fX2_22 dX2_takeBack_44 (fun _ => rfl) ?_
    refine r_iload_n dX2_takeBack_47 rfl rfl ?_
    refine r_aload_n dX2_takeBack_48 rfl rfl ?_
    refine r_get (k := 10) (i := 0) (j := 2) (v := rV 44 0) rfl rfl ho10 rfl hX2 (by decide) rfl fX2_11 dX2_takeBack_49 (fun _ => rfl) ?_
    refine r_aload_n dX2_takeBack_52 rfl rfl ?_
    refine r_get (k := 10) (i := 0) (j := 1) (v := iV (σ.1 10 0 1)) rfl rfl ho10 rfl hX2 (by decide) rfl fX2_19 dX2_takeBack_53 (fun _ => rfl) ?_
    refine r_bipush (v := (8 : Int32)) dX2_takeBack_56 rfl ?_
    refine r_imul dX2_takeBack_58 ?_
    refine r_iload_n dX2_takeBack_59 rfl rfl ?_
    refine r_iadd dX2_takeBack_60 ?_
    obtain ⟨q2, H⟩ := H
    refine r_iald (k := 44) (i := 0) rfl ho44 q2 dX2_takeBack_61 ?_
    obtain ⟨q3, H⟩ := H
    refine r_iast (k := 35) (i := u1) rfl (ho35 hu1) q3 dX2_takeBack_62 ?_
    refine r_iinc (v := x2 + (1 : Int32)) dX2_takeBack_63 rfl rfl (by decide) rfl ?_
    refine r_goto (tgt := 37) dX2_takeBack_66 (by decide) ?_
    exact H
set_option maxRecDepth 100000 in
theorem bX3_clear_0 {d : Nat} {Q : Option MV → MS → Prop} {u0 : Nat} {σ : MS} (hu0 : u0 < 2) (H : R mj_OC d mX3_clear Q 7 [some (rV 5 u0), some (iV (0 : Int32))] [] (uI σ 5 u0 0 (0 : Int32))) : R mj_OC d mX3_clear Q 0 [some (rV 5 u0), none] [] σ := by
  refine r_aload_n dX3_clear_0 rfl rfl ?_
  refine r_iconst (v := (0 : Int32)) dX3_clear_1 rfl ?_
  refine r_putI (k := 5) (i := u0) (j := 0) (ty0 := tyX3) rfl rfl (ho5 hu0) rfl hX3 (by decide) rfl fX3_28 dX3_clear_2 rfl tyX3_ok nmX3 rfl rfl rfl ?_
  refine r_iconst (v := (0 : Int32)) dX3_clear_5 rfl ?_
  refine r_istore_n dX3_clear_6 rfl (by decide) rfl ?_
  exact H
set_option maxRecDepth 100000 in
theorem bX3_clear_7 {d : Nat} {Q : Option MV → MS → Prop} {u0 : Nat} {x1 : Int32} {σ : MS} (hu0 : u0 < 2) (H : (((3 : Int32) ≤ x1 → Q none σ) ∧ (¬ (3 : Int32) ≤ x1 → (vp_in x1 3 ∧ R mj_OC d mX3_clear Q 7 [some (rV 5 u0), some (iV (x1 + (1 : Int32)))] [] (uI (uI σ 32 u0 ((x1).toNatClampNeg) (0 : Int32)) 33 u0 ((x1).toNatClampNeg) (0 : Int32)))))) : R mj_OC d mX3_clear Q 7 [some (rV 5 u0), some (iV x1)] [] σ := by
  refine r_iload_n dX3_clear_7 rfl rfl ?_
  refine r_iconst (v := (3 : Int32)) dX3_clear_8 rfl ?_
  refine r_icmp_ge (tgt := 32) dX3_clear_9 (by decide) (fun c => ?_) (fun c => ?_)
  · have H := H.1 c
    exact r_vret dX3_clear_32 rfl H
  · have H := H.2 c
    refine r_aload_n dX3_clear_12 rfl rfl ?_
    refine r_get (k := 5) (i := u0) (j := 3) (v := rV 32 u0) rfl rfl (ho5 hu0) rfl hX3 (by decide) rfl fX3_18 dX3_clear_13 (fun _ => rfl) ?_
    refine r_iload_n dX3_clear_16 rfl rfl ?_
    refine r_iconst (v := (0 : Int32)) dX3_clear_17 rfl ?_
    obtain ⟨q1, H⟩ := H
    refine r_iast (k := 32) (i := u0) rfl (ho32 hu0) q1 dX3_clear_18 ?_
    refine r_aload_n dX3_clear_19 rfl rfl ?_
    refine r_get (k := 5) (i := u0) (j := 4) (v := rV 33 u0) rfl rfl (ho5 hu0) rfl hX3 (by decide) rfl fX3_21 dX3_clear_20 (fun _ => rfl) ?_
    refine r_iload_n dX3_clear_23 rfl rfl ?_
    refine r_iconst (v := (0 : Int32)) dX3_clear_24 rfl ?_
    refine r_iast (k := 33) (i := u0) rfl (ho33 hu0) q1 dX3_clear_25 ?_
    refine r_iinc (v := x1 + (1 : Int32)) dX3_clear_26 rfl rfl (by decide) rfl ?_
    refine r_goto (tgt := 7) dX3_clear_29 (by decide) ?_
    exact H
set_option maxRecDepth 100000 in
theorem bX3_begin_0 {d : Nat} {Q : Option MV → MS → Prop} {u0 : Nat} {x1 : Int32} {σ : MS} (hu0 : u0 < 2) (H : (vp_in x1 3 ∧ Q none (uI σ 32 u0 ((x1).toNatClampNeg) (σ.1 5 u0 0)))) : R mj_OC d mX3_begin Q 0 [some (rV 5 u0), some (iV x1)] [] σ := by
  refine r_aload_n dX3_begin_0 rfl rfl ?_
  refine r_get (k := 5) (i := u0) (j := 3) (v := rV 32 u0) rfl rfl (ho5 hu0) rfl hX3 (by decide) rfl fX3_18 dX3_begin_1 (fun _ => rfl) ?_
  refine r_iload_n dX3_begin_4 rfl rfl ?_
  refine r_aload_n dX3_begin_5 rfl rfl ?_
  refine r_get (k := 5) (i := u0) (j := 0) (v := iV (σ.1 5 u0 0)) rfl rfl (ho5 hu0) rfl hX3 (by decide) rfl fX3_28 dX3_begin_6 (fun _ => rfl) ?_
  obtain ⟨q1, H⟩ := H
  refine r_iast (k := 32) (i := u0) rfl (ho32 hu0) q1 dX3_begin_9 ?_
  exact r_vret dX3_begin_10 rfl H
set_option maxRecDepth 100000 in
theorem bX3_end_0 {d : Nat} {Q : Option MV → MS → Prop} {u0 : Nat} {x1 : Int32} {σ : MS} (hu0 : u0 < 2) (H : (vp_in x1 3 ∧ Q none (uI σ 33 u0 ((x1).toNatClampNeg) (σ.1 5 u0 0)))) : R mj_OC d mX3_end Q 0 [some (rV 5 u0), some (iV x1)] [] σ := by
  refine r_aload_n dX3_end_0 rfl rfl ?_
  refine r_get (k := 5) (i := u0) (j := 4) (v := rV 33 u0) rfl rfl (ho5 hu0) rfl hX3 (by decide) rfl fX3_21 dX3_end_1 (fun _ => rfl) ?_
  refine r_iload_n dX3_end_4 rfl rfl ?_
  refine r_aload_n dX3_end_5 rfl rfl ?_
  refine r_get (k := 5) (i := u0) (j := 0) (v := iV (σ.1 5 u0 0)) rfl rfl (ho5 hu0) rfl hX3 (by decide) rfl fX3_28 dX3_end_6 (fun _ => rfl) ?_
  obtain ⟨q1, H⟩ := H
  refine r_iast (k := 33) (i := u0) rfl (ho33 hu0) q1 dX3_end_9 ?_
  exact r_vret dX3_end_10 rfl H
set_option maxRecDepth 100000 in
theorem bX3_add_0 {d : Nat} {Q : Option MV → MS → Prop} {u0 : Nat} {x1 : Int32} {x2 : Int32} {σ : MS} (hu0 : u0 < 2) (H : (((64 : Int32) ≤ (σ.1 5 u0 0) → Q none σ) ∧ (¬ (64 : Int32) ≤ (σ.1 5 u0 0) → (vp_in (σ.1 5 u0 0) 64 ∧ Q none (uI (uI (uI σ 30 u0 (((σ.1 5 u0 0)).toNatClampNeg) x1) 31 u0 (((σ.1 5 u0 0)).toNatClampNeg) x2) 5 u0 0 ((σ.1 5 u0 0) + (1 : Int32))))))) : R mj_OC d mX3_add Q 0 [some (rV 5 u0), some (iV x1), some (iV x2)] [] σ := by
  refine r_aload_n dX3_add_0 rfl rfl ?_
  refine r_get (k := 5) (i := u0) (j := 0) (v := iV (σ.1 5 u0 0)) rfl rfl (ho5 hu0) rfl hX3 (by decide) rfl fX3_28 dX3_add_1 (fun _ => rfl) ?_
  refine r_bipush (v := (64 : Int32)) dX3_add_4 rfl ?_
  refine r_icmp_ge (tgt := 39) dX3_add_6 (by decide) (fun c => ?_) (fun c => ?_)
  · have H := H.1 c
    exact r_vret dX3_add_39 rfl H
  · have H := H.2 c
    refine r_aload_n dX3_add_9 rfl rfl ?_
    refine r_get (k := 5) (i := u0) (j := 1) (v := rV 30 u0) rfl rfl (ho5 hu0) rfl hX3 (by decide) rfl fX3_9 dX3_add_10 (fun _ => rfl) ?_
    refine r_aload_n dX3_add_13 rfl rfl ?_
    refine r_get (k := 5) (i := u0) (j := 0) (v := iV (σ.1 5 u0 0)) rfl rfl (ho5 hu0) rfl hX3 (by decide) rfl fX3_28 dX3_add_14 (fun _ => rfl) ?_
    refine r_iload_n dX3_add_17 rfl rfl ?_
    obtain ⟨q1, H⟩ := H
    refine r_iast (k := 30) (i := u0) rfl (ho30 hu0) q1 dX3_add_18 ?_
    refine r_aload_n dX3_add_19 rfl rfl ?_
    refine r_get (k := 5) (i := u0) (j := 2) (v := rV 31 u0) rfl rfl (ho5 hu0) rfl hX3 (by decide) rfl fX3_15 dX3_add_20 (fun _ => rfl) ?_
    refine r_aload_n dX3_add_23 rfl rfl ?_
    refine r_get (k := 5) (i := u0) (j := 0) (v := iV (σ.1 5 u0 0)) rfl rfl (ho5 hu0) rfl hX3 (by decide) rfl fX3_28 dX3_add_24 (fun _ => rfl) ?_
    refine r_iload_n dX3_add_27 rfl rfl ?_
    refine r_iast (k := 31) (i := u0) rfl (ho31 hu0) q1 dX3_add_28 ?_
    refine r_aload_n dX3_add_29 rfl rfl ?_
    refine r_dup_r dX3_add_30 ?_
    refine r_get (k := 5) (i := u0) (j := 0) (v := iV (σ.1 5 u0 0)) rfl rfl (ho5 hu0) rfl hX3 (by decide) rfl fX3_28 dX3_add_31 (fun _ => rfl) ?_
    refine r_iconst (v := (1 : Int32)) dX3_add_34 rfl ?_
    refine r_iadd dX3_add_35 ?_
    refine r_putI (k := 5) (i := u0) (j := 0) (ty0 := tyX3) rfl rfl (ho5 hu0) rfl hX3 (by decide) rfl fX3_28 dX3_add_36 rfl tyX3_ok nmX3 rfl rfl rfl ?_
    exact r_vret dX3_add_39 rfl H
set_option maxRecDepth 100000 in
theorem bX3_isTold_0 {d : Nat} {Q : Option MV → MS → Prop} {u0 : Nat} {x1 : Int32} {σ : MS} (hu0 : u0 < 2) (H : (vp_in x1 3 ∧ (((σ.1 33 u0 ((x1).toNatClampNeg)) ≤ (σ.1 32 u0 ((x1).toNatClampNeg)) → Q (some (iV (0 : Int32))) σ) ∧ (¬ (σ.1 33 u0 ((x1).toNatClampNeg)) ≤ (σ.1 32 u0 ((x1).toNatClampNeg)) → Q (some (iV (1 : Int32))) σ)))) : R mj_OC d mX3_isTold Q 0 [some (rV 5 u0), some (iV x1)] [] σ := by
  refine r_aload_n dX3_isTold_0 rfl rfl ?_
  refine r_get (k := 5) (i := u0) (j := 4) (v := rV 33 u0) rfl rfl (ho5 hu0) rfl hX3 (by decide) rfl fX3_21 dX3_isTold_1 (fun _ => rfl) ?_
  refine r_iload_n dX3_isTold_4 rfl rfl ?_
  obtain ⟨q1, H⟩ := H
  refine r_iald (k := 33) (i := u0) rfl (ho33 hu0) q1 dX3_isTold_5 ?_
  refine r_aload_n dX3_isTold_6 rfl rfl ?_
  refine r_get (k := 5) (i := u0) (j := 3) (v := rV 32 u0) rfl rfl (ho5 hu0) rfl hX3 (by decide) rfl fX3_18 dX3_isTold_7 (fun _ => rfl) ?_
  refine r_iload_n dX3_isTold_10 rfl rfl ?_
  refine r_iald (k := 32) (i := u0) rfl (ho32 hu0) q1 dX3_isTold_11 ?_
  refine r_icmp_le (tgt := 19) dX3_isTold_12 (by decide) (fun c => ?_) (fun c => ?_)
  · have H := H.1 c
    refine r_iconst (v := (0 : Int32)) dX3_isTold_19 rfl ?_
    exact r_zret dX3_isTold_20 rfl (by decide) H
  · have H := H.2 c
    refine r_iconst (v := (1 : Int32)) dX3_isTold_15 rfl ?_
    refine r_goto (tgt := 20) dX3_isTold_16 (by decide) ?_
    exact r_zret dX3_isTold_20 rfl (by decide) H
set_option maxRecDepth 100000 in
theorem bX3_worth_0 {d : Nat} {Q : Option MV → MS → Prop} {u0 : Nat} {x1 : Int32} {k2 : Nat} {n2 : Nat} {u2 : Nat} {σ : MS} (hu0 : u0 < 2) (hk2 : mj_sch k2 = .inr (2, n2)) (gk2 : (k2, u2) ∈ mj_OC) (H : (vp_in x1 3 ∧ R mj_OC d mX3_worth Q 10 [some (rV 5 u0), some (iV x1), some (rV k2 u2), some (iV (0 : Int32)), some (iV (σ.1 32 u0 ((x1).toNatClampNeg))), none] [] σ)) : R mj_OC d mX3_worth Q 0 [some (rV 5 u0), some (iV x1), some (rV k2 u2), none, none, none] [] σ := by
  refine r_iconst (v := (0 : Int32)) dX3_worth_0 rfl ?_
  refine r_istore_n dX3_worth_1 rfl (by decide) rfl ?_
  refine r_aload_n dX3_worth_2 rfl rfl ?_
  refine r_get (k := 5) (i := u0) (j := 3) (v := rV 32 u0) rfl rfl (ho5 hu0) rfl hX3 (by decide) rfl fX3_18 dX3_worth_3 (fun _ => rfl) ?_
  refine r_iload_n dX3_worth_6 rfl rfl ?_
  obtain ⟨q1, H⟩ := H
  refine r_iald (k := 32) (i := u0) rfl (ho32 hu0) q1 dX3_worth_7 ?_
  refine r_istore dX3_worth_8 (by decide) rfl ?_
  exact H
set_option maxRecDepth 100000 in
theorem bX3_worth_10 {d : Nat} {Q : Option MV → MS → Prop} {u0 : Nat} {x1 : Int32} {k2 : Nat} {n2 : Nat} {u2 : Nat} {x3 : Int32} {x4 : Int32} {σ : MS} (hu0 : u0 < 2) (hk2 : mj_sch k2 = .inr (2, n2)) (gk2 : (k2, u2) ∈ mj_OC) (H : (vp_in x1 3 ∧ (((σ.1 33 u0 ((x1).toNatClampNeg)) ≤ x4 → ((¬ x3 = (1 : Int32) → Q (some (lV (-9223372036854775808 : Int64))) σ) ∧ (x3 = (1 : Int32) → (vp_in (0 : Int32) 64 ∧ Q (some (lV (σ.2.1 34 u0 0))) σ)))) ∧ (¬ (σ.1 33 u0 ((x1).toNatClampNeg)) ≤ x4 → (vp_in x4 64 ∧ ((¬ (σ.1 30 u0 ((x4).toNatClampNeg)) = (23 : Int32) → R mj_OC d mX3_worth Q 63 [some (rV 5 u0), some (iV x1), some (rV k2 u2), some (iV x3), some (iV x4), some (iV (σ.1 30 u0 ((x4).toNatClampNeg)))] [] σ) ∧ ((σ.1 30 u0 ((x4).toNatClampNeg)) = (23 : Int32) → (((64 : Int32) ≤ x3 → R mj_OC d mX3_worth Q 63 [some (rV 5 u0), some (iV x1), some (rV k2 u2), some (iV x3), some (iV x4), some (iV (σ.1 30 u0 ((x4).toNatClampNeg)))] [] σ) ∧ (¬ (64 : Int32) ≤ x3 → (vp_in x3 64 ∧ R mj_OC d mX3_worth Q 200 [some (rV 5 u0), some (iV x1), some (rV k2 u2), some (iV (x3 + (1 : Int32))), some (iV x4), some (iV (σ.1 30 u0 ((x4).toNatClampNeg)))] [] (uL σ 34 u0 ((x3).toNatClampNeg) ((σ.1 31 u0 ((x4).toNatClampNeg)).toInt64)))))))))))) : R mj_OC d mX3_worth Q 10 [some (rV 5 u0), some (iV x1), some (rV k2 u2), some (iV x3), some (iV x4), none] [] σ := by
  refine r_iload dX3_worth_10 rfl ?_
  refine r_aload_n dX3_worth_12 rfl rfl ?_
  refine r_get (k := 5) (i := u0) (j := 4) (v := rV 33 u0) rfl rfl (ho5 hu0) rfl hX3 (by decide) rfl fX3_21 dX3_worth_13 (fun _ => rfl) ?_
  refine r_iload_n dX3_worth_16 rfl rfl ?_
  obtain ⟨q1, H⟩ := H
  refine r_iald (k := 33) (i := u0) rfl (ho33 hu0) q1 dX3_worth_17 ?_
  refine r_icmp_ge (tgt := 206) dX3_worth_18 (by decide) (fun c => ?_) (fun c => ?_)
  · have H := H.1 c
    refine r_iload_n dX3_worth_206 rfl rfl ?_
    refine r_iconst (v := (1 : Int32)) dX3_worth_207 rfl ?_
    refine r_icmp_ne (tgt := 220) dX3_worth_208 (by decide) (fun c => ?_) (fun c => ?_)
    · have H := H.1 c
      refine r_ldc2 (v := (-9223372036854775808 : Int64)) olX3_40 dX3_worth_220 ?_
      exact r_lret dX3_worth_223 rfl H
    · have H := H.2 c
      refine r_aload_n dX3_worth_211 rfl rfl ?_
      refine r_get (k := 5) (i := u0) (j := 5) (v := rV 34 u0) rfl rfl (ho5 hu0) rfl hX3 (by decide) rfl fX3_24 dX3_worth_212 (fun _ => rfl) ?_
      refine r_iconst (v := (0 : Int32)) dX3_worth_215 rfl ?_
      obtain ⟨q2, H⟩ := H
      refine r_lald (k := 34) (i := u0) rfl (ho34 hu0) q2 dX3_worth_216 ?_
      refine r_goto (tgt := 223) dX3_worth_217 (by decide) ?_
      exact r_lret dX3_worth_223 rfl H
  · have H := H.2 c
    refine r_aload_n dX3_worth_21 rfl rfl ?_
    refine r_get (k := 5) (i := u0) (j := 1) (v := rV 30 u0) rfl rfl (ho5 hu0) rfl hX3 (by decide) rfl fX3_9 dX3_worth_22 (fun _ => rfl) ?_
    refine r_iload dX3_worth_25 rfl ?_
    obtain ⟨q3, H⟩ := H
    refine r_iald (k := 30) (i := u0) rfl (ho30 hu0) q3 dX3_worth_27 ?_
    refine r_istore dX3_worth_28 (by decide) rfl ?_
    refine r_iload dX3_worth_30 rfl ?_
    refine r_bipush (v := (23 : Int32)) dX3_worth_32 rfl ?_
    refine r_icmp_ne (tgt := 63) dX3_worth_34 (by decide) (fun c => ?_) (fun c => ?_)
    · have H := H.1 c
      exact H
    · have H := H.2 c
      refine r_iload_n dX3_worth_37 rfl rfl ?_
      refine r_bipush (v := (64 : Int32)) dX3_worth_38 rfl ?_
      refine r_icmp_ge (tgt := 63) dX3_worth_40 (by decide) (fun c => ?_) (fun c => ?_)
      · have H := H.1 c
        exact H
      · have H := H.2 c
        refine r_aload_n dX3_worth_43 rfl rfl ?_
        refine r_get (k := 5) (i := u0) (j := 5) (v := rV 34 u0) rfl rfl (ho5 hu0) rfl hX3 (by decide) rfl fX3_24 dX3_worth_44 (fun _ => rfl) ?_
        refine r_iload_n dX3_worth_47 rfl rfl ?_
        refine r_aload_n dX3_worth_48 rfl rfl ?_
        refine r_get (k := 5) (i := u0) (j := 2) (v := rV 31 u0) rfl rfl (ho5 hu0) rfl hX3 (by decide) rfl fX3_15 dX3_worth_49 (fun _ => rfl) ?_
        refine r_iload dX3_worth_52 rfl ?_
        refine r_iald (k := 31) (i := u0) rfl (ho31 hu0) q3 dX3_worth_54 ?_
        refine r_i2l (v := (σ.1 31 u0 ((x4).toNatClampNeg)).toInt64) dX3_worth_55 rfl ?_
        obtain ⟨q4, H⟩ := H
        refine r_last (k := 34) (i := u0) rfl (ho34 hu0) q4 dX3_worth_56 ?_
        refine r_iinc (v := x3 + (1 : Int32)) dX3_worth_57 rfl rfl (by decide) rfl ?_
        refine r_goto (tgt := 200) dX3_worth_60 (by decide) ?_
        exact H
set_option maxRecDepth 100000 in
theorem bX3_worth_63 {d : Nat} {Q : Option MV → MS → Prop} {u0 : Nat} {x1 : Int32} {k2 : Nat} {n2 : Nat} {u2 : Nat} {x3 : Int32} {x4 : Int32} {x5 : Int32} {σ : MS} (hu0 : u0 < 2) (hk2 : mj_sch k2 = .inr (2, n2)) (gk2 : (k2, u2) ∈ mj_OC) (H : ((x5 < (15 : Int32) → R mj_OC d mX3_worth Q 102 [some (rV 5 u0), some (iV x1), some (rV k2 u2), some (iV x3), some (iV x4), some (iV x5)] [] σ) ∧ (¬ x5 < (15 : Int32) → (((21 : Int32) < x5 → R mj_OC d mX3_worth Q 102 [some (rV 5 u0), some (iV x1), some (rV k2 u2), some (iV x3), some (iV x4), some (iV x5)] [] σ) ∧ (¬ (21 : Int32) < x5 → (((64 : Int32) ≤ x3 → R mj_OC d mX3_worth Q 102 [some (rV 5 u0), some (iV x1), some (rV k2 u2), some (iV x3), some (iV x4), some (iV x5)] [] σ) ∧ (¬ (64 : Int32) ≤ x3 → (vp_in (x5 - (15 : Int32)) n2 ∧ vp_in x3 64 ∧ R mj_OC d mX3_worth Q 200 [some (rV 5 u0), some (iV x1), some (rV k2 u2), some (iV (x3 + (1 : Int32))), some (iV x4), some (iV x5)] [] (uL σ 34 u0 ((x3).toNatClampNeg) (σ.2.1 k2 u2 (((x5 - (15 : Int32))).toNatClampNeg))))))))))) : R mj_OC d mX3_worth Q 63 [some (rV 5 u0), some (iV x1), some (rV k2 u2), some (iV x3), some (iV x4), some (iV x5)] [] σ := by
  refine r_iload dX3_worth_63 rfl ?_
  refine r_bipush (v := (15 : Int32)) dX3_worth_65 rfl ?_
  refine r_icmp_lt (tgt := 102) dX3_worth_67 (by decide) (fun c => ?_) (fun c => ?_)
  · have H := H.1 c
    exact H
  · have H := H.2 c
    refine r_iload dX3_worth_70 rfl ?_
    refine r_bipush (v := (21 : Int32)) dX3_worth_72 rfl ?_
    refine r_icmp_gt (tgt := 102) dX3_worth_74 (by decide) (fun c => ?_) (fun c => ?_)
    · have H := H.1 c
      exact H
    · have H := H.2 c
      refine r_iload_n dX3_worth_77 rfl rfl ?_
      refine r_bipush (v := (64 : Int32)) dX3_worth_78 rfl ?_
      refine r_icmp_ge (tgt := 102) dX3_worth_80 (by decide) (fun c => ?_) (fun c => ?_)
      · have H := H.1 c
        exact H
      · have H := H.2 c
        refine r_aload_n dX3_worth_83 rfl rfl ?_
        refine r_get (k := 5) (i := u0) (j := 5) (v := rV 34 u0) rfl rfl (ho5 hu0) rfl hX3 (by decide) rfl fX3_24 dX3_worth_84 (fun _ => rfl) ?_
        refine r_iload_n dX3_worth_87 rfl rfl ?_
        refine r_aload_n dX3_worth_88 rfl rfl ?_
        refine r_iload dX3_worth_89 rfl ?_
        refine r_bipush (v := (15 : Int32)) dX3_worth_91 rfl ?_
        refine r_isub dX3_worth_93 ?_
        obtain ⟨q1, H⟩ := H
        refine r_lald (k := k2) (i := u2) hk2 gk2 q1 dX3_worth_94 ?_
        obtain ⟨q2, H⟩ := H
        refine r_last (k := 34) (i := u0) rfl (ho34 hu0) q2 dX3_worth_95 ?_
        refine r_iinc (v := x3 + (1 : Int32)) dX3_worth_96 rfl rfl (by decide) rfl ?_
        refine r_goto (tgt := 200) dX3_worth_99 (by decide) ?_
        exact H
set_option maxRecDepth 100000 in
theorem bX3_worth_102 {d : Nat} {Q : Option MV → MS → Prop} {u0 : Nat} {x1 : Int32} {k2 : Nat} {n2 : Nat} {u2 : Nat} {x3 : Int32} {x4 : Int32} {x5 : Int32} {σ : MS} (hu0 : u0 < 2) (hk2 : mj_sch k2 = .inr (2, n2)) (gk2 : (k2, u2) ∈ mj_OC) (H : ((¬ x5 = (14 : Int32) → R mj_OC (d + 1) mX3_worth Q 146 [some (rV 5 u0), some (iV x1), some (rV k2 u2), some (iV x3), some (iV x4), some (iV x5)] [] σ) ∧ (x5 = (14 : Int32) → ((x3 < (1 : Int32) → R mj_OC (d + 1) mX3_worth Q 146 [some (rV 5 u0), some (iV x1), some (rV k2 u2), some (iV x3), some (iV x4), some (iV x5)] [] σ) ∧ (¬ x3 < (1 : Int32) → (vp_in (x3 - (1 : Int32)) 64 ∧ ((¬ (lg_cmp (σ.2.1 34 u0 (((x3 - (1 : Int32))).toNatClampNeg)) (0 : Int64)) = 0 → (R mj_OC d mX3_truth (fun r σ' => R mj_OC (d + 1) mX3_worth Q 142 [some (rV 5 u0), some (iV x1), some (rV k2 u2), some (iV x3), some (iV x4), some (iV x5)] (r.toList ++ [iV (x3 - (1 : Int32)), rV 34 u0]) σ') 0 [some (iV (0 : Int32))] [] σ)) ∧ ((lg_cmp (σ.2.1 34 u0 (((x3 - (1 : Int32))).toNatClampNeg)) (0 : Int64)) = 0 → (R mj_OC d mX3_truth (fun r σ' => R mj_OC (d + 1) mX3_worth Q 142 [some (rV 5 u0), some (iV x1), some (rV k2 u2), some (iV x3), some (iV x4), some (iV x5)] (r.toList ++ [iV (x3 - (1 : Int32)), rV 34 u0]) σ') 0 [some (iV (1 : Int32))] [] σ))))))))) : R mj_OC (d + 1) mX3_worth Q 102 [some (rV 5 u0), some (iV x1), some (rV k2 u2), some (iV x3), some (iV x4), some (iV x5)] [] σ := by
  refine r_iload dX3_worth_102 rfl ?_
  refine r_bipush (v := (14 : Int32)) dX3_worth_104 rfl ?_
  refine r_icmp_ne (tgt := 146) dX3_worth_106 (by decide) (fun c => ?_) (fun c => ?_)
  · have H := H.1 c
    exact H
  · have H := H.2 c
    refine r_iload_n dX3_worth_109 rfl rfl ?_
    refine r_iconst (v := (1 : Int32)) dX3_worth_110 rfl ?_
    refine r_icmp_lt (tgt := 146) dX3_worth_111 (by decide) (fun c => ?_) (fun c => ?_)
    · have H := H.1 c
      exact H
    · have H := H.2 c
      refine r_aload_n dX3_worth_114 rfl rfl ?_
      refine r_get (k := 5) (i := u0) (j := 5) (v := rV 34 u0) rfl rfl (ho5 hu0) rfl hX3 (by decide) rfl fX3_24 dX3_worth_115 (fun _ => rfl) ?_
      refine r_iload_n dX3_worth_118 rfl rfl ?_
      refine r_iconst (v := (1 : Int32)) dX3_worth_119 rfl ?_
      refine r_isub dX3_worth_120 ?_
      refine r_aload_n dX3_worth_121 rfl rfl ?_
      refine r_get (k := 5) (i := u0) (j := 5) (v := rV 34 u0) rfl rfl (ho5 hu0) rfl hX3 (by decide) rfl fX3_24 dX3_worth_122 (fun _ => rfl) ?_
      refine r_iload_n dX3_worth_125 rfl rfl ?_
      refine r_iconst (v := (1 : Int32)) dX3_worth_126 rfl ?_
      refine r_isub dX3_worth_127 ?_
      obtain ⟨q1, H⟩ := H
      refine r_lald (k := 34) (i := u0) rfl (ho34 hu0) q1 dX3_worth_128 ?_
      refine r_lconst (v := (0 : Int64)) dX3_worth_129 rfl ?_
      refine r_lcmp dX3_worth_130 ?_
      refine r_if_ne (tgt := 138) dX3_worth_131 (by decide) (fun c => ?_) (fun c => ?_)
      · have H := H.1 c
        refine r_iconst (v := (0 : Int32)) dX3_worth_138 rfl ?_
        refine r_callS (z := 0) (As := [iV (0 : Int32)]) (st := [iV (x3 - (1 : Int32)), rV 34 u0]) kX3_truth s_X3_truth lX3_32 dX3_worth_139 rfl rfl rfl rfl (Nat.le_of_ble_eq_true rfl) ?_
        exact H
      · have H := H.2 c
        refine r_iconst (v := (1 : Int32)) dX3_worth_134 rfl ?_
        refine r_goto (tgt := 139) dX3_worth_135 (by decide) ?_
        refine r_callS (z := 0) (As := [iV (1 : Int32)]) (st := [iV (x3 - (1 : Int32)), rV 34 u0]) kX3_truth s_X3_truth lX3_32 dX3_worth_139 rfl rfl rfl rfl (Nat.le_of_ble_eq_true rfl) ?_
        exact H
set_option maxRecDepth 100000 in
theorem bX3_worth_142 {d : Nat} {Q : Option MV → MS → Prop} {u0 : Nat} {x1 : Int32} {k2 : Nat} {n2 : Nat} {u2 : Nat} {x3 : Int32} {x4 : Int32} {x5 : Int32} {s0 : Int64} {s1 : Int32} {w2 : Nat} {σ : MS} (hu0 : u0 < 2) (hk2 : mj_sch k2 = .inr (2, n2)) (gk2 : (k2, u2) ∈ mj_OC) (hw2 : w2 < 2) (H : (vp_in s1 64 ∧ R mj_OC d mX3_worth Q 200 [some (rV 5 u0), some (iV x1), some (rV k2 u2), some (iV x3), some (iV x4), some (iV x5)] [] (uL σ 34 w2 ((s1).toNatClampNeg) s0))) : R mj_OC d mX3_worth Q 142 [some (rV 5 u0), some (iV x1), some (rV k2 u2), some (iV x3), some (iV x4), some (iV x5)] [lV s0, iV s1, rV 34 w2] σ := by
  obtain ⟨q1, H⟩ := H
  refine r_last (k := 34) (i := w2) rfl (ho34 hw2) q1 dX3_worth_142 ?_
  refine r_goto (tgt := 200) dX3_worth_143 (by decide) ?_
  exact H
set_option maxRecDepth 100000 in
theorem bX3_worth_146 {d : Nat} {Q : Option MV → MS → Prop} {u0 : Nat} {x1 : Int32} {k2 : Nat} {n2 : Nat} {u2 : Nat} {x3 : Int32} {x4 : Int32} {x5 : Int32} {σ : MS} (hu0 : u0 < 2) (hk2 : mj_sch k2 = .inr (2, n2)) (gk2 : (k2, u2) ∈ mj_OC) (H : ((x3 < (2 : Int32) → R mj_OC (d + 1) mX3_worth Q 200 [some (rV 5 u0), some (iV x1), some (rV k2 u2), some (iV x3), some (iV x4), some (iV x5)] [] σ) ∧ (¬ x3 < (2 : Int32) → (vp_in ((x3 + (-1 : Int32)) - (1 : Int32)) 64 ∧ vp_in (x3 + (-1 : Int32)) 64 ∧ (R mj_OC d mX3_valueOf (fun r σ' => R mj_OC (d + 1) mX3_worth Q 180 [some (rV 5 u0), some (iV x1), some (rV k2 u2), some (iV (x3 + (-1 : Int32))), some (iV x4), some (iV x5)] (r.toList ++ [iV ((x3 + (-1 : Int32)) - (1 : Int32)), rV 34 u0]) σ') 0 [some (iV x5), some (lV (σ.2.1 34 u0 ((((x3 + (-1 : Int32)) - (1 : Int32))).toNatClampNeg))), none, some (lV (σ.2.1 34 u0 (((x3 + (-1 : Int32))).toNatClampNeg))), none] [] σ))))) : R mj_OC (d + 1) mX3_worth Q 146 [some (rV 5 u0), some (iV x1), some (rV k2 u2), some (iV x3), some (iV x4), some (iV x5)] [] σ := by
  refine r_iload_n dX3_worth_146 rfl rfl ?_
  refine r_iconst (v := (2 : Int32)) dX3_worth_147 rfl ?_
  refine r_icmp_lt (tgt := 200) dX3_worth_148 (by decide) (fun c => ?_) (fun c => ?_)
  · have H := H.1 c
    exact H
  · have H := H.2 c
    refine r_iinc (v := x3 + (-1 : Int32)) dX3_worth_151 rfl rfl (by decide) rfl ?_
    refine r_aload_n dX3_worth_154 rfl rfl ?_
    refine r_get (k := 5) (i := u0) (j := 5) (v := rV 34 u0) rfl rfl (ho5 hu0) rfl hX3 (by decide) rfl fX3_24 dX3_worth_155 (fun _ => rfl) ?_
    refine r_iload_n dX3_worth_158 rfl rfl ?_
    refine r_iconst (v := (1 : Int32)) dX3_worth_159 rfl ?_
    refine r_isub dX3_worth_160 ?_
    refine r_iload dX3_worth_161 rfl ?_
    refine r_aload_n dX3_worth_163 rfl rfl ?_
    refine r_get (k := 5) (i := u0) (j := 5) (v := rV 34 u0) rfl rfl (ho5 hu0) rfl hX3 (by decide) rfl fX3_24 dX3_worth_164 (fun _ => rfl) ?_
    refine r_iload_n dX3_worth_167 rfl rfl ?_
    refine r_iconst (v := (1 : Int32)) dX3_worth_168 rfl ?_
    refine r_isub dX3_worth_169 ?_
    obtain ⟨q1, H⟩ := H
    refine r_lald (k := 34) (i := u0) rfl (ho34 hu0) q1 dX3_worth_170 ?_
    refine r_aload_n dX3_worth_171 rfl rfl ?_
    refine r_get (k := 5) (i := u0) (j := 5) (v := rV 34 u0) rfl rfl (ho5 hu0) rfl hX3 (by decide) rfl fX3_24 dX3_worth_172 (fun _ => rfl) ?_
    refine r_iload_n dX3_worth_175 rfl rfl ?_
    obtain ⟨q2, H⟩ := H
    refine r_lald (k := 34) (i := u0) rfl (ho34 hu0) q2 dX3_worth_176 ?_
    refine r_callS (z := 0) (As := [iV x5, lV (σ.2.1 34 u0 ((((x3 + (-1 : Int32)) - (1 : Int32))).toNatClampNeg)), lV (σ.2.1 34 u0 (((x3 + (-1 : Int32))).toNatClampNeg))]) (st := [iV ((x3 + (-1 : Int32)) - (1 : Int32)), rV 34 u0]) kX3_valueOf s_X3_valueOf lX3_36 dX3_worth_177 rfl rfl rfl rfl (Nat.le_of_ble_eq_true rfl) ?_
    exact H
set_option maxRecDepth 100000 in
theorem bX3_worth_180 {d : Nat} {Q : Option MV → MS → Prop} {u0 : Nat} {x1 : Int32} {k2 : Nat} {n2 : Nat} {u2 : Nat} {x3 : Int32} {x4 : Int32} {x5 : Int32} {s0 : Int64} {s1 : Int32} {w2 : Nat} {σ : MS} (hu0 : u0 < 2) (hk2 : mj_sch k2 = .inr (2, n2)) (gk2 : (k2, u2) ∈ mj_OC) (hw2 : w2 < 2) (H : (vp_in s1 64 ∧ vp_in (x3 - (1 : Int32)) 64 ∧ ((¬ (lg_cmp ((uL σ 34 w2 ((s1).toNatClampNeg) s0).2.1 34 u0 (((x3 - (1 : Int32))).toNatClampNeg)) (-9223372036854775808 : Int64)) = 0 → R mj_OC d mX3_worth Q 200 [some (rV 5 u0), some (iV x1), some (rV k2 u2), some (iV x3), some (iV x4), some (iV x5)] [] (uL σ 34 w2 ((s1).toNatClampNeg) s0)) ∧ ((lg_cmp ((uL σ 34 w2 ((s1).toNatClampNeg) s0).2.1 34 u0 (((x3 - (1 : Int32))).toNatClampNeg)) (-9223372036854775808 : Int64)) = 0 → Q (some (lV (-9223372036854775808 : Int64))) (uL σ 34 w2 ((s1).toNatClampNeg) s0))))) : R mj_OC d mX3_worth Q 180 [some (rV 5 u0), some (iV x1), some (rV k2 u2), some (iV x3), some (iV x4), some (iV x5)] [lV s0, iV s1, rV 34 w2] σ := by
  obtain ⟨q1, H⟩ := H
  refine r_last (k := 34) (i := w2) rfl (ho34 hw2) q1 dX3_worth_180 ?_
  refine r_aload_n dX3_worth_181 rfl rfl ?_
  refine r_get (k := 5) (i := u0) (j := 5) (v := rV 34 u0) rfl rfl (ho5 hu0) rfl hX3 (by decide) rfl fX3_24 dX3_worth_182 (fun _ => rfl) ?_
  refine r_iload_n dX3_worth_185 rfl rfl ?_
  refine r_iconst (v := (1 : Int32)) dX3_worth_186 rfl ?_
  refine r_isub dX3_worth_187 ?_
  obtain ⟨q2, H⟩ := H
  refine r_lald (k := 34) (i := u0) rfl (ho34 hu0) q2 dX3_worth_188 ?_
  refine r_ldc2 (v := (-9223372036854775808 : Int64)) olX3_40 dX3_worth_189 ?_
  refine r_lcmp dX3_worth_192 ?_
  refine r_if_ne (tgt := 200) dX3_worth_193 (by decide) (fun c => ?_) (fun c => ?_)
  · have H := H.1 c
    exact H
  · have H := H.2 c
    refine r_ldc2 (v := (-9223372036854775808 : Int64)) olX3_40 dX3_worth_196 ?_
    exact r_lret dX3_worth_199 rfl H
set_option maxRecDepth 100000 in
theorem bX3_worth_200 {d : Nat} {Q : Option MV → MS → Prop} {u0 : Nat} {x1 : Int32} {k2 : Nat} {n2 : Nat} {u2 : Nat} {x3 : Int32} {x4 : Int32} {x5 : Int32} {σ : MS} (hu0 : u0 < 2) (hk2 : mj_sch k2 = .inr (2, n2)) (gk2 : (k2, u2) ∈ mj_OC) (H : R mj_OC d mX3_worth Q 10 [some (rV 5 u0), some (iV x1), some (rV k2 u2), some (iV x3), some (iV (x4 + (1 : Int32))), none] [] σ) : R mj_OC d mX3_worth Q 200 [some (rV 5 u0), some (iV x1), some (rV k2 u2), some (iV x3), some (iV x4), some (iV x5)] [] σ := by
  refine r_iinc (v := x4 + (1 : Int32)) dX3_worth_200 rfl rfl (by decide) rfl ?_
  refine r_goto (tgt := 10) dX3_worth_203 (by decide) ?_
  exact R.fw (ls' := [some (rV 5 u0), some (iV x1), some (rV k2 u2), some (iV x3), some (iV (x4 + (1 : Int32))), none]) ⟨rfl, ⟨rfl, ⟨rfl, ⟨rfl, ⟨rfl, trivial⟩⟩⟩⟩⟩ H
set_option maxRecDepth 100000 in
theorem bX3_valueOf_0 {d : Nat} {Q : Option MV → MS → Prop} {x0 : Int32} {x1 : Int64} {x3 : Int64} {σ : MS}  (H : ((x0 = 12 → ((¬ (lg_cmp x1 (0 : Int64)) = 0 → (R mj_OC d mX3_truth (fun r σ' => R mj_OC (d + 1) mX3_valueOf Q 136 [some (iV x0), some (lV x1), none, some (lV x3), none] (r.toList ++ []) σ') 0 [some (iV (1 : Int32))] [] σ)) ∧ ((lg_cmp x1 (0 : Int64)) = 0 → (((lg_cmp x3 (0 : Int64)) = 0 → (R mj_OC d mX3_truth (fun r σ' => R mj_OC (d + 1) mX3_valueOf Q 136 [some (iV x0), some (lV x1), none, some (lV x3), none] (r.toList ++ []) σ') 0 [some (iV (0 : Int32))] [] σ)) ∧ (¬ (lg_cmp x3 (0 : Int64)) = 0 → (R mj_OC d mX3_truth (fun r σ' => R mj_OC (d + 1) mX3_valueOf Q 136 [some (iV x0), some (lV x1), none, some (lV x3), none] (r.toList ++ []) σ') 0 [some (iV (1 : Int32))] [] σ)))))) ∧ (¬ x0 = 12 → ((x0 = 13 → (((lg_cmp x1 (0 : Int64)) = 0 → (R mj_OC d mX3_truth (fun r σ' => R mj_OC (d + 1) mX3_valueOf Q 157 [some (iV x0), some (lV x1), none, some (lV x3), none] (r.toList ++ []) σ') 0 [some (iV (0 : Int32))] [] σ)) ∧ (¬ (lg_cmp x1 (0 : Int64)) = 0 → (((lg_cmp x3 (0 : Int64)) = 0 → (R mj_OC d mX3_truth (fun r σ' => R mj_OC (d + 1) mX3_valueOf Q 157 [some (iV x0), some (lV x1), none, some (lV x3), none] (r.toList ++ []) σ') 0 [some (iV (0 : Int32))] [] σ)) ∧ (¬ (lg_cmp x3 (0 : Int64)) = 0 → (R mj_OC d mX3_truth (fun r σ' => R mj_OC (d + 1) mX3_valueOf Q 157 [some (iV x0), some (lV x1), none, some (lV x3), none] (r.toList ++ []) σ') 0 [some (iV (1 : Int32))] [] σ)))))) ∧ (¬ x0 = 13 → ((x0 = 27 → (R mj_OC d mX3_inBounds (fun r σ' => R mj_OC (d + 1) mX3_valueOf Q 254 [some (iV x0), some (lV x1), none, some (lV x3), none] (r.toList ++ []) σ') 0 [some (lV (x1 + x3)), none] [] σ)) ∧ (¬ x0 = 27 → ((x0 = 28 → (R mj_OC d mX3_inBounds (fun r σ' => R mj_OC (d + 1) mX3_valueOf Q 261 [some (iV x0), some (lV x1), none, some (lV x3), none] (r.toList ++ []) σ') 0 [some (lV (x1 - x3)), none] [] σ)) ∧ (¬ x0 = 28 → ((x0 = 29 → (R mj_OC d mX3_product (fun r σ' => R mj_OC (d + 1) mX3_valueOf Q 267 [some (iV x0), some (lV x1), none, some (lV x3), none] (r.toList ++ []) σ') 0 [some (lV x1), none, some (lV x3), none, none, none] [] σ)) ∧ (¬ x0 = 29 → ((x0 = 30 → ((¬ (lg_cmp x3 (0 : Int64)) = 0 → ((¬ x3 = 0) ∧ Q (some (lV (x1 / x3))) σ)) ∧ ((lg_cmp x3 (0 : Int64)) = 0 → Q (some (lV (-9223372036854775808 : Int64))) σ))) ∧ (¬ x0 = 30 → ((x0 = 31 → ((¬ (lg_cmp x1 x3) = 0 → (R mj_OC d mX3_truth (fun r σ' => R mj_OC (d + 1) mX3_valueOf Q 172 [some (iV x0), some (lV x1), none, some (lV x3), none] (r.toList ++ []) σ') 0 [some (iV (0 : Int32))] [] σ)) ∧ ((lg_cmp x1 x3) = 0 → (R mj_OC d mX3_truth (fun r σ' => R mj_OC (d + 1) mX3_valueOf Q 172 [some (iV x0), some (lV x1), none, some (lV x3), none] (r.toList ++ []) σ') 0 [some (iV (1 : Int32))] [] σ)))) ∧ (¬ x0 = 31 → ((x0 = 32 → ((0 ≤ (lg_cmp x1 x3) → (R mj_OC d mX3_truth (fun r σ' => R mj_OC (d + 1) mX3_valueOf Q 202 [some (iV x0), some (lV x1), none, some (lV x3), none] (r.toList ++ []) σ') 0 [some (iV (0 : Int32))] [] σ)) ∧ (¬ 0 ≤ (lg_cmp x1 x3) → (R mj_OC d mX3_truth (fun r σ' => R mj_OC (d + 1) mX3_valueOf Q 202 [some (iV x0), some (lV x1), none, some (lV x3), none] (r.toList ++ []) σ') 0 [some (iV (1 : Int32))] [] σ)))) ∧ (¬ x0 = 32 → ((x0 = 33 → (((lg_cmp x1 x3) ≤ 0 → (R mj_OC d mX3_truth (fun r σ' => R mj_OC (d + 1) mX3_valueOf Q 232 [some (iV x0), some (lV x1), none, some (lV x3), none] (r.toList ++ []) σ') 0 [some (iV (0 : Int32))] [] σ)) ∧ (¬ (lg_cmp x1 x3) ≤ 0 → (R mj_OC d mX3_truth (fun r σ' => R mj_OC (d + 1) mX3_valueOf Q 232 [some (iV x0), some (lV x1), none, some (lV x3), none] (r.toList ++ []) σ') 0 [some (iV (1 : Int32))] [] σ)))) ∧ (¬ x0 = 33 → ((x0 = 34 → ((0 < (lg_cmp x1 x3) → (R mj_OC d mX3_truth (fun r σ' => R mj_OC (d + 1) mX3_valueOf Q 217 [some (iV x0), some (lV x1), none, some (lV x3), none] (r.toList ++ []) σ') 0 [some (iV (0 : Int32))] [] σ)) ∧ (¬ 0 < (lg_cmp x1 x3) → (R mj_OC d mX3_truth (fun r σ' => R mj_OC (d + 1) mX3_valueOf Q 217 [some (iV x0), some (lV x1), none, some (lV x3), none] (r.toList ++ []) σ') 0 [some (iV (1 : Int32))] [] σ)))) ∧ (¬ x0 = 34 → ((x0 = 35 → (((lg_cmp x1 x3) < 0 → (R mj_OC d mX3_truth (fun r σ' => R mj_OC (d + 1) mX3_valueOf Q 247 [some (iV x0), some (lV x1), none, some (lV x3), none] (r.toList ++ []) σ') 0 [some (iV (0 : Int32))] [] σ)) ∧ (¬ (lg_cmp x1 x3) < 0 → (R mj_OC d mX3_truth (fun r σ' => R mj_OC (d + 1) mX3_valueOf Q 247 [some (iV x0), some (lV x1), none, some (lV x3), none] (r.toList ++ []) σ') 0 [some (iV (1 : Int32))] [] σ)))) ∧ (¬ x0 = 35 → ((x0 = 36 → (((lg_cmp x1 x3) = 0 → (R mj_OC d mX3_truth (fun r σ' => R mj_OC (d + 1) mX3_valueOf Q 187 [some (iV x0), some (lV x1), none, some (lV x3), none] (r.toList ++ []) σ') 0 [some (iV (0 : Int32))] [] σ)) ∧ (¬ (lg_cmp x1 x3) = 0 → (R mj_OC d mX3_truth (fun r σ' => R mj_OC (d + 1) mX3_valueOf Q 187 [some (iV x0), some (lV x1), none, some (lV x3), none] (r.toList ++ []) σ') 0 [some (iV (1 : Int32))] [] σ)))) ∧ (¬ x0 = 36 → Q (some (lV (-9223372036854775808 : Int64))) σ))))))))))))))))))))))))) : R mj_OC (d + 1) mX3_valueOf Q 0 [some (iV x0), some (lV x1), none, some (lV x3), none] [] σ := by
  refine r_iload_n dX3_valueOf_0 rfl rfl ?_
  by_cases c12 : x0 = 12
  · have H := H.1 c12
    refine r_tableIn (tgt := 116) (off := 115) dX3_valueOf_1 (by rw [c12]; decide) (by rw [c12]; decide) (by rw [c12]; rfl) (by decide) ?_
    refine r_lload_n dX3_valueOf_116 rfl rfl ?_
    refine r_lconst (v := (0 : Int64)) dX3_valueOf_117 rfl ?_
    refine r_lcmp dX3_valueOf_118 ?_
    refine r_if_ne (tgt := 128) dX3_valueOf_119 (by decide) (fun c => ?_) (fun c => ?_)
    · have H := H.1 c
      refine r_iconst (v := (1 : Int32)) dX3_valueOf_128 rfl ?_
      refine r_goto (tgt := 133) dX3_valueOf_129 (by decide) ?_
      refine r_callS (z := 0) (As := [iV (1 : Int32)]) (st := []) kX3_truth s_X3_truth lX3_32 dX3_valueOf_133 rfl rfl rfl rfl (Nat.le_of_ble_eq_true rfl) ?_
      exact H
    · have H := H.2 c
      refine r_lload_n dX3_valueOf_122 rfl rfl ?_
      refine r_lconst (v := (0 : Int64)) dX3_valueOf_123 rfl ?_
      refine r_lcmp dX3_valueOf_124 ?_
      refine r_if_eq (tgt := 132) dX3_valueOf_125 (by decide) (fun c => ?_) (fun c => ?_)
      · have H := H.1 c
        refine r_iconst (v := (0 : Int32)) dX3_valueOf_132 rfl ?_
        refine r_callS (z := 0) (As := [iV (0 : Int32)]) (st := []) kX3_truth s_X3_truth lX3_32 dX3_valueOf_133 rfl rfl rfl rfl (Nat.le_of_ble_eq_true rfl) ?_
        exact H
      · have H := H.2 c
        refine r_iconst (v := (1 : Int32)) dX3_valueOf_128 rfl ?_
        refine r_goto (tgt := 133) dX3_valueOf_129 (by decide) ?_
        refine r_callS (z := 0) (As := [iV (1 : Int32)]) (st := []) kX3_truth s_X3_truth lX3_32 dX3_valueOf_133 rfl rfl rfl rfl (Nat.le_of_ble_eq_true rfl) ?_
        exact H
  replace H := H.2 c12
  by_cases c13 : x0 = 13
  · have H := H.1 c13
    refine r_tableIn (tgt := 137) (off := 136) dX3_valueOf_1 (by rw [c13]; decide) (by rw [c13]; decide) (by rw [c13]; rfl) (by decide) ?_
    refine r_lload_n dX3_valueOf_137 rfl rfl ?_
    refine r_lconst (v := (0 : Int64)) dX3_valueOf_138 rfl ?_
    refine r_lcmp dX3_valueOf_139 ?_
    refine r_if_eq (tgt := 153) dX3_valueOf_140 (by decide) (fun c => ?_) (fun c => ?_)
    · have H := H.1 c
      refine r_iconst (v := (0 : Int32)) dX3_valueOf_153 rfl ?_
      refine r_callS (z := 0) (As := [iV (0 : Int32)]) (st := []) kX3_truth s_X3_truth lX3_32 dX3_valueOf_154 rfl rfl rfl rfl (Nat.le_of_ble_eq_true rfl) ?_
      exact H
    · have H := H.2 c
      refine r_lload_n dX3_valueOf_143 rfl rfl ?_
      refine r_lconst (v := (0 : Int64)) dX3_valueOf_144 rfl ?_
      refine r_lcmp dX3_valueOf_145 ?_
      refine r_if_eq (tgt := 153) dX3_valueOf_146 (by decide) (fun c => ?_) (fun c => ?_)
      · have H := H.1 c
        refine r_iconst (v := (0 : Int32)) dX3_valueOf_153 rfl ?_
        refine r_callS (z := 0) (As := [iV (0 : Int32)]) (st := []) kX3_truth s_X3_truth lX3_32 dX3_valueOf_154 rfl rfl rfl rfl (Nat.le_of_ble_eq_true rfl) ?_
        exact H
      · have H := H.2 c
        refine r_iconst (v := (1 : Int32)) dX3_valueOf_149 rfl ?_
        refine r_goto (tgt := 154) dX3_valueOf_150 (by decide) ?_
        refine r_callS (z := 0) (As := [iV (1 : Int32)]) (st := []) kX3_truth s_X3_truth lX3_32 dX3_valueOf_154 rfl rfl rfl rfl (Nat.le_of_ble_eq_true rfl) ?_
        exact H
  replace H := H.2 c13
  by_cases c27 : x0 = 27
  · have H := H.1 c27
    refine r_tableIn (tgt := 248) (off := 247) dX3_valueOf_1 (by rw [c27]; decide) (by rw [c27]; decide) (by rw [c27]; rfl) (by decide) ?_
    refine r_lload_n dX3_valueOf_248 rfl rfl ?_
    refine r_lload_n dX3_valueOf_249 rfl rfl ?_
    refine r_ladd dX3_valueOf_250 ?_
    refine r_callS (z := 0) (As := [lV (x1 + x3)]) (st := []) kX3_inBounds s_X3_inBounds lX3_42 dX3_valueOf_251 rfl rfl rfl rfl (Nat.le_of_ble_eq_true rfl) ?_
    exact H
  replace H := H.2 c27
  by_cases c28 : x0 = 28
  · have H := H.1 c28
    refine r_tableIn (tgt := 255) (off := 254) dX3_valueOf_1 (by rw [c28]; decide) (by rw [c28]; decide) (by rw [c28]; rfl) (by decide) ?_
    refine r_lload_n dX3_valueOf_255 rfl rfl ?_
    refine r_lload_n dX3_valueOf_256 rfl rfl ?_
    refine r_lsub dX3_valueOf_257 ?_
    refine r_callS (z := 0) (As := [lV (x1 - x3)]) (st := []) kX3_inBounds s_X3_inBounds lX3_42 dX3_valueOf_258 rfl rfl rfl rfl (Nat.le_of_ble_eq_true rfl) ?_
    exact H
  replace H := H.2 c28
  by_cases c29 : x0 = 29
  · have H := H.1 c29
    refine r_tableIn (tgt := 262) (off := 261) dX3_valueOf_1 (by rw [c29]; decide) (by rw [c29]; decide) (by rw [c29]; rfl) (by decide) ?_
    refine r_lload_n dX3_valueOf_262 rfl rfl ?_
    refine r_lload_n dX3_valueOf_263 rfl rfl ?_
    refine r_callS (z := 2) (As := [lV x1, lV x3]) (st := []) kX3_product s_X3_product lX3_46 dX3_valueOf_264 rfl rfl rfl rfl (Nat.le_of_ble_eq_true rfl) ?_
    exact H
  replace H := H.2 c29
  by_cases c30 : x0 = 30
  · have H := H.1 c30
    refine r_tableIn (tgt := 268) (off := 267) dX3_valueOf_1 (by rw [c30]; decide) (by rw [c30]; decide) (by rw [c30]; rfl) (by decide) ?_
    refine r_lload_n dX3_valueOf_268 rfl rfl ?_
    refine r_lconst (v := (0 : Int64)) dX3_valueOf_269 rfl ?_
    refine r_lcmp dX3_valueOf_270 ?_
    refine r_if_ne (tgt := 280) dX3_valueOf_271 (by decide) (fun c => ?_) (fun c => ?_)
    · have H := H.1 c
      refine r_lload_n dX3_valueOf_280 rfl rfl ?_
      refine r_lload_n dX3_valueOf_281 rfl rfl ?_
      obtain ⟨q1, H⟩ := H
      refine r_ldiv dX3_valueOf_282 q1 ?_
      exact r_lret dX3_valueOf_283 rfl H
    · have H := H.2 c
      refine r_ldc2 (v := (-9223372036854775808 : Int64)) olX3_40 dX3_valueOf_274 ?_
      refine r_goto (tgt := 283) dX3_valueOf_277 (by decide) ?_
      exact r_lret dX3_valueOf_283 rfl H
  replace H := H.2 c30
  by_cases c31 : x0 = 31
  · have H := H.1 c31
    refine r_tableIn (tgt := 158) (off := 157) dX3_valueOf_1 (by rw [c31]; decide) (by rw [c31]; decide) (by rw [c31]; rfl) (by decide) ?_
    refine r_lload_n dX3_valueOf_158 rfl rfl ?_
    refine r_lload_n dX3_valueOf_159 rfl rfl ?_
    refine r_lcmp dX3_valueOf_160 ?_
    refine r_if_ne (tgt := 168) dX3_valueOf_161 (by decide) (fun c => ?_) (fun c => ?_)
    · have H := H.1 c
      refine r_iconst (v := (0 : Int32)) dX3_valueOf_168 rfl ?_
      refine r_callS (z := 0) (As := [iV (0 : Int32)]) (st := []) kX3_truth s_X3_truth lX3_32 dX3_valueOf_169 rfl rfl rfl rfl (Nat.le_of_ble_eq_true rfl) ?_
      exact H
    · have H := H.2 c
      refine r_iconst (v := (1 : Int32)) dX3_valueOf_164 rfl ?_
      refine r_goto (tgt := 169) dX3_valueOf_165 (by decide) ?_
      refine r_callS (z := 0) (As := [iV (1 : Int32)]) (st := []) kX3_truth s_X3_truth lX3_32 dX3_valueOf_169 rfl rfl rfl rfl (Nat.le_of_ble_eq_true rfl) ?_
      exact H
  replace H := H.2 c31
  by_cases c32 : x0 = 32
  · have H := H.1 c32
    refine r_tableIn (tgt := 188) (off := 187) dX3_valueOf_1 (by rw [c32]; decide) (by rw [c32]; decide) (by rw [c32]; rfl) (by decide) ?_
    refine r_lload_n dX3_valueOf_188 rfl rfl ?_
    refine r_lload_n dX3_valueOf_189 rfl rfl ?_
    refine r_lcmp dX3_valueOf_190 ?_
    refine r_if_ge (tgt := 198) dX3_valueOf_191 (by decide) (fun c => ?_) (fun c => ?_)
    · have H := H.1 c
      refine r_iconst (v := (0 : Int32)) dX3_valueOf_198 rfl ?_
      refine r_callS (z := 0) (As := [iV (0 : Int32)]) (st := []) kX3_truth s_X3_truth lX3_32 dX3_valueOf_199 rfl rfl rfl rfl (Nat.le_of_ble_eq_true rfl) ?_
      exact H
    · have H := H.2 c
      refine r_iconst (v := (1 : Int32)) dX3_valueOf_194 rfl ?_
      refine r_goto (tgt := 199) dX3_valueOf_195 (by decide) ?_
      refine r_callS (z := 0) (As := [iV (1 : Int32)]) (st := []) kX3_truth s_X3_truth lX3_32 dX3_valueOf_199 rfl rfl rfl rfl (Nat.le_of_ble_eq_true rfl) ?_
      exact H
  replace H := H.2 c32
  by_cases c33 : x0 = 33
  · have H := H.1 c33
    refine r_tableIn (tgt := 218) (off := 217) dX3_valueOf_1 (by rw [c33]; decide) (by rw [c33]; decide) (by rw [c33]; rfl) (by decide) ?_
    refine r_lload_n dX3_valueOf_218 rfl rfl ?_
    refine r_lload_n dX3_valueOf_219 rfl rfl ?_
    refine r_lcmp dX3_valueOf_220 ?_
    refine r_if_le (tgt := 228) dX3_valueOf_221 (by decide) (fun c => ?_) (fun c => ?_)
    · have H := H.1 c
      refine r_iconst (v := (0 : Int32)) dX3_valueOf_228 rfl ?_
      refine r_callS (z := 0) (As := [iV (0 : Int32)]) (st := []) kX3_truth s_X3_truth lX3_32 dX3_valueOf_229 rfl rfl rfl rfl (Nat.le_of_ble_eq_true rfl) ?_
      exact H
    · have H := H.2 c
      refine r_iconst (v := (1 : Int32)) dX3_valueOf_224 rfl ?_
      refine r_goto (tgt := 229) dX3_valueOf_225 (by decide) ?_
      refine r_callS (z := 0) (As := [iV (1 : Int32)]) (st := []) kX3_truth s_X3_truth lX3_32 dX3_valueOf_229 rfl rfl rfl rfl (Nat.le_of_ble_eq_true rfl) ?_
      exact H
  replace H := H.2 c33
  by_cases c34 : x0 = 34
  · have H := H.1 c34
    refine r_tableIn (tgt := 203) (off := 202) dX3_valueOf_1 (by rw [c34]; decide) (by rw [c34]; decide) (by rw [c34]; rfl) (by decide) ?_
    refine r_lload_n dX3_valueOf_203 rfl rfl ?_
    refine r_lload_n dX3_valueOf_204 rfl rfl ?_
    refine r_lcmp dX3_valueOf_205 ?_
    refine r_if_gt (tgt := 213) dX3_valueOf_206 (by decide) (fun c => ?_) (fun c => ?_)
    · have H := H.1 c
      refine r_iconst (v := (0 : Int32)) dX3_valueOf_213 rfl ?_
      refine r_callS (z := 0) (As := [iV (0 : Int32)]) (st := []) kX3_truth s_X3_truth lX3_32 dX3_valueOf_214 rfl rfl rfl rfl (Nat.le_of_ble_eq_true rfl) ?_
      exact H
    · have H := H.2 c
      refine r_iconst (v := (1 : Int32)) dX3_valueOf_209 rfl ?_
      refine r_goto (tgt := 214) dX3_valueOf_210 (by decide) ?_
      refine r_callS (z := 0) (As := [iV (1 : Int32)]) (st := []) kX3_truth s_X3_truth lX3_32 dX3_valueOf_214 rfl rfl rfl rfl (Nat.le_of_ble_eq_true rfl) ?_
      exact H
  replace H := H.2 c34
  by_cases c35 : x0 = 35
  · have H := H.1 c35
    refine r_tableIn (tgt := 233) (off := 232) dX3_valueOf_1 (by rw [c35]; decide) (by rw [c35]; decide) (by rw [c35]; rfl) (by decide) ?_
    refine r_lload_n dX3_valueOf_233 rfl rfl ?_
    refine r_lload_n dX3_valueOf_234 rfl rfl ?_
    refine r_lcmp dX3_valueOf_235 ?_
    refine r_if_lt (tgt := 243) dX3_valueOf_236 (by decide) (fun c => ?_) (fun c => ?_)
    · have H := H.1 c
      refine r_iconst (v := (0 : Int32)) dX3_valueOf_243 rfl ?_
      refine r_callS (z := 0) (As := [iV (0 : Int32)]) (st := []) kX3_truth s_X3_truth lX3_32 dX3_valueOf_244 rfl rfl rfl rfl (Nat.le_of_ble_eq_true rfl) ?_
      exact H
    · have H := H.2 c
      refine r_iconst (v := (1 : Int32)) dX3_valueOf_239 rfl ?_
      refine r_goto (tgt := 244) dX3_valueOf_240 (by decide) ?_
      refine r_callS (z := 0) (As := [iV (1 : Int32)]) (st := []) kX3_truth s_X3_truth lX3_32 dX3_valueOf_244 rfl rfl rfl rfl (Nat.le_of_ble_eq_true rfl) ?_
      exact H
  replace H := H.2 c35
  by_cases c36 : x0 = 36
  · have H := H.1 c36
    refine r_tableIn (tgt := 173) (off := 172) dX3_valueOf_1 (by rw [c36]; decide) (by rw [c36]; decide) (by rw [c36]; rfl) (by decide) ?_
    refine r_lload_n dX3_valueOf_173 rfl rfl ?_
    refine r_lload_n dX3_valueOf_174 rfl rfl ?_
    refine r_lcmp dX3_valueOf_175 ?_
    refine r_if_eq (tgt := 183) dX3_valueOf_176 (by decide) (fun c => ?_) (fun c => ?_)
    · have H := H.1 c
      refine r_iconst (v := (0 : Int32)) dX3_valueOf_183 rfl ?_
      refine r_callS (z := 0) (As := [iV (0 : Int32)]) (st := []) kX3_truth s_X3_truth lX3_32 dX3_valueOf_184 rfl rfl rfl rfl (Nat.le_of_ble_eq_true rfl) ?_
      exact H
    · have H := H.2 c
      refine r_iconst (v := (1 : Int32)) dX3_valueOf_179 rfl ?_
      refine r_goto (tgt := 184) dX3_valueOf_180 (by decide) ?_
      refine r_callS (z := 0) (As := [iV (1 : Int32)]) (st := []) kX3_truth s_X3_truth lX3_32 dX3_valueOf_184 rfl rfl rfl rfl (Nat.le_of_ble_eq_true rfl) ?_
      exact H
  replace H := H.2 c36
  have K : R mj_OC (d + 1) mX3_valueOf Q 284 [some (iV x0), some (lV x1), none, some (lV x3), none] [] σ := by
    refine r_ldc2 (v := (-9223372036854775808 : Int64)) olX3_40 dX3_valueOf_284 ?_
    exact r_lret dX3_valueOf_287 rfl H
  by_cases b : x0.toInt < 12 ∨ 36 < x0.toInt
  · exact r_tableOut (tgt := 284) dX3_valueOf_1 b (by decide) K
  · have b2 : x0.toInt = 14 ∨ x0.toInt = 15 ∨ x0.toInt = 16 ∨ x0.toInt = 17 ∨ x0.toInt = 18 ∨ x0.toInt = 19 ∨ x0.toInt = 20 ∨ x0.toInt = 21 ∨ x0.toInt = 22 ∨ x0.toInt = 23 ∨ x0.toInt = 24 ∨ x0.toInt = 25 ∨ x0.toInt = 26 := by have z0 := lv_neT c12 (show (12 : Int32).toInt = 12 by decide); have z1 := lv_neT c13 (show (13 : Int32).toInt = 13 by decide); have z2 := lv_neT c27 (show (27 : Int32).toInt = 27 by decide); have z3 := lv_neT c28 (show (28 : Int32).toInt = 28 by decide); have z4 := lv_neT c29 (show (29 : Int32).toInt = 29 by decide); have z5 := lv_neT c30 (show (30 : Int32).toInt = 30 by decide); have z6 := lv_neT c31 (show (31 : Int32).toInt = 31 by decide); have z7 := lv_neT c32 (show (32 : Int32).toInt = 32 by decide); have z8 := lv_neT c33 (show (33 : Int32).toInt = 33 by decide); have z9 := lv_neT c34 (show (34 : Int32).toInt = 34 by decide); have z10 := lv_neT c35 (show (35 : Int32).toInt = 35 by decide); have z11 := lv_neT c36 (show (36 : Int32).toInt = 36 by decide); omega
    rcases b2 with b2 | b2 | b2 | b2 | b2 | b2 | b2 | b2 | b2 | b2 | b2 | b2 | b2
    · exact r_tableIn (tgt := 284) (off := 283) dX3_valueOf_1 (by rw [b2]; decide) (by rw [b2]; decide) (by rw [b2]; rfl) (by decide) K
    · exact r_tableIn (tgt := 284) (off := 283) dX3_valueOf_1 (by rw [b2]; decide) (by rw [b2]; decide) (by rw [b2]; rfl) (by decide) K
    · exact r_tableIn (tgt := 284) (off := 283) dX3_valueOf_1 (by rw [b2]; decide) (by rw [b2]; decide) (by rw [b2]; rfl) (by decide) K
    · exact r_tableIn (tgt := 284) (off := 283) dX3_valueOf_1 (by rw [b2]; decide) (by rw [b2]; decide) (by rw [b2]; rfl) (by decide) K
    · exact r_tableIn (tgt := 284) (off := 283) dX3_valueOf_1 (by rw [b2]; decide) (by rw [b2]; decide) (by rw [b2]; rfl) (by decide) K
    · exact r_tableIn (tgt := 284) (off := 283) dX3_valueOf_1 (by rw [b2]; decide) (by rw [b2]; decide) (by rw [b2]; rfl) (by decide) K
    · exact r_tableIn (tgt := 284) (off := 283) dX3_valueOf_1 (by rw [b2]; decide) (by rw [b2]; decide) (by rw [b2]; rfl) (by decide) K
    · exact r_tableIn (tgt := 284) (off := 283) dX3_valueOf_1 (by rw [b2]; decide) (by rw [b2]; decide) (by rw [b2]; rfl) (by decide) K
    · exact r_tableIn (tgt := 284) (off := 283) dX3_valueOf_1 (by rw [b2]; decide) (by rw [b2]; decide) (by rw [b2]; rfl) (by decide) K
    · exact r_tableIn (tgt := 284) (off := 283) dX3_valueOf_1 (by rw [b2]; decide) (by rw [b2]; decide) (by rw [b2]; rfl) (by decide) K
    · exact r_tableIn (tgt := 284) (off := 283) dX3_valueOf_1 (by rw [b2]; decide) (by rw [b2]; decide) (by rw [b2]; rfl) (by decide) K
    · exact r_tableIn (tgt := 284) (off := 283) dX3_valueOf_1 (by rw [b2]; decide) (by rw [b2]; decide) (by rw [b2]; rfl) (by decide) K
    · exact r_tableIn (tgt := 284) (off := 283) dX3_valueOf_1 (by rw [b2]; decide) (by rw [b2]; decide) (by rw [b2]; rfl) (by decide) K
set_option maxRecDepth 100000 in
theorem bX3_valueOf_136 {d : Nat} {Q : Option MV → MS → Prop} {x0 : Int32} {x1 : Int64} {x3 : Int64} {s0 : Int64} {σ : MS}  (H : Q (some (lV s0)) σ) : R mj_OC d mX3_valueOf Q 136 [some (iV x0), some (lV x1), none, some (lV x3), none] [lV s0] σ := by
  exact r_lret dX3_valueOf_136 rfl H
set_option maxRecDepth 100000 in
theorem bX3_valueOf_157 {d : Nat} {Q : Option MV → MS → Prop} {x0 : Int32} {x1 : Int64} {x3 : Int64} {s0 : Int64} {σ : MS}  (H : Q (some (lV s0)) σ) : R mj_OC d mX3_valueOf Q 157 [some (iV x0), some (lV x1), none, some (lV x3), none] [lV s0] σ := by
  exact r_lret dX3_valueOf_157 rfl H
set_option maxRecDepth 100000 in
theorem bX3_valueOf_172 {d : Nat} {Q : Option MV → MS → Prop} {x0 : Int32} {x1 : Int64} {x3 : Int64} {s0 : Int64} {σ : MS}  (H : Q (some (lV s0)) σ) : R mj_OC d mX3_valueOf Q 172 [some (iV x0), some (lV x1), none, some (lV x3), none] [lV s0] σ := by
  exact r_lret dX3_valueOf_172 rfl H
set_option maxRecDepth 100000 in
theorem bX3_valueOf_187 {d : Nat} {Q : Option MV → MS → Prop} {x0 : Int32} {x1 : Int64} {x3 : Int64} {s0 : Int64} {σ : MS}  (H : Q (some (lV s0)) σ) : R mj_OC d mX3_valueOf Q 187 [some (iV x0), some (lV x1), none, some (lV x3), none] [lV s0] σ := by
  exact r_lret dX3_valueOf_187 rfl H
set_option maxRecDepth 100000 in
theorem bX3_valueOf_202 {d : Nat} {Q : Option MV → MS → Prop} {x0 : Int32} {x1 : Int64} {x3 : Int64} {s0 : Int64} {σ : MS}  (H : Q (some (lV s0)) σ) : R mj_OC d mX3_valueOf Q 202 [some (iV x0), some (lV x1), none, some (lV x3), none] [lV s0] σ := by
  exact r_lret dX3_valueOf_202 rfl H
set_option maxRecDepth 100000 in
theorem bX3_valueOf_217 {d : Nat} {Q : Option MV → MS → Prop} {x0 : Int32} {x1 : Int64} {x3 : Int64} {s0 : Int64} {σ : MS}  (H : Q (some (lV s0)) σ) : R mj_OC d mX3_valueOf Q 217 [some (iV x0), some (lV x1), none, some (lV x3), none] [lV s0] σ := by
  exact r_lret dX3_valueOf_217 rfl H
set_option maxRecDepth 100000 in
theorem bX3_valueOf_232 {d : Nat} {Q : Option MV → MS → Prop} {x0 : Int32} {x1 : Int64} {x3 : Int64} {s0 : Int64} {σ : MS}  (H : Q (some (lV s0)) σ) : R mj_OC d mX3_valueOf Q 232 [some (iV x0), some (lV x1), none, some (lV x3), none] [lV s0] σ := by
  exact r_lret dX3_valueOf_232 rfl H
set_option maxRecDepth 100000 in
theorem bX3_valueOf_247 {d : Nat} {Q : Option MV → MS → Prop} {x0 : Int32} {x1 : Int64} {x3 : Int64} {s0 : Int64} {σ : MS}  (H : Q (some (lV s0)) σ) : R mj_OC d mX3_valueOf Q 247 [some (iV x0), some (lV x1), none, some (lV x3), none] [lV s0] σ := by
  exact r_lret dX3_valueOf_247 rfl H
set_option maxRecDepth 100000 in
theorem bX3_valueOf_254 {d : Nat} {Q : Option MV → MS → Prop} {x0 : Int32} {x1 : Int64} {x3 : Int64} {s0 : Int64} {σ : MS}  (H : Q (some (lV s0)) σ) : R mj_OC d mX3_valueOf Q 254 [some (iV x0), some (lV x1), none, some (lV x3), none] [lV s0] σ := by
  exact r_lret dX3_valueOf_254 rfl H
set_option maxRecDepth 100000 in
theorem bX3_valueOf_261 {d : Nat} {Q : Option MV → MS → Prop} {x0 : Int32} {x1 : Int64} {x3 : Int64} {s0 : Int64} {σ : MS}  (H : Q (some (lV s0)) σ) : R mj_OC d mX3_valueOf Q 261 [some (iV x0), some (lV x1), none, some (lV x3), none] [lV s0] σ := by
  exact r_lret dX3_valueOf_261 rfl H
set_option maxRecDepth 100000 in
theorem bX3_valueOf_267 {d : Nat} {Q : Option MV → MS → Prop} {x0 : Int32} {x1 : Int64} {x3 : Int64} {s0 : Int64} {σ : MS}  (H : Q (some (lV s0)) σ) : R mj_OC d mX3_valueOf Q 267 [some (iV x0), some (lV x1), none, some (lV x3), none] [lV s0] σ := by
  exact r_lret dX3_valueOf_267 rfl H
set_option maxRecDepth 100000 in
theorem bX3_truth_0 {d : Nat} {Q : Option MV → MS → Prop} {x0 : Int32} {σ : MS}  (H : ((x0 = 0 → Q (some (lV (0 : Int64))) σ) ∧ (¬ x0 = 0 → Q (some (lV (1 : Int64))) σ))) : R mj_OC d mX3_truth Q 0 [some (iV x0)] [] σ := by
  refine r_iload_n dX3_truth_0 rfl rfl ?_
  refine r_if_eq (tgt := 8) dX3_truth_1 (by decide) (fun c => ?_) (fun c => ?_)
  · have H := H.1 c
    refine r_lconst (v := (0 : Int64)) dX3_truth_8 rfl ?_
    exact r_lret dX3_truth_9 rfl H
  · have H := H.2 c
    refine r_lconst (v := (1 : Int64)) dX3_truth_4 rfl ?_
    refine r_goto (tgt := 9) dX3_truth_5 (by decide) ?_
    exact r_lret dX3_truth_9 rfl H
set_option maxRecDepth 100000 in
theorem bX3_inBounds_0 {d : Nat} {Q : Option MV → MS → Prop} {x0 : Int64} {σ : MS}  (H : ((0 < (lg_cmp x0 (1000000000000 : Int64)) → Q (some (lV (-9223372036854775808 : Int64))) σ) ∧ (¬ 0 < (lg_cmp x0 (1000000000000 : Int64)) → ((0 ≤ (lg_cmp x0 (-1000000000000 : Int64)) → Q (some (lV x0)) σ) ∧ (¬ 0 ≤ (lg_cmp x0 (-1000000000000 : Int64)) → Q (some (lV (-9223372036854775808 : Int64))) σ))))) : R mj_OC d mX3_inBounds Q 0 [some (lV x0), none] [] σ := by
  refine r_lload_n dX3_inBounds_0 rfl rfl ?_
  refine r_ldc2 (v := (1000000000000 : Int64)) olX3_50 dX3_inBounds_1 ?_
  refine r_lcmp dX3_inBounds_4 ?_
  refine r_if_gt (tgt := 16) dX3_inBounds_5 (by decide) (fun c => ?_) (fun c => ?_)
  · have H := H.1 c
    refine r_ldc2 (v := (-9223372036854775808 : Int64)) olX3_40 dX3_inBounds_16 ?_
    refine r_goto (tgt := 23) dX3_inBounds_19 (by decide) ?_
    exact r_lret dX3_inBounds_23 rfl H
  · have H := H.2 c
    refine r_lload_n dX3_inBounds_8 rfl rfl ?_
    refine r_ldc2 (v := (-1000000000000 : Int64)) olX3_52 dX3_inBounds_9 ?_
    refine r_lcmp dX3_inBounds_12 ?_
    refine r_if_ge (tgt := 22) dX3_inBounds_13 (by decide) (fun c => ?_) (fun c => ?_)
    · have H := H.1 c
      refine r_lload_n dX3_inBounds_22 rfl rfl ?_
      exact r_lret dX3_inBounds_23 rfl H
    · have H := H.2 c
      refine r_ldc2 (v := (-9223372036854775808 : Int64)) olX3_40 dX3_inBounds_16 ?_
      refine r_goto (tgt := 23) dX3_inBounds_19 (by decide) ?_
      exact r_lret dX3_inBounds_23 rfl H
set_option maxRecDepth 100000 in
theorem bX3_product_0 {d : Nat} {Q : Option MV → MS → Prop} {x0 : Int64} {x2 : Int64} {σ : MS}  (H : ((¬ (lg_cmp x0 (0 : Int64)) = 0 → ((0 ≤ (lg_cmp x0 (0 : Int64)) → ((¬ x0 = 0) ∧ ((0 < (lg_cmp x2 ((1000000000000 : Int64) / x0)) → Q (some (lV (-9223372036854775808 : Int64))) σ) ∧ (¬ 0 < (lg_cmp x2 ((1000000000000 : Int64) / x0)) → ((0 ≤ (lg_cmp x2 (-((1000000000000 : Int64) / x0))) → Q (some (lV (x0 * x2))) σ) ∧ (¬ 0 ≤ (lg_cmp x2 (-((1000000000000 : Int64) / x0))) → Q (some (lV (-9223372036854775808 : Int64))) σ)))))) ∧ (¬ 0 ≤ (lg_cmp x0 (0 : Int64)) → ((¬ (-x0) = 0) ∧ ((0 < (lg_cmp x2 ((1000000000000 : Int64) / (-x0))) → Q (some (lV (-9223372036854775808 : Int64))) σ) ∧ (¬ 0 < (lg_cmp x2 ((1000000000000 : Int64) / (-x0))) → ((0 ≤ (lg_cmp x2 (-((1000000000000 : Int64) / (-x0)))) → Q (some (lV (x0 * x2))) σ) ∧ (¬ 0 ≤ (lg_cmp x2 (-((1000000000000 : Int64) / (-x0)))) → Q (some (lV (-9223372036854775808 : Int64))) σ)))))))) ∧ ((lg_cmp x0 (0 : Int64)) = 0 → Q (some (lV (0 : Int64))) σ))) : R mj_OC d mX3_product Q 0 [some (lV x0), none, some (lV x2), none, none, none] [] σ := by
  refine r_lload_n dX3_product_0 rfl rfl ?_
  refine r_lconst (v := (0 : Int64)) dX3_product_1 rfl ?_
  refine r_lcmp dX3_product_2 ?_
  refine r_if_ne (tgt := 8) dX3_product_3 (by decide) (fun c => ?_) (fun c => ?_)
  · have H := H.1 c
    refine r_ldc2 (v := (1000000000000 : Int64)) olX3_50 dX3_product_8 ?_
    refine r_lload_n dX3_product_11 rfl rfl ?_
    refine r_lconst (v := (0 : Int64)) dX3_product_12 rfl ?_
    refine r_lcmp dX3_product_13 ?_
    refine r_if_ge (tgt := 22) dX3_product_14 (by decide) (fun c => ?_) (fun c => ?_)
    · have H := H.1 c
      refine r_lload_n dX3_product_22 rfl rfl ?_
      obtain ⟨q1, H⟩ := H
      refine r_ldiv dX3_product_23 q1 ?_
      refine r_lstore dX3_product_24 (by decide) rfl ?_
      refine r_lload_n dX3_product_26 rfl rfl ?_
      refine r_lload dX3_product_27 rfl ?_
      refine r_lcmp dX3_product_29 ?_
      refine r_if_gt (tgt := 41) dX3_product_30 (by decide) (fun c => ?_) (fun c => ?_)
      · have H := H.1 c
        refine r_ldc2 (v := (-9223372036854775808 : Int64)) olX3_40 dX3_product_41 ?_
        refine r_goto (tgt := 50) dX3_product_44 (by decide) ?_
        exact r_lret dX3_product_50 rfl H
      · have H := H.2 c
        refine r_lload_n dX3_product_33 rfl rfl ?_
        refine r_lload dX3_product_34 rfl ?_
        refine r_lneg dX3_product_36 ?_
        refine r_lcmp dX3_product_37 ?_
        refine r_if_ge (tgt := 47) dX3_product_38 (by decide) (fun c => ?_) (fun c => ?_)
        · have H := H.1 c
          refine r_lload_n dX3_product_47 rfl rfl ?_
          refine r_lload_n dX3_product_48 rfl rfl ?_
          refine r_lmul dX3_product_49 ?_
          exact r_lret dX3_product_50 rfl H
        · have H := H.2 c
          refine r_ldc2 (v := (-9223372036854775808 : Int64)) olX3_40 dX3_product_41 ?_
          refine r_goto (tgt := 50) dX3_product_44 (by decide) ?_
          exact r_lret dX3_product_50 rfl H
    · have H := H.2 c
      refine r_lload_n dX3_product_17 rfl rfl ?_
      refine r_lneg dX3_product_18 ?_
      refine r_goto (tgt := 23) dX3_product_19 (by decide) ?_
      obtain ⟨q2, H⟩ := H
      refine r_ldiv dX3_product_23 q2 ?_
      refine r_lstore dX3_product_24 (by decide) rfl ?_
      refine r_lload_n dX3_product_26 rfl rfl ?_
      refine r_lload dX3_product_27 rfl ?_
      refine r_lcmp dX3_product_29 ?_
      refine r_if_gt (tgt := 41) dX3_product_30 (by decide) (fun c => ?_) (fun c => ?_)
      · have H := H.1 c
        refine r_ldc2 (v := (-9223372036854775808 : Int64)) olX3_40 dX3_product_41 ?_
        refine r_goto (tgt := 50) dX3_product_44 (by decide) ?_
        exact r_lret dX3_product_50 rfl H
      · have H := H.2 c
        refine r_lload_n dX3_product_33 rfl rfl ?_
        refine r_lload dX3_product_34 rfl ?_
        refine r_lneg dX3_product_36 ?_
        refine r_lcmp dX3_product_37 ?_
        refine r_if_ge (tgt := 47) dX3_product_38 (by decide) (fun c => ?_) (fun c => ?_)
        · have H := H.1 c
          refine r_lload_n dX3_product_47 rfl rfl ?_
          refine r_lload_n dX3_product_48 rfl rfl ?_
          refine r_lmul dX3_product_49 ?_
          exact r_lret dX3_product_50 rfl H
        · have H := H.2 c
          refine r_ldc2 (v := (-9223372036854775808 : Int64)) olX3_40 dX3_product_41 ?_
          refine r_goto (tgt := 50) dX3_product_44 (by decide) ?_
          exact r_lret dX3_product_50 rfl H
  · have H := H.2 c
    refine r_lconst (v := (0 : Int64)) dX3_product_6 rfl ?_
    exact r_lret dX3_product_7 rfl H
set_option maxRecDepth 100000 in
theorem bX5_asItGoes_0 {d : Nat} {Q : Option MV → MS → Prop}  {σ : MS}  (H : Q none (uI (uI (uI (uI (uI (uI (uI (uI σ 7 0 0 (0 : Int32)) 7 0 1 (1 : Int32)) 7 0 2 (1 : Int32)) 7 0 3 (1 : Int32)) 7 0 4 (0 : Int32)) 7 0 5 (-1 : Int32)) 7 0 6 (-1 : Int32)) 7 0 7 (0 : Int32))) : R mj_OC d mX5_asItGoes Q 0 [some (rV 7 0)] [] σ := by
  refine r_aload_n dX5_asItGoes_0 rfl rfl ?_
  refine r_iconst (v := (0 : Int32)) dX5_asItGoes_1 rfl ?_
  refine r_putI (k := 7) (i := 0) (j := 0) (ty0 := tyX5) rfl rfl ho7 rfl hX5 (by decide) rfl fX5_15 dX5_asItGoes_2 rfl tyX5_ok nmX5 rfl (by decide) (by decide) ?_
  refine r_aload_n dX5_asItGoes_5 rfl rfl ?_
  refine r_iconst (v := (1 : Int32)) dX5_asItGoes_6 rfl ?_
  refine r_putI (k := 7) (i := 0) (j := 1) (ty0 := tyX5) rfl rfl ho7 rfl hX5 (by decide) rfl fX5_19 dX5_asItGoes_7 rfl tyX5_ok nmX5 rfl (by decide) (by decide) ?_
  refine r_aload_n dX5_asItGoes_10 rfl rfl ?_
  refine r_iconst (v := (1 : Int32)) dX5_asItGoes_11 rfl ?_
  refine r_putI (k := 7) (i := 0) (j := 2) (ty0 := tyX5) rfl rfl ho7 rfl hX5 (by decide) rfl fX5_22 dX5_asItGoes_12 rfl tyX5_ok nmX5 rfl (by decide) (by decide) ?_
  refine r_aload_n dX5_asItGoes_15 rfl rfl ?_
  refine r_iconst (v := (1 : Int32)) dX5_asItGoes_16 rfl ?_
  refine r_putI (k := 7) (i := 0) (j := 3) (ty0 := tyX5) rfl rfl ho7 rfl hX5 (by decide) rfl fX5_25 dX5_asItGoes_17 rfl tyX5_ok nmX5 rfl (by decide) (by decide) ?_
  refine r_aload_n dX5_asItGoes_20 rfl rfl ?_
  refine r_iconst (v := (0 : Int32)) dX5_asItGoes_21 rfl ?_
  refine r_putI (k := 7) (i := 0) (j := 4) (ty0 := tyX5) rfl rfl ho7 rfl hX5 (by decide) rfl fX5_28 dX5_asItGoes_22 rfl tyX5_ok nmX5 rfl (by decide) (by decide) ?_
  refine r_aload_n dX5_asItGoes_25 rfl rfl ?_
  refine r_iconst (v := (-1 : Int32)) dX5_asItGoes_26 rfl ?_
  refine r_putI (k := 7) (i := 0) (j := 5) (ty0 := tyX5) rfl rfl ho7 rfl hX5 (by decide) rfl fX5_31 dX5_asItGoes_27 rfl tyX5_ok nmX5 rfl rfl rfl ?_
  refine r_aload_n dX5_asItGoes_30 rfl rfl ?_
  refine r_iconst (v := (-1 : Int32)) dX5_asItGoes_31 rfl ?_
  refine r_putI (k := 7) (i := 0) (j := 6) (ty0 := tyX5) rfl rfl ho7 rfl hX5 (by decide) rfl fX5_35 dX5_asItGoes_32 rfl tyX5_ok nmX5 rfl rfl rfl ?_
  refine r_aload_n dX5_asItGoes_35 rfl rfl ?_
  refine r_iconst (v := (0 : Int32)) dX5_asItGoes_36 rfl ?_
  refine r_putI (k := 7) (i := 0) (j := 7) (ty0 := tyX5) rfl rfl ho7 rfl hX5 (by decide) rfl fX5_38 dX5_asItGoes_37 rfl tyX5_ok nmX5 rfl rfl rfl ?_
  exact r_vret dX5_asItGoes_40 rfl H
set_option maxRecDepth 100000 in
theorem bX5_advance_0 {d : Nat} {Q : Option MV → MS → Prop} {u1 : Nat} {x2 : Int32} {σ : MS} (hu1 : u1 < 3) (H : R mj_OC d mX5_advance Q 2 [some (rV 7 0), some (rV 6 u1), some (iV x2), some (iV (0 : Int32))] [] σ) : R mj_OC d mX5_advance Q 0 [some (rV 7 0), some (rV 6 u1), some (iV x2), none] [] σ := by
  refine r_iconst (v := (0 : Int32)) dX5_advance_0 rfl ?_
  refine r_istore_n dX5_advance_1 rfl (by decide) rfl ?_
  exact H
set_option maxRecDepth 100000 in
theorem bX5_advance_2 {d : Nat} {Q : Option MV → MS → Prop} {u1 : Nat} {x2 : Int32} {x3 : Int32} {σ : MS} (hu1 : u1 < 3) (H : ((x2 ≤ x3 → Q none σ) ∧ (¬ x2 ≤ x3 → (R mj_OC d mX5_oneMinute (fun r σ' => R mj_OC (d + 1) mX5_advance Q 12 [some (rV 7 0), some (rV 6 u1), some (iV x2), some (iV x3)] (r.toList ++ []) σ') 0 [some (rV 7 0), some (rV 6 u1)] [] σ)))) : R mj_OC (d + 1) mX5_advance Q 2 [some (rV 7 0), some (rV 6 u1), some (iV x2), some (iV x3)] [] σ := by
  refine r_iload_n dX5_advance_2 rfl rfl ?_
  refine r_iload_n dX5_advance_3 rfl rfl ?_
  refine r_icmp_ge (tgt := 18) dX5_advance_4 (by decide) (fun c => ?_) (fun c => ?_)
  · have H := H.1 c
    exact r_vret dX5_advance_18 rfl H
  · have H := H.2 c
    refine r_aload_n dX5_advance_7 rfl rfl ?_
    refine r_aload_n dX5_advance_8 rfl rfl ?_
    refine r_callV (z := 0) (k := 7) (i := 0) (As := [rV 6 u1]) (st := []) kX5_oneMinute i_X5_oneMinute e_X5_oneMinute lX5_41 dX5_advance_9 rfl rfl ho7 rfl rfl rfl rfl rfl (Nat.le_of_ble_eq_true rfl) ?_
    exact H
set_option maxRecDepth 100000 in
theorem bX5_advance_12 {d : Nat} {Q : Option MV → MS → Prop} {u1 : Nat} {x2 : Int32} {x3 : Int32} {σ : MS} (hu1 : u1 < 3) (H : R mj_OC d mX5_advance Q 2 [some (rV 7 0), some (rV 6 u1), some (iV x2), some (iV (x3 + (1 : Int32)))] [] σ) : R mj_OC d mX5_advance Q 12 [some (rV 7 0), some (rV 6 u1), some (iV x2), some (iV x3)] [] σ := by
  refine r_iinc (v := x3 + (1 : Int32)) dX5_advance_12 rfl rfl (by decide) rfl ?_
  refine r_goto (tgt := 2) dX5_advance_15 (by decide) ?_
  exact H
set_option maxRecDepth 100000 in
theorem bX5_oneMinute_0 {d : Nat} {Q : Option MV → MS → Prop} {u1 : Nat} {σ : MS} (hu1 : u1 < 3) (H : (((σ.1 7 0 3) = 0 → (R mj_OC d mX5_letPipes (fun r σ' => R mj_OC (d + 1) mX5_oneMinute Q 17 [some (rV 7 0), some (rV 6 u1)] (r.toList ++ []) σ') 0 [some (rV 7 0), some (rV 6 u1), none, none] [] σ)) ∧ (¬ (σ.1 7 0 3) = 0 → (R mj_OC d mX5_letSprings (fun r σ' => R mj_OC (d + 1) mX5_oneMinute Q 12 [some (rV 7 0), some (rV 6 u1)] (r.toList ++ []) σ') 0 [some (rV 7 0), some (rV 6 u1), none] [] σ)))) : R mj_OC (d + 1) mX5_oneMinute Q 0 [some (rV 7 0), some (rV 6 u1)] [] σ := by
  refine r_aload_n dX5_oneMinute_0 rfl rfl ?_
  refine r_get (k := 7) (i := 0) (j := 3) (v := iV (σ.1 7 0 3)) rfl rfl ho7 rfl hX5 (by decide) rfl fX5_25 dX5_oneMinute_1 (fun _ => rfl) ?_
  refine r_if_eq (tgt := 12) dX5_oneMinute_4 (by decide) (fun c => ?_) (fun c => ?_)
  · have H := H.1 c
    refine r_aload_n dX5_oneMinute_12 rfl rfl ?_
    refine r_aload_n dX5_oneMinute_13 rfl rfl ?_
    refine r_callV (z := 2) (k := 7) (i := 0) (As := [rV 6 u1]) (st := []) kX5_letPipes i_X5_letPipes e_X5_letPipes lX5_48 dX5_oneMinute_14 rfl rfl ho7 rfl rfl rfl rfl rfl (Nat.le_of_ble_eq_true rfl) ?_
    exact H
  · have H := H.2 c
    refine r_aload_n dX5_oneMinute_7 rfl rfl ?_
    refine r_aload_n dX5_oneMinute_8 rfl rfl ?_
    refine r_callV (z := 1) (k := 7) (i := 0) (As := [rV 6 u1]) (st := []) kX5_letSprings i_X5_letSprings e_X5_letSprings lX5_45 dX5_oneMinute_9 rfl rfl ho7 rfl rfl rfl rfl rfl (Nat.le_of_ble_eq_true rfl) ?_
    exact H
set_option maxRecDepth 100000 in
theorem bX5_oneMinute_12 {d : Nat} {Q : Option MV → MS → Prop} {u1 : Nat} {σ : MS} (hu1 : u1 < 3) (H : (R mj_OC d mX5_letPipes (fun r σ' => R mj_OC (d + 1) mX5_oneMinute Q 17 [some (rV 7 0), some (rV 6 u1)] (r.toList ++ []) σ') 0 [some (rV 7 0), some (rV 6 u1), none, none] [] σ)) : R mj_OC (d + 1) mX5_oneMinute Q 12 [some (rV 7 0), some (rV 6 u1)] [] σ := by
  refine r_aload_n dX5_oneMinute_12 rfl rfl ?_
  refine r_aload_n dX5_oneMinute_13 rfl rfl ?_
  refine r_callV (z := 2) (k := 7) (i := 0) (As := [rV 6 u1]) (st := []) kX5_letPipes i_X5_letPipes e_X5_letPipes lX5_48 dX5_oneMinute_14 rfl rfl ho7 rfl rfl rfl rfl rfl (Nat.le_of_ble_eq_true rfl) ?_
  exact H
set_option maxRecDepth 100000 in
theorem bX5_oneMinute_17 {d : Nat} {Q : Option MV → MS → Prop} {u1 : Nat} {σ : MS} (hu1 : u1 < 3) (H : (((σ.1 7 0 2) = 0 → (R mj_OC d mX5_letBoats (fun r σ' => R mj_OC (d + 1) mX5_oneMinute Q 34 [some (rV 7 0), some (rV 6 u1)] (r.toList ++ []) σ') 0 [some (rV 7 0), some (rV 6 u1), none, none, none] [] σ)) ∧ (¬ (σ.1 7 0 2) = 0 → (R mj_OC d mX5_letLeaks (fun r σ' => R mj_OC (d + 1) mX5_oneMinute Q 29 [some (rV 7 0), some (rV 6 u1)] (r.toList ++ []) σ') 0 [some (rV 7 0), some (rV 6 u1), none, none] [] σ)))) : R mj_OC (d + 1) mX5_oneMinute Q 17 [some (rV 7 0), some (rV 6 u1)] [] σ := by
  refine r_aload_n dX5_oneMinute_17 rfl rfl ?_
  refine r_get (k := 7) (i := 0) (j := 2) (v := iV (σ.1 7 0 2)) rfl rfl ho7 rfl hX5 (by decide) rfl fX5_22 dX5_oneMinute_18 (fun _ => rfl) ?_
  refine r_if_eq (tgt := 29) dX5_oneMinute_21 (by decide) (fun c => ?_) (fun c => ?_)
  · have H := H.1 c
    refine r_aload_n dX5_oneMinute_29 rfl rfl ?_
    refine r_aload_n dX5_oneMinute_30 rfl rfl ?_
    refine r_callV (z := 3) (k := 7) (i := 0) (As := [rV 6 u1]) (st := []) kX5_letBoats i_X5_letBoats e_X5_letBoats lX5_54 dX5_oneMinute_31 rfl rfl ho7 rfl rfl rfl rfl rfl (Nat.le_of_ble_eq_true rfl) ?_
    exact H
  · have H := H.2 c
    refine r_aload_n dX5_oneMinute_24 rfl rfl ?_
    refine r_aload_n dX5_oneMinute_25 rfl rfl ?_
    refine r_callV (z := 2) (k := 7) (i := 0) (As := [rV 6 u1]) (st := []) kX5_letLeaks i_X5_letLeaks e_X5_letLeaks lX5_51 dX5_oneMinute_26 rfl rfl ho7 rfl rfl rfl rfl rfl (Nat.le_of_ble_eq_true rfl) ?_
    exact H
set_option maxRecDepth 100000 in
theorem bX5_oneMinute_29 {d : Nat} {Q : Option MV → MS → Prop} {u1 : Nat} {σ : MS} (hu1 : u1 < 3) (H : (R mj_OC d mX5_letBoats (fun r σ' => R mj_OC (d + 1) mX5_oneMinute Q 34 [some (rV 7 0), some (rV 6 u1)] (r.toList ++ []) σ') 0 [some (rV 7 0), some (rV 6 u1), none, none, none] [] σ)) : R mj_OC (d + 1) mX5_oneMinute Q 29 [some (rV 7 0), some (rV 6 u1)] [] σ := by
  refine r_aload_n dX5_oneMinute_29 rfl rfl ?_
  refine r_aload_n dX5_oneMinute_30 rfl rfl ?_
  refine r_callV (z := 3) (k := 7) (i := 0) (As := [rV 6 u1]) (st := []) kX5_letBoats i_X5_letBoats e_X5_letBoats lX5_54 dX5_oneMinute_31 rfl rfl ho7 rfl rfl rfl rfl rfl (Nat.le_of_ble_eq_true rfl) ?_
  exact H
set_option maxRecDepth 100000 in
theorem bX5_oneMinute_34 {d : Nat} {Q : Option MV → MS → Prop} {u1 : Nat} {σ : MS} (hu1 : u1 < 3) (H : Q none (uI σ 6 u1 6 ((σ.1 6 u1 6) + (1 : Int32)))) : R mj_OC d mX5_oneMinute Q 34 [some (rV 7 0), some (rV 6 u1)] [] σ := by
  refine r_aload_n dX5_oneMinute_34 rfl rfl ?_
  refine r_dup_r dX5_oneMinute_35 ?_
  refine r_get (k := 6) (i := u1) (j := 6) (v := iV (σ.1 6 u1 6)) rfl rfl (ho6 hu1) rfl hX8 (by decide) rfl fX5_57 dX5_oneMinute_36 (fun _ => rfl) ?_
  refine r_iconst (v := (1 : Int32)) dX5_oneMinute_39 rfl ?_
  refine r_iadd dX5_oneMinute_40 ?_
  refine r_putI (k := 6) (i := u1) (j := 6) (ty0 := tyX8) rfl rfl (ho6 hu1) rfl hX8 (by decide) rfl fX5_57 dX5_oneMinute_41 rfl tyX8_ok nmX8 rfl rfl rfl ?_
  exact r_vret dX5_oneMinute_44 rfl H
set_option maxRecDepth 100000 in
theorem bX5_letSprings_0 {d : Nat} {Q : Option MV → MS → Prop} {u1 : Nat} {σ : MS} (hu1 : u1 < 3) (H : R mj_OC d mX5_letSprings Q 2 [some (rV 7 0), some (rV 6 u1), some (iV (0 : Int32))] [] σ) : R mj_OC d mX5_letSprings Q 0 [some (rV 7 0), some (rV 6 u1), none] [] σ := by
  refine r_iconst (v := (0 : Int32)) dX5_letSprings_0 rfl ?_
  refine r_istore_n dX5_letSprings_1 rfl (by decide) rfl ?_
  exact H
set_option maxRecDepth 100000 in
theorem bX5_letSprings_2 {d : Nat} {Q : Option MV → MS → Prop} {u1 : Nat} {x2 : Int32} {σ : MS} (hu1 : u1 < 3) (H : (σ.2.2 6 u1 < 2 ∧ (((σ.1 3 (σ.2.2 6 u1) 0) ≤ x2 → Q none σ) ∧ (¬ (σ.1 3 (σ.2.2 6 u1) 0) ≤ x2 → (vp_in x2 7 ∧ (R mj_OC d mX8_pour (fun r σ' => R mj_OC (d + 1) mX5_letSprings Q 27 [some (rV 7 0), some (rV 6 u1), some (iV x2)] (r.toList ++ []) σ') 0 [some (rV 6 u1), some (iV x2), some (iV (σ.1 20 (σ.2.2 6 u1) ((x2).toNatClampNeg)))] [] σ)))))) : R mj_OC (d + 1) mX5_letSprings Q 2 [some (rV 7 0), some (rV 6 u1), some (iV x2)] [] σ := by
  refine r_iload_n dX5_letSprings_2 rfl rfl ?_
  refine r_aload_n dX5_letSprings_3 rfl rfl ?_
  refine r_get (k := 6) (i := u1) (j := 0) (v := rV 3 (σ.2.2 6 u1)) rfl rfl (ho6 hu1) rfl hX8 (by decide) rfl fX5_62 dX5_letSprings_4 (fun _ => rfl) ?_
  obtain ⟨q1, H⟩ := H
  refine r_get (k := 3) (i := (σ.2.2 6 u1)) (j := 0) (v := iV (σ.1 3 (σ.2.2 6 u1) 0)) rfl rfl (ho3 q1) rfl hX0 (by decide) rfl fX5_66 dX5_letSprings_7 (fun _ => rfl) ?_
  refine r_icmp_ge (tgt := 33) dX5_letSprings_10 (by decide) (fun c => ?_) (fun c => ?_)
  · have H := H.1 c
    exact r_vret dX5_letSprings_33 rfl H
  · have H := H.2 c
    refine r_aload_n dX5_letSprings_13 rfl rfl ?_
    refine r_iload_n dX5_letSprings_14 rfl rfl ?_
    refine r_aload_n dX5_letSprings_15 rfl rfl ?_
    refine r_get (k := 6) (i := u1) (j := 0) (v := rV 3 (σ.2.2 6 u1)) rfl rfl (ho6 hu1) rfl hX8 (by decide) rfl fX5_62 dX5_letSprings_16 (fun _ => rfl) ?_
    refine r_get (k := 3) (i := (σ.2.2 6 u1)) (j := 5) (v := rV 20 (σ.2.2 6 u1)) rfl rfl (ho3 q1) rfl hX0 (by decide) rfl fX5_71 dX5_letSprings_19 (fun _ => rfl) ?_
    refine r_iload_n dX5_letSprings_22 rfl rfl ?_
    obtain ⟨q2, H⟩ := H
    refine r_iald (k := 20) (i := (σ.2.2 6 u1)) rfl (ho20 q1) q2 dX5_letSprings_23 ?_
    refine r_callV (z := 0) (k := 6) (i := u1) (As := [iV x2, iV (σ.1 20 (σ.2.2 6 u1) ((x2).toNatClampNeg))]) (st := []) kX8_pour i_X8_pour e_X8_pour lX5_75 dX5_letSprings_24 rfl rfl (ho6 hu1) rfl rfl rfl rfl rfl (Nat.le_of_ble_eq_true rfl) ?_
    exact H
set_option maxRecDepth 100000 in
theorem bX5_letSprings_27 {d : Nat} {Q : Option MV → MS → Prop} {u1 : Nat} {x2 : Int32} {σ : MS} (hu1 : u1 < 3) (H : R mj_OC d mX5_letSprings Q 2 [some (rV 7 0), some (rV 6 u1), some (iV (x2 + (1 : Int32)))] [] σ) : R mj_OC d mX5_letSprings Q 27 [some (rV 7 0), some (rV 6 u1), some (iV x2)] [] σ := by
  refine r_iinc (v := x2 + (1 : Int32)) dX5_letSprings_27 rfl rfl (by decide) rfl ?_
  refine r_goto (tgt := 2) dX5_letSprings_30 (by decide) ?_
  exact H
set_option maxRecDepth 100000 in
theorem bX5_letPipes_0 {d : Nat} {Q : Option MV → MS → Prop} {u1 : Nat} {σ : MS} (hu1 : u1 < 3) (H : R mj_OC d mX5_letPipes Q 2 [some (rV 7 0), some (rV 6 u1), some (iV (0 : Int32)), none] [] σ) : R mj_OC d mX5_letPipes Q 0 [some (rV 7 0), some (rV 6 u1), none, none] [] σ := by
  refine r_iconst (v := (0 : Int32)) dX5_letPipes_0 rfl ?_
  refine r_istore_n dX5_letPipes_1 rfl (by decide) rfl ?_
  exact H
set_option maxRecDepth 100000 in
theorem bX5_letPipes_2 {d : Nat} {Q : Option MV → MS → Prop} {u1 : Nat} {x2 : Int32} {σ : MS} (hu1 : u1 < 3) (H : (σ.2.2 6 u1 < 2 ∧ (((σ.1 3 (σ.2.2 6 u1) 6) ≤ x2 → Q none σ) ∧ (¬ (σ.1 3 (σ.2.2 6 u1) 6) ≤ x2 → (R mj_OC d mX5_openNow (fun r σ' => R mj_OC (d + 1) mX5_letPipes Q 18 [some (rV 7 0), some (rV 6 u1), some (iV x2), none] (r.toList ++ []) σ') 0 [some (rV 7 0), some (rV 6 u1), none] [] σ))))) : R mj_OC (d + 1) mX5_letPipes Q 2 [some (rV 7 0), some (rV 6 u1), some (iV x2), none] [] σ := by
  refine r_iload_n dX5_letPipes_2 rfl rfl ?_
  refine r_aload_n dX5_letPipes_3 rfl rfl ?_
  refine r_get (k := 6) (i := u1) (j := 0) (v := rV 3 (σ.2.2 6 u1)) rfl rfl (ho6 hu1) rfl hX8 (by decide) rfl fX5_62 dX5_letPipes_4 (fun _ => rfl) ?_
  obtain ⟨q1, H⟩ := H
  refine r_get (k := 3) (i := (σ.2.2 6 u1)) (j := 6) (v := iV (σ.1 3 (σ.2.2 6 u1) 6)) rfl rfl (ho3 q1) rfl hX0 (by decide) rfl fX5_79 dX5_letPipes_7 (fun _ => rfl) ?_
  refine r_icmp_ge (tgt := 86) dX5_letPipes_10 (by decide) (fun c => ?_) (fun c => ?_)
  · have H := H.1 c
    exact r_vret dX5_letPipes_86 rfl H
  · have H := H.2 c
    refine r_aload_n dX5_letPipes_13 rfl rfl ?_
    refine r_aload_n dX5_letPipes_14 rfl rfl ?_
    refine r_callV (z := 1) (k := 7) (i := 0) (As := [rV 6 u1]) (st := []) kX5_openNow i_X5_openNow e_X5_openNow lX5_82 dX5_letPipes_15 rfl rfl ho7 rfl rfl rfl rfl rfl (Nat.le_of_ble_eq_true rfl) ?_
    exact H
set_option maxRecDepth 100000 in
theorem bX5_letPipes_18 {d : Nat} {Q : Option MV → MS → Prop} {u1 : Nat} {x2 : Int32} {s0 : Int32} {σ : MS} (hu1 : u1 < 3) (H : ((¬ ((s0 >>> (x2 &&& 31)) &&& (1 : Int32)) = (1 : Int32) → R mj_OC (d + 1) mX5_letPipes Q 2 [some (rV 7 0), some (rV 6 u1), some (iV (x2 + (1 : Int32))), none] [] σ) ∧ (((s0 >>> (x2 &&& 31)) &&& (1 : Int32)) = (1 : Int32) → (σ.2.2 6 u1 < 2 ∧ vp_in x2 10 ∧ (R mj_OC d mX8_giver (fun r σ' => R mj_OC (d + 1) mX5_letPipes Q 46 [some (rV 7 0), some (rV 6 u1), some (iV x2), some (iV (σ.1 23 (σ.2.2 6 u1) ((x2).toNatClampNeg)))] (r.toList ++ [iV (0 : Int32), rV 6 u1, rV 7 0, iV x2, rV 6 u1]) σ') 0 [some (rV 6 u1), some (iV x2), none, none] [] σ))))) : R mj_OC (d + 1) mX5_letPipes Q 18 [some (rV 7 0), some (rV 6 u1), some (iV x2), none] [iV s0] σ := by
  refine r_iload_n dX5_letPipes_18 rfl rfl ?_
  refine r_ishr dX5_letPipes_19 ?_
  refine r_iconst (v := (1 : Int32)) dX5_letPipes_20 rfl ?_
  refine r_iand dX5_letPipes_21 ?_
  refine r_iconst (v := (1 : Int32)) dX5_letPipes_22 rfl ?_
  refine r_icmp_ne (tgt := 80) dX5_letPipes_23 (by decide) (fun c => ?_) (fun c => ?_)
  · have H := H.1 c
    refine r_iinc (v := x2 + (1 : Int32)) dX5_letPipes_80 rfl rfl (by decide) rfl ?_
    refine r_goto (tgt := 2) dX5_letPipes_83 (by decide) ?_
    exact H
  · have H := H.2 c
    refine r_aload_n dX5_letPipes_26 rfl rfl ?_
    refine r_get (k := 6) (i := u1) (j := 0) (v := rV 3 (σ.2.2 6 u1)) rfl rfl (ho6 hu1) rfl hX8 (by decide) rfl fX5_62 dX5_letPipes_27 (fun _ => rfl) ?_
    obtain ⟨q1, H⟩ := H
    refine r_get (k := 3) (i := (σ.2.2 6 u1)) (j := 9) (v := rV 23 (σ.2.2 6 u1)) rfl rfl (ho3 q1) rfl hX0 (by decide) rfl fX5_86 dX5_letPipes_30 (fun _ => rfl) ?_
    refine r_iload_n dX5_letPipes_33 rfl rfl ?_
    obtain ⟨q2, H⟩ := H
    refine r_iald (k := 23) (i := (σ.2.2 6 u1)) rfl (ho23 q1) q2 dX5_letPipes_34 ?_
    refine r_istore_n dX5_letPipes_35 rfl (by decide) rfl ?_
    refine r_aload_n dX5_letPipes_36 rfl rfl ?_
    refine r_iload_n dX5_letPipes_37 rfl rfl ?_
    refine r_aload_n dX5_letPipes_38 rfl rfl ?_
    refine r_aload_n dX5_letPipes_39 rfl rfl ?_
    refine r_iconst (v := (0 : Int32)) dX5_letPipes_40 rfl ?_
    refine r_aload_n dX5_letPipes_41 rfl rfl ?_
    refine r_iload_n dX5_letPipes_42 rfl rfl ?_
    refine r_callV (z := 2) (k := 6) (i := u1) (As := [iV x2]) (st := [iV (0 : Int32), rV 6 u1, rV 7 0, iV x2, rV 6 u1]) kX8_giver i_X8_giver e_X8_giver lX5_89 dX5_letPipes_43 rfl rfl (ho6 hu1) rfl rfl rfl rfl rfl (Nat.le_of_ble_eq_true rfl) ?_
    exact H
set_option maxRecDepth 100000 in
theorem bX5_letPipes_46 {d : Nat} {Q : Option MV → MS → Prop} {u1 : Nat} {x2 : Int32} {x3 : Int32} {s0 : Int32} {s1 : Int32} {w2 : Nat} {s4 : Int32} {w5 : Nat} {σ : MS} (hu1 : u1 < 3) (hw2 : w2 < 3) (hw5 : w5 < 3) (H : (R mj_OC d mX5_worth (fun r σ' => R mj_OC (d + 1) mX5_letPipes Q 50 [some (rV 7 0), some (rV 6 u1), some (iV x2), some (iV x3)] (r.toList ++ [iV s4, rV 6 w5]) σ') 0 [some (rV 7 0), some (rV 6 w2), some (iV s1), some (iV s0), some (iV x3)] [] σ)) : R mj_OC (d + 1) mX5_letPipes Q 46 [some (rV 7 0), some (rV 6 u1), some (iV x2), some (iV x3)] [iV s0, iV s1, rV 6 w2, rV 7 0, iV s4, rV 6 w5] σ := by
  refine r_iload_n dX5_letPipes_46 rfl rfl ?_
  refine r_callV (z := 0) (k := 7) (i := 0) (As := [rV 6 w2, iV s1, iV s0, iV x3]) (st := [iV s4, rV 6 w5]) kX5_worth i_X5_worth e_X5_worth lX5_93 dX5_letPipes_47 rfl rfl ho7 rfl rfl rfl rfl rfl (Nat.le_of_ble_eq_true rfl) ?_
  exact H
set_option maxRecDepth 100000 in
theorem bX5_letPipes_50 {d : Nat} {Q : Option MV → MS → Prop} {u1 : Nat} {x2 : Int32} {x3 : Int32} {s0 : Int64} {s1 : Int32} {w2 : Nat} {σ : MS} (hu1 : u1 < 3) (hw2 : w2 < 3) (H : (R mj_OC d mX5_put (fun r σ' => R mj_OC (d + 1) mX5_letPipes Q 56 [some (rV 7 0), some (rV 6 u1), some (iV x2), some (iV x3)] (r.toList ++ [iV s1, rV 6 w2]) σ') 0 [some (lV s0), none, some (iV (99 : Int32)), some (iV x3)] [] σ)) : R mj_OC (d + 1) mX5_letPipes Q 50 [some (rV 7 0), some (rV 6 u1), some (iV x2), some (iV x3)] [lV s0, iV s1, rV 6 w2] σ := by
  refine r_bipush (v := (99 : Int32)) dX5_letPipes_50 rfl ?_
  refine r_iload_n dX5_letPipes_52 rfl rfl ?_
  refine r_callS (z := 0) (As := [lV s0, iV (99 : Int32), iV x3]) (st := [iV s1, rV 6 w2]) kX5_put s_X5_put lX5_97 dX5_letPipes_53 rfl rfl rfl rfl (Nat.le_of_ble_eq_true rfl) ?_
  exact H
set_option maxRecDepth 100000 in
theorem bX5_letPipes_56 {d : Nat} {Q : Option MV → MS → Prop} {u1 : Nat} {x2 : Int32} {x3 : Int32} {s0 : Int32} {s1 : Int32} {w2 : Nat} {σ : MS} (hu1 : u1 < 3) (hw2 : w2 < 3) (H : (R mj_OC d mX8_run (fun r σ' => R mj_OC (d + 1) mX5_letPipes Q 59 [some (rV 7 0), some (rV 6 u1), some (iV x2), some (iV x3)] (r.toList ++ []) σ') 0 [some (rV 6 w2), some (iV s1), some (iV s0), none, none] [] σ)) : R mj_OC (d + 1) mX5_letPipes Q 56 [some (rV 7 0), some (rV 6 u1), some (iV x2), some (iV x3)] [iV s0, iV s1, rV 6 w2] σ := by
  refine r_callV (z := 2) (k := 6) (i := w2) (As := [iV s1, iV s0]) (st := []) kX8_run i_X8_run e_X8_run lX5_101 dX5_letPipes_56 rfl rfl (ho6 hw2) rfl rfl rfl rfl rfl (Nat.le_of_ble_eq_true rfl) ?_
  exact H
set_option maxRecDepth 100000 in
theorem bX5_letPipes_59 {d : Nat} {Q : Option MV → MS → Prop} {u1 : Nat} {x2 : Int32} {x3 : Int32} {s0 : Int32} {σ : MS} (hu1 : u1 < 3) (H : (R mj_OC d mX5_jamsNow (fun r σ' => R mj_OC (d + 1) mX5_letPipes Q 65 [some (rV 7 0), some (rV 6 u1), some (iV x2), some (iV x3)] (r.toList ++ []) σ') 0 [some (rV 7 0), some (rV 6 u1), none] [] σ)) : R mj_OC (d + 1) mX5_letPipes Q 59 [some (rV 7 0), some (rV 6 u1), some (iV x2), some (iV x3)] [iV s0] σ := by
  refine r_pop_i dX5_letPipes_59 ?_
  refine r_aload_n dX5_letPipes_60 rfl rfl ?_
  refine r_aload_n dX5_letPipes_61 rfl rfl ?_
  refine r_callV (z := 1) (k := 7) (i := 0) (As := [rV 6 u1]) (st := []) kX5_jamsNow i_X5_jamsNow e_X5_jamsNow lX5_105 dX5_letPipes_62 rfl rfl ho7 rfl rfl rfl rfl rfl (Nat.le_of_ble_eq_true rfl) ?_
  exact H
set_option maxRecDepth 100000 in
theorem bX5_letPipes_65 {d : Nat} {Q : Option MV → MS → Prop} {u1 : Nat} {x2 : Int32} {x3 : Int32} {s0 : Int32} {σ : MS} (hu1 : u1 < 3) (H : ((s0 = 0 → R mj_OC d mX5_letPipes Q 2 [some (rV 7 0), some (rV 6 u1), some (iV (x2 + (1 : Int32))), none] [] σ) ∧ (¬ s0 = 0 → R mj_OC d mX5_letPipes Q 2 [some (rV 7 0), some (rV 6 u1), some (iV (x2 + (1 : Int32))), none] [] (uI σ 6 u1 2 ((σ.1 6 u1 2) ||| ((1 : Int32) <<< (x2 &&& 31))))))) : R mj_OC d mX5_letPipes Q 65 [some (rV 7 0), some (rV 6 u1), some (iV x2), some (iV x3)] [iV s0] σ := by
  refine r_if_eq (tgt := 80) dX5_letPipes_65 (by decide) (fun c => ?_) (fun c => ?_)
  · have H := H.1 c
    refine r_iinc (v := x2 + (1 : Int32)) dX5_letPipes_80 rfl rfl (by decide) rfl ?_
    refine r_goto (tgt := 2) dX5_letPipes_83 (by decide) ?_
    exact R.fw (ls' := [some (rV 7 0), some (rV 6 u1), some (iV (x2 + (1 : Int32))), none]) ⟨rfl, ⟨rfl, ⟨rfl, trivial⟩⟩⟩ H
  · have H := H.2 c
    refine r_aload_n dX5_letPipes_68 rfl rfl ?_
    refine r_dup_r dX5_letPipes_69 ?_
    refine r_get (k := 6) (i := u1) (j := 2) (v := iV (σ.1 6 u1 2)) rfl rfl (ho6 hu1) rfl hX8 (by decide) rfl fX5_109 dX5_letPipes_70 (fun _ => rfl) ?_
    refine r_iconst (v := (1 : Int32)) dX5_letPipes_73 rfl ?_
    refine r_iload_n dX5_letPipes_74 rfl rfl ?_
    refine r_ishl dX5_letPipes_75 ?_
    refine r_ior dX5_letPipes_76 ?_
    refine r_putI (k := 6) (i := u1) (j := 2) (ty0 := tyX8) rfl rfl (ho6 hu1) rfl hX8 (by decide) rfl fX5_109 dX5_letPipes_77 rfl tyX8_ok nmX8 rfl rfl rfl ?_
    refine r_iinc (v := x2 + (1 : Int32)) dX5_letPipes_80 rfl rfl (by decide) rfl ?_
    refine r_goto (tgt := 2) dX5_letPipes_83 (by decide) ?_
    exact R.fw (ls' := [some (rV 7 0), some (rV 6 u1), some (iV (x2 + (1 : Int32))), none]) ⟨rfl, ⟨rfl, ⟨rfl, trivial⟩⟩⟩ H
set_option maxRecDepth 100000 in
theorem bX5_jamsNow_0 {d : Nat} {Q : Option MV → MS → Prop} {u1 : Nat} {σ : MS} (hu1 : u1 < 3) (H : (σ.2.2 6 u1 < 2 ∧ ((¬ (σ.1 7 0 1) = 0 → ((¬ (σ.1 7 0 0) = 0 → (((σ.1 3 (σ.2.2 6 u1) 12) = 0 → ((¬ (σ.1 3 (σ.2.2 6 u1) 12) = (100 : Int32) → Q (some (iV (0 : Int32))) σ) ∧ ((σ.1 3 (σ.2.2 6 u1) 12) = (100 : Int32) → Q (some (iV (1 : Int32))) σ))) ∧ (¬ (σ.1 3 (σ.2.2 6 u1) 12) = 0 → ((¬ (σ.1 3 (σ.2.2 6 u1) 12) = (100 : Int32) → (R mj_OC d mX8_nextNumber (fun r σ' => R mj_OC (d + 1) mX5_jamsNow Q 62 [some (rV 7 0), some (rV 6 u1), some (iV (σ.1 3 (σ.2.2 6 u1) 12))] (r.toList ++ []) σ') 0 [some (rV 6 u1)] [] σ)) ∧ ((σ.1 3 (σ.2.2 6 u1) 12) = (100 : Int32) → ((¬ (σ.1 3 (σ.2.2 6 u1) 12) = (100 : Int32) → Q (some (iV (0 : Int32))) σ) ∧ ((σ.1 3 (σ.2.2 6 u1) 12) = (100 : Int32) → Q (some (iV (1 : Int32))) σ))))))) ∧ ((σ.1 7 0 0) = 0 → (((σ.1 3 (σ.2.2 6 u1) 12) < (50 : Int32) → Q (some (iV (0 : Int32))) σ) ∧ (¬ (σ.1 3 (σ.2.2 6 u1) 12) < (50 : Int32) → Q (some (iV (1 : Int32))) σ))))) ∧ ((σ.1 7 0 1) = 0 → Q (some (iV (0 : Int32))) σ)))) : R mj_OC (d + 1) mX5_jamsNow Q 0 [some (rV 7 0), some (rV 6 u1), none] [] σ := by
  refine r_aload_n dX5_jamsNow_0 rfl rfl ?_
  refine r_get (k := 6) (i := u1) (j := 0) (v := rV 3 (σ.2.2 6 u1)) rfl rfl (ho6 hu1) rfl hX8 (by decide) rfl fX5_62 dX5_jamsNow_1 (fun _ => rfl) ?_
  obtain ⟨q1, H⟩ := H
  refine r_get (k := 3) (i := (σ.2.2 6 u1)) (j := 12) (v := iV (σ.1 3 (σ.2.2 6 u1) 12)) rfl rfl (ho3 q1) rfl hX0 (by decide) rfl fX5_112 dX5_jamsNow_4 (fun _ => rfl) ?_
  refine r_istore_n dX5_jamsNow_7 rfl (by decide) rfl ?_
  refine r_aload_n dX5_jamsNow_8 rfl rfl ?_
  refine r_get (k := 7) (i := 0) (j := 1) (v := iV (σ.1 7 0 1)) rfl rfl ho7 rfl hX5 (by decide) rfl fX5_19 dX5_jamsNow_9 (fun _ => rfl) ?_
  refine r_if_ne (tgt := 17) dX5_jamsNow_12 (by decide) (fun c => ?_) (fun c => ?_)
  · have H := H.1 c
    refine r_aload_n dX5_jamsNow_17 rfl rfl ?_
    refine r_get (k := 7) (i := 0) (j := 0) (v := iV (σ.1 7 0 0)) rfl rfl ho7 rfl hX5 (by decide) rfl fX5_15 dX5_jamsNow_18 (fun _ => rfl) ?_
    refine r_if_ne (tgt := 36) dX5_jamsNow_21 (by decide) (fun c => ?_) (fun c => ?_)
    · have H := H.1 c
      refine r_iload_n dX5_jamsNow_36 rfl rfl ?_
      refine r_if_eq (tgt := 46) dX5_jamsNow_37 (by decide) (fun c => ?_) (fun c => ?_)
      · have H := H.1 c
        refine r_iload_n dX5_jamsNow_46 rfl rfl ?_
        refine r_bipush (v := (100 : Int32)) dX5_jamsNow_47 rfl ?_
        refine r_icmp_ne (tgt := 56) dX5_jamsNow_49 (by decide) (fun c => ?_) (fun c => ?_)
        · have H := H.1 c
          refine r_iconst (v := (0 : Int32)) dX5_jamsNow_56 rfl ?_
          exact r_zret dX5_jamsNow_57 rfl (by decide) H
        · have H := H.2 c
          refine r_iconst (v := (1 : Int32)) dX5_jamsNow_52 rfl ?_
          refine r_goto (tgt := 57) dX5_jamsNow_53 (by decide) ?_
          exact r_zret dX5_jamsNow_57 rfl (by decide) H
      · have H := H.2 c
        refine r_iload_n dX5_jamsNow_40 rfl rfl ?_
        refine r_bipush (v := (100 : Int32)) dX5_jamsNow_41 rfl ?_
        refine r_icmp_ne (tgt := 58) dX5_jamsNow_43 (by decide) (fun c => ?_) (fun c => ?_)
        · have H := H.1 c
          refine r_aload_n dX5_jamsNow_58 rfl rfl ?_
          refine r_callV (z := 0) (k := 6) (i := u1) (As := []) (st := []) kX8_nextNumber i_X8_nextNumber e_X8_nextNumber lX5_115 dX5_jamsNow_59 rfl rfl (ho6 hu1) rfl rfl rfl rfl rfl (Nat.le_of_ble_eq_true rfl) ?_
          exact H
        · have H := H.2 c
          refine r_iload_n dX5_jamsNow_46 rfl rfl ?_
          refine r_bipush (v := (100 : Int32)) dX5_jamsNow_47 rfl ?_
          refine r_icmp_ne (tgt := 56) dX5_jamsNow_49 (by decide) (fun c => ?_) (fun c => ?_)
          · have H := H.1 c
            refine r_iconst (v := (0 : Int32)) dX5_jamsNow_56 rfl ?_
            exact r_zret dX5_jamsNow_57 rfl (by decide) H
          · have H := H.2 c
            refine r_iconst (v := (1 : Int32)) dX5_jamsNow_52 rfl ?_
            refine r_goto (tgt := 57) dX5_jamsNow_53 (by decide) ?_
            exact r_zret dX5_jamsNow_57 rfl (by decide) H
    · have H := H.2 c
      refine r_iload_n dX5_jamsNow_24 rfl rfl ?_
      refine r_bipush (v := (50 : Int32)) dX5_jamsNow_25 rfl ?_
      refine r_icmp_lt (tgt := 34) dX5_jamsNow_27 (by decide) (fun c => ?_) (fun c => ?_)
      · have H := H.1 c
        refine r_iconst (v := (0 : Int32)) dX5_jamsNow_34 rfl ?_
        exact r_zret dX5_jamsNow_35 rfl (by decide) H
      · have H := H.2 c
        refine r_iconst (v := (1 : Int32)) dX5_jamsNow_30 rfl ?_
        refine r_goto (tgt := 35) dX5_jamsNow_31 (by decide) ?_
        exact r_zret dX5_jamsNow_35 rfl (by decide) H
  · have H := H.2 c
    refine r_iconst (v := (0 : Int32)) dX5_jamsNow_15 rfl ?_
    exact r_zret dX5_jamsNow_16 rfl (by decide) H
set_option maxRecDepth 100000 in
theorem bX5_jamsNow_62 {d : Nat} {Q : Option MV → MS → Prop} {u1 : Nat} {x2 : Int32} {s0 : Int32} {σ : MS} (hu1 : u1 < 3) (H : ((x2 ≤ (s0 - s0 / (100 : Int32) * (100 : Int32)) → Q (some (iV (0 : Int32))) σ) ∧ (¬ x2 ≤ (s0 - s0 / (100 : Int32) * (100 : Int32)) → Q (some (iV (1 : Int32))) σ))) : R mj_OC d mX5_jamsNow Q 62 [some (rV 7 0), some (rV 6 u1), some (iV x2)] [iV s0] σ := by
  refine r_bipush (v := (100 : Int32)) dX5_jamsNow_62 rfl ?_
  refine r_irem dX5_jamsNow_64 (by decide) ?_
  refine r_iload_n dX5_jamsNow_65 rfl rfl ?_
  refine r_icmp_ge (tgt := 73) dX5_jamsNow_66 (by decide) (fun c => ?_) (fun c => ?_)
  · have H := H.1 c
    refine r_iconst (v := (0 : Int32)) dX5_jamsNow_73 rfl ?_
    exact r_zret dX5_jamsNow_74 rfl (by decide) H
  · have H := H.2 c
    refine r_iconst (v := (1 : Int32)) dX5_jamsNow_69 rfl ?_
    refine r_goto (tgt := 74) dX5_jamsNow_70 (by decide) ?_
    exact r_zret dX5_jamsNow_74 rfl (by decide) H
set_option maxRecDepth 100000 in
theorem bX5_letLeaks_0 {d : Nat} {Q : Option MV → MS → Prop} {u1 : Nat} {σ : MS} (hu1 : u1 < 3) (H : R mj_OC d mX5_letLeaks Q 2 [some (rV 7 0), some (rV 6 u1), some (iV (0 : Int32)), none] [] σ) : R mj_OC d mX5_letLeaks Q 0 [some (rV 7 0), some (rV 6 u1), none, none] [] σ := by
  refine r_iconst (v := (0 : Int32)) dX5_letLeaks_0 rfl ?_
  refine r_istore_n dX5_letLeaks_1 rfl (by decide) rfl ?_
  exact H
set_option maxRecDepth 100000 in
theorem bX5_letLeaks_2 {d : Nat} {Q : Option MV → MS → Prop} {u1 : Nat} {x2 : Int32} {σ : MS} (hu1 : u1 < 3) (H : (σ.2.2 6 u1 < 2 ∧ (((σ.1 3 (σ.2.2 6 u1) 0) ≤ x2 → Q none σ) ∧ (¬ (σ.1 3 (σ.2.2 6 u1) 0) ≤ x2 → ((¬ x2 = (σ.1 7 0 6) → (R mj_OC d mX5_worth (fun r σ' => R mj_OC (d + 1) mX5_letLeaks Q 36 [some (rV 7 0), some (rV 6 u1), some (iV x2), none] (r.toList ++ []) σ') 0 [some (rV 7 0), some (rV 6 u1), some (iV (1 : Int32)), some (iV x2), some (iV (0 : Int32))] [] σ)) ∧ (x2 = (σ.1 7 0 6) → (R mj_OC d mX8_lose (fun r σ' => R mj_OC (d + 1) mX5_letLeaks Q 49 [some (rV 7 0), some (rV 6 u1), some (iV x2), some (iV (σ.1 7 0 7))] (r.toList ++ []) σ') 0 [some (rV 6 u1), some (iV x2), some (iV (σ.1 7 0 7))] [] σ))))))) : R mj_OC (d + 1) mX5_letLeaks Q 2 [some (rV 7 0), some (rV 6 u1), some (iV x2), none] [] σ := by
  refine r_iload_n dX5_letLeaks_2 rfl rfl ?_
  refine r_aload_n dX5_letLeaks_3 rfl rfl ?_
  refine r_get (k := 6) (i := u1) (j := 0) (v := rV 3 (σ.2.2 6 u1)) rfl rfl (ho6 hu1) rfl hX8 (by decide) rfl fX5_62 dX5_letLeaks_4 (fun _ => rfl) ?_
  obtain ⟨q1, H⟩ := H
  refine r_get (k := 3) (i := (σ.2.2 6 u1)) (j := 0) (v := iV (σ.1 3 (σ.2.2 6 u1) 0)) rfl rfl (ho3 q1) rfl hX0 (by decide) rfl fX5_66 dX5_letLeaks_7 (fun _ => rfl) ?_
  refine r_icmp_ge (tgt := 55) dX5_letLeaks_10 (by decide) (fun c => ?_) (fun c => ?_)
  · have H := H.1 c
    exact r_vret dX5_letLeaks_55 rfl H
  · have H := H.2 c
    refine r_iload_n dX5_letLeaks_13 rfl rfl ?_
    refine r_aload_n dX5_letLeaks_14 rfl rfl ?_
    refine r_get (k := 7) (i := 0) (j := 6) (v := iV (σ.1 7 0 6)) rfl rfl ho7 rfl hX5 (by decide) rfl fX5_35 dX5_letLeaks_15 (fun _ => rfl) ?_
    refine r_icmp_ne (tgt := 28) dX5_letLeaks_18 (by decide) (fun c => ?_) (fun c => ?_)
    · have H := H.1 c
      refine r_aload_n dX5_letLeaks_28 rfl rfl ?_
      refine r_aload_n dX5_letLeaks_29 rfl rfl ?_
      refine r_iconst (v := (1 : Int32)) dX5_letLeaks_30 rfl ?_
      refine r_iload_n dX5_letLeaks_31 rfl rfl ?_
      refine r_iconst (v := (0 : Int32)) dX5_letLeaks_32 rfl ?_
      refine r_callV (z := 0) (k := 7) (i := 0) (As := [rV 6 u1, iV (1 : Int32), iV x2, iV (0 : Int32)]) (st := []) kX5_worth i_X5_worth e_X5_worth lX5_93 dX5_letLeaks_33 rfl rfl ho7 rfl rfl rfl rfl rfl (Nat.le_of_ble_eq_true rfl) ?_
      exact H
    · have H := H.2 c
      refine r_aload_n dX5_letLeaks_21 rfl rfl ?_
      refine r_get (k := 7) (i := 0) (j := 7) (v := iV (σ.1 7 0 7)) rfl rfl ho7 rfl hX5 (by decide) rfl fX5_38 dX5_letLeaks_22 (fun _ => rfl) ?_
      refine r_goto (tgt := 42) dX5_letLeaks_25 (by decide) ?_
      refine r_istore_n dX5_letLeaks_42 rfl (by decide) rfl ?_
      refine r_aload_n dX5_letLeaks_43 rfl rfl ?_
      refine r_iload_n dX5_letLeaks_44 rfl rfl ?_
      refine r_iload_n dX5_letLeaks_45 rfl rfl ?_
      refine r_callV (z := 0) (k := 6) (i := u1) (As := [iV x2, iV (σ.1 7 0 7)]) (st := []) kX8_lose i_X8_lose e_X8_lose lX5_119 dX5_letLeaks_46 rfl rfl (ho6 hu1) rfl rfl rfl rfl rfl (Nat.le_of_ble_eq_true rfl) ?_
      exact H
set_option maxRecDepth 100000 in
theorem bX5_letLeaks_36 {d : Nat} {Q : Option MV → MS → Prop} {u1 : Nat} {x2 : Int32} {s0 : Int64} {σ : MS} (hu1 : u1 < 3) (H : (R mj_OC d mX5_put (fun r σ' => R mj_OC (d + 1) mX5_letLeaks Q 42 [some (rV 7 0), some (rV 6 u1), some (iV x2), none] (r.toList ++ []) σ') 0 [some (lV s0), none, some (iV (99 : Int32)), some (iV (0 : Int32))] [] σ)) : R mj_OC (d + 1) mX5_letLeaks Q 36 [some (rV 7 0), some (rV 6 u1), some (iV x2), none] [lV s0] σ := by
  refine r_bipush (v := (99 : Int32)) dX5_letLeaks_36 rfl ?_
  refine r_iconst (v := (0 : Int32)) dX5_letLeaks_38 rfl ?_
  refine r_callS (z := 0) (As := [lV s0, iV (99 : Int32), iV (0 : Int32)]) (st := []) kX5_put s_X5_put lX5_97 dX5_letLeaks_39 rfl rfl rfl rfl (Nat.le_of_ble_eq_true rfl) ?_
  exact H
set_option maxRecDepth 100000 in
theorem bX5_letLeaks_42 {d : Nat} {Q : Option MV → MS → Prop} {u1 : Nat} {x2 : Int32} {s0 : Int32} {σ : MS} (hu1 : u1 < 3) (H : (R mj_OC d mX8_lose (fun r σ' => R mj_OC (d + 1) mX5_letLeaks Q 49 [some (rV 7 0), some (rV 6 u1), some (iV x2), some (iV s0)] (r.toList ++ []) σ') 0 [some (rV 6 u1), some (iV x2), some (iV s0)] [] σ)) : R mj_OC (d + 1) mX5_letLeaks Q 42 [some (rV 7 0), some (rV 6 u1), some (iV x2), none] [iV s0] σ := by
  refine r_istore_n dX5_letLeaks_42 rfl (by decide) rfl ?_
  refine r_aload_n dX5_letLeaks_43 rfl rfl ?_
  refine r_iload_n dX5_letLeaks_44 rfl rfl ?_
  refine r_iload_n dX5_letLeaks_45 rfl rfl ?_
  refine r_callV (z := 0) (k := 6) (i := u1) (As := [iV x2, iV s0]) (st := []) kX8_lose i_X8_lose e_X8_lose lX5_119 dX5_letLeaks_46 rfl rfl (ho6 hu1) rfl rfl rfl rfl rfl (Nat.le_of_ble_eq_true rfl) ?_
  exact H
set_option maxRecDepth 100000 in
theorem bX5_letLeaks_49 {d : Nat} {Q : Option MV → MS → Prop} {u1 : Nat} {x2 : Int32} {x3 : Int32} {σ : MS} (hu1 : u1 < 3) (H : R mj_OC d mX5_letLeaks Q 2 [some (rV 7 0), some (rV 6 u1), some (iV (x2 + (1 : Int32))), none] [] σ) : R mj_OC d mX5_letLeaks Q 49 [some (rV 7 0), some (rV 6 u1), some (iV x2), some (iV x3)] [] σ := by
  refine r_iinc (v := x2 + (1 : Int32)) dX5_letLeaks_49 rfl rfl (by decide) rfl ?_
  refine r_goto (tgt := 2) dX5_letLeaks_52 (by decide) ?_
  exact R.fw (ls' := [some (rV 7 0), some (rV 6 u1), some (iV (x2 + (1 : Int32))), none]) ⟨rfl, ⟨rfl, ⟨rfl, trivial⟩⟩⟩ H
set_option maxRecDepth 100000 in
theorem bX5_letBoats_0 {d : Nat} {Q : Option MV → MS → Prop} {u1 : Nat} {σ : MS} (hu1 : u1 < 3) (H : (σ.2.2 6 u1 < 2 ∧ R mj_OC d mX5_letBoats Q 10 [some (rV 7 0), some (rV 6 u1), some (rV 4 (σ.2.2 6 u1)), some (iV (0 : Int32)), none] [] σ)) : R mj_OC d mX5_letBoats Q 0 [some (rV 7 0), some (rV 6 u1), none, none, none] [] σ := by
  refine r_aload_n dX5_letBoats_0 rfl rfl ?_
  refine r_get (k := 6) (i := u1) (j := 0) (v := rV 3 (σ.2.2 6 u1)) rfl rfl (ho6 hu1) rfl hX8 (by decide) rfl fX5_62 dX5_letBoats_1 (fun _ => rfl) ?_
  obtain ⟨q1, H⟩ := H
  refine r_get (k := 3) (i := (σ.2.2 6 u1)) (j := 14) (v := rV 4 (σ.2.2 6 u1)) rfl rfl (ho3 q1) rfl hX0 (by decide) rfl fX5_122 dX5_letBoats_4 (fun _ => rfl) ?_
  refine r_astore_n dX5_letBoats_7 rfl (by decide) rfl ?_
  refine r_iconst (v := (0 : Int32)) dX5_letBoats_8 rfl ?_
  refine r_istore_n dX5_letBoats_9 rfl (by decide) rfl ?_
  exact H
set_option maxRecDepth 100000 in
theorem bX5_letBoats_10 {d : Nat} {Q : Option MV → MS → Prop} {u1 : Nat} {u2 : Nat} {x3 : Int32} {σ : MS} (hu1 : u1 < 3) (hu2 : u2 < 2) (H : (((σ.1 4 u2 4) ≤ x3 → Q none σ) ∧ (¬ (σ.1 4 u2 4) ≤ x3 → (vp_in x3 8 ∧ (((σ.1 36 u1 ((x3).toNatClampNeg)) = (2 : Int32) → R mj_OC (d + 1) mX5_letBoats Q 10 [some (rV 7 0), some (rV 6 u1), some (rV 4 u2), some (iV (x3 + (1 : Int32))), none] [] σ) ∧ (¬ (σ.1 36 u1 ((x3).toNatClampNeg)) = (2 : Int32) → (((σ.1 6 u1 6) < (σ.1 29 u2 ((x3).toNatClampNeg)) → R mj_OC (d + 1) mX5_letBoats Q 10 [some (rV 7 0), some (rV 6 u1), some (rV 4 u2), some (iV (x3 + (1 : Int32))), none] [] σ) ∧ (¬ (σ.1 6 u1 6) < (σ.1 29 u2 ((x3).toNatClampNeg)) → (R mj_OC d mX8_letIn (fun r σ' => R mj_OC (d + 1) mX5_letBoats Q 56 [some (rV 7 0), some (rV 6 u1), some (rV 4 u2), some (iV x3), some (iV (σ.1 28 u2 ((x3).toNatClampNeg)))] (r.toList ++ []) σ') 0 [some (rV 6 u1), some (iV x3), some (iV (σ.1 28 u2 ((x3).toNatClampNeg)))] [] σ))))))))) : R mj_OC (d + 1) mX5_letBoats Q 10 [some (rV 7 0), some (rV 6 u1), some (rV 4 u2), some (iV x3), none] [] σ := by
  refine r_iload_n dX5_letBoats_10 rfl rfl ?_
  refine r_aload_n dX5_letBoats_11 rfl rfl ?_
  refine r_get (k := 4) (i := u2) (j := 4) (v := iV (σ.1 4 u2 4)) rfl rfl (ho4 hu2) rfl hX4 (by decide) rfl fX5_126 dX5_letBoats_12 (fun _ => rfl) ?_
  refine r_icmp_ge (tgt := 122) dX5_letBoats_15 (by decide) (fun c => ?_) (fun c => ?_)
  · have H := H.1 c
    exact r_vret dX5_letBoats_122 rfl H
  · have H := H.2 c
    refine r_aload_n dX5_letBoats_18 rfl rfl ?_
    refine r_get (k := 6) (i := u1) (j := 3) (v := rV 36 u1) rfl rfl (ho6 hu1) rfl hX8 (by decide) rfl fX5_131 dX5_letBoats_19 (fun _ => rfl) ?_
    refine r_iload_n dX5_letBoats_22 rfl rfl ?_
    obtain ⟨q1, H⟩ := H
    refine r_iald (k := 36) (i := u1) rfl (ho36 hu1) q1 dX5_letBoats_23 ?_
    refine r_iconst (v := (2 : Int32)) dX5_letBoats_24 rfl ?_
    refine r_icmp_eq (tgt := 116) dX5_letBoats_25 (by decide) (fun c => ?_) (fun c => ?_)
    · have H := H.1 c
      refine r_iinc (v := x3 + (1 : Int32)) dX5_letBoats_116 rfl rfl (by decide) rfl ?_
      refine r_goto (tgt := 10) dX5_letBoats_119 (by decide) ?_
      exact H
    · have H := H.2 c
      refine r_aload_n dX5_letBoats_28 rfl rfl ?_
      refine r_get (k := 6) (i := u1) (j := 6) (v := iV (σ.1 6 u1 6)) rfl rfl (ho6 hu1) rfl hX8 (by decide) rfl fX5_57 dX5_letBoats_29 (fun _ => rfl) ?_
      refine r_aload_n dX5_letBoats_32 rfl rfl ?_
      refine r_get (k := 4) (i := u2) (j := 6) (v := rV 29 u2) rfl rfl (ho4 hu2) rfl hX4 (by decide) rfl fX5_134 dX5_letBoats_33 (fun _ => rfl) ?_
      refine r_iload_n dX5_letBoats_36 rfl rfl ?_
      refine r_iald (k := 29) (i := u2) rfl (ho29 hu2) q1 dX5_letBoats_37 ?_
      refine r_icmp_lt (tgt := 116) dX5_letBoats_38 (by decide) (fun c => ?_) (fun c => ?_)
      · have H := H.1 c
        refine r_iinc (v := x3 + (1 : Int32)) dX5_letBoats_116 rfl rfl (by decide) rfl ?_
        refine r_goto (tgt := 10) dX5_letBoats_119 (by decide) ?_
        exact H
      · have H := H.2 c
        refine r_aload_n dX5_letBoats_41 rfl rfl ?_
        refine r_get (k := 4) (i := u2) (j := 5) (v := rV 28 u2) rfl rfl (ho4 hu2) rfl hX4 (by decide) rfl fX5_137 dX5_letBoats_42 (fun _ => rfl) ?_
        refine r_iload_n dX5_letBoats_45 rfl rfl ?_
        refine r_iald (k := 28) (i := u2) rfl (ho28 hu2) q1 dX5_letBoats_46 ?_
        refine r_istore dX5_letBoats_47 (by decide) rfl ?_
        refine r_aload_n dX5_letBoats_49 rfl rfl ?_
        refine r_iload_n dX5_letBoats_50 rfl rfl ?_
        refine r_iload dX5_letBoats_51 rfl ?_
        refine r_callV (z := 0) (k := 6) (i := u1) (As := [iV x3, iV (σ.1 28 u2 ((x3).toNatClampNeg))]) (st := []) kX8_letIn i_X8_letIn e_X8_letIn lX5_140 dX5_letBoats_53 rfl rfl (ho6 hu1) rfl rfl rfl rfl rfl (Nat.le_of_ble_eq_true rfl) ?_
        exact H
set_option maxRecDepth 100000 in
theorem bX5_letBoats_56 {d : Nat} {Q : Option MV → MS → Prop} {u1 : Nat} {u2 : Nat} {x3 : Int32} {x4 : Int32} {σ : MS} (hu1 : u1 < 3) (hu2 : u2 < 2) (H : (R mj_OC d mX8_canGoUp (fun r σ' => R mj_OC (d + 1) mX5_letBoats Q 63 [some (rV 7 0), some (rV 6 u1), some (rV 4 u2), some (iV x3), some (iV x4)] (r.toList ++ []) σ') 0 [some (rV 6 u1), some (iV x3), some (iV x4)] [] σ)) : R mj_OC (d + 1) mX5_letBoats Q 56 [some (rV 7 0), some (rV 6 u1), some (rV 4 u2), some (iV x3), some (iV x4)] [] σ := by
  refine r_aload_n dX5_letBoats_56 rfl rfl ?_
  refine r_iload_n dX5_letBoats_57 rfl rfl ?_
  refine r_iload dX5_letBoats_58 rfl ?_
  refine r_callV (z := 0) (k := 6) (i := u1) (As := [iV x3, iV x4]) (st := []) kX8_canGoUp i_X8_canGoUp e_X8_canGoUp lX5_143 dX5_letBoats_60 rfl rfl (ho6 hu1) rfl rfl rfl rfl rfl (Nat.le_of_ble_eq_true rfl) ?_
  exact H
set_option maxRecDepth 100000 in
theorem bX5_letBoats_63 {d : Nat} {Q : Option MV → MS → Prop} {u1 : Nat} {u2 : Nat} {x3 : Int32} {x4 : Int32} {s0 : Int32} {σ : MS} (hu1 : u1 < 3) (hu2 : u2 < 2) (H : ((s0 = 0 → (vp_in x3 8 ∧ R mj_OC (d + 1) mX5_letBoats Q 10 [some (rV 7 0), some (rV 6 u1), some (rV 4 u2), some (iV (x3 + (1 : Int32))), none] [] (uI σ 37 u1 ((x3).toNatClampNeg) ((σ.1 37 u1 ((x3).toNatClampNeg)) + (1 : Int32))))) ∧ (¬ s0 = 0 → (vp_in x4 3 ∧ (R mj_OC d mX5_worth (fun r σ' => R mj_OC (d + 1) mX5_letBoats Q 85 [some (rV 7 0), some (rV 6 u1), some (rV 4 u2), some (iV x3), some (iV x4)] (r.toList ++ [iV (σ.1 6 u1 5), rV 6 u1]) σ') 0 [some (rV 7 0), some (rV 6 u1), some (iV (2 : Int32)), some (iV (σ.1 25 u2 ((x4).toNatClampNeg))), some (iV (0 : Int32))] [] σ))))) : R mj_OC (d + 1) mX5_letBoats Q 63 [some (rV 7 0), some (rV 6 u1), some (rV 4 u2), some (iV x3), some (iV x4)] [iV s0] σ := by
  refine r_if_eq (tgt := 106) dX5_letBoats_63 (by decide) (fun c => ?_) (fun c => ?_)
  · have H := H.1 c
    refine r_aload_n dX5_letBoats_106 rfl rfl ?_
    refine r_get (k := 6) (i := u1) (j := 4) (v := rV 37 u1) rfl rfl (ho6 hu1) rfl hX8 (by decide) rfl fX5_153 dX5_letBoats_107 (fun _ => rfl) ?_
    refine r_iload_n dX5_letBoats_110 rfl rfl ?_
    refine r_dup2_ri dX5_letBoats_111 ?_
    obtain ⟨q1, H⟩ := H
    refine r_iald (k := 37) (i := u1) rfl (ho37 hu1) q1 dX5_letBoats_112 ?_
    refine r_iconst (v := (1 : Int32)) dX5_letBoats_113 rfl ?_
    refine r_iadd dX5_letBoats_114 ?_
    refine r_iast (k := 37) (i := u1) rfl (ho37 hu1) q1 dX5_letBoats_115 ?_
    refine r_iinc (v := x3 + (1 : Int32)) dX5_letBoats_116 rfl rfl (by decide) rfl ?_
    refine r_goto (tgt := 10) dX5_letBoats_119 (by decide) ?_
    exact R.fw (ls' := [some (rV 7 0), some (rV 6 u1), some (rV 4 u2), some (iV (x3 + (1 : Int32))), none]) ⟨rfl, ⟨rfl, ⟨rfl, ⟨rfl, trivial⟩⟩⟩⟩ H
  · have H := H.2 c
    refine r_aload_n dX5_letBoats_66 rfl rfl ?_
    refine r_dup_r dX5_letBoats_67 ?_
    refine r_get (k := 6) (i := u1) (j := 5) (v := iV (σ.1 6 u1 5)) rfl rfl (ho6 hu1) rfl hX8 (by decide) rfl fX5_147 dX5_letBoats_68 (fun _ => rfl) ?_
    refine r_aload_n dX5_letBoats_71 rfl rfl ?_
    refine r_aload_n dX5_letBoats_72 rfl rfl ?_
    refine r_iconst (v := (2 : Int32)) dX5_letBoats_73 rfl ?_
    refine r_aload_n dX5_letBoats_74 rfl rfl ?_
    refine r_get (k := 4) (i := u2) (j := 1) (v := rV 25 u2) rfl rfl (ho4 hu2) rfl hX4 (by decide) rfl fX5_150 dX5_letBoats_75 (fun _ => rfl) ?_
    refine r_iload dX5_letBoats_78 rfl ?_
    obtain ⟨q2, H⟩ := H
    refine r_iald (k := 25) (i := u2) rfl (ho25 hu2) q2 dX5_letBoats_80 ?_
    refine r_iconst (v := (0 : Int32)) dX5_letBoats_81 rfl ?_
    refine r_callV (z := 0) (k := 7) (i := 0) (As := [rV 6 u1, iV (2 : Int32), iV (σ.1 25 u2 ((x4).toNatClampNeg)), iV (0 : Int32)]) (st := [iV (σ.1 6 u1 5), rV 6 u1]) kX5_worth i_X5_worth e_X5_worth lX5_93 dX5_letBoats_82 rfl rfl ho7 rfl rfl rfl rfl rfl (Nat.le_of_ble_eq_true rfl) ?_
    exact H
set_option maxRecDepth 100000 in
theorem bX5_letBoats_85 {d : Nat} {Q : Option MV → MS → Prop} {u1 : Nat} {u2 : Nat} {x3 : Int32} {x4 : Int32} {s0 : Int64} {s1 : Int32} {w2 : Nat} {σ : MS} (hu1 : u1 < 3) (hu2 : u2 < 2) (hw2 : w2 < 3) (H : (R mj_OC d mX5_put (fun r σ' => R mj_OC (d + 1) mX5_letBoats Q 92 [some (rV 7 0), some (rV 6 u1), some (rV 4 u2), some (iV x3), some (iV x4)] (r.toList ++ [iV s1, rV 6 w2]) σ') 0 [some (lV s0), none, some (iV (999 : Int32)), some (iV (1 : Int32))] [] σ)) : R mj_OC (d + 1) mX5_letBoats Q 85 [some (rV 7 0), some (rV 6 u1), some (rV 4 u2), some (iV x3), some (iV x4)] [lV s0, iV s1, rV 6 w2] σ := by
  refine r_sipush (v := (999 : Int32)) dX5_letBoats_85 rfl ?_
  refine r_iconst (v := (1 : Int32)) dX5_letBoats_88 rfl ?_
  refine r_callS (z := 0) (As := [lV s0, iV (999 : Int32), iV (1 : Int32)]) (st := [iV s1, rV 6 w2]) kX5_put s_X5_put lX5_97 dX5_letBoats_89 rfl rfl rfl rfl (Nat.le_of_ble_eq_true rfl) ?_
  exact H
set_option maxRecDepth 100000 in
theorem bX5_letBoats_92 {d : Nat} {Q : Option MV → MS → Prop} {u1 : Nat} {u2 : Nat} {x3 : Int32} {x4 : Int32} {s0 : Int32} {s1 : Int32} {w2 : Nat} {σ : MS} (hu1 : u1 < 3) (hu2 : u2 < 2) (hw2 : w2 < 3) (H : (vp_in x3 8 ∧ R mj_OC d mX5_letBoats Q 10 [some (rV 7 0), some (rV 6 u1), some (rV 4 u2), some (iV (x3 + (1 : Int32))), none] [] (uI (uI σ 6 w2 5 (s1 + s0)) 36 u1 ((x3).toNatClampNeg) (2 : Int32)))) : R mj_OC d mX5_letBoats Q 92 [some (rV 7 0), some (rV 6 u1), some (rV 4 u2), some (iV x3), some (iV x4)] [iV s0, iV s1, rV 6 w2] σ := by
  refine r_iadd dX5_letBoats_92 ?_
  refine r_putI (k := 6) (i := w2) (j := 5) (ty0 := tyX8) rfl rfl (ho6 hw2) rfl hX8 (by decide) rfl fX5_147 dX5_letBoats_93 rfl tyX8_ok nmX8 rfl rfl rfl ?_
  refine r_aload_n dX5_letBoats_96 rfl rfl ?_
  refine r_get (k := 6) (i := u1) (j := 3) (v := rV 36 u1) rfl rfl (ho6 hu1) rfl hX8 (by decide) rfl fX5_131 dX5_letBoats_97 (fun _ => rfl) ?_
  refine r_iload_n dX5_letBoats_100 rfl rfl ?_
  refine r_iconst (v := (2 : Int32)) dX5_letBoats_101 rfl ?_
  obtain ⟨q1, H⟩ := H
  refine r_iast (k := 36) (i := u1) rfl (ho36 hu1) q1 dX5_letBoats_102 ?_
  refine r_goto (tgt := 116) dX5_letBoats_103 (by decide) ?_
  refine r_iinc (v := x3 + (1 : Int32)) dX5_letBoats_116 rfl rfl (by decide) rfl ?_
  refine r_goto (tgt := 10) dX5_letBoats_119 (by decide) ?_
  exact R.fw (ls' := [some (rV 7 0), some (rV 6 u1), some (rV 4 u2), some (iV (x3 + (1 : Int32))), none]) ⟨rfl, ⟨rfl, ⟨rfl, ⟨rfl, trivial⟩⟩⟩⟩ H
set_option maxRecDepth 100000 in
theorem bX5_openNow_0 {d : Nat} {Q : Option MV → MS → Prop} {u1 : Nat} {σ : MS} (hu1 : u1 < 3) (H : (((σ.1 7 0 4) = 0 → (σ.2.2 6 u1 < 2 ∧ (R mj_OC d mX0_turnedIn (fun r σ' => R mj_OC (d + 1) mX5_openNow Q 26 [some (rV 7 0), some (rV 6 u1), none] (r.toList ++ []) σ') 0 [some (rV 3 (σ.2.2 6 u1)), some (iV (σ.1 6 u1 6))] [] σ))) ∧ (¬ (σ.1 7 0 4) = 0 → (σ.2.2 6 u1 < 2 ∧ (R mj_OC d mX0_allPipes (fun r σ' => R mj_OC (d + 1) mX5_openNow Q 14 [some (rV 7 0), some (rV 6 u1), none] (r.toList ++ []) σ') 0 [some (rV 3 (σ.2.2 6 u1))] [] σ))))) : R mj_OC (d + 1) mX5_openNow Q 0 [some (rV 7 0), some (rV 6 u1), none] [] σ := by
  refine r_aload_n dX5_openNow_0 rfl rfl ?_
  refine r_get (k := 7) (i := 0) (j := 4) (v := iV (σ.1 7 0 4)) rfl rfl ho7 rfl hX5 (by decide) rfl fX5_28 dX5_openNow_1 (fun _ => rfl) ?_
  refine r_if_eq (tgt := 15) dX5_openNow_4 (by decide) (fun c => ?_) (fun c => ?_)
  · have H := H.1 c
    refine r_aload_n dX5_openNow_15 rfl rfl ?_
    refine r_get (k := 6) (i := u1) (j := 0) (v := rV 3 (σ.2.2 6 u1)) rfl rfl (ho6 hu1) rfl hX8 (by decide) rfl fX5_62 dX5_openNow_16 (fun _ => rfl) ?_
    refine r_aload_n dX5_openNow_19 rfl rfl ?_
    refine r_get (k := 6) (i := u1) (j := 6) (v := iV (σ.1 6 u1 6)) rfl rfl (ho6 hu1) rfl hX8 (by decide) rfl fX5_57 dX5_openNow_20 (fun _ => rfl) ?_
    obtain ⟨q1, H⟩ := H
    refine r_callV (z := 0) (k := 3) (i := (σ.2.2 6 u1)) (As := [iV (σ.1 6 u1 6)]) (st := []) kX0_turnedIn i_X0_turnedIn e_X0_turnedIn lX5_159 dX5_openNow_23 rfl rfl (ho3 q1) rfl rfl rfl rfl rfl (Nat.le_of_ble_eq_true rfl) ?_
    exact H
  · have H := H.2 c
    refine r_aload_n dX5_openNow_7 rfl rfl ?_
    refine r_get (k := 6) (i := u1) (j := 0) (v := rV 3 (σ.2.2 6 u1)) rfl rfl (ho6 hu1) rfl hX8 (by decide) rfl fX5_62 dX5_openNow_8 (fun _ => rfl) ?_
    obtain ⟨q2, H⟩ := H
    refine r_callV (z := 0) (k := 3) (i := (σ.2.2 6 u1)) (As := []) (st := []) kX0_allPipes i_X0_allPipes e_X0_allPipes lX5_156 dX5_openNow_11 rfl rfl (ho3 q2) rfl rfl rfl rfl rfl (Nat.le_of_ble_eq_true rfl) ?_
    exact H
set_option maxRecDepth 100000 in
theorem bX5_openNow_14 {d : Nat} {Q : Option MV → MS → Prop} {u1 : Nat} {s0 : Int32} {σ : MS} (hu1 : u1 < 3) (H : Q (some (iV s0)) σ) : R mj_OC d mX5_openNow Q 14 [some (rV 7 0), some (rV 6 u1), none] [iV s0] σ := by
  exact r_iret dX5_openNow_14 rfl H
set_option maxRecDepth 100000 in
theorem bX5_openNow_26 {d : Nat} {Q : Option MV → MS → Prop} {u1 : Nat} {s0 : Int32} {σ : MS} (hu1 : u1 < 3) (H : ((¬ (σ.1 7 0 5) = (-1 : Int32) → Q (some (iV ((s0 &&& ((σ.1 6 u1 2) ^^^ (-1 : Int32))) &&& (((1 : Int32) <<< ((σ.1 7 0 5) &&& 31)) ^^^ (-1 : Int32))))) σ) ∧ ((σ.1 7 0 5) = (-1 : Int32) → Q (some (iV (s0 &&& ((σ.1 6 u1 2) ^^^ (-1 : Int32))))) σ))) : R mj_OC d mX5_openNow Q 26 [some (rV 7 0), some (rV 6 u1), none] [iV s0] σ := by
  refine r_aload_n dX5_openNow_26 rfl rfl ?_
  refine r_get (k := 6) (i := u1) (j := 2) (v := iV (σ.1 6 u1 2)) rfl rfl (ho6 hu1) rfl hX8 (by decide) rfl fX5_109 dX5_openNow_27 (fun _ => rfl) ?_
  refine r_iconst (v := (-1 : Int32)) dX5_openNow_30 rfl ?_
  refine r_ixor dX5_openNow_31 ?_
  refine r_iand dX5_openNow_32 ?_
  refine r_istore_n dX5_openNow_33 rfl (by decide) rfl ?_
  refine r_aload_n dX5_openNow_34 rfl rfl ?_
  refine r_get (k := 7) (i := 0) (j := 5) (v := iV (σ.1 7 0 5)) rfl rfl ho7 rfl hX5 (by decide) rfl fX5_31 dX5_openNow_35 (fun _ => rfl) ?_
  refine r_iconst (v := (-1 : Int32)) dX5_openNow_38 rfl ?_
  refine r_icmp_ne (tgt := 46) dX5_openNow_39 (by decide) (fun c => ?_) (fun c => ?_)
  · have H := H.1 c
    refine r_iload_n dX5_openNow_46 rfl rfl ?_
    refine r_iconst (v := (1 : Int32)) dX5_openNow_47 rfl ?_
    refine r_aload_n dX5_openNow_48 rfl rfl ?_
    refine r_get (k := 7) (i := 0) (j := 5) (v := iV (σ.1 7 0 5)) rfl rfl ho7 rfl hX5 (by decide) rfl fX5_31 dX5_openNow_49 (fun _ => rfl) ?_
    refine r_ishl dX5_openNow_52 ?_
    refine r_iconst (v := (-1 : Int32)) dX5_openNow_53 rfl ?_
    refine r_ixor dX5_openNow_54 ?_
    refine r_iand dX5_openNow_55 ?_
    exact r_iret dX5_openNow_56 rfl H
  · have H := H.2 c
    refine r_iload_n dX5_openNow_42 rfl rfl ?_
    refine r_goto (tgt := 56) dX5_openNow_43 (by decide) ?_
    exact r_iret dX5_openNow_56 rfl H
set_option maxRecDepth 100000 in
theorem bX5_put_0 {d : Nat} {Q : Option MV → MS → Prop} {x0 : Int64} {x2 : Int32} {x3 : Int32} {σ : MS}  (H : ((¬ (lg_cmp x0 (-9223372036854775808 : Int64)) = 0 → Q (some (iV ((if (if x0 < x2.toInt64 then x0 else x2.toInt64) < (0 : Int64) then (0 : Int64) else (if x0 < x2.toInt64 then x0 else x2.toInt64)).toInt32))) σ) ∧ ((lg_cmp x0 (-9223372036854775808 : Int64)) = 0 → Q (some (iV x3)) σ))) : R mj_OC (d + 1) mX5_put Q 0 [some (lV x0), none, some (iV x2), some (iV x3)] [] σ := by
  refine r_lload_n dX5_put_0 rfl rfl ?_
  refine r_ldc2 (v := (-9223372036854775808 : Int64)) olX5_162 dX5_put_1 ?_
  refine r_lcmp dX5_put_4 ?_
  refine r_if_ne (tgt := 10) dX5_put_5 (by decide) (fun c => ?_) (fun c => ?_)
  · have H := H.1 c
    refine r_lconst (v := (0 : Int64)) dX5_put_10 rfl ?_
    refine r_iload_n dX5_put_11 rfl rfl ?_
    refine r_i2l (v := x2.toInt64) dX5_put_12 rfl ?_
    refine r_lload_n dX5_put_13 rfl rfl ?_
    refine r_mminl lX5_164 dX5_put_14 (Nat.le_of_ble_eq_true rfl) ?_
    refine r_mmaxl lX5_170 dX5_put_17 (Nat.le_of_ble_eq_true rfl) ?_
    refine r_l2i (v := (if (if x0 < x2.toInt64 then x0 else x2.toInt64) < (0 : Int64) then (0 : Int64) else (if x0 < x2.toInt64 then x0 else x2.toInt64)).toInt32) dX5_put_20 rfl ?_
    exact r_iret dX5_put_21 rfl H
  · have H := H.2 c
    refine r_iload_n dX5_put_8 rfl rfl ?_
    exact r_iret dX5_put_9 rfl H
set_option maxRecDepth 100000 in
theorem bX5_worth_0 {d : Nat} {Q : Option MV → MS → Prop} {u1 : Nat} {x2 : Int32} {x3 : Int32} {x4 : Int32} {σ : MS} (hu1 : u1 < 3) (H : (σ.2.2 6 u1 < 2 ∧ (R mj_OC d mX3_isTold (fun r σ' => R mj_OC (d + 1) mX5_worth Q 11 [some (rV 7 0), some (rV 6 u1), some (iV x2), some (iV x3), some (iV x4)] (r.toList ++ []) σ') 0 [some (rV 5 (σ.2.2 6 u1)), some (iV x2)] [] σ))) : R mj_OC (d + 1) mX5_worth Q 0 [some (rV 7 0), some (rV 6 u1), some (iV x2), some (iV x3), some (iV x4)] [] σ := by
  refine r_aload_n dX5_worth_0 rfl rfl ?_
  refine r_get (k := 6) (i := u1) (j := 0) (v := rV 3 (σ.2.2 6 u1)) rfl rfl (ho6 hu1) rfl hX8 (by decide) rfl fX5_62 dX5_worth_1 (fun _ => rfl) ?_
  obtain ⟨q1, H⟩ := H
  refine r_get (k := 3) (i := (σ.2.2 6 u1)) (j := 15) (v := rV 5 (σ.2.2 6 u1)) rfl rfl (ho3 q1) rfl hX0 (by decide) rfl fX5_173 dX5_worth_4 (fun _ => rfl) ?_
  refine r_iload_n dX5_worth_7 rfl rfl ?_
  refine r_callV (z := 0) (k := 5) (i := (σ.2.2 6 u1)) (As := [iV x2]) (st := []) kX3_isTold i_X3_isTold e_X3_isTold lX5_177 dX5_worth_8 rfl rfl (ho5 q1) rfl rfl rfl rfl rfl (Nat.le_of_ble_eq_true rfl) ?_
  exact H
set_option maxRecDepth 100000 in
theorem bX5_worth_11 {d : Nat} {Q : Option MV → MS → Prop} {u1 : Nat} {x2 : Int32} {x3 : Int32} {x4 : Int32} {s0 : Int32} {σ : MS} (hu1 : u1 < 3) (H : ((¬ s0 = 0 → (σ.2.2 6 u1 < 2 ∧ vp_in x3 7 ∧ vp_in (0 : Int32) 7 ∧ vp_in (1 : Int32) 7 ∧ vp_in (2 : Int32) 7 ∧ vp_in (3 : Int32) 7 ∧ (R mj_OC d mX5_openNow (fun r σ' => R mj_OC (d + 1) mX5_worth Q 82 [some (rV 7 0), some (rV 6 u1), some (iV x2), some (iV x3), some (iV x4)] (r.toList ++ [iV (4 : Int32), rV 38 0]) σ') 0 [some (rV 7 0), some (rV 6 u1), none] [] (uL (uL (uL (uL σ 38 0 0 ((σ.1 17 (σ.2.2 6 u1) ((x3).toNatClampNeg)).toInt64)) 38 0 1 ((σ.1 18 (σ.2.2 6 u1) ((x3).toNatClampNeg)).toInt64)) 38 0 2 ((σ.1 35 u1 ((x3).toNatClampNeg)).toInt64)) 38 0 3 x4.toInt64)))) ∧ (s0 = 0 → Q (some (lV (-9223372036854775808 : Int64))) σ))) : R mj_OC (d + 1) mX5_worth Q 11 [some (rV 7 0), some (rV 6 u1), some (iV x2), some (iV x3), some (iV x4)] [iV s0] σ := by
  refine r_if_ne (tgt := 18) dX5_worth_11 (by decide) (fun c => ?_) (fun c => ?_)
  · have H := H.1 c
    refine r_aload_n dX5_worth_18 rfl rfl ?_
    refine r_get (k := 7) (i := 0) (j := 8) (v := rV 38 0) rfl rfl ho7 rfl hX5 (by decide) rfl fX5_9 dX5_worth_19 (fun _ => rfl) ?_
    refine r_iconst (v := (0 : Int32)) dX5_worth_22 rfl ?_
    refine r_aload_n dX5_worth_23 rfl rfl ?_
    refine r_get (k := 6) (i := u1) (j := 0) (v := rV 3 (σ.2.2 6 u1)) rfl rfl (ho6 hu1) rfl hX8 (by decide) rfl fX5_62 dX5_worth_24 (fun _ => rfl) ?_
    obtain ⟨q1, H⟩ := H
    refine r_get (k := 3) (i := (σ.2.2 6 u1)) (j := 2) (v := rV 17 (σ.2.2 6 u1)) rfl rfl (ho3 q1) rfl hX0 (by decide) rfl fX5_183 dX5_worth_27 (fun _ => rfl) ?_
    refine r_iload_n dX5_worth_30 rfl rfl ?_
    obtain ⟨q2, H⟩ := H
    refine r_iald (k := 17) (i := (σ.2.2 6 u1)) rfl (ho17 q1) q2 dX5_worth_31 ?_
    refine r_i2l (v := (σ.1 17 (σ.2.2 6 u1) ((x3).toNatClampNeg)).toInt64) dX5_worth_32 rfl ?_
    obtain ⟨q3, H⟩ := H
    refine r_last (k := 38) (i := 0) rfl ho38 q3 dX5_worth_33 ?_
    refine r_aload_n dX5_worth_34 rfl rfl ?_
    refine r_get (k := 7) (i := 0) (j := 8) (v := rV 38 0) rfl rfl ho7 rfl hX5 (by decide) rfl fX5_9 dX5_worth_35 (fun _ => rfl) ?_
    refine r_iconst (v := (1 : Int32)) dX5_worth_38 rfl ?_
    refine r_aload_n dX5_worth_39 rfl rfl ?_
    refine r_get (k := 6) (i := u1) (j := 0) (v := rV 3 (σ.2.2 6 u1)) rfl rfl (ho6 hu1) rfl hX8 (by decide) rfl fX5_62 dX5_worth_40 (fun _ => rfl) ?_
    refine r_get (k := 3) (i := (σ.2.2 6 u1)) (j := 3) (v := rV 18 (σ.2.2 6 u1)) rfl rfl (ho3 q1) rfl hX0 (by decide) rfl fX5_186 dX5_worth_43 (fun _ => rfl) ?_
    refine r_iload_n dX5_worth_46 rfl rfl ?_
    refine r_iald (k := 18) (i := (σ.2.2 6 u1)) rfl (ho18 q1) q2 dX5_worth_47 ?_
    refine r_i2l (v := (σ.1 18 (σ.2.2 6 u1) ((x3).toNatClampNeg)).toInt64) dX5_worth_48 rfl ?_
    obtain ⟨q4, H⟩ := H
    refine r_last (k := 38) (i := 0) rfl ho38 q4 dX5_worth_49 ?_
    refine r_aload_n dX5_worth_50 rfl rfl ?_
    refine r_get (k := 7) (i := 0) (j := 8) (v := rV 38 0) rfl rfl ho7 rfl hX5 (by decide) rfl fX5_9 dX5_worth_51 (fun _ => rfl) ?_
    refine r_iconst (v := (2 : Int32)) dX5_worth_54 rfl ?_
    refine r_aload_n dX5_worth_55 rfl rfl ?_
    refine r_get (k := 6) (i := u1) (j := 1) (v := rV 35 u1) rfl rfl (ho6 hu1) rfl hX8 (by decide) rfl fX5_189 dX5_worth_56 (fun _ => rfl) ?_
    refine r_iload_n dX5_worth_59 rfl rfl ?_
    refine r_iald (k := 35) (i := u1) rfl (ho35 hu1) q2 dX5_worth_60 ?_
    refine r_i2l (v := (σ.1 35 u1 ((x3).toNatClampNeg)).toInt64) dX5_worth_61 rfl ?_
    obtain ⟨q5, H⟩ := H
    refine r_last (k := 38) (i := 0) rfl ho38 q5 dX5_worth_62 ?_
    refine r_aload_n dX5_worth_63 rfl rfl ?_
    refine r_get (k := 7) (i := 0) (j := 8) (v := rV 38 0) rfl rfl ho7 rfl hX5 (by decide) rfl fX5_9 dX5_worth_64 (fun _ => rfl) ?_
    refine r_iconst (v := (3 : Int32)) dX5_worth_67 rfl ?_
    refine r_iload dX5_worth_68 rfl ?_
    refine r_i2l (v := x4.toInt64) dX5_worth_70 rfl ?_
    obtain ⟨q6, H⟩ := H
    refine r_last (k := 38) (i := 0) rfl ho38 q6 dX5_worth_71 ?_
    refine r_aload_n dX5_worth_72 rfl rfl ?_
    refine r_get (k := 7) (i := 0) (j := 8) (v := rV 38 0) rfl rfl ho7 rfl hX5 (by decide) rfl fX5_9 dX5_worth_73 (fun _ => rfl) ?_
    refine r_iconst (v := (4 : Int32)) dX5_worth_76 rfl ?_
    refine r_aload_n dX5_worth_77 rfl rfl ?_
    refine r_aload_n dX5_worth_78 rfl rfl ?_
    refine r_callV (z := 1) (k := 7) (i := 0) (As := [rV 6 u1]) (st := [iV (4 : Int32), rV 38 0]) kX5_openNow i_X5_openNow e_X5_openNow lX5_82 dX5_worth_79 rfl rfl ho7 rfl rfl rfl rfl rfl (Nat.le_of_ble_eq_true rfl) ?_
    exact H
  · have H := H.2 c
    refine r_ldc2 (v := (-9223372036854775808 : Int64)) olX5_162 dX5_worth_14 ?_
    exact r_lret dX5_worth_17 rfl H
set_option maxRecDepth 100000 in
theorem bX5_worth_82 {d : Nat} {Q : Option MV → MS → Prop} {u1 : Nat} {x2 : Int32} {x3 : Int32} {x4 : Int32} {s0 : Int32} {s1 : Int32} {σ : MS} (hu1 : u1 < 3) (H : (R mj_OC d mJ6_bitCount_0f7a4 (fun r σ' => R mj_OC (d + 1) mX5_worth Q 85 [some (rV 7 0), some (rV 6 u1), some (iV x2), some (iV x3), some (iV x4)] (r.toList ++ [iV s1, rV 38 0]) σ') 0 [some (iV s0)] [] σ)) : R mj_OC (d + 1) mX5_worth Q 82 [some (rV 7 0), some (rV 6 u1), some (iV x2), some (iV x3), some (iV x4)] [iV s0, iV s1, rV 38 0] σ := by
  refine r_callS (z := 0) (As := [iV s0]) (st := [iV s1, rV 38 0]) kJ6_bitCount_0f7a4 s_J6_bitCount_0f7a4 lX5_192 dX5_worth_82 rfl rfl rfl rfl (Nat.le_of_ble_eq_true rfl) ?_
  exact H
set_option maxRecDepth 100000 in
theorem bX5_worth_85 {d : Nat} {Q : Option MV → MS → Prop} {u1 : Nat} {x2 : Int32} {x3 : Int32} {x4 : Int32} {s0 : Int32} {s1 : Int32} {σ : MS} (hu1 : u1 < 3) (H : (vp_in s1 7 ∧ (R mj_OC d mX8_boatsThatAre (fun r σ' => R mj_OC (d + 1) mX5_worth Q 97 [some (rV 7 0), some (rV 6 u1), some (iV x2), some (iV x3), some (iV x4)] (r.toList ++ [iV (5 : Int32), rV 38 0]) σ') 0 [some (rV 6 u1), some (iV (1 : Int32)), none, none] [] (uL σ 38 0 ((s1).toNatClampNeg) s0.toInt64)))) : R mj_OC (d + 1) mX5_worth Q 85 [some (rV 7 0), some (rV 6 u1), some (iV x2), some (iV x3), some (iV x4)] [iV s0, iV s1, rV 38 0] σ := by
  refine r_i2l (v := s0.toInt64) dX5_worth_85 rfl ?_
  obtain ⟨q1, H⟩ := H
  refine r_last (k := 38) (i := 0) rfl ho38 q1 dX5_worth_86 ?_
  refine r_aload_n dX5_worth_87 rfl rfl ?_
  refine r_get (k := 7) (i := 0) (j := 8) (v := rV 38 0) rfl rfl ho7 rfl hX5 (by decide) rfl fX5_9 dX5_worth_88 (fun _ => rfl) ?_
  refine r_iconst (v := (5 : Int32)) dX5_worth_91 rfl ?_
  refine r_aload_n dX5_worth_92 rfl rfl ?_
  refine r_iconst (v := (1 : Int32)) dX5_worth_93 rfl ?_
  refine r_callV (z := 2) (k := 6) (i := u1) (As := [iV (1 : Int32)]) (st := [iV (5 : Int32), rV 38 0]) kX8_boatsThatAre i_X8_boatsThatAre e_X8_boatsThatAre lX5_197 dX5_worth_94 rfl rfl (ho6 hu1) rfl rfl rfl rfl rfl (Nat.le_of_ble_eq_true rfl) ?_
  exact H
set_option maxRecDepth 100000 in
theorem bX5_worth_97 {d : Nat} {Q : Option MV → MS → Prop} {u1 : Nat} {x2 : Int32} {x3 : Int32} {x4 : Int32} {s0 : Int32} {s1 : Int32} {σ : MS} (hu1 : u1 < 3) (H : (vp_in s1 7 ∧ vp_in (6 : Int32) 7 ∧ σ.2.2 6 u1 < 2 ∧ (R mj_OC d mX3_worth (fun r σ' => R mj_OC (d + 1) mX5_worth Q 126 [some (rV 7 0), some (rV 6 u1), some (iV x2), some (iV x3), some (iV x4)] (r.toList ++ []) σ') 0 [some (rV 5 (σ.2.2 6 u1)), some (iV x2), some (rV 38 0), none, none, none] [] (uL (uL σ 38 0 ((s1).toNatClampNeg) s0.toInt64) 38 0 6 ((σ.1 6 u1 6).toInt64))))) : R mj_OC (d + 1) mX5_worth Q 97 [some (rV 7 0), some (rV 6 u1), some (iV x2), some (iV x3), some (iV x4)] [iV s0, iV s1, rV 38 0] σ := by
  refine r_i2l (v := s0.toInt64) dX5_worth_97 rfl ?_
  obtain ⟨q1, H⟩ := H
  refine r_last (k := 38) (i := 0) rfl ho38 q1 dX5_worth_98 ?_
  refine r_aload_n dX5_worth_99 rfl rfl ?_
  refine r_get (k := 7) (i := 0) (j := 8) (v := rV 38 0) rfl rfl ho7 rfl hX5 (by decide) rfl fX5_9 dX5_worth_100 (fun _ => rfl) ?_
  refine r_bipush (v := (6 : Int32)) dX5_worth_103 rfl ?_
  refine r_aload_n dX5_worth_105 rfl rfl ?_
  refine r_get (k := 6) (i := u1) (j := 6) (v := iV (σ.1 6 u1 6)) rfl rfl (ho6 hu1) rfl hX8 (by decide) rfl fX5_57 dX5_worth_106 (fun _ => rfl) ?_
  refine r_i2l (v := (σ.1 6 u1 6).toInt64) dX5_worth_109 rfl ?_
  obtain ⟨q2, H⟩ := H
  refine r_last (k := 38) (i := 0) rfl ho38 q2 dX5_worth_110 ?_
  refine r_aload_n dX5_worth_111 rfl rfl ?_
  refine r_get (k := 6) (i := u1) (j := 0) (v := rV 3 (σ.2.2 6 u1)) rfl rfl (ho6 hu1) rfl hX8 (by decide) rfl fX5_62 dX5_worth_112 (fun _ => rfl) ?_
  obtain ⟨q3, H⟩ := H
  refine r_get (k := 3) (i := (σ.2.2 6 u1)) (j := 15) (v := rV 5 (σ.2.2 6 u1)) rfl rfl (ho3 q3) rfl hX0 (by decide) rfl fX5_173 dX5_worth_115 (fun _ => rfl) ?_
  refine r_iload_n dX5_worth_118 rfl rfl ?_
  refine r_aload_n dX5_worth_119 rfl rfl ?_
  refine r_get (k := 7) (i := 0) (j := 8) (v := rV 38 0) rfl rfl ho7 rfl hX5 (by decide) rfl fX5_9 dX5_worth_120 (fun _ => rfl) ?_
  refine r_callV (z := 3) (k := 5) (i := (σ.2.2 6 u1)) (As := [iV x2, rV 38 0]) (st := []) kX3_worth i_X3_worth e_X3_worth lX5_200 dX5_worth_123 rfl rfl (ho5 q3) rfl rfl rfl rfl rfl (Nat.le_of_ble_eq_true rfl) ?_
  exact H
set_option maxRecDepth 100000 in
theorem bX5_worth_126 {d : Nat} {Q : Option MV → MS → Prop} {u1 : Nat} {x2 : Int32} {x3 : Int32} {x4 : Int32} {s0 : Int64} {σ : MS} (hu1 : u1 < 3) (H : Q (some (lV s0)) σ) : R mj_OC d mX5_worth Q 126 [some (rV 7 0), some (rV 6 u1), some (iV x2), some (iV x3), some (iV x4)] [lV s0] σ := by
  exact r_lret dX5_worth_126 rfl H
set_option maxRecDepth 100000 in
theorem bX6_seek_0 {d : Nat} {Q : Option MV → MS → Prop} {u1 : Nat} {x2 : Int32} {x3 : Int32} {x4 : Int32} {σ : MS} (hu1 : u1 < 3) (H : (vp_in x4 7 ∧ (R mj_OC d mX6_open (fun r σ' => R mj_OC (d + 1) mX6_seek Q 53 [some (rV 8 0), some (rV 6 u1), some (iV x2), some (iV x3), some (iV x4)] (r.toList ++ []) σ') 0 [some (rV 8 0), some (rV 6 u1), some (iV (0 : Int32)), some (iV (-2 : Int32)), none, none, none, none] [] (uI (uI (uI (uI (uI (uI (uI σ 8 0 3 x2) 8 0 4 x3) 8 0 5 x4) 8 0 6 (σ.1 35 u1 ((x4).toNatClampNeg))) 8 0 0 (-2 : Int32)) 8 0 1 (-2 : Int32)) 8 0 2 (-2 : Int32))))) : R mj_OC (d + 1) mX6_seek Q 0 [some (rV 8 0), some (rV 6 u1), some (iV x2), some (iV x3), some (iV x4)] [] σ := by
  refine r_aload_n dX6_seek_0 rfl rfl ?_
  refine r_iload_n dX6_seek_1 rfl rfl ?_
  refine r_putI (k := 8) (i := 0) (j := 3) (ty0 := tyX6) rfl rfl ho8 rfl hX6 (by decide) rfl fX6_9 dX6_seek_2 rfl tyX6_ok nmX6 rfl rfl rfl ?_
  refine r_aload_n dX6_seek_5 rfl rfl ?_
  refine r_iload_n dX6_seek_6 rfl rfl ?_
  refine r_putI (k := 8) (i := 0) (j := 4) (ty0 := tyX6) rfl rfl ho8 rfl hX6 (by decide) rfl fX6_15 dX6_seek_7 rfl tyX6_ok nmX6 rfl rfl rfl ?_
  refine r_aload_n dX6_seek_10 rfl rfl ?_
  refine r_iload dX6_seek_11 rfl ?_
  refine r_putI (k := 8) (i := 0) (j := 5) (ty0 := tyX6) rfl rfl ho8 rfl hX6 (by decide) rfl fX6_18 dX6_seek_13 rfl tyX6_ok nmX6 rfl rfl rfl ?_
  refine r_aload_n dX6_seek_16 rfl rfl ?_
  refine r_aload_n dX6_seek_17 rfl rfl ?_
  refine r_get (k := 6) (i := u1) (j := 1) (v := rV 35 u1) rfl rfl (ho6 hu1) rfl hX8 (by decide) rfl fX6_21 dX6_seek_18 (fun _ => rfl) ?_
  refine r_iload dX6_seek_21 rfl ?_
  obtain ⟨q1, H⟩ := H
  refine r_iald (k := 35) (i := u1) rfl (ho35 hu1) q1 dX6_seek_23 ?_
  refine r_putI (k := 8) (i := 0) (j := 6) (ty0 := tyX6) rfl rfl ho8 rfl hX6 (by decide) rfl fX6_27 dX6_seek_24 rfl tyX6_ok nmX6 rfl rfl rfl ?_
  refine r_aload_n dX6_seek_27 rfl rfl ?_
  refine r_bipush (v := (-2 : Int32)) dX6_seek_28 rfl ?_
  refine r_putI (k := 8) (i := 0) (j := 0) (ty0 := tyX6) rfl rfl ho8 rfl hX6 (by decide) rfl fX6_30 dX6_seek_30 rfl tyX6_ok nmX6 rfl rfl rfl ?_
  refine r_aload_n dX6_seek_33 rfl rfl ?_
  refine r_bipush (v := (-2 : Int32)) dX6_seek_34 rfl ?_
  refine r_putI (k := 8) (i := 0) (j := 1) (ty0 := tyX6) rfl rfl ho8 rfl hX6 (by decide) rfl fX6_33 dX6_seek_36 rfl tyX6_ok nmX6 rfl rfl rfl ?_
  refine r_aload_n dX6_seek_39 rfl rfl ?_
  refine r_bipush (v := (-2 : Int32)) dX6_seek_40 rfl ?_
  refine r_putI (k := 8) (i := 0) (j := 2) (ty0 := tyX6) rfl rfl ho8 rfl hX6 (by decide) rfl fX6_36 dX6_seek_42 rfl tyX6_ok nmX6 rfl rfl rfl ?_
  refine r_aload_n dX6_seek_45 rfl rfl ?_
  refine r_aload_n dX6_seek_46 rfl rfl ?_
  refine r_iconst (v := (0 : Int32)) dX6_seek_47 rfl ?_
  refine r_bipush (v := (-2 : Int32)) dX6_seek_48 rfl ?_
  refine r_callV (z := 4) (k := 8) (i := 0) (As := [rV 6 u1, iV (0 : Int32), iV (-2 : Int32)]) (st := []) kX6_open i_X6_open e_X6_open lX6_39 dX6_seek_50 rfl rfl ho8 rfl rfl rfl rfl rfl (Nat.le_of_ble_eq_true rfl) ?_
  exact H
set_option maxRecDepth 100000 in
theorem bX6_seek_53 {d : Nat} {Q : Option MV → MS → Prop} {u1 : Nat} {x2 : Int32} {x3 : Int32} {x4 : Int32} {σ : MS} (hu1 : u1 < 3) (H : Q none σ) : R mj_OC d mX6_seek Q 53 [some (rV 8 0), some (rV 6 u1), some (iV x2), some (iV x3), some (iV x4)] [] σ := by
  exact r_vret dX6_seek_53 rfl H
set_option maxRecDepth 100000 in
theorem bX6_open_0 {d : Nat} {Q : Option MV → MS → Prop} {u1 : Nat} {x2 : Int32} {x3 : Int32} {σ : MS} (hu1 : u1 < 3) (H : (R mj_OC d mX8_isAtLeast (fun r σ' => R mj_OC (d + 1) mX6_open Q 12 [some (rV 8 0), some (rV 6 u1), some (iV x2), some (iV x3), none, none, none, none] (r.toList ++ []) σ') 0 [some (rV 6 u1), some (iV (σ.1 8 0 3)), some (iV (σ.1 8 0 4))] [] σ)) : R mj_OC (d + 1) mX6_open Q 0 [some (rV 8 0), some (rV 6 u1), some (iV x2), some (iV x3), none, none, none, none] [] σ := by
  refine r_aload_n dX6_open_0 rfl rfl ?_
  refine r_aload_n dX6_open_1 rfl rfl ?_
  refine r_get (k := 8) (i := 0) (j := 3) (v := iV (σ.1 8 0 3)) rfl rfl ho8 rfl hX6 (by decide) rfl fX6_9 dX6_open_2 (fun _ => rfl) ?_
  refine r_aload_n dX6_open_5 rfl rfl ?_
  refine r_get (k := 8) (i := 0) (j := 4) (v := iV (σ.1 8 0 4)) rfl rfl ho8 rfl hX6 (by decide) rfl fX6_15 dX6_open_6 (fun _ => rfl) ?_
  refine r_callV (z := 0) (k := 6) (i := u1) (As := [iV (σ.1 8 0 3), iV (σ.1 8 0 4)]) (st := []) kX8_isAtLeast i_X8_isAtLeast e_X8_isAtLeast lX6_43 dX6_open_9 rfl rfl (ho6 hu1) rfl rfl rfl rfl rfl (Nat.le_of_ble_eq_true rfl) ?_
  exact H
set_option maxRecDepth 100000 in
theorem bX6_open_12 {d : Nat} {Q : Option MV → MS → Prop} {u1 : Nat} {x2 : Int32} {x3 : Int32} {s0 : Int32} {σ : MS} (hu1 : u1 < 3) (H : ((s0 = 0 → ((x2 < (4 : Int32) → R mj_OC (d + 1) mX6_open Q 39 [some (rV 8 0), some (rV 6 u1), some (iV x2), some (iV x3), some (iV (0 : Int32)), none, none, none] [] σ) ∧ (¬ x2 < (4 : Int32) → Q none σ))) ∧ (¬ s0 = 0 → (vp_in (σ.1 8 0 5) 7 ∧ (R mj_OC d mX6_note (fun r σ' => R mj_OC (d + 1) mX6_open Q 30 [some (rV 8 0), some (rV 6 u1), some (iV x2), some (iV x3), none, none, none, none] (r.toList ++ []) σ') 0 [some (rV 8 0), some (iV (σ.1 35 u1 (((σ.1 8 0 5)).toNatClampNeg))), some (iV x2), some (iV x3), none] [] σ))))) : R mj_OC (d + 1) mX6_open Q 12 [some (rV 8 0), some (rV 6 u1), some (iV x2), some (iV x3), none, none, none, none] [iV s0] σ := by
  refine r_if_eq (tgt := 30) dX6_open_12 (by decide) (fun c => ?_) (fun c => ?_)
  · have H := H.1 c
    refine r_iload_n dX6_open_30 rfl rfl ?_
    refine r_iconst (v := (4 : Int32)) dX6_open_31 rfl ?_
    refine r_icmp_lt (tgt := 36) dX6_open_32 (by decide) (fun c => ?_) (fun c => ?_)
    · have H := H.1 c
      refine r_iconst (v := (0 : Int32)) dX6_open_36 rfl ?_
      refine r_istore dX6_open_37 (by decide) rfl ?_
      exact H
    · have H := H.2 c
      exact r_vret dX6_open_35 rfl H
  · have H := H.2 c
    refine r_aload_n dX6_open_15 rfl rfl ?_
    refine r_aload_n dX6_open_16 rfl rfl ?_
    refine r_get (k := 6) (i := u1) (j := 1) (v := rV 35 u1) rfl rfl (ho6 hu1) rfl hX8 (by decide) rfl fX6_21 dX6_open_17 (fun _ => rfl) ?_
    refine r_aload_n dX6_open_20 rfl rfl ?_
    refine r_get (k := 8) (i := 0) (j := 5) (v := iV (σ.1 8 0 5)) rfl rfl ho8 rfl hX6 (by decide) rfl fX6_18 dX6_open_21 (fun _ => rfl) ?_
    obtain ⟨q1, H⟩ := H
    refine r_iald (k := 35) (i := u1) rfl (ho35 hu1) q1 dX6_open_24 ?_
    refine r_iload_n dX6_open_25 rfl rfl ?_
    refine r_iload_n dX6_open_26 rfl rfl ?_
    refine r_callV (z := 1) (k := 8) (i := 0) (As := [iV (σ.1 35 u1 (((σ.1 8 0 5)).toNatClampNeg)), iV x2, iV x3]) (st := []) kX6_note i_X6_note e_X6_note lX6_47 dX6_open_27 rfl rfl ho8 rfl rfl rfl rfl rfl (Nat.le_of_ble_eq_true rfl) ?_
    exact H
set_option maxRecDepth 100000 in
theorem bX6_open_30 {d : Nat} {Q : Option MV → MS → Prop} {u1 : Nat} {x2 : Int32} {x3 : Int32} {σ : MS} (hu1 : u1 < 3) (H : ((x2 < (4 : Int32) → R mj_OC d mX6_open Q 39 [some (rV 8 0), some (rV 6 u1), some (iV x2), some (iV x3), some (iV (0 : Int32)), none, none, none] [] σ) ∧ (¬ x2 < (4 : Int32) → Q none σ))) : R mj_OC d mX6_open Q 30 [some (rV 8 0), some (rV 6 u1), some (iV x2), some (iV x3), none, none, none, none] [] σ := by
  refine r_iload_n dX6_open_30 rfl rfl ?_
  refine r_iconst (v := (4 : Int32)) dX6_open_31 rfl ?_
  refine r_icmp_lt (tgt := 36) dX6_open_32 (by decide) (fun c => ?_) (fun c => ?_)
  · have H := H.1 c
    refine r_iconst (v := (0 : Int32)) dX6_open_36 rfl ?_
    refine r_istore dX6_open_37 (by decide) rfl ?_
    exact H
  · have H := H.2 c
    exact r_vret dX6_open_35 rfl H
set_option maxRecDepth 100000 in
theorem bX6_open_39 {d : Nat} {Q : Option MV → MS → Prop} {u1 : Nat} {x2 : Int32} {x3 : Int32} {x4 : Int32} {σ : MS} (hu1 : u1 < 3) (H : (σ.2.2 6 u1 < 2 ∧ (((σ.1 3 (σ.2.2 6 u1) 6) ≤ x4 → Q none σ) ∧ (¬ (σ.1 3 (σ.2.2 6 u1) 6) ≤ x4 → (R mj_OC d mX8_giver (fun r σ' => R mj_OC (d + 1) mX6_open Q 57 [some (rV 8 0), some (rV 6 u1), some (iV x2), some (iV x3), some (iV x4), none, none, none] (r.toList ++ []) σ') 0 [some (rV 6 u1), some (iV x4), none, none] [] σ))))) : R mj_OC (d + 1) mX6_open Q 39 [some (rV 8 0), some (rV 6 u1), some (iV x2), some (iV x3), some (iV x4), none, none, none] [] σ := by
  refine r_iload dX6_open_39 rfl ?_
  refine r_aload_n dX6_open_41 rfl rfl ?_
  refine r_get (k := 6) (i := u1) (j := 0) (v := rV 3 (σ.2.2 6 u1)) rfl rfl (ho6 hu1) rfl hX8 (by decide) rfl fX6_51 dX6_open_42 (fun _ => rfl) ?_
  obtain ⟨q1, H⟩ := H
  refine r_get (k := 3) (i := (σ.2.2 6 u1)) (j := 6) (v := iV (σ.1 3 (σ.2.2 6 u1) 6)) rfl rfl (ho3 q1) rfl hX0 (by decide) rfl fX6_55 dX6_open_45 (fun _ => rfl) ?_
  refine r_icmp_ge (tgt := 155) dX6_open_48 (by decide) (fun c => ?_) (fun c => ?_)
  · have H := H.1 c
    exact r_vret dX6_open_155 rfl H
  · have H := H.2 c
    refine r_aload_n dX6_open_51 rfl rfl ?_
    refine r_iload dX6_open_52 rfl ?_
    refine r_callV (z := 2) (k := 6) (i := u1) (As := [iV x4]) (st := []) kX8_giver i_X8_giver e_X8_giver lX6_60 dX6_open_54 rfl rfl (ho6 hu1) rfl rfl rfl rfl rfl (Nat.le_of_ble_eq_true rfl) ?_
    exact H
set_option maxRecDepth 100000 in
theorem bX6_open_57 {d : Nat} {Q : Option MV → MS → Prop} {u1 : Nat} {x2 : Int32} {x3 : Int32} {x4 : Int32} {s0 : Int32} {σ : MS} (hu1 : u1 < 3) (H : (σ.2.2 6 u1 < 2 ∧ vp_in x4 10 ∧ (R mj_OC d mX8_isJammed (fun r σ' => R mj_OC (d + 1) mX6_open Q 91 [some (rV 8 0), some (rV 6 u1), some (iV x2), some (iV x3), some (iV x4), some (iV s0), some (iV (((σ.1 21 (σ.2.2 6 u1) ((x4).toNatClampNeg)) + (σ.1 22 (σ.2.2 6 u1) ((x4).toNatClampNeg))) - s0)), none] (r.toList ++ []) σ') 0 [some (rV 6 u1), some (iV x4)] [] σ))) : R mj_OC (d + 1) mX6_open Q 57 [some (rV 8 0), some (rV 6 u1), some (iV x2), some (iV x3), some (iV x4), none, none, none] [iV s0] σ := by
  refine r_istore dX6_open_57 (by decide) rfl ?_
  refine r_aload_n dX6_open_59 rfl rfl ?_
  refine r_get (k := 6) (i := u1) (j := 0) (v := rV 3 (σ.2.2 6 u1)) rfl rfl (ho6 hu1) rfl hX8 (by decide) rfl fX6_51 dX6_open_60 (fun _ => rfl) ?_
  obtain ⟨q1, H⟩ := H
  refine r_get (k := 3) (i := (σ.2.2 6 u1)) (j := 7) (v := rV 21 (σ.2.2 6 u1)) rfl rfl (ho3 q1) rfl hX0 (by decide) rfl fX6_64 dX6_open_63 (fun _ => rfl) ?_
  refine r_iload dX6_open_66 rfl ?_
  obtain ⟨q2, H⟩ := H
  refine r_iald (k := 21) (i := (σ.2.2 6 u1)) rfl (ho21 q1) q2 dX6_open_68 ?_
  refine r_aload_n dX6_open_69 rfl rfl ?_
  refine r_get (k := 6) (i := u1) (j := 0) (v := rV 3 (σ.2.2 6 u1)) rfl rfl (ho6 hu1) rfl hX8 (by decide) rfl fX6_51 dX6_open_70 (fun _ => rfl) ?_
  refine r_get (k := 3) (i := (σ.2.2 6 u1)) (j := 8) (v := rV 22 (σ.2.2 6 u1)) rfl rfl (ho3 q1) rfl hX0 (by decide) rfl fX6_67 dX6_open_73 (fun _ => rfl) ?_
  refine r_iload dX6_open_76 rfl ?_
  refine r_iald (k := 22) (i := (σ.2.2 6 u1)) rfl (ho22 q1) q2 dX6_open_78 ?_
  refine r_iadd dX6_open_79 ?_
  refine r_iload dX6_open_80 rfl ?_
  refine r_isub dX6_open_82 ?_
  refine r_istore dX6_open_83 (by decide) rfl ?_
  refine r_aload_n dX6_open_85 rfl rfl ?_
  refine r_iload dX6_open_86 rfl ?_
  refine r_callV (z := 0) (k := 6) (i := u1) (As := [iV x4]) (st := []) kX8_isJammed i_X8_isJammed e_X8_isJammed lX6_70 dX6_open_88 rfl rfl (ho6 hu1) rfl rfl rfl rfl rfl (Nat.le_of_ble_eq_true rfl) ?_
  exact H
set_option maxRecDepth 100000 in
theorem bX6_open_91 {d : Nat} {Q : Option MV → MS → Prop} {u1 : Nat} {x2 : Int32} {x3 : Int32} {x4 : Int32} {x5 : Int32} {x6 : Int32} {s0 : Int32} {σ : MS} (hu1 : u1 < 3) (H : ((s0 = 0 → (R mj_OC d mX8_movable (fun r σ' => R mj_OC (d + 1) mX6_open Q 104 [some (rV 8 0), some (rV 6 u1), some (iV x2), some (iV x3), some (iV x4), some (iV x5), some (iV x6), none] (r.toList ++ []) σ') 0 [some (rV 6 u1), some (iV x4), none, none, none] [] σ)) ∧ (¬ s0 = 0 → (((0 : Int32) ≤ 0 → R mj_OC (d + 1) mX6_open Q 39 [some (rV 8 0), some (rV 6 u1), some (iV x2), some (iV x3), some (iV (x4 + (1 : Int32))), none, none, none] [] σ) ∧ (¬ (0 : Int32) ≤ 0 → (R mj_OC d mX8_move (fun r σ' => R mj_OC (d + 1) mX6_open Q 121 [some (rV 8 0), some (rV 6 u1), some (iV x2), some (iV x3), some (iV x4), some (iV x5), some (iV x6), some (iV (0 : Int32))] (r.toList ++ []) σ') 0 [some (rV 6 u1), some (iV x5), some (iV x6), some (iV (0 : Int32))] [] σ)))))) : R mj_OC (d + 1) mX6_open Q 91 [some (rV 8 0), some (rV 6 u1), some (iV x2), some (iV x3), some (iV x4), some (iV x5), some (iV x6), none] [iV s0] σ := by
  refine r_if_eq (tgt := 98) dX6_open_91 (by decide) (fun c => ?_) (fun c => ?_)
  · have H := H.1 c
    refine r_aload_n dX6_open_98 rfl rfl ?_
    refine r_iload dX6_open_99 rfl ?_
    refine r_callV (z := 3) (k := 6) (i := u1) (As := [iV x4]) (st := []) kX8_movable i_X8_movable e_X8_movable lX6_74 dX6_open_101 rfl rfl (ho6 hu1) rfl rfl rfl rfl rfl (Nat.le_of_ble_eq_true rfl) ?_
    exact H
  · have H := H.2 c
    refine r_iconst (v := (0 : Int32)) dX6_open_94 rfl ?_
    refine r_goto (tgt := 104) dX6_open_95 (by decide) ?_
    refine r_istore dX6_open_104 (by decide) rfl ?_
    refine r_iload dX6_open_106 rfl ?_
    refine r_if_le (tgt := 149) dX6_open_108 (by decide) (fun c => ?_) (fun c => ?_)
    · have H := H.1 c
      refine r_iinc (v := x4 + (1 : Int32)) dX6_open_149 rfl rfl (by decide) rfl ?_
      refine r_goto (tgt := 39) dX6_open_152 (by decide) ?_
      exact R.fw (ls' := [some (rV 8 0), some (rV 6 u1), some (iV x2), some (iV x3), some (iV (x4 + (1 : Int32))), none, none, none]) ⟨rfl, ⟨rfl, ⟨rfl, ⟨rfl, ⟨rfl, trivial⟩⟩⟩⟩⟩ H
    · have H := H.2 c
      refine r_aload_n dX6_open_111 rfl rfl ?_
      refine r_iload dX6_open_112 rfl ?_
      refine r_iload dX6_open_114 rfl ?_
      refine r_iload dX6_open_116 rfl ?_
      refine r_callV (z := 0) (k := 6) (i := u1) (As := [iV x5, iV x6, iV (0 : Int32)]) (st := []) kX8_move i_X8_move e_X8_move lX6_77 dX6_open_118 rfl rfl (ho6 hu1) rfl rfl rfl rfl rfl (Nat.le_of_ble_eq_true rfl) ?_
      exact H
set_option maxRecDepth 100000 in
theorem bX6_open_104 {d : Nat} {Q : Option MV → MS → Prop} {u1 : Nat} {x2 : Int32} {x3 : Int32} {x4 : Int32} {x5 : Int32} {x6 : Int32} {s0 : Int32} {σ : MS} (hu1 : u1 < 3) (H : ((s0 ≤ 0 → R mj_OC (d + 1) mX6_open Q 39 [some (rV 8 0), some (rV 6 u1), some (iV x2), some (iV x3), some (iV (x4 + (1 : Int32))), none, none, none] [] σ) ∧ (¬ s0 ≤ 0 → (R mj_OC d mX8_move (fun r σ' => R mj_OC (d + 1) mX6_open Q 121 [some (rV 8 0), some (rV 6 u1), some (iV x2), some (iV x3), some (iV x4), some (iV x5), some (iV x6), some (iV s0)] (r.toList ++ []) σ') 0 [some (rV 6 u1), some (iV x5), some (iV x6), some (iV s0)] [] σ)))) : R mj_OC (d + 1) mX6_open Q 104 [some (rV 8 0), some (rV 6 u1), some (iV x2), some (iV x3), some (iV x4), some (iV x5), some (iV x6), none] [iV s0] σ := by
  refine r_istore dX6_open_104 (by decide) rfl ?_
  refine r_iload dX6_open_106 rfl ?_
  refine r_if_le (tgt := 149) dX6_open_108 (by decide) (fun c => ?_) (fun c => ?_)
  · have H := H.1 c
    refine r_iinc (v := x4 + (1 : Int32)) dX6_open_149 rfl rfl (by decide) rfl ?_
    refine r_goto (tgt := 39) dX6_open_152 (by decide) ?_
    exact R.fw (ls' := [some (rV 8 0), some (rV 6 u1), some (iV x2), some (iV x3), some (iV (x4 + (1 : Int32))), none, none, none]) ⟨rfl, ⟨rfl, ⟨rfl, ⟨rfl, ⟨rfl, trivial⟩⟩⟩⟩⟩ H
  · have H := H.2 c
    refine r_aload_n dX6_open_111 rfl rfl ?_
    refine r_iload dX6_open_112 rfl ?_
    refine r_iload dX6_open_114 rfl ?_
    refine r_iload dX6_open_116 rfl ?_
    refine r_callV (z := 0) (k := 6) (i := u1) (As := [iV x5, iV x6, iV s0]) (st := []) kX8_move i_X8_move e_X8_move lX6_77 dX6_open_118 rfl rfl (ho6 hu1) rfl rfl rfl rfl rfl (Nat.le_of_ble_eq_true rfl) ?_
    exact H
set_option maxRecDepth 100000 in
theorem bX6_open_121 {d : Nat} {Q : Option MV → MS → Prop} {u1 : Nat} {x2 : Int32} {x3 : Int32} {x4 : Int32} {x5 : Int32} {x6 : Int32} {x7 : Int32} {σ : MS} (hu1 : u1 < 3) (H : ((¬ x2 = 0 → (R mj_OC d mX6_open (fun r σ' => R mj_OC (d + 1) mX6_open Q 139 [some (rV 8 0), some (rV 6 u1), some (iV x2), some (iV x3), some (iV x4), some (iV x5), some (iV x6), some (iV x7)] (r.toList ++ []) σ') 0 [some (rV 8 0), some (rV 6 u1), some (iV (x2 + (1 : Int32))), some (iV x3), none, none, none, none] [] σ)) ∧ (x2 = 0 → (R mj_OC d mX6_open (fun r σ' => R mj_OC (d + 1) mX6_open Q 139 [some (rV 8 0), some (rV 6 u1), some (iV x2), some (iV x3), some (iV x4), some (iV x5), some (iV x6), some (iV x7)] (r.toList ++ []) σ') 0 [some (rV 8 0), some (rV 6 u1), some (iV (x2 + (1 : Int32))), some (iV x4), none, none, none, none] [] σ)))) : R mj_OC (d + 1) mX6_open Q 121 [some (rV 8 0), some (rV 6 u1), some (iV x2), some (iV x3), some (iV x4), some (iV x5), some (iV x6), some (iV x7)] [] σ := by
  refine r_aload_n dX6_open_121 rfl rfl ?_
  refine r_aload_n dX6_open_122 rfl rfl ?_
  refine r_iload_n dX6_open_123 rfl rfl ?_
  refine r_iconst (v := (1 : Int32)) dX6_open_124 rfl ?_
  refine r_iadd dX6_open_125 ?_
  refine r_iload_n dX6_open_126 rfl rfl ?_
  refine r_if_ne (tgt := 135) dX6_open_127 (by decide) (fun c => ?_) (fun c => ?_)
  · have H := H.1 c
    refine r_iload_n dX6_open_135 rfl rfl ?_
    refine r_callV (z := 4) (k := 8) (i := 0) (As := [rV 6 u1, iV (x2 + (1 : Int32)), iV x3]) (st := []) kX6_open i_X6_open e_X6_open lX6_39 dX6_open_136 rfl rfl ho8 rfl rfl rfl rfl rfl (Nat.le_of_ble_eq_true rfl) ?_
    exact H
  · have H := H.2 c
    refine r_iload dX6_open_130 rfl ?_
    refine r_goto (tgt := 136) dX6_open_132 (by decide) ?_
    refine r_callV (z := 4) (k := 8) (i := 0) (As := [rV 6 u1, iV (x2 + (1 : Int32)), iV x4]) (st := []) kX6_open i_X6_open e_X6_open lX6_39 dX6_open_136 rfl rfl ho8 rfl rfl rfl rfl rfl (Nat.le_of_ble_eq_true rfl) ?_
    exact H
set_option maxRecDepth 100000 in
theorem bX6_open_139 {d : Nat} {Q : Option MV → MS → Prop} {u1 : Nat} {x2 : Int32} {x3 : Int32} {x4 : Int32} {x5 : Int32} {x6 : Int32} {x7 : Int32} {σ : MS} (hu1 : u1 < 3) (H : (R mj_OC d mX8_move (fun r σ' => R mj_OC (d + 1) mX6_open Q 149 [some (rV 8 0), some (rV 6 u1), some (iV x2), some (iV x3), some (iV x4), some (iV x5), some (iV x6), some (iV x7)] (r.toList ++ []) σ') 0 [some (rV 6 u1), some (iV x6), some (iV x5), some (iV x7)] [] σ)) : R mj_OC (d + 1) mX6_open Q 139 [some (rV 8 0), some (rV 6 u1), some (iV x2), some (iV x3), some (iV x4), some (iV x5), some (iV x6), some (iV x7)] [] σ := by
  refine r_aload_n dX6_open_139 rfl rfl ?_
  refine r_iload dX6_open_140 rfl ?_
  refine r_iload dX6_open_142 rfl ?_
  refine r_iload dX6_open_144 rfl ?_
  refine r_callV (z := 0) (k := 6) (i := u1) (As := [iV x6, iV x5, iV x7]) (st := []) kX8_move i_X8_move e_X8_move lX6_77 dX6_open_146 rfl rfl (ho6 hu1) rfl rfl rfl rfl rfl (Nat.le_of_ble_eq_true rfl) ?_
  exact H
set_option maxRecDepth 100000 in
theorem bX6_open_149 {d : Nat} {Q : Option MV → MS → Prop} {u1 : Nat} {x2 : Int32} {x3 : Int32} {x4 : Int32} {x5 : Int32} {x6 : Int32} {x7 : Int32} {σ : MS} (hu1 : u1 < 3) (H : R mj_OC d mX6_open Q 39 [some (rV 8 0), some (rV 6 u1), some (iV x2), some (iV x3), some (iV (x4 + (1 : Int32))), none, none, none] [] σ) : R mj_OC d mX6_open Q 149 [some (rV 8 0), some (rV 6 u1), some (iV x2), some (iV x3), some (iV x4), some (iV x5), some (iV x6), some (iV x7)] [] σ := by
  refine r_iinc (v := x4 + (1 : Int32)) dX6_open_149 rfl rfl (by decide) rfl ?_
  refine r_goto (tgt := 39) dX6_open_152 (by decide) ?_
  exact R.fw (ls' := [some (rV 8 0), some (rV 6 u1), some (iV x2), some (iV x3), some (iV (x4 + (1 : Int32))), none, none, none]) ⟨rfl, ⟨rfl, ⟨rfl, ⟨rfl, ⟨rfl, trivial⟩⟩⟩⟩⟩ H
set_option maxRecDepth 100000 in
theorem bX6_note_0 {d : Nat} {Q : Option MV → MS → Prop} {x1 : Int32} {x2 : Int32} {x3 : Int32} {σ : MS}  (H : (((σ.1 8 0 0) = (-2 : Int32) → (((σ.1 8 0 2) = (-2 : Int32) → Q none (uI (uI (uI σ 8 0 0 x2) 8 0 1 x3) 8 0 2 (if (0 : Int32) < ((σ.1 8 0 6) - x1) then ((σ.1 8 0 6) - x1) else (0 : Int32)))) ∧ (¬ (σ.1 8 0 2) = (-2 : Int32) → (((σ.1 8 0 2) ≤ (if (0 : Int32) < ((σ.1 8 0 6) - x1) then ((σ.1 8 0 6) - x1) else (0 : Int32)) → Q none (uI (uI σ 8 0 0 x2) 8 0 1 x3)) ∧ (¬ (σ.1 8 0 2) ≤ (if (0 : Int32) < ((σ.1 8 0 6) - x1) then ((σ.1 8 0 6) - x1) else (0 : Int32)) → Q none (uI (uI (uI σ 8 0 0 x2) 8 0 1 x3) 8 0 2 (if (0 : Int32) < ((σ.1 8 0 6) - x1) then ((σ.1 8 0 6) - x1) else (0 : Int32)))))))) ∧ (¬ (σ.1 8 0 0) = (-2 : Int32) → (((σ.1 8 0 0) ≤ x2 → (((σ.1 8 0 2) = (-2 : Int32) → Q none (uI σ 8 0 2 (if (0 : Int32) < ((σ.1 8 0 6) - x1) then ((σ.1 8 0 6) - x1) else (0 : Int32)))) ∧ (¬ (σ.1 8 0 2) = (-2 : Int32) → (((σ.1 8 0 2) ≤ (if (0 : Int32) < ((σ.1 8 0 6) - x1) then ((σ.1 8 0 6) - x1) else (0 : Int32)) → Q none σ) ∧ (¬ (σ.1 8 0 2) ≤ (if (0 : Int32) < ((σ.1 8 0 6) - x1) then ((σ.1 8 0 6) - x1) else (0 : Int32)) → Q none (uI σ 8 0 2 (if (0 : Int32) < ((σ.1 8 0 6) - x1) then ((σ.1 8 0 6) - x1) else (0 : Int32)))))))) ∧ (¬ (σ.1 8 0 0) ≤ x2 → (((σ.1 8 0 2) = (-2 : Int32) → Q none (uI (uI (uI σ 8 0 0 x2) 8 0 1 x3) 8 0 2 (if (0 : Int32) < ((σ.1 8 0 6) - x1) then ((σ.1 8 0 6) - x1) else (0 : Int32)))) ∧ (¬ (σ.1 8 0 2) = (-2 : Int32) → (((σ.1 8 0 2) ≤ (if (0 : Int32) < ((σ.1 8 0 6) - x1) then ((σ.1 8 0 6) - x1) else (0 : Int32)) → Q none (uI (uI σ 8 0 0 x2) 8 0 1 x3)) ∧ (¬ (σ.1 8 0 2) ≤ (if (0 : Int32) < ((σ.1 8 0 6) - x1) then ((σ.1 8 0 6) - x1) else (0 : Int32)) → Q none (uI (uI (uI σ 8 0 0 x2) 8 0 1 x3) 8 0 2 (if (0 : Int32) < ((σ.1 8 0 6) - x1) then ((σ.1 8 0 6) - x1) else (0 : Int32)))))))))))) : R mj_OC (d + 1) mX6_note Q 0 [some (rV 8 0), some (iV x1), some (iV x2), some (iV x3), none] [] σ := by
  refine r_aload_n dX6_note_0 rfl rfl ?_
  refine r_get (k := 8) (i := 0) (j := 0) (v := iV (σ.1 8 0 0)) rfl rfl ho8 rfl hX6 (by decide) rfl fX6_30 dX6_note_1 (fun _ => rfl) ?_
  refine r_bipush (v := (-2 : Int32)) dX6_note_4 rfl ?_
  refine r_icmp_eq (tgt := 17) dX6_note_6 (by decide) (fun c => ?_) (fun c => ?_)
  · have H := H.1 c
    refine r_aload_n dX6_note_17 rfl rfl ?_
    refine r_iload_n dX6_note_18 rfl rfl ?_
    refine r_putI (k := 8) (i := 0) (j := 0) (ty0 := tyX6) rfl rfl ho8 rfl hX6 (by decide) rfl fX6_30 dX6_note_19 rfl tyX6_ok nmX6 rfl rfl rfl ?_
    refine r_aload_n dX6_note_22 rfl rfl ?_
    refine r_iload_n dX6_note_23 rfl rfl ?_
    refine r_putI (k := 8) (i := 0) (j := 1) (ty0 := tyX6) rfl rfl ho8 rfl hX6 (by decide) rfl fX6_33 dX6_note_24 rfl tyX6_ok nmX6 rfl rfl rfl ?_
    refine r_iconst (v := (0 : Int32)) dX6_note_27 rfl ?_
    refine r_aload_n dX6_note_28 rfl rfl ?_
    refine r_get (k := 8) (i := 0) (j := 6) (v := iV (σ.1 8 0 6)) rfl rfl ho8 rfl hX6 (by decide) rfl fX6_27 dX6_note_29 (fun _ => rfl) ?_
    refine r_iload_n dX6_note_32 rfl rfl ?_
    refine r_isub dX6_note_33 ?_
    refine r_mmax lX6_80 dX6_note_34 (Nat.le_of_ble_eq_true rfl) ?_
    refine r_istore dX6_note_37 (by decide) rfl ?_
    refine r_aload_n dX6_note_39 rfl rfl ?_
    refine r_get (k := 8) (i := 0) (j := 2) (v := iV (σ.1 8 0 2)) rfl rfl ho8 rfl hX6 (by decide) rfl fX6_36 dX6_note_40 (fun _ => rfl) ?_
    refine r_bipush (v := (-2 : Int32)) dX6_note_43 rfl ?_
    refine r_icmp_eq (tgt := 57) dX6_note_45 (by decide) (fun c => ?_) (fun c => ?_)
    · have H := H.1 c
      refine r_aload_n dX6_note_57 rfl rfl ?_
      refine r_iload dX6_note_58 rfl ?_
      refine r_putI (k := 8) (i := 0) (j := 2) (ty0 := tyX6) rfl rfl ho8 rfl hX6 (by decide) rfl fX6_36 dX6_note_60 rfl tyX6_ok nmX6 rfl rfl rfl ?_
      exact r_vret dX6_note_63 rfl H
    · have H := H.2 c
      refine r_iload dX6_note_48 rfl ?_
      refine r_aload_n dX6_note_50 rfl rfl ?_
      refine r_get (k := 8) (i := 0) (j := 2) (v := iV (σ.1 8 0 2)) rfl rfl ho8 rfl hX6 (by decide) rfl fX6_36 dX6_note_51 (fun _ => rfl) ?_
      refine r_icmp_ge (tgt := 63) dX6_note_54 (by decide) (fun c => ?_) (fun c => ?_)
      · have H := H.1 c
        exact r_vret dX6_note_63 rfl H
      · have H := H.2 c
        refine r_aload_n dX6_note_57 rfl rfl ?_
        refine r_iload dX6_note_58 rfl ?_
        refine r_putI (k := 8) (i := 0) (j := 2) (ty0 := tyX6) rfl rfl ho8 rfl hX6 (by decide) rfl fX6_36 dX6_note_60 rfl tyX6_ok nmX6 rfl rfl rfl ?_
        exact r_vret dX6_note_63 rfl H
  · have H := H.2 c
    refine r_iload_n dX6_note_9 rfl rfl ?_
    refine r_aload_n dX6_note_10 rfl rfl ?_
    refine r_get (k := 8) (i := 0) (j := 0) (v := iV (σ.1 8 0 0)) rfl rfl ho8 rfl hX6 (by decide) rfl fX6_30 dX6_note_11 (fun _ => rfl) ?_
    refine r_icmp_ge (tgt := 27) dX6_note_14 (by decide) (fun c => ?_) (fun c => ?_)
    · have H := H.1 c
      refine r_iconst (v := (0 : Int32)) dX6_note_27 rfl ?_
      refine r_aload_n dX6_note_28 rfl rfl ?_
      refine r_get (k := 8) (i := 0) (j := 6) (v := iV (σ.1 8 0 6)) rfl rfl ho8 rfl hX6 (by decide) rfl fX6_27 dX6_note_29 (fun _ => rfl) ?_
      refine r_iload_n dX6_note_32 rfl rfl ?_
      refine r_isub dX6_note_33 ?_
      refine r_mmax lX6_80 dX6_note_34 (Nat.le_of_ble_eq_true rfl) ?_
      refine r_istore dX6_note_37 (by decide) rfl ?_
      refine r_aload_n dX6_note_39 rfl rfl ?_
      refine r_get (k := 8) (i := 0) (j := 2) (v := iV (σ.1 8 0 2)) rfl rfl ho8 rfl hX6 (by decide) rfl fX6_36 dX6_note_40 (fun _ => rfl) ?_
      refine r_bipush (v := (-2 : Int32)) dX6_note_43 rfl ?_
      refine r_icmp_eq (tgt := 57) dX6_note_45 (by decide) (fun c => ?_) (fun c => ?_)
      · have H := H.1 c
        refine r_aload_n dX6_note_57 rfl rfl ?_
        refine r_iload dX6_note_58 rfl ?_
        refine r_putI (k := 8) (i := 0) (j := 2) (ty0 := tyX6) rfl rfl ho8 rfl hX6 (by decide) rfl fX6_36 dX6_note_60 rfl tyX6_ok nmX6 rfl rfl rfl ?_
        exact r_vret dX6_note_63 rfl H
      · have H := H.2 c
        refine r_iload dX6_note_48 rfl ?_
        refine r_aload_n dX6_note_50 rfl rfl ?_
        refine r_get (k := 8) (i := 0) (j := 2) (v := iV (σ.1 8 0 2)) rfl rfl ho8 rfl hX6 (by decide) rfl fX6_36 dX6_note_51 (fun _ => rfl) ?_
        refine r_icmp_ge (tgt := 63) dX6_note_54 (by decide) (fun c => ?_) (fun c => ?_)
        · have H := H.1 c
          exact r_vret dX6_note_63 rfl H
        · have H := H.2 c
          refine r_aload_n dX6_note_57 rfl rfl ?_
          refine r_iload dX6_note_58 rfl ?_
          refine r_putI (k := 8) (i := 0) (j := 2) (ty0 := tyX6) rfl rfl ho8 rfl hX6 (by decide) rfl fX6_36 dX6_note_60 rfl tyX6_ok nmX6 rfl rfl rfl ?_
          exact r_vret dX6_note_63 rfl H
    · have H := H.2 c
      refine r_aload_n dX6_note_17 rfl rfl ?_
      refine r_iload_n dX6_note_18 rfl rfl ?_
      refine r_putI (k := 8) (i := 0) (j := 0) (ty0 := tyX6) rfl rfl ho8 rfl hX6 (by decide) rfl fX6_30 dX6_note_19 rfl tyX6_ok nmX6 rfl rfl rfl ?_
      refine r_aload_n dX6_note_22 rfl rfl ?_
      refine r_iload_n dX6_note_23 rfl rfl ?_
      refine r_putI (k := 8) (i := 0) (j := 1) (ty0 := tyX6) rfl rfl ho8 rfl hX6 (by decide) rfl fX6_33 dX6_note_24 rfl tyX6_ok nmX6 rfl rfl rfl ?_
      refine r_iconst (v := (0 : Int32)) dX6_note_27 rfl ?_
      refine r_aload_n dX6_note_28 rfl rfl ?_
      refine r_get (k := 8) (i := 0) (j := 6) (v := iV (σ.1 8 0 6)) rfl rfl ho8 rfl hX6 (by decide) rfl fX6_27 dX6_note_29 (fun _ => rfl) ?_
      refine r_iload_n dX6_note_32 rfl rfl ?_
      refine r_isub dX6_note_33 ?_
      refine r_mmax lX6_80 dX6_note_34 (Nat.le_of_ble_eq_true rfl) ?_
      refine r_istore dX6_note_37 (by decide) rfl ?_
      refine r_aload_n dX6_note_39 rfl rfl ?_
      refine r_get (k := 8) (i := 0) (j := 2) (v := iV (σ.1 8 0 2)) rfl rfl ho8 rfl hX6 (by decide) rfl fX6_36 dX6_note_40 (fun _ => rfl) ?_
      refine r_bipush (v := (-2 : Int32)) dX6_note_43 rfl ?_
      refine r_icmp_eq (tgt := 57) dX6_note_45 (by decide) (fun c => ?_) (fun c => ?_)
      · have H := H.1 c
        refine r_aload_n dX6_note_57 rfl rfl ?_
        refine r_iload dX6_note_58 rfl ?_
        refine r_putI (k := 8) (i := 0) (j := 2) (ty0 := tyX6) rfl rfl ho8 rfl hX6 (by decide) rfl fX6_36 dX6_note_60 rfl tyX6_ok nmX6 rfl rfl rfl ?_
        exact r_vret dX6_note_63 rfl H
      · have H := H.2 c
        refine r_iload dX6_note_48 rfl ?_
        refine r_aload_n dX6_note_50 rfl rfl ?_
        refine r_get (k := 8) (i := 0) (j := 2) (v := iV (σ.1 8 0 2)) rfl rfl ho8 rfl hX6 (by decide) rfl fX6_36 dX6_note_51 (fun _ => rfl) ?_
        refine r_icmp_ge (tgt := 63) dX6_note_54 (by decide) (fun c => ?_) (fun c => ?_)
        · have H := H.1 c
          exact r_vret dX6_note_63 rfl H
        · have H := H.2 c
          refine r_aload_n dX6_note_57 rfl rfl ?_
          refine r_iload dX6_note_58 rfl ?_
          refine r_putI (k := 8) (i := 0) (j := 2) (ty0 := tyX6) rfl rfl ho8 rfl hX6 (by decide) rfl fX6_36 dX6_note_60 rfl tyX6_ok nmX6 rfl rfl rfl ?_
          exact r_vret dX6_note_63 rfl H
set_option maxRecDepth 100000 in
theorem bJ0_length_8abf5_0 {O : List (Nat × Nat)} {d : Nat} {Q : Option MV → MS → Prop} {u0 : Nat} {σ : MS} (hu0 : u0 < 3) (H : (R O d mJ0_coder_7d493 (fun r σ' => R O (d + 1) mJ0_length_8abf5 Q 9 [some (rV 200 u0)] (r.toList ++ [iV (Int32.ofNat (mj_len.getD u0 0))]) σ') 0 [some (rV 200 u0)] [] σ)) : R O (d + 1) mJ0_length_8abf5 Q 0 [some (rV 200 u0)] [] σ := by
  refine r_aload_n dJ0_length_8abf5_0 rfl rfl ?_
  refine r_getT hu0 fJ0_9 dJ0_length_8abf5_1 ?_
  refine r_tlen (v := Int32.ofNat (mj_len.getD u0 0)) hu0 rfl dJ0_length_8abf5_4 ?_
  refine r_aload_n dJ0_length_8abf5_5 rfl rfl ?_
  refine r_callT (z := 0) (i := u0) (As := []) (st := [iV (Int32.ofNat (mj_len.getD u0 0))]) hu0 rfl kJ0_coder_7d493 i_J0_coder_7d493 e_J0_coder_7d493 lJ0_335 dJ0_length_8abf5_6 rfl rfl rfl rfl (Nat.le_of_ble_eq_true rfl) ?_
  exact H
set_option maxRecDepth 100000 in
theorem bJ0_length_8abf5_9 {O : List (Nat × Nat)} {d : Nat} {Q : Option MV → MS → Prop} {u0 : Nat} {s0 : Int32} {s1 : Int32} {σ : MS} (hu0 : u0 < 3) (H : Q (some (iV (s1 >>> (s0 &&& 31)))) σ) : R O d mJ0_length_8abf5 Q 9 [some (rV 200 u0)] [iV s0, iV s1] σ := by
  refine r_ishr dJ0_length_8abf5_9 ?_
  exact r_iret dJ0_length_8abf5_10 rfl H
set_option maxRecDepth 100000 in
theorem bJ0_charAt_5068e_0 {O : List (Nat × Nat)} {d : Nat} {Q : Option MV → MS → Prop} {u0 : Nat} {x1 : Int32} {σ : MS} (hu0 : u0 < 3) (H : (R O d mJ0_isLatin1_aae02 (fun r σ' => R O (d + 1) mJ0_charAt_5068e Q 4 [some (rV 200 u0), some (iV x1)] (r.toList ++ []) σ') 0 [some (rV 200 u0)] [] σ)) : R O (d + 1) mJ0_charAt_5068e Q 0 [some (rV 200 u0), some (iV x1)] [] σ := by
  refine r_aload_n dJ0_charAt_5068e_0 rfl rfl ?_
  refine r_callT (z := 0) (i := u0) (As := []) (st := []) hu0 rfl kJ0_isLatin1_aae02 i_J0_isLatin1_aae02 e_J0_isLatin1_aae02 lJ0_492 dJ0_charAt_5068e_1 rfl rfl rfl rfl (Nat.le_of_ble_eq_true rfl) ?_
  exact H
set_option maxRecDepth 100000 in
theorem bJ0_charAt_5068e_4 {O : List (Nat × Nat)} {d : Nat} {Q : Option MV → MS → Prop} {u0 : Nat} {x1 : Int32} {s0 : Int32} {σ : MS} (hu0 : u0 < 3) (H : ((s0 = 0 → (R O d mJ2_charAt_3b067 (fun r σ' => R O (d + 1) mJ0_charAt_5068e Q 24 [some (rV 200 u0), some (iV x1)] (r.toList ++ []) σ') 0 [some (rV 201 u0), some (iV x1)] [] σ)) ∧ (¬ s0 = 0 → (R O d mJ1_charAt_3b067 (fun r σ' => R O (d + 1) mJ0_charAt_5068e Q 15 [some (rV 200 u0), some (iV x1)] (r.toList ++ []) σ') 0 [some (rV 201 u0), some (iV x1)] [] σ)))) : R O (d + 1) mJ0_charAt_5068e Q 4 [some (rV 200 u0), some (iV x1)] [iV s0] σ := by
  refine r_if_eq (tgt := 16) dJ0_charAt_5068e_4 (by decide) (fun c => ?_) (fun c => ?_)
  · have H := H.1 c
    refine r_aload_n dJ0_charAt_5068e_16 rfl rfl ?_
    refine r_getT hu0 fJ0_9 dJ0_charAt_5068e_17 ?_
    refine r_iload_n dJ0_charAt_5068e_20 rfl rfl ?_
    refine r_callS (z := 0) (As := [rV 201 u0, iV x1]) (st := []) kJ2_charAt_3b067 s_J2_charAt_3b067 lJ0_498 dJ0_charAt_5068e_21 rfl rfl rfl rfl (Nat.le_of_ble_eq_true rfl) ?_
    exact H
  · have H := H.2 c
    refine r_aload_n dJ0_charAt_5068e_7 rfl rfl ?_
    refine r_getT hu0 fJ0_9 dJ0_charAt_5068e_8 ?_
    refine r_iload_n dJ0_charAt_5068e_11 rfl rfl ?_
    refine r_callS (z := 0) (As := [rV 201 u0, iV x1]) (st := []) kJ1_charAt_3b067 s_J1_charAt_3b067 lJ0_495 dJ0_charAt_5068e_12 rfl rfl rfl rfl (Nat.le_of_ble_eq_true rfl) ?_
    exact H
set_option maxRecDepth 100000 in
theorem bJ0_charAt_5068e_15 {O : List (Nat × Nat)} {d : Nat} {Q : Option MV → MS → Prop} {u0 : Nat} {x1 : Int32} {s0 : Int32} {σ : MS} (hu0 : u0 < 3) (H : ((narrow .char (.int s0) = .int s0) ∧ Q (some (iV s0)) σ)) : R O d mJ0_charAt_5068e Q 15 [some (rV 200 u0), some (iV x1)] [iV s0] σ := by
  obtain ⟨q1, H⟩ := H
  exact r_zret dJ0_charAt_5068e_15 rfl q1 H
set_option maxRecDepth 100000 in
theorem bJ0_charAt_5068e_24 {O : List (Nat × Nat)} {d : Nat} {Q : Option MV → MS → Prop} {u0 : Nat} {x1 : Int32} {s0 : Int32} {σ : MS} (hu0 : u0 < 3) (H : ((narrow .char (.int s0) = .int s0) ∧ Q (some (iV s0)) σ)) : R O d mJ0_charAt_5068e Q 24 [some (rV 200 u0), some (iV x1)] [iV s0] σ := by
  obtain ⟨q1, H⟩ := H
  exact r_zret dJ0_charAt_5068e_24 rfl q1 H
set_option maxRecDepth 100000 in
theorem bJ0_indexOf_0f7a4_0 {O : List (Nat × Nat)} {d : Nat} {Q : Option MV → MS → Prop} {u0 : Nat} {x1 : Int32} {σ : MS} (hu0 : u0 < 3) (H : (R O d mJ0_indexOf_7cf53 (fun r σ' => R O (d + 1) mJ0_indexOf_0f7a4 Q 6 [some (rV 200 u0), some (iV x1)] (r.toList ++ []) σ') 0 [some (rV 200 u0), some (iV x1), some (iV (0 : Int32))] [] σ)) : R O (d + 1) mJ0_indexOf_0f7a4 Q 0 [some (rV 200 u0), some (iV x1)] [] σ := by
  refine r_aload_n dJ0_indexOf_0f7a4_0 rfl rfl ?_
  refine r_iload_n dJ0_indexOf_0f7a4_1 rfl rfl ?_
  refine r_iconst (v := (0 : Int32)) dJ0_indexOf_0f7a4_2 rfl ?_
  refine r_callT (z := 0) (i := u0) (As := [iV x1, iV (0 : Int32)]) (st := []) hu0 rfl kJ0_indexOf_7cf53 i_J0_indexOf_7cf53 e_J0_indexOf_7cf53 lJ0_633 dJ0_indexOf_0f7a4_3 rfl rfl rfl rfl (Nat.le_of_ble_eq_true rfl) ?_
  exact H
set_option maxRecDepth 100000 in
theorem bJ0_indexOf_0f7a4_6 {O : List (Nat × Nat)} {d : Nat} {Q : Option MV → MS → Prop} {u0 : Nat} {x1 : Int32} {s0 : Int32} {σ : MS} (hu0 : u0 < 3) (H : Q (some (iV s0)) σ) : R O d mJ0_indexOf_0f7a4 Q 6 [some (rV 200 u0), some (iV x1)] [iV s0] σ := by
  exact r_iret dJ0_indexOf_0f7a4_6 rfl H
set_option maxRecDepth 100000 in
theorem bJ0_indexOf_7cf53_0 {O : List (Nat × Nat)} {d : Nat} {Q : Option MV → MS → Prop} {u0 : Nat} {x1 : Int32} {x2 : Int32} {σ : MS} (hu0 : u0 < 3) (H : (R O d mJ0_isLatin1_aae02 (fun r σ' => R O (d + 1) mJ0_indexOf_7cf53 Q 4 [some (rV 200 u0), some (iV x1), some (iV x2)] (r.toList ++ []) σ') 0 [some (rV 200 u0)] [] σ)) : R O (d + 1) mJ0_indexOf_7cf53 Q 0 [some (rV 200 u0), some (iV x1), some (iV x2)] [] σ := by
  refine r_aload_n dJ0_indexOf_7cf53_0 rfl rfl ?_
  refine r_callT (z := 0) (i := u0) (As := []) (st := []) hu0 rfl kJ0_isLatin1_aae02 i_J0_isLatin1_aae02 e_J0_isLatin1_aae02 lJ0_492 dJ0_indexOf_7cf53_1 rfl rfl rfl rfl (Nat.le_of_ble_eq_true rfl) ?_
  exact H
set_option maxRecDepth 100000 in
theorem bJ0_indexOf_7cf53_4 {O : List (Nat × Nat)} {d : Nat} {Q : Option MV → MS → Prop} {u0 : Nat} {x1 : Int32} {x2 : Int32} {s0 : Int32} {σ : MS} (hu0 : u0 < 3) (H : ((s0 = 0 → (R O d mJ0_length_8abf5 (fun r σ' => R O (d + 1) mJ0_indexOf_7cf53 Q 33 [some (rV 200 u0), some (iV x1), some (iV x2)] (r.toList ++ [iV x2, iV x1, rV 201 u0]) σ') 0 [some (rV 200 u0)] [] σ)) ∧ (¬ s0 = 0 → (R O d mJ0_length_8abf5 (fun r σ' => R O (d + 1) mJ0_indexOf_7cf53 Q 17 [some (rV 200 u0), some (iV x1), some (iV x2)] (r.toList ++ [iV x2, iV x1, rV 201 u0]) σ') 0 [some (rV 200 u0)] [] σ)))) : R O (d + 1) mJ0_indexOf_7cf53 Q 4 [some (rV 200 u0), some (iV x1), some (iV x2)] [iV s0] σ := by
  refine r_if_eq (tgt := 23) dJ0_indexOf_7cf53_4 (by decide) (fun c => ?_) (fun c => ?_)
  · have H := H.1 c
    refine r_aload_n dJ0_indexOf_7cf53_23 rfl rfl ?_
    refine r_getT hu0 fJ0_9 dJ0_indexOf_7cf53_24 ?_
    refine r_iload_n dJ0_indexOf_7cf53_27 rfl rfl ?_
    refine r_iload_n dJ0_indexOf_7cf53_28 rfl rfl ?_
    refine r_aload_n dJ0_indexOf_7cf53_29 rfl rfl ?_
    refine r_callT (z := 0) (i := u0) (As := []) (st := [iV x2, iV x1, rV 201 u0]) hu0 rfl kJ0_length_8abf5 i_J0_length_8abf5 e_J0_length_8abf5 lJ0_505 dJ0_indexOf_7cf53_30 rfl rfl rfl rfl (Nat.le_of_ble_eq_true rfl) ?_
    exact H
  · have H := H.2 c
    refine r_aload_n dJ0_indexOf_7cf53_7 rfl rfl ?_
    refine r_getT hu0 fJ0_9 dJ0_indexOf_7cf53_8 ?_
    refine r_iload_n dJ0_indexOf_7cf53_11 rfl rfl ?_
    refine r_iload_n dJ0_indexOf_7cf53_12 rfl rfl ?_
    refine r_aload_n dJ0_indexOf_7cf53_13 rfl rfl ?_
    refine r_callT (z := 0) (i := u0) (As := []) (st := [iV x2, iV x1, rV 201 u0]) hu0 rfl kJ0_length_8abf5 i_J0_length_8abf5 e_J0_length_8abf5 lJ0_505 dJ0_indexOf_7cf53_14 rfl rfl rfl rfl (Nat.le_of_ble_eq_true rfl) ?_
    exact H
set_option maxRecDepth 100000 in
theorem bJ0_indexOf_7cf53_17 {O : List (Nat × Nat)} {d : Nat} {Q : Option MV → MS → Prop} {u0 : Nat} {x1 : Int32} {x2 : Int32} {s0 : Int32} {s1 : Int32} {s2 : Int32} {w3 : Nat} {σ : MS} (hu0 : u0 < 3) (hw3 : w3 < 3) (H : (R O d mJ1_indexOf_4cfef (fun r σ' => R O (d + 1) mJ0_indexOf_7cf53 Q 20 [some (rV 200 u0), some (iV x1), some (iV x2)] (r.toList ++ []) σ') 0 [some (rV 201 w3), some (iV s2), some (iV s1), some (iV s0)] [] σ)) : R O (d + 1) mJ0_indexOf_7cf53 Q 17 [some (rV 200 u0), some (iV x1), some (iV x2)] [iV s0, iV s1, iV s2, rV 201 w3] σ := by
  refine r_callS (z := 0) (As := [rV 201 w3, iV s2, iV s1, iV s0]) (st := []) kJ1_indexOf_4cfef s_J1_indexOf_4cfef lJ0_637 dJ0_indexOf_7cf53_17 rfl rfl rfl rfl (Nat.le_of_ble_eq_true rfl) ?_
  exact H
set_option maxRecDepth 100000 in
theorem bJ0_indexOf_7cf53_20 {O : List (Nat × Nat)} {d : Nat} {Q : Option MV → MS → Prop} {u0 : Nat} {x1 : Int32} {x2 : Int32} {s0 : Int32} {σ : MS} (hu0 : u0 < 3) (H : Q (some (iV s0)) σ) : R O d mJ0_indexOf_7cf53 Q 20 [some (rV 200 u0), some (iV x1), some (iV x2)] [iV s0] σ := by
  refine r_goto (tgt := 36) dJ0_indexOf_7cf53_20 (by decide) ?_
  exact r_iret dJ0_indexOf_7cf53_36 rfl H
set_option maxRecDepth 100000 in
theorem bJ0_indexOf_7cf53_33 {O : List (Nat × Nat)} {d : Nat} {Q : Option MV → MS → Prop} {u0 : Nat} {x1 : Int32} {x2 : Int32} {s0 : Int32} {s1 : Int32} {s2 : Int32} {w3 : Nat} {σ : MS} (hu0 : u0 < 3) (hw3 : w3 < 3) (H : (R O d mJ2_indexOf_4cfef (fun r σ' => R O (d + 1) mJ0_indexOf_7cf53 Q 36 [some (rV 200 u0), some (iV x1), some (iV x2)] (r.toList ++ []) σ') 0 [some (rV 201 w3), some (iV s2), some (iV s1), some (iV s0)] [] σ)) : R O (d + 1) mJ0_indexOf_7cf53 Q 33 [some (rV 200 u0), some (iV x1), some (iV x2)] [iV s0, iV s1, iV s2, rV 201 w3] σ := by
  refine r_callS (z := 0) (As := [rV 201 w3, iV s2, iV s1, iV s0]) (st := []) kJ2_indexOf_4cfef s_J2_indexOf_4cfef lJ0_640 dJ0_indexOf_7cf53_33 rfl rfl rfl rfl (Nat.le_of_ble_eq_true rfl) ?_
  exact H
set_option maxRecDepth 100000 in
theorem bJ0_indexOf_7cf53_36 {O : List (Nat × Nat)} {d : Nat} {Q : Option MV → MS → Prop} {u0 : Nat} {x1 : Int32} {x2 : Int32} {s0 : Int32} {σ : MS} (hu0 : u0 < 3) (H : Q (some (iV s0)) σ) : R O d mJ0_indexOf_7cf53 Q 36 [some (rV 200 u0), some (iV x1), some (iV x2)] [iV s0] σ := by
  exact r_iret dJ0_indexOf_7cf53_36 rfl H
set_option maxRecDepth 100000 in
theorem bJ0_isLatin1_aae02_0 {O : List (Nat × Nat)} {d : Nat} {Q : Option MV → MS → Prop} {u0 : Nat} {σ : MS} (hu0 : u0 < 3) (H : (((1 : Int32) = 0 → Q (some (iV (0 : Int32))) σ) ∧ (¬ (1 : Int32) = 0 → ((¬ (0 : Int32) = 0 → Q (some (iV (0 : Int32))) σ) ∧ ((0 : Int32) = 0 → Q (some (iV (1 : Int32))) σ))))) : R O d mJ0_isLatin1_aae02 Q 0 [some (rV 200 u0)] [] σ := by
  refine r_gets fJ0_38 dJ0_isLatin1_aae02_0 ?_
  refine r_if_eq (tgt := 17) dJ0_isLatin1_aae02_3 (by decide) (fun c => ?_) (fun c => ?_)
  · have H := H.1 c
    refine r_iconst (v := (0 : Int32)) dJ0_isLatin1_aae02_17 rfl ?_
    exact r_zret dJ0_isLatin1_aae02_18 rfl (by decide) H
  · have H := H.2 c
    refine r_aload_n dJ0_isLatin1_aae02_6 rfl rfl ?_
    refine r_getTc hu0 fJ0_15 dJ0_isLatin1_aae02_7 ?_
    refine r_if_ne (tgt := 17) dJ0_isLatin1_aae02_10 (by decide) (fun c => ?_) (fun c => ?_)
    · have H := H.1 c
      refine r_iconst (v := (0 : Int32)) dJ0_isLatin1_aae02_17 rfl ?_
      exact r_zret dJ0_isLatin1_aae02_18 rfl (by decide) H
    · have H := H.2 c
      refine r_iconst (v := (1 : Int32)) dJ0_isLatin1_aae02_13 rfl ?_
      refine r_goto (tgt := 18) dJ0_isLatin1_aae02_14 (by decide) ?_
      exact r_zret dJ0_isLatin1_aae02_18 rfl (by decide) H
set_option maxRecDepth 100000 in
theorem bJ0_coder_7d493_0 {O : List (Nat × Nat)} {d : Nat} {Q : Option MV → MS → Prop} {u0 : Nat} {σ : MS} (hu0 : u0 < 3) (H : (((1 : Int32) = 0 → Q (some (iV (1 : Int32))) σ) ∧ (¬ (1 : Int32) = 0 → Q (some (iV (0 : Int32))) σ))) : R O d mJ0_coder_7d493 Q 0 [some (rV 200 u0)] [] σ := by
  refine r_gets fJ0_38 dJ0_coder_7d493_0 ?_
  refine r_if_eq (tgt := 13) dJ0_coder_7d493_3 (by decide) (fun c => ?_) (fun c => ?_)
  · have H := H.1 c
    refine r_iconst (v := (1 : Int32)) dJ0_coder_7d493_13 rfl ?_
    exact r_zret dJ0_coder_7d493_14 rfl (by decide) H
  · have H := H.2 c
    refine r_aload_n dJ0_coder_7d493_6 rfl rfl ?_
    refine r_getTc hu0 fJ0_15 dJ0_coder_7d493_7 ?_
    refine r_goto (tgt := 14) dJ0_coder_7d493_10 (by decide) ?_
    exact r_zret dJ0_coder_7d493_14 rfl (by decide) H
set_option maxRecDepth 100000 in
theorem bJ1_charAt_3b067_0 {O : List (Nat × Nat)} {d : Nat} {Q : Option MV → MS → Prop} {u0 : Nat} {x1 : Int32} {σ : MS} (hu0 : u0 < 3) (H : (R O d mJ0_checkIndex_df160 (fun r σ' => R O (d + 1) mJ1_charAt_3b067 Q 6 [some (rV 201 u0), some (iV x1)] (r.toList ++ []) σ') 0 [some (iV x1), some (iV (Int32.ofNat (mj_len.getD u0 0)))] [] σ)) : R O (d + 1) mJ1_charAt_3b067 Q 0 [some (rV 201 u0), some (iV x1)] [] σ := by
  refine r_iload_n dJ1_charAt_3b067_0 rfl rfl ?_
  refine r_aload_n dJ1_charAt_3b067_1 rfl rfl ?_
  refine r_tlen (v := Int32.ofNat (mj_len.getD u0 0)) hu0 rfl dJ1_charAt_3b067_2 ?_
  refine r_callS (z := 0) (As := [iV x1, iV (Int32.ofNat (mj_len.getD u0 0))]) (st := []) kJ0_checkIndex_df160 s_J0_checkIndex_df160 lJ1_9 dJ1_charAt_3b067_3 rfl rfl rfl rfl (Nat.le_of_ble_eq_true rfl) ?_
  exact H
set_option maxRecDepth 100000 in
theorem bJ1_charAt_3b067_6 {O : List (Nat × Nat)} {d : Nat} {Q : Option MV → MS → Prop} {u0 : Nat} {x1 : Int32} {σ : MS} (hu0 : u0 < 3) (H : (vp_in x1 (mj_len.getD u0 0) ∧ (narrow .char (.int (((((mj_byt.getD u0 []).getD x1.toNatClampNeg 0) &&& (255 : Int32)).toUInt32 % 65536).toInt32)) = .int (((((mj_byt.getD u0 []).getD x1.toNatClampNeg 0) &&& (255 : Int32)).toUInt32 % 65536).toInt32)) ∧ Q (some (iV (((((mj_byt.getD u0 []).getD x1.toNatClampNeg 0) &&& (255 : Int32)).toUInt32 % 65536).toInt32))) σ)) : R O d mJ1_charAt_3b067 Q 6 [some (rV 201 u0), some (iV x1)] [] σ := by
  refine r_aload_n dJ1_charAt_3b067_6 rfl rfl ?_
  refine r_iload_n dJ1_charAt_3b067_7 rfl rfl ?_
  obtain ⟨q1, H⟩ := H
  refine r_tb (v := (mj_byt.getD u0 []).getD x1.toNatClampNeg 0) hu0 q1 rfl dJ1_charAt_3b067_8 ?_
  refine r_sipush (v := (255 : Int32)) dJ1_charAt_3b067_9 rfl ?_
  refine r_iand dJ1_charAt_3b067_12 ?_
  refine r_i2c (v := ((((mj_byt.getD u0 []).getD x1.toNatClampNeg 0) &&& (255 : Int32)).toUInt32 % 65536).toInt32) dJ1_charAt_3b067_13 rfl ?_
  obtain ⟨q2, H⟩ := H
  exact r_zret dJ1_charAt_3b067_14 rfl q2 H
set_option maxRecDepth 100000 in
theorem bJ1_canEncode_9a6ad_0 {O : List (Nat × Nat)} {d : Nat} {Q : Option MV → MS → Prop} {x0 : Int32} {σ : MS}  (H : ((x0 < 0 → Q (some (iV (0 : Int32))) σ) ∧ (¬ x0 < 0 → (((255 : Int32) < x0 → Q (some (iV (0 : Int32))) σ) ∧ (¬ (255 : Int32) < x0 → Q (some (iV (1 : Int32))) σ))))) : R O d mJ1_canEncode_9a6ad Q 0 [some (iV x0)] [] σ := by
  refine r_iload_n dJ1_canEncode_9a6ad_0 rfl rfl ?_
  refine r_if_lt (tgt := 15) dJ1_canEncode_9a6ad_1 (by decide) (fun c => ?_) (fun c => ?_)
  · have H := H.1 c
    refine r_iconst (v := (0 : Int32)) dJ1_canEncode_9a6ad_15 rfl ?_
    exact r_zret dJ1_canEncode_9a6ad_16 rfl (by decide) H
  · have H := H.2 c
    refine r_iload_n dJ1_canEncode_9a6ad_4 rfl rfl ?_
    refine r_sipush (v := (255 : Int32)) dJ1_canEncode_9a6ad_5 rfl ?_
    refine r_icmp_gt (tgt := 15) dJ1_canEncode_9a6ad_8 (by decide) (fun c => ?_) (fun c => ?_)
    · have H := H.1 c
      refine r_iconst (v := (0 : Int32)) dJ1_canEncode_9a6ad_15 rfl ?_
      exact r_zret dJ1_canEncode_9a6ad_16 rfl (by decide) H
    · have H := H.2 c
      refine r_iconst (v := (1 : Int32)) dJ1_canEncode_9a6ad_11 rfl ?_
      refine r_goto (tgt := 16) dJ1_canEncode_9a6ad_12 (by decide) ?_
      exact r_zret dJ1_canEncode_9a6ad_16 rfl (by decide) H
set_option maxRecDepth 100000 in
theorem bJ1_indexOf_4cfef_0 {O : List (Nat × Nat)} {d : Nat} {Q : Option MV → MS → Prop} {u0 : Nat} {x1 : Int32} {x2 : Int32} {x3 : Int32} {σ : MS} (hu0 : u0 < 3) (H : (R O d mJ1_canEncode_9a6ad (fun r σ' => R O (d + 1) mJ1_indexOf_4cfef Q 4 [some (rV 201 u0), some (iV x1), some (iV x2), some (iV x3)] (r.toList ++ []) σ') 0 [some (iV x1)] [] σ)) : R O (d + 1) mJ1_indexOf_4cfef Q 0 [some (rV 201 u0), some (iV x1), some (iV x2), some (iV x3)] [] σ := by
  refine r_iload_n dJ1_indexOf_4cfef_0 rfl rfl ?_
  refine r_callS (z := 0) (As := [iV x1]) (st := []) kJ1_canEncode_9a6ad s_J1_canEncode_9a6ad lJ1_88 dJ1_indexOf_4cfef_1 rfl rfl rfl rfl (Nat.le_of_ble_eq_true rfl) ?_
  exact H
set_option maxRecDepth 100000 in
theorem bJ1_indexOf_4cfef_4 {O : List (Nat × Nat)} {d : Nat} {Q : Option MV → MS → Prop} {u0 : Nat} {x1 : Int32} {x2 : Int32} {x3 : Int32} {s0 : Int32} {σ : MS} (hu0 : u0 < 3) (H : ((¬ s0 = 0 → (((if x2 < (0 : Int32) then (0 : Int32) else x2) < (if (Int32.ofNat (mj_len.getD u0 0)) < x3 then (Int32.ofNat (mj_len.getD u0 0)) else x3) → (R O d mJ1_indexOfChar_4cfef (fun r σ' => R O (d + 1) mJ1_indexOf_4cfef Q 36 [some (rV 201 u0), some (iV x1), some (iV (if x2 < (0 : Int32) then (0 : Int32) else x2)), some (iV (if (Int32.ofNat (mj_len.getD u0 0)) < x3 then (Int32.ofNat (mj_len.getD u0 0)) else x3))] (r.toList ++ []) σ') 0 [some (rV 201 u0), some (iV x1), some (iV (if x2 < (0 : Int32) then (0 : Int32) else x2)), some (iV (if (Int32.ofNat (mj_len.getD u0 0)) < x3 then (Int32.ofNat (mj_len.getD u0 0)) else x3)), none, none] [] σ)) ∧ (¬ (if x2 < (0 : Int32) then (0 : Int32) else x2) < (if (Int32.ofNat (mj_len.getD u0 0)) < x3 then (Int32.ofNat (mj_len.getD u0 0)) else x3) → Q (some (iV (-1 : Int32))) σ))) ∧ (s0 = 0 → Q (some (iV (-1 : Int32))) σ))) : R O (d + 1) mJ1_indexOf_4cfef Q 4 [some (rV 201 u0), some (iV x1), some (iV x2), some (iV x3)] [iV s0] σ := by
  refine r_if_ne (tgt := 9) dJ1_indexOf_4cfef_4 (by decide) (fun c => ?_) (fun c => ?_)
  · have H := H.1 c
    refine r_iload_n dJ1_indexOf_4cfef_9 rfl rfl ?_
    refine r_iconst (v := (0 : Int32)) dJ1_indexOf_4cfef_10 rfl ?_
    refine r_mmax lJ1_92 dJ1_indexOf_4cfef_11 (Nat.le_of_ble_eq_true rfl) ?_
    refine r_istore_n dJ1_indexOf_4cfef_14 rfl (by decide) rfl ?_
    refine r_iload_n dJ1_indexOf_4cfef_15 rfl rfl ?_
    refine r_aload_n dJ1_indexOf_4cfef_16 rfl rfl ?_
    refine r_tlen (v := Int32.ofNat (mj_len.getD u0 0)) hu0 rfl dJ1_indexOf_4cfef_17 ?_
    refine r_mmin lJ1_38 dJ1_indexOf_4cfef_18 (Nat.le_of_ble_eq_true rfl) ?_
    refine r_istore_n dJ1_indexOf_4cfef_21 rfl (by decide) rfl ?_
    refine r_iload_n dJ1_indexOf_4cfef_22 rfl rfl ?_
    refine r_iload_n dJ1_indexOf_4cfef_23 rfl rfl ?_
    refine r_icmp_lt (tgt := 29) dJ1_indexOf_4cfef_24 (by decide) (fun c => ?_) (fun c => ?_)
    · have H := H.1 c
      refine r_aload_n dJ1_indexOf_4cfef_29 rfl rfl ?_
      refine r_iload_n dJ1_indexOf_4cfef_30 rfl rfl ?_
      refine r_iload_n dJ1_indexOf_4cfef_31 rfl rfl ?_
      refine r_iload_n dJ1_indexOf_4cfef_32 rfl rfl ?_
      refine r_callS (z := 2) (As := [rV 201 u0, iV x1, iV (if x2 < (0 : Int32) then (0 : Int32) else x2), iV (if (Int32.ofNat (mj_len.getD u0 0)) < x3 then (Int32.ofNat (mj_len.getD u0 0)) else x3)]) (st := []) kJ1_indexOfChar_4cfef s_J1_indexOfChar_4cfef lJ1_95 dJ1_indexOf_4cfef_33 rfl rfl rfl rfl (Nat.le_of_ble_eq_true rfl) ?_
      exact H
    · have H := H.2 c
      refine r_iconst (v := (-1 : Int32)) dJ1_indexOf_4cfef_27 rfl ?_
      exact r_iret dJ1_indexOf_4cfef_28 rfl H
  · have H := H.2 c
    refine r_iconst (v := (-1 : Int32)) dJ1_indexOf_4cfef_7 rfl ?_
    exact r_iret dJ1_indexOf_4cfef_8 rfl H
set_option maxRecDepth 100000 in
theorem bJ1_indexOf_4cfef_36 {O : List (Nat × Nat)} {d : Nat} {Q : Option MV → MS → Prop} {u0 : Nat} {x1 : Int32} {x2 : Int32} {x3 : Int32} {s0 : Int32} {σ : MS} (hu0 : u0 < 3) (H : Q (some (iV s0)) σ) : R O d mJ1_indexOf_4cfef Q 36 [some (rV 201 u0), some (iV x1), some (iV x2), some (iV x3)] [iV s0] σ := by
  exact r_iret dJ1_indexOf_4cfef_36 rfl H
set_option maxRecDepth 100000 in
theorem bJ1_indexOfChar_4cfef_0 {O : List (Nat × Nat)} {d : Nat} {Q : Option MV → MS → Prop} {u0 : Nat} {x1 : Int32} {x2 : Int32} {x3 : Int32} {σ : MS} (hu0 : u0 < 3) (H : R O d mJ1_indexOfChar_4cfef Q 7 [some (rV 201 u0), some (iV x1), some (iV x2), some (iV x3), some (iV x1.toInt8.toInt32), some (iV x2)] [] σ) : R O d mJ1_indexOfChar_4cfef Q 0 [some (rV 201 u0), some (iV x1), some (iV x2), some (iV x3), none, none] [] σ := by
  refine r_iload_n dJ1_indexOfChar_4cfef_0 rfl rfl ?_
  refine r_i2b (v := x1.toInt8.toInt32) dJ1_indexOfChar_4cfef_1 rfl ?_
  refine r_istore dJ1_indexOfChar_4cfef_2 (by decide) rfl ?_
  refine r_iload_n dJ1_indexOfChar_4cfef_4 rfl rfl ?_
  refine r_istore dJ1_indexOfChar_4cfef_5 (by decide) rfl ?_
  exact H
set_option maxRecDepth 100000 in
theorem bJ1_indexOfChar_4cfef_7 {O : List (Nat × Nat)} {d : Nat} {Q : Option MV → MS → Prop} {u0 : Nat} {x1 : Int32} {x2 : Int32} {x3 : Int32} {x4 : Int32} {x5 : Int32} {σ : MS} (hu0 : u0 < 3) (H : ((x3 ≤ x5 → Q (some (iV (-1 : Int32))) σ) ∧ (¬ x3 ≤ x5 → (vp_in x5 (mj_len.getD u0 0) ∧ ((¬ ((mj_byt.getD u0 []).getD x5.toNatClampNeg 0) = x4 → R O d mJ1_indexOfChar_4cfef Q 7 [some (rV 201 u0), some (iV x1), some (iV x2), some (iV x3), some (iV x4), some (iV (x5 + (1 : Int32)))] [] σ) ∧ (((mj_byt.getD u0 []).getD x5.toNatClampNeg 0) = x4 → Q (some (iV x5)) σ)))))) : R O d mJ1_indexOfChar_4cfef Q 7 [some (rV 201 u0), some (iV x1), some (iV x2), some (iV x3), some (iV x4), some (iV x5)] [] σ := by
  refine r_iload dJ1_indexOfChar_4cfef_7 rfl ?_
  refine r_iload_n dJ1_indexOfChar_4cfef_9 rfl rfl ?_
  refine r_icmp_ge (tgt := 31) dJ1_indexOfChar_4cfef_10 (by decide) (fun c => ?_) (fun c => ?_)
  · have H := H.1 c
    refine r_iconst (v := (-1 : Int32)) dJ1_indexOfChar_4cfef_31 rfl ?_
    exact r_iret dJ1_indexOfChar_4cfef_32 rfl H
  · have H := H.2 c
    refine r_aload_n dJ1_indexOfChar_4cfef_13 rfl rfl ?_
    refine r_iload dJ1_indexOfChar_4cfef_14 rfl ?_
    obtain ⟨q1, H⟩ := H
    refine r_tb (v := (mj_byt.getD u0 []).getD x5.toNatClampNeg 0) hu0 q1 rfl dJ1_indexOfChar_4cfef_16 ?_
    refine r_iload dJ1_indexOfChar_4cfef_17 rfl ?_
    refine r_icmp_ne (tgt := 25) dJ1_indexOfChar_4cfef_19 (by decide) (fun c => ?_) (fun c => ?_)
    · have H := H.1 c
      refine r_iinc (v := x5 + (1 : Int32)) dJ1_indexOfChar_4cfef_25 rfl rfl (by decide) rfl ?_
      refine r_goto (tgt := 7) dJ1_indexOfChar_4cfef_28 (by decide) ?_
      exact H
    · have H := H.2 c
      refine r_iload dJ1_indexOfChar_4cfef_22 rfl ?_
      exact r_iret dJ1_indexOfChar_4cfef_24 rfl H
set_option maxRecDepth 100000 in
theorem bJ6_bitCount_0f7a4_0 {O : List (Nat × Nat)} {d : Nat} {Q : Option MV → MS → Prop} {x0 : Int32} {σ : MS}  (H : Q (some (iV ((((((((x0 - (((x0.toUInt32 >>> ((1 : Int32).toUInt32 &&& Int32.toUInt32 31)).toInt32) &&& (1431655765 : Int32))) &&& (858993459 : Int32)) + ((((x0 - (((x0.toUInt32 >>> ((1 : Int32).toUInt32 &&& Int32.toUInt32 31)).toInt32) &&& (1431655765 : Int32))).toUInt32 >>> ((2 : Int32).toUInt32 &&& Int32.toUInt32 31)).toInt32) &&& (858993459 : Int32))) + (((((x0 - (((x0.toUInt32 >>> ((1 : Int32).toUInt32 &&& Int32.toUInt32 31)).toInt32) &&& (1431655765 : Int32))) &&& (858993459 : Int32)) + ((((x0 - (((x0.toUInt32 >>> ((1 : Int32).toUInt32 &&& Int32.toUInt32 31)).toInt32) &&& (1431655765 : Int32))).toUInt32 >>> ((2 : Int32).toUInt32 &&& Int32.toUInt32 31)).toInt32) &&& (858993459 : Int32))).toUInt32 >>> ((4 : Int32).toUInt32 &&& Int32.toUInt32 31)).toInt32)) &&& (252645135 : Int32)) + (((((((x0 - (((x0.toUInt32 >>> ((1 : Int32).toUInt32 &&& Int32.toUInt32 31)).toInt32) &&& (1431655765 : Int32))) &&& (858993459 : Int32)) + ((((x0 - (((x0.toUInt32 >>> ((1 : Int32).toUInt32 &&& Int32.toUInt32 31)).toInt32) &&& (1431655765 : Int32))).toUInt32 >>> ((2 : Int32).toUInt32 &&& Int32.toUInt32 31)).toInt32) &&& (858993459 : Int32))) + (((((x0 - (((x0.toUInt32 >>> ((1 : Int32).toUInt32 &&& Int32.toUInt32 31)).toInt32) &&& (1431655765 : Int32))) &&& (858993459 : Int32)) + ((((x0 - (((x0.toUInt32 >>> ((1 : Int32).toUInt32 &&& Int32.toUInt32 31)).toInt32) &&& (1431655765 : Int32))).toUInt32 >>> ((2 : Int32).toUInt32 &&& Int32.toUInt32 31)).toInt32) &&& (858993459 : Int32))).toUInt32 >>> ((4 : Int32).toUInt32 &&& Int32.toUInt32 31)).toInt32)) &&& (252645135 : Int32)).toUInt32 >>> ((8 : Int32).toUInt32 &&& Int32.toUInt32 31)).toInt32)) + ((((((((x0 - (((x0.toUInt32 >>> ((1 : Int32).toUInt32 &&& Int32.toUInt32 31)).toInt32) &&& (1431655765 : Int32))) &&& (858993459 : Int32)) + ((((x0 - (((x0.toUInt32 >>> ((1 : Int32).toUInt32 &&& Int32.toUInt32 31)).toInt32) &&& (1431655765 : Int32))).toUInt32 >>> ((2 : Int32).toUInt32 &&& Int32.toUInt32 31)).toInt32) &&& (858993459 : Int32))) + (((((x0 - (((x0.toUInt32 >>> ((1 : Int32).toUInt32 &&& Int32.toUInt32 31)).toInt32) &&& (1431655765 : Int32))) &&& (858993459 : Int32)) + ((((x0 - (((x0.toUInt32 >>> ((1 : Int32).toUInt32 &&& Int32.toUInt32 31)).toInt32) &&& (1431655765 : Int32))).toUInt32 >>> ((2 : Int32).toUInt32 &&& Int32.toUInt32 31)).toInt32) &&& (858993459 : Int32))).toUInt32 >>> ((4 : Int32).toUInt32 &&& Int32.toUInt32 31)).toInt32)) &&& (252645135 : Int32)) + (((((((x0 - (((x0.toUInt32 >>> ((1 : Int32).toUInt32 &&& Int32.toUInt32 31)).toInt32) &&& (1431655765 : Int32))) &&& (858993459 : Int32)) + ((((x0 - (((x0.toUInt32 >>> ((1 : Int32).toUInt32 &&& Int32.toUInt32 31)).toInt32) &&& (1431655765 : Int32))).toUInt32 >>> ((2 : Int32).toUInt32 &&& Int32.toUInt32 31)).toInt32) &&& (858993459 : Int32))) + (((((x0 - (((x0.toUInt32 >>> ((1 : Int32).toUInt32 &&& Int32.toUInt32 31)).toInt32) &&& (1431655765 : Int32))) &&& (858993459 : Int32)) + ((((x0 - (((x0.toUInt32 >>> ((1 : Int32).toUInt32 &&& Int32.toUInt32 31)).toInt32) &&& (1431655765 : Int32))).toUInt32 >>> ((2 : Int32).toUInt32 &&& Int32.toUInt32 31)).toInt32) &&& (858993459 : Int32))).toUInt32 >>> ((4 : Int32).toUInt32 &&& Int32.toUInt32 31)).toInt32)) &&& (252645135 : Int32)).toUInt32 >>> ((8 : Int32).toUInt32 &&& Int32.toUInt32 31)).toInt32)).toUInt32 >>> ((16 : Int32).toUInt32 &&& Int32.toUInt32 31)).toInt32)) &&& (63 : Int32)))) σ) : R O d mJ6_bitCount_0f7a4 Q 0 [some (iV x0)] [] σ := by
  refine r_iload_n dJ6_bitCount_0f7a4_0 rfl rfl ?_
  refine r_iload_n dJ6_bitCount_0f7a4_1 rfl rfl ?_
  refine r_iconst (v := (1 : Int32)) dJ6_bitCount_0f7a4_2 rfl ?_
  refine r_iushr (v := (x0.toUInt32 >>> ((1 : Int32).toUInt32 &&& Int32.toUInt32 31)).toInt32) dJ6_bitCount_0f7a4_3 rfl ?_
  refine r_ldcw (v := (1431655765 : Int32)) oJ6_265 dJ6_bitCount_0f7a4_4 ?_
  refine r_iand dJ6_bitCount_0f7a4_7 ?_
  refine r_isub dJ6_bitCount_0f7a4_8 ?_
  refine r_istore_n dJ6_bitCount_0f7a4_9 rfl (by decide) rfl ?_
  refine r_iload_n dJ6_bitCount_0f7a4_10 rfl rfl ?_
  refine r_ldcw (v := (858993459 : Int32)) oJ6_266 dJ6_bitCount_0f7a4_11 ?_
  refine r_iand dJ6_bitCount_0f7a4_14 ?_
  refine r_iload_n dJ6_bitCount_0f7a4_15 rfl rfl ?_
  refine r_iconst (v := (2 : Int32)) dJ6_bitCount_0f7a4_16 rfl ?_
  refine r_iushr (v := ((x0 - (((x0.toUInt32 >>> ((1 : Int32).toUInt32 &&& Int32.toUInt32 31)).toInt32) &&& (1431655765 : Int32))).toUInt32 >>> ((2 : Int32).toUInt32 &&& Int32.toUInt32 31)).toInt32) dJ6_bitCount_0f7a4_17 rfl ?_
  refine r_ldcw (v := (858993459 : Int32)) oJ6_266 dJ6_bitCount_0f7a4_18 ?_
  refine r_iand dJ6_bitCount_0f7a4_21 ?_
  refine r_iadd dJ6_bitCount_0f7a4_22 ?_
  refine r_istore_n dJ6_bitCount_0f7a4_23 rfl (by decide) rfl ?_
  refine r_iload_n dJ6_bitCount_0f7a4_24 rfl rfl ?_
  refine r_iload_n dJ6_bitCount_0f7a4_25 rfl rfl ?_
  refine r_iconst (v := (4 : Int32)) dJ6_bitCount_0f7a4_26 rfl ?_
  refine r_iushr (v := ((((x0 - (((x0.toUInt32 >>> ((1 : Int32).toUInt32 &&& Int32.toUInt32 31)).toInt32) &&& (1431655765 : Int32))) &&& (858993459 : Int32)) + ((((x0 - (((x0.toUInt32 >>> ((1 : Int32).toUInt32 &&& Int32.toUInt32 31)).toInt32) &&& (1431655765 : Int32))).toUInt32 >>> ((2 : Int32).toUInt32 &&& Int32.toUInt32 31)).toInt32) &&& (858993459 : Int32))).toUInt32 >>> ((4 : Int32).toUInt32 &&& Int32.toUInt32 31)).toInt32) dJ6_bitCount_0f7a4_27 rfl ?_
  refine r_iadd dJ6_bitCount_0f7a4_28 ?_
  refine r_ldcw (v := (252645135 : Int32)) oJ6_267 dJ6_bitCount_0f7a4_29 ?_
  refine r_iand dJ6_bitCount_0f7a4_32 ?_
  refine r_istore_n dJ6_bitCount_0f7a4_33 rfl (by decide) rfl ?_
  refine r_iload_n dJ6_bitCount_0f7a4_34 rfl rfl ?_
  refine r_iload_n dJ6_bitCount_0f7a4_35 rfl rfl ?_
  refine r_bipush (v := (8 : Int32)) dJ6_bitCount_0f7a4_36 rfl ?_
  refine r_iushr (v := ((((((x0 - (((x0.toUInt32 >>> ((1 : Int32).toUInt32 &&& Int32.toUInt32 31)).toInt32) &&& (1431655765 : Int32))) &&& (858993459 : Int32)) + ((((x0 - (((x0.toUInt32 >>> ((1 : Int32).toUInt32 &&& Int32.toUInt32 31)).toInt32) &&& (1431655765 : Int32))).toUInt32 >>> ((2 : Int32).toUInt32 &&& Int32.toUInt32 31)).toInt32) &&& (858993459 : Int32))) + (((((x0 - (((x0.toUInt32 >>> ((1 : Int32).toUInt32 &&& Int32.toUInt32 31)).toInt32) &&& (1431655765 : Int32))) &&& (858993459 : Int32)) + ((((x0 - (((x0.toUInt32 >>> ((1 : Int32).toUInt32 &&& Int32.toUInt32 31)).toInt32) &&& (1431655765 : Int32))).toUInt32 >>> ((2 : Int32).toUInt32 &&& Int32.toUInt32 31)).toInt32) &&& (858993459 : Int32))).toUInt32 >>> ((4 : Int32).toUInt32 &&& Int32.toUInt32 31)).toInt32)) &&& (252645135 : Int32)).toUInt32 >>> ((8 : Int32).toUInt32 &&& Int32.toUInt32 31)).toInt32) dJ6_bitCount_0f7a4_38 rfl ?_
  refine r_iadd dJ6_bitCount_0f7a4_39 ?_
  refine r_istore_n dJ6_bitCount_0f7a4_40 rfl (by decide) rfl ?_
  refine r_iload_n dJ6_bitCount_0f7a4_41 rfl rfl ?_
  refine r_iload_n dJ6_bitCount_0f7a4_42 rfl rfl ?_
  refine r_bipush (v := (16 : Int32)) dJ6_bitCount_0f7a4_43 rfl ?_
  refine r_iushr (v := (((((((x0 - (((x0.toUInt32 >>> ((1 : Int32).toUInt32 &&& Int32.toUInt32 31)).toInt32) &&& (1431655765 : Int32))) &&& (858993459 : Int32)) + ((((x0 - (((x0.toUInt32 >>> ((1 : Int32).toUInt32 &&& Int32.toUInt32 31)).toInt32) &&& (1431655765 : Int32))).toUInt32 >>> ((2 : Int32).toUInt32 &&& Int32.toUInt32 31)).toInt32) &&& (858993459 : Int32))) + (((((x0 - (((x0.toUInt32 >>> ((1 : Int32).toUInt32 &&& Int32.toUInt32 31)).toInt32) &&& (1431655765 : Int32))) &&& (858993459 : Int32)) + ((((x0 - (((x0.toUInt32 >>> ((1 : Int32).toUInt32 &&& Int32.toUInt32 31)).toInt32) &&& (1431655765 : Int32))).toUInt32 >>> ((2 : Int32).toUInt32 &&& Int32.toUInt32 31)).toInt32) &&& (858993459 : Int32))).toUInt32 >>> ((4 : Int32).toUInt32 &&& Int32.toUInt32 31)).toInt32)) &&& (252645135 : Int32)) + (((((((x0 - (((x0.toUInt32 >>> ((1 : Int32).toUInt32 &&& Int32.toUInt32 31)).toInt32) &&& (1431655765 : Int32))) &&& (858993459 : Int32)) + ((((x0 - (((x0.toUInt32 >>> ((1 : Int32).toUInt32 &&& Int32.toUInt32 31)).toInt32) &&& (1431655765 : Int32))).toUInt32 >>> ((2 : Int32).toUInt32 &&& Int32.toUInt32 31)).toInt32) &&& (858993459 : Int32))) + (((((x0 - (((x0.toUInt32 >>> ((1 : Int32).toUInt32 &&& Int32.toUInt32 31)).toInt32) &&& (1431655765 : Int32))) &&& (858993459 : Int32)) + ((((x0 - (((x0.toUInt32 >>> ((1 : Int32).toUInt32 &&& Int32.toUInt32 31)).toInt32) &&& (1431655765 : Int32))).toUInt32 >>> ((2 : Int32).toUInt32 &&& Int32.toUInt32 31)).toInt32) &&& (858993459 : Int32))).toUInt32 >>> ((4 : Int32).toUInt32 &&& Int32.toUInt32 31)).toInt32)) &&& (252645135 : Int32)).toUInt32 >>> ((8 : Int32).toUInt32 &&& Int32.toUInt32 31)).toInt32)).toUInt32 >>> ((16 : Int32).toUInt32 &&& Int32.toUInt32 31)).toInt32) dJ6_bitCount_0f7a4_45 rfl ?_
  refine r_iadd dJ6_bitCount_0f7a4_46 ?_
  refine r_istore_n dJ6_bitCount_0f7a4_47 rfl (by decide) rfl ?_
  refine r_iload_n dJ6_bitCount_0f7a4_48 rfl rfl ?_
  refine r_bipush (v := (63 : Int32)) dJ6_bitCount_0f7a4_49 rfl ?_
  refine r_iand dJ6_bitCount_0f7a4_51 ?_
  exact r_iret dJ6_bitCount_0f7a4_52 rfl H
