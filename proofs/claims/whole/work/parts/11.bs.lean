set_option maxRecDepth 100000 in
theorem bX10_feed_0 {d : Nat} {Q : Option MV → MS → Prop} {x1 : Int32} {x2 : Int32} {x3 : Int32} {x4 : Int32} {x5 : Int32} {σ : MS}  (H : (R mj_OC d mX9_hasRoom (fun r σ' => R mj_OC (d + 1) mX10_feed Q 14 [some (rV 0 0), some (iV x1), some (iV x2), some (iV x3), some (iV x4), some (iV x5), some (rV 2 0)] (r.toList ++ []) σ') 0 [some (rV 2 0)] [] σ)) : R mj_OC (d + 1) mX10_feed Q 0 [some (rV 0 0), some (iV x1), some (iV x2), some (iV x3), some (iV x4), some (iV x5), none] [] σ := by
  refine r_aload_n dX10_feed_0 rfl rfl ?_
  refine r_get (k := 0) (i := 0) (j := 0) (v := rV 1 0) rfl rfl ho0 rfl hX10 (by decide) rfl fX10_12 dX10_feed_1 (fun _ => rfl) ?_
  refine r_get (k := 1) (i := 0) (j := 0) (v := rV 2 0) rfl rfl ho1 rfl hX7 (by decide) rfl fX10_76 dX10_feed_4 (fun _ => rfl) ?_
  refine r_astore dX10_feed_7 (by decide) rfl ?_
  refine r_aload dX10_feed_9 rfl ?_
  refine r_callV (z := 0) (k := 2) (i := 0) (As := []) (st := []) kX9_hasRoom i_X9_hasRoom e_X9_hasRoom lX10_80 dX10_feed_11 rfl rfl ho2 rfl rfl rfl rfl rfl (Nat.le_of_ble_eq_true rfl) ?_
  exact H
set_option maxRecDepth 100000 in
theorem bX10_feed_14 {d : Nat} {Q : Option MV → MS → Prop} {x1 : Int32} {x2 : Int32} {x3 : Int32} {x4 : Int32} {x5 : Int32} {s0 : Int32} {σ : MS}  (H : ((¬ s0 = 0 → (R mj_OC d mX9_append (fun r σ' => R mj_OC (d + 1) mX10_feed Q 25 [some (rV 0 0), some (iV x1), some (iV x2), some (iV x3), some (iV x4), some (iV x5), some (rV 2 0)] (r.toList ++ []) σ') 0 [some (rV 2 0), some (iV x1), none] [] σ)) ∧ (s0 = 0 → Q (some (iV (-1 : Int32))) σ))) : R mj_OC (d + 1) mX10_feed Q 14 [some (rV 0 0), some (iV x1), some (iV x2), some (iV x3), some (iV x4), some (iV x5), some (rV 2 0)] [iV s0] σ := by
  refine r_if_ne (tgt := 19) dX10_feed_14 (by decide) (fun c => ?_) (fun c => ?_)
  · have H := H.1 c
    refine r_aload dX10_feed_19 rfl ?_
    refine r_iload_n dX10_feed_21 rfl rfl ?_
    refine r_callV (z := 1) (k := 2) (i := 0) (As := [iV x1]) (st := []) kX9_append i_X9_append e_X9_append lX10_86 dX10_feed_22 rfl rfl ho2 rfl rfl rfl rfl rfl (Nat.le_of_ble_eq_true rfl) ?_
    exact H
  · have H := H.2 c
    refine r_iconst (v := (-1 : Int32)) dX10_feed_17 rfl ?_
    exact r_iret dX10_feed_18 rfl H
set_option maxRecDepth 100000 in
theorem bX10_feed_25 {d : Nat} {Q : Option MV → MS → Prop} {x1 : Int32} {x2 : Int32} {x3 : Int32} {x4 : Int32} {x5 : Int32} {σ : MS}  (H : (R mj_OC d mX9_append (fun r σ' => R mj_OC (d + 1) mX10_feed Q 31 [some (rV 0 0), some (iV x1), some (iV x2), some (iV x3), some (iV x4), some (iV x5), some (rV 2 0)] (r.toList ++ []) σ') 0 [some (rV 2 0), some (iV x2), none] [] σ)) : R mj_OC (d + 1) mX10_feed Q 25 [some (rV 0 0), some (iV x1), some (iV x2), some (iV x3), some (iV x4), some (iV x5), some (rV 2 0)] [] σ := by
  refine r_aload dX10_feed_25 rfl ?_
  refine r_iload_n dX10_feed_27 rfl rfl ?_
  refine r_callV (z := 1) (k := 2) (i := 0) (As := [iV x2]) (st := []) kX9_append i_X9_append e_X9_append lX10_86 dX10_feed_28 rfl rfl ho2 rfl rfl rfl rfl rfl (Nat.le_of_ble_eq_true rfl) ?_
  exact H
set_option maxRecDepth 100000 in
theorem bX10_feed_31 {d : Nat} {Q : Option MV → MS → Prop} {x1 : Int32} {x2 : Int32} {x3 : Int32} {x4 : Int32} {x5 : Int32} {σ : MS}  (H : (R mj_OC d mX9_append (fun r σ' => R mj_OC (d + 1) mX10_feed Q 37 [some (rV 0 0), some (iV x1), some (iV x2), some (iV x3), some (iV x4), some (iV x5), some (rV 2 0)] (r.toList ++ []) σ') 0 [some (rV 2 0), some (iV x3), none] [] σ)) : R mj_OC (d + 1) mX10_feed Q 31 [some (rV 0 0), some (iV x1), some (iV x2), some (iV x3), some (iV x4), some (iV x5), some (rV 2 0)] [] σ := by
  refine r_aload dX10_feed_31 rfl ?_
  refine r_iload_n dX10_feed_33 rfl rfl ?_
  refine r_callV (z := 1) (k := 2) (i := 0) (As := [iV x3]) (st := []) kX9_append i_X9_append e_X9_append lX10_86 dX10_feed_34 rfl rfl ho2 rfl rfl rfl rfl rfl (Nat.le_of_ble_eq_true rfl) ?_
  exact H
set_option maxRecDepth 100000 in
theorem bX10_feed_37 {d : Nat} {Q : Option MV → MS → Prop} {x1 : Int32} {x2 : Int32} {x3 : Int32} {x4 : Int32} {x5 : Int32} {σ : MS}  (H : (R mj_OC d mX9_append (fun r σ' => R mj_OC (d + 1) mX10_feed Q 44 [some (rV 0 0), some (iV x1), some (iV x2), some (iV x3), some (iV x4), some (iV x5), some (rV 2 0)] (r.toList ++ []) σ') 0 [some (rV 2 0), some (iV x4), none] [] σ)) : R mj_OC (d + 1) mX10_feed Q 37 [some (rV 0 0), some (iV x1), some (iV x2), some (iV x3), some (iV x4), some (iV x5), some (rV 2 0)] [] σ := by
  refine r_aload dX10_feed_37 rfl ?_
  refine r_iload dX10_feed_39 rfl ?_
  refine r_callV (z := 1) (k := 2) (i := 0) (As := [iV x4]) (st := []) kX9_append i_X9_append e_X9_append lX10_86 dX10_feed_41 rfl rfl ho2 rfl rfl rfl rfl rfl (Nat.le_of_ble_eq_true rfl) ?_
  exact H
set_option maxRecDepth 100000 in
theorem bX10_feed_44 {d : Nat} {Q : Option MV → MS → Prop} {x1 : Int32} {x2 : Int32} {x3 : Int32} {x4 : Int32} {x5 : Int32} {σ : MS}  (H : (R mj_OC d mX9_append (fun r σ' => R mj_OC (d + 1) mX10_feed Q 51 [some (rV 0 0), some (iV x1), some (iV x2), some (iV x3), some (iV x4), some (iV x5), some (rV 2 0)] (r.toList ++ []) σ') 0 [some (rV 2 0), some (iV x5), none] [] σ)) : R mj_OC (d + 1) mX10_feed Q 44 [some (rV 0 0), some (iV x1), some (iV x2), some (iV x3), some (iV x4), some (iV x5), some (rV 2 0)] [] σ := by
  refine r_aload dX10_feed_44 rfl ?_
  refine r_iload dX10_feed_46 rfl ?_
  refine r_callV (z := 1) (k := 2) (i := 0) (As := [iV x5]) (st := []) kX9_append i_X9_append e_X9_append lX10_86 dX10_feed_48 rfl rfl ho2 rfl rfl rfl rfl rfl (Nat.le_of_ble_eq_true rfl) ?_
  exact H
set_option maxRecDepth 100000 in
theorem bX10_feed_51 {d : Nat} {Q : Option MV → MS → Prop} {x1 : Int32} {x2 : Int32} {x3 : Int32} {x4 : Int32} {x5 : Int32} {σ : MS}  (H : Q (some (iV (σ.1 2 0 0))) σ) : R mj_OC d mX10_feed Q 51 [some (rV 0 0), some (iV x1), some (iV x2), some (iV x3), some (iV x4), some (iV x5), some (rV 2 0)] [] σ := by
  refine r_aload dX10_feed_51 rfl ?_
  refine r_get (k := 2) (i := 0) (j := 0) (v := iV (σ.1 2 0 0)) rfl rfl ho2 rfl hX9 (by decide) rfl fX10_90 dX10_feed_53 (fun _ => rfl) ?_
  exact r_iret dX10_feed_56 rfl H
set_option maxRecDepth 100000 in
theorem bX10_text_0 {d : Nat} {Q : Option MV → MS → Prop} {x1 : Int32} {σ : MS}  (H : ((x1 < 0 → Q (some (iV (-2 : Int32))) σ) ∧ (¬ x1 < 0 → ((x1 ≤ (σ.1 2 0 0) → (R mj_OC d mX7_read (fun r σ' => R mj_OC (d + 1) mX10_text Q 29 [some (rV 0 0), some (iV x1), none] (r.toList ++ []) σ') 0 [some (rV 1 0), some (iV x1), none] [] σ)) ∧ (¬ x1 ≤ (σ.1 2 0 0) → Q (some (iV (-2 : Int32))) σ))))) : R mj_OC (d + 1) mX10_text Q 0 [some (rV 0 0), some (iV x1), none] [] σ := by
  refine r_iload_n dX10_text_0 rfl rfl ?_
  refine r_if_lt (tgt := 18) dX10_text_1 (by decide) (fun c => ?_) (fun c => ?_)
  · have H := H.1 c
    refine r_bipush (v := (-2 : Int32)) dX10_text_18 rfl ?_
    exact r_iret dX10_text_20 rfl H
  · have H := H.2 c
    refine r_iload_n dX10_text_4 rfl rfl ?_
    refine r_aload_n dX10_text_5 rfl rfl ?_
    refine r_get (k := 0) (i := 0) (j := 0) (v := rV 1 0) rfl rfl ho0 rfl hX10 (by decide) rfl fX10_12 dX10_text_6 (fun _ => rfl) ?_
    refine r_get (k := 1) (i := 0) (j := 0) (v := rV 2 0) rfl rfl ho1 rfl hX7 (by decide) rfl fX10_76 dX10_text_9 (fun _ => rfl) ?_
    refine r_get (k := 2) (i := 0) (j := 0) (v := iV (σ.1 2 0 0)) rfl rfl ho2 rfl hX9 (by decide) rfl fX10_90 dX10_text_12 (fun _ => rfl) ?_
    refine r_icmp_le (tgt := 21) dX10_text_15 (by decide) (fun c => ?_) (fun c => ?_)
    · have H := H.1 c
      refine r_aload_n dX10_text_21 rfl rfl ?_
      refine r_get (k := 0) (i := 0) (j := 0) (v := rV 1 0) rfl rfl ho0 rfl hX10 (by decide) rfl fX10_12 dX10_text_22 (fun _ => rfl) ?_
      refine r_iload_n dX10_text_25 rfl rfl ?_
      refine r_callV (z := 1) (k := 1) (i := 0) (As := [iV x1]) (st := []) kX7_read i_X7_read e_X7_read lX10_93 dX10_text_26 rfl rfl ho1 rfl rfl rfl rfl rfl (Nat.le_of_ble_eq_true rfl) ?_
      exact H
    · have H := H.2 c
      refine r_bipush (v := (-2 : Int32)) dX10_text_18 rfl ?_
      exact r_iret dX10_text_20 rfl H
set_option maxRecDepth 100000 in
theorem bX10_text_29 {d : Nat} {Q : Option MV → MS → Prop} {x1 : Int32} {σ : MS}  (H : (((σ.1 1 0 2) = 0 → (R mj_OC d mX8_begin (fun r σ' => R mj_OC (d + 1) mX10_text Q 95 [some (rV 0 0), some (iV x1), some (rV 3 (σ.2.2 1 0))] (r.toList ++ []) σ') 0 [some (rV 6 0), some (rV 3 ((uC (uC (uI (uI σ 0 0 11 (σ.1 1 0 2)) 0 0 12 (σ.1 1 0 3)) 1 0 (σ.2.2 0 0)) 0 0 (σ.2.2 1 0)).2.2 0 0)), none] [] (uC (uC (uI (uI σ 0 0 11 (σ.1 1 0 2)) 0 0 12 (σ.1 1 0 3)) 1 0 (σ.2.2 0 0)) 0 0 (σ.2.2 1 0)))) ∧ (¬ (σ.1 1 0 2) = 0 → Q (some (iV (-1 : Int32))) (uI (uI σ 0 0 11 (σ.1 1 0 2)) 0 0 12 (σ.1 1 0 3))))) : R mj_OC (d + 1) mX10_text Q 29 [some (rV 0 0), some (iV x1), none] [] σ := by
  refine r_aload_n dX10_text_29 rfl rfl ?_
  refine r_aload_n dX10_text_30 rfl rfl ?_
  refine r_get (k := 0) (i := 0) (j := 0) (v := rV 1 0) rfl rfl ho0 rfl hX10 (by decide) rfl fX10_12 dX10_text_31 (fun _ => rfl) ?_
  refine r_get (k := 1) (i := 0) (j := 2) (v := iV (σ.1 1 0 2)) rfl rfl ho1 rfl hX7 (by decide) rfl fX10_96 dX10_text_34 (fun _ => rfl) ?_
  refine r_putI (k := 0) (i := 0) (j := 11) (ty0 := tyX10) rfl rfl ho0 rfl hX10 (by decide) rfl fX10_99 dX10_text_37 rfl tyX10_ok nmX10 rfl rfl rfl ?_
  refine r_aload_n dX10_text_40 rfl rfl ?_
  refine r_aload_n dX10_text_41 rfl rfl ?_
  refine r_get (k := 0) (i := 0) (j := 0) (v := rV 1 0) rfl rfl ho0 rfl hX10 (by decide) rfl fX10_12 dX10_text_42 (fun _ => rfl) ?_
  refine r_get (k := 1) (i := 0) (j := 3) (v := iV (σ.1 1 0 3)) rfl rfl ho1 rfl hX7 (by decide) rfl fX10_102 dX10_text_45 (fun _ => rfl) ?_
  refine r_putI (k := 0) (i := 0) (j := 12) (ty0 := tyX10) rfl rfl ho0 rfl hX10 (by decide) rfl fX10_72 dX10_text_48 rfl tyX10_ok nmX10 rfl rfl rfl ?_
  refine r_aload_n dX10_text_51 rfl rfl ?_
  refine r_get (k := 0) (i := 0) (j := 11) (v := iV (σ.1 1 0 2)) rfl rfl ho0 rfl hX10 (by decide) rfl fX10_99 dX10_text_52 (fun _ => rfl) ?_
  refine r_if_eq (tgt := 60) dX10_text_55 (by decide) (fun c => ?_) (fun c => ?_)
  · have H := H.1 c
    refine r_aload_n dX10_text_60 rfl rfl ?_
    refine r_get (k := 0) (i := 0) (j := 0) (v := rV 1 0) rfl rfl ho0 rfl hX10 (by decide) rfl fX10_12 dX10_text_61 (fun _ => rfl) ?_
    refine r_get (k := 1) (i := 0) (j := 1) (v := rV 3 (σ.2.2 1 0)) rfl rfl ho1 rfl hX7 (by decide) rfl fX10_105 dX10_text_64 (fun _ => rfl) ?_
    refine r_astore_n dX10_text_67 rfl (by decide) rfl ?_
    refine r_aload_n dX10_text_68 rfl rfl ?_
    refine r_get (k := 0) (i := 0) (j := 0) (v := rV 1 0) rfl rfl ho0 rfl hX10 (by decide) rfl fX10_12 dX10_text_69 (fun _ => rfl) ?_
    refine r_aload_n dX10_text_72 rfl rfl ?_
    refine r_get (k := 0) (i := 0) (j := 9) (v := rV 3 (σ.2.2 0 0)) rfl rfl ho0 rfl hX10 (by decide) rfl fX10_21 dX10_text_73 (fun _ => rfl) ?_
    refine r_putC (k := 1) (i := 0) (j := 1) (ty0 := tyX7) rfl rfl ho1 rfl hX7 (by decide) rfl fX10_105 dX10_text_76 rfl (mj_one3 1 rfl) tyX7_ok nmX7 rfl rfl ?_
    refine r_aload_n dX10_text_79 rfl rfl ?_
    refine r_aload_n dX10_text_80 rfl rfl ?_
    refine r_putC (k := 0) (i := 0) (j := 9) (ty0 := tyX10) rfl rfl ho0 rfl hX10 (by decide) rfl fX10_21 dX10_text_81 rfl (mj_one3 9 rfl) tyX10_ok nmX10 rfl rfl ?_
    refine r_aload_n dX10_text_84 rfl rfl ?_
    refine r_get (k := 0) (i := 0) (j := 1) (v := rV 6 0) rfl rfl ho0 rfl hX10 (by decide) rfl fX10_30 dX10_text_85 (fun _ => rfl) ?_
    refine r_aload_n dX10_text_88 rfl rfl ?_
    refine r_get (k := 0) (i := 0) (j := 9) (v := rV 3 ((uC (uC (uI (uI σ 0 0 11 (σ.1 1 0 2)) 0 0 12 (σ.1 1 0 3)) 1 0 (σ.2.2 0 0)) 0 0 (σ.2.2 1 0)).2.2 0 0)) rfl rfl ho0 rfl hX10 (by decide) rfl fX10_21 dX10_text_89 (fun _ => rfl) ?_
    refine r_callV (z := 1) (k := 6) (i := 0) (As := [rV 3 ((uC (uC (uI (uI σ 0 0 11 (σ.1 1 0 2)) 0 0 12 (σ.1 1 0 3)) 1 0 (σ.2.2 0 0)) 0 0 (σ.2.2 1 0)).2.2 0 0)]) (st := []) kX8_begin i_X8_begin e_X8_begin lX10_106 dX10_text_92 rfl rfl (ho6 (by decide)) rfl rfl rfl rfl rfl (Nat.le_of_ble_eq_true rfl) ?_
    exact H
  · have H := H.2 c
    refine r_iconst (v := (-1 : Int32)) dX10_text_58 rfl ?_
    exact r_iret dX10_text_59 rfl H
set_option maxRecDepth 100000 in
theorem bX10_text_95 {d : Nat} {Q : Option MV → MS → Prop} {x1 : Int32} {u2 : Nat} {σ : MS} (hu2 : u2 < 2) (H : (R mj_OC d mX1_clear (fun r σ' => R mj_OC (d + 1) mX10_text Q 107 [some (rV 0 0), some (iV x1), some (rV 3 u2)] (r.toList ++ []) σ') 0 [some (rV 9 0)] [] (uI σ 0 0 10 (0 : Int32)))) : R mj_OC (d + 1) mX10_text Q 95 [some (rV 0 0), some (iV x1), some (rV 3 u2)] [] σ := by
  refine r_aload_n dX10_text_95 rfl rfl ?_
  refine r_iconst (v := (0 : Int32)) dX10_text_96 rfl ?_
  refine r_putI (k := 0) (i := 0) (j := 10) (ty0 := tyX10) rfl rfl ho0 rfl hX10 (by decide) rfl fX10_109 dX10_text_97 rfl tyX10_ok nmX10 rfl (by decide) (by decide) ?_
  refine r_aload_n dX10_text_100 rfl rfl ?_
  refine r_get (k := 0) (i := 0) (j := 6) (v := rV 9 0) rfl rfl ho0 rfl hX10 (by decide) rfl fX10_57 dX10_text_101 (fun _ => rfl) ?_
  refine r_callV (z := 0) (k := 9) (i := 0) (As := []) (st := []) kX1_clear i_X1_clear e_X1_clear lX10_113 dX10_text_104 rfl rfl ho9 rfl rfl rfl rfl rfl (Nat.le_of_ble_eq_true rfl) ?_
  exact H
set_option maxRecDepth 100000 in
theorem bX10_text_107 {d : Nat} {Q : Option MV → MS → Prop} {x1 : Int32} {u2 : Nat} {σ : MS} (hu2 : u2 < 2) (H : (R mj_OC d mX2_clear (fun r σ' => R mj_OC (d + 1) mX10_text Q 114 [some (rV 0 0), some (iV x1), some (rV 3 u2)] (r.toList ++ []) σ') 0 [some (rV 10 0)] [] σ)) : R mj_OC (d + 1) mX10_text Q 107 [some (rV 0 0), some (iV x1), some (rV 3 u2)] [] σ := by
  refine r_aload_n dX10_text_107 rfl rfl ?_
  refine r_get (k := 0) (i := 0) (j := 7) (v := rV 10 0) rfl rfl ho0 rfl hX10 (by decide) rfl fX10_64 dX10_text_108 (fun _ => rfl) ?_
  refine r_callV (z := 0) (k := 10) (i := 0) (As := []) (st := []) kX2_clear i_X2_clear e_X2_clear lX10_116 dX10_text_111 rfl rfl ho10 rfl rfl rfl rfl rfl (Nat.le_of_ble_eq_true rfl) ?_
  exact H
set_option maxRecDepth 100000 in
theorem bX10_text_114 {d : Nat} {Q : Option MV → MS → Prop} {x1 : Int32} {u2 : Nat} {σ : MS} (hu2 : u2 < 2) (H : Q (some (iV (σ.1 1 0 4))) σ) : R mj_OC d mX10_text Q 114 [some (rV 0 0), some (iV x1), some (rV 3 u2)] [] σ := by
  refine r_aload_n dX10_text_114 rfl rfl ?_
  refine r_get (k := 0) (i := 0) (j := 0) (v := rV 1 0) rfl rfl ho0 rfl hX10 (by decide) rfl fX10_12 dX10_text_115 (fun _ => rfl) ?_
  refine r_get (k := 1) (i := 0) (j := 4) (v := iV (σ.1 1 0 4)) rfl rfl ho1 rfl hX7 (by decide) rfl fX10_117 dX10_text_118 (fun _ => rfl) ?_
  exact r_iret dX10_text_121 rfl H
set_option maxRecDepth 100000 in
theorem bX10_fault_0 {d : Nat} {Q : Option MV → MS → Prop} {x1 : Int32} {σ : MS}  (H : ((x1 = 0 → Q (some (iV (σ.1 0 0 11))) σ) ∧ (¬ x1 = 0 → ((x1 = 1 → Q (some (iV (σ.1 0 0 12))) σ) ∧ (¬ x1 = 1 → Q (some (iV (-1 : Int32))) σ))))) : R mj_OC d mX10_fault Q 0 [some (rV 0 0), some (iV x1)] [] σ := by
  refine r_iload_n dX10_fault_0 rfl rfl ?_
  by_cases c0 : x1 = 0
  · have H := H.1 c0
    refine r_lookup (tgt := 28) (off := 27) dX10_fault_1 (by decide) (by rw [c0]; rfl) (by decide) ?_
    refine r_aload_n dX10_fault_28 rfl rfl ?_
    refine r_get (k := 0) (i := 0) (j := 11) (v := iV (σ.1 0 0 11)) rfl rfl ho0 rfl hX10 (by decide) rfl fX10_99 dX10_fault_29 (fun _ => rfl) ?_
    exact r_iret dX10_fault_32 rfl H
  replace H := H.2 c0
  by_cases c1 : x1 = 1
  · have H := H.1 c1
    refine r_lookup (tgt := 33) (off := 32) dX10_fault_1 (by decide) (by rw [c1]; rfl) (by decide) ?_
    refine r_aload_n dX10_fault_33 rfl rfl ?_
    refine r_get (k := 0) (i := 0) (j := 12) (v := iV (σ.1 0 0 12)) rfl rfl ho0 rfl hX10 (by decide) rfl fX10_72 dX10_fault_34 (fun _ => rfl) ?_
    exact r_iret dX10_fault_37 rfl H
  replace H := H.2 c1
  refine r_lookup (tgt := 38) (off := 37) dX10_fault_1 (by decide) ((lv_osw c0 (by decide)).trans ((lv_osw c1 (by decide)).trans rfl)) (by decide) ?_
  refine r_iconst (v := (-1 : Int32)) dX10_fault_38 rfl ?_
  exact r_iret dX10_fault_39 rfl H
set_option maxRecDepth 100000 in
theorem bX10_named_0 {d : Nat} {Q : Option MV → MS → Prop} {x1 : Int32} {σ : MS}  (H : (σ.2.2 0 0 < 2 ∧ (R mj_OC d mX0_pondNamed (fun r σ' => R mj_OC (d + 1) mX10_named Q 8 [some (rV 0 0), some (iV x1)] (r.toList ++ []) σ') 0 [some (rV 3 (σ.2.2 0 0)), some (iV x1), none] [] σ))) : R mj_OC (d + 1) mX10_named Q 0 [some (rV 0 0), some (iV x1)] [] σ := by
  refine r_aload_n dX10_named_0 rfl rfl ?_
  refine r_get (k := 0) (i := 0) (j := 9) (v := rV 3 (σ.2.2 0 0)) rfl rfl ho0 rfl hX10 (by decide) rfl fX10_21 dX10_named_1 (fun _ => rfl) ?_
  refine r_iload_n dX10_named_4 rfl rfl ?_
  obtain ⟨q1, H⟩ := H
  refine r_callV (z := 1) (k := 3) (i := (σ.2.2 0 0)) (As := [iV x1]) (st := []) kX0_pondNamed i_X0_pondNamed e_X0_pondNamed lX10_120 dX10_named_5 rfl rfl (ho3 q1) rfl rfl rfl rfl rfl (Nat.le_of_ble_eq_true rfl) ?_
  exact H
set_option maxRecDepth 100000 in
theorem bX10_named_8 {d : Nat} {Q : Option MV → MS → Prop} {x1 : Int32} {s0 : Int32} {σ : MS}  (H : Q (some (iV s0)) σ) : R mj_OC d mX10_named Q 8 [some (rV 0 0), some (iV x1)] [iV s0] σ := by
  exact r_iret dX10_named_8 rfl H
set_option maxRecDepth 100000 in
theorem bX10_level_0 {d : Nat} {Q : Option MV → MS → Prop} {x1 : Int32} {x2 : Int32} {σ : MS}  (H : (R mj_OC d mX10_isPond (fun r σ' => R mj_OC (d + 1) mX10_level Q 5 [some (rV 0 0), some (iV x1), some (iV x2)] (r.toList ++ []) σ') 0 [some (rV 0 0), some (iV x1)] [] σ)) : R mj_OC (d + 1) mX10_level Q 0 [some (rV 0 0), some (iV x1), some (iV x2)] [] σ := by
  refine r_aload_n dX10_level_0 rfl rfl ?_
  refine r_iload_n dX10_level_1 rfl rfl ?_
  refine r_callV (z := 0) (k := 0) (i := 0) (As := [iV x1]) (st := []) kX10_isPond i_X10_isPond e_X10_isPond lX10_124 dX10_level_2 rfl rfl ho0 rfl rfl rfl rfl rfl (Nat.le_of_ble_eq_true rfl) ?_
  exact H
set_option maxRecDepth 100000 in
theorem bX10_level_5 {d : Nat} {Q : Option MV → MS → Prop} {x1 : Int32} {x2 : Int32} {s0 : Int32} {σ : MS}  (H : ((s0 = 0 → Q (some (iV (-1 : Int32))) σ) ∧ (¬ s0 = 0 → (R mj_OC d mX10_isHalf (fun r σ' => R mj_OC (d + 1) mX10_level Q 12 [some (rV 0 0), some (iV x1), some (iV x2)] (r.toList ++ []) σ') 0 [some (iV x2)] [] σ)))) : R mj_OC (d + 1) mX10_level Q 5 [some (rV 0 0), some (iV x1), some (iV x2)] [iV s0] σ := by
  refine r_if_eq (tgt := 15) dX10_level_5 (by decide) (fun c => ?_) (fun c => ?_)
  · have H := H.1 c
    refine r_iconst (v := (-1 : Int32)) dX10_level_15 rfl ?_
    exact r_iret dX10_level_16 rfl H
  · have H := H.2 c
    refine r_iload_n dX10_level_8 rfl rfl ?_
    refine r_callS (z := 0) (As := [iV x2]) (st := []) kX10_isHalf s_X10_isHalf lX10_164 dX10_level_9 rfl rfl rfl rfl (Nat.le_of_ble_eq_true rfl) ?_
    exact H
set_option maxRecDepth 100000 in
theorem bX10_level_12 {d : Nat} {Q : Option MV → MS → Prop} {x1 : Int32} {x2 : Int32} {s0 : Int32} {σ : MS}  (H : ((¬ s0 = 0 → (R mj_OC d mX8_raised (fun r σ' => R mj_OC (d + 1) mX10_level Q 25 [some (rV 0 0), some (iV x1), some (iV x2)] (r.toList ++ []) σ') 0 [some (rV 6 0), some (iV x1)] [] σ)) ∧ (s0 = 0 → Q (some (iV (-1 : Int32))) σ))) : R mj_OC (d + 1) mX10_level Q 12 [some (rV 0 0), some (iV x1), some (iV x2)] [iV s0] σ := by
  refine r_if_ne (tgt := 17) dX10_level_12 (by decide) (fun c => ?_) (fun c => ?_)
  · have H := H.1 c
    refine r_aload_n dX10_level_17 rfl rfl ?_
    refine r_get (k := 0) (i := 0) (j := 1) (v := rV 6 0) rfl rfl ho0 rfl hX10 (by decide) rfl fX10_30 dX10_level_18 (fun _ => rfl) ?_
    refine r_iload_n dX10_level_21 rfl rfl ?_
    refine r_callV (z := 0) (k := 6) (i := 0) (As := [iV x1]) (st := []) kX8_raised i_X8_raised e_X8_raised lX10_167 dX10_level_22 rfl rfl (ho6 (by decide)) rfl rfl rfl rfl rfl (Nat.le_of_ble_eq_true rfl) ?_
    exact H
  · have H := H.2 c
    refine r_iconst (v := (-1 : Int32)) dX10_level_15 rfl ?_
    exact r_iret dX10_level_16 rfl H
set_option maxRecDepth 100000 in
theorem bX10_level_25 {d : Nat} {Q : Option MV → MS → Prop} {x1 : Int32} {x2 : Int32} {s0 : Int32} {σ : MS}  (H : (σ.2.2 0 0 < 2 ∧ vp_in x1 7 ∧ (R mj_OC d mX10_inLeastTerms (fun r σ' => R mj_OC (d + 1) mX10_level Q 40 [some (rV 0 0), some (iV x1), some (iV x2)] (r.toList ++ []) σ') 0 [some (lV s0.toInt64), none, some (lV ((σ.1 17 (σ.2.2 0 0) ((x1).toNatClampNeg)).toInt64)), none, some (iV x2), none, none, none, none, none, none, none] [] σ))) : R mj_OC (d + 1) mX10_level Q 25 [some (rV 0 0), some (iV x1), some (iV x2)] [iV s0] σ := by
  refine r_i2l (v := s0.toInt64) dX10_level_25 rfl ?_
  refine r_aload_n dX10_level_26 rfl rfl ?_
  refine r_get (k := 0) (i := 0) (j := 9) (v := rV 3 (σ.2.2 0 0)) rfl rfl ho0 rfl hX10 (by decide) rfl fX10_21 dX10_level_27 (fun _ => rfl) ?_
  obtain ⟨q1, H⟩ := H
  refine r_get (k := 3) (i := (σ.2.2 0 0)) (j := 2) (v := rV 17 (σ.2.2 0 0)) rfl rfl (ho3 q1) rfl hX0 (by decide) rfl fX10_135 dX10_level_30 (fun _ => rfl) ?_
  refine r_iload_n dX10_level_33 rfl rfl ?_
  obtain ⟨q2, H⟩ := H
  refine r_iald (k := 17) (i := (σ.2.2 0 0)) rfl (ho17 q1) q2 dX10_level_34 ?_
  refine r_i2l (v := (σ.1 17 (σ.2.2 0 0) ((x1).toNatClampNeg)).toInt64) dX10_level_35 rfl ?_
  refine r_iload_n dX10_level_36 rfl rfl ?_
  refine r_callS (z := 7) (As := [lV s0.toInt64, lV ((σ.1 17 (σ.2.2 0 0) ((x1).toNatClampNeg)).toInt64), iV x2]) (st := []) kX10_inLeastTerms s_X10_inLeastTerms lX10_170 dX10_level_37 rfl rfl rfl rfl (Nat.le_of_ble_eq_true rfl) ?_
  exact H
set_option maxRecDepth 100000 in
theorem bX10_level_40 {d : Nat} {Q : Option MV → MS → Prop} {x1 : Int32} {x2 : Int32} {s0 : Int64} {σ : MS}  (H : Q (some (iV s0.toInt32)) σ) : R mj_OC d mX10_level Q 40 [some (rV 0 0), some (iV x1), some (iV x2)] [lV s0] σ := by
  refine r_l2i (v := s0.toInt32) dX10_level_40 rfl ?_
  exact r_iret dX10_level_41 rfl H
set_option maxRecDepth 100000 in
theorem bX10_pipe_0 {d : Nat} {Q : Option MV → MS → Prop} {x1 : Int32} {x2 : Int32} {σ : MS}  (H : (R mj_OC d mX10_isPipe (fun r σ' => R mj_OC (d + 1) mX10_pipe Q 5 [some (rV 0 0), some (iV x1), some (iV x2)] (r.toList ++ []) σ') 0 [some (rV 0 0), some (iV x1)] [] σ)) : R mj_OC (d + 1) mX10_pipe Q 0 [some (rV 0 0), some (iV x1), some (iV x2)] [] σ := by
  refine r_aload_n dX10_pipe_0 rfl rfl ?_
  refine r_iload_n dX10_pipe_1 rfl rfl ?_
  refine r_callV (z := 0) (k := 0) (i := 0) (As := [iV x1]) (st := []) kX10_isPipe i_X10_isPipe e_X10_isPipe lX10_174 dX10_pipe_2 rfl rfl ho0 rfl rfl rfl rfl rfl (Nat.le_of_ble_eq_true rfl) ?_
  exact H
set_option maxRecDepth 100000 in
theorem bX10_pipe_5 {d : Nat} {Q : Option MV → MS → Prop} {x1 : Int32} {x2 : Int32} {s0 : Int32} {σ : MS}  (H : ((¬ s0 = 0 → ((x2 = 0 → (σ.2.2 0 0 < 2 ∧ vp_in x1 10 ∧ Q (some (iV (σ.1 21 (σ.2.2 0 0) ((x1).toNatClampNeg)))) σ)) ∧ (¬ x2 = 0 → ((x2 = 1 → (σ.2.2 0 0 < 2 ∧ vp_in x1 10 ∧ Q (some (iV (σ.1 22 (σ.2.2 0 0) ((x1).toNatClampNeg)))) σ)) ∧ (¬ x2 = 1 → ((x2 = 2 → (σ.2.2 0 0 < 2 ∧ vp_in x1 10 ∧ Q (some (iV (σ.1 23 (σ.2.2 0 0) ((x1).toNatClampNeg)))) σ)) ∧ (¬ x2 = 2 → ((x2 = 3 → (R mj_OC d mX5_asItGoes (fun r σ' => R mj_OC (d + 1) mX10_pipe Q 81 [some (rV 0 0), some (iV x1), some (iV x2)] (r.toList ++ []) σ') 0 [some (rV 7 0)] [] σ)) ∧ (¬ x2 = 3 → ((x2 = 4 → Q (some (iV (((σ.1 6 0 2) >>> (x1 &&& 31)) &&& (1 : Int32)))) σ) ∧ (¬ x2 = 4 → Q (some (iV (-1 : Int32))) σ))))))))))) ∧ (s0 = 0 → Q (some (iV (-1 : Int32))) σ))) : R mj_OC (d + 1) mX10_pipe Q 5 [some (rV 0 0), some (iV x1), some (iV x2)] [iV s0] σ := by
  refine r_if_ne (tgt := 10) dX10_pipe_5 (by decide) (fun c => ?_) (fun c => ?_)
  · have H := H.1 c
    refine r_iload_n dX10_pipe_10 rfl rfl ?_
    by_cases c0 : x2 = 0
    · have H := H.1 c0
      refine r_tableIn (tgt := 44) (off := 33) dX10_pipe_11 (by rw [c0]; decide) (by rw [c0]; decide) (by rw [c0]; rfl) (by decide) ?_
      refine r_aload_n dX10_pipe_44 rfl rfl ?_
      refine r_get (k := 0) (i := 0) (j := 9) (v := rV 3 (σ.2.2 0 0)) rfl rfl ho0 rfl hX10 (by decide) rfl fX10_21 dX10_pipe_45 (fun _ => rfl) ?_
      obtain ⟨q1, H⟩ := H
      refine r_get (k := 3) (i := (σ.2.2 0 0)) (j := 7) (v := rV 21 (σ.2.2 0 0)) rfl rfl (ho3 q1) rfl hX0 (by decide) rfl fX10_177 dX10_pipe_48 (fun _ => rfl) ?_
      refine r_iload_n dX10_pipe_51 rfl rfl ?_
      obtain ⟨q2, H⟩ := H
      refine r_iald (k := 21) (i := (σ.2.2 0 0)) rfl (ho21 q1) q2 dX10_pipe_52 ?_
      exact r_iret dX10_pipe_53 rfl H
    replace H := H.2 c0
    by_cases c1 : x2 = 1
    · have H := H.1 c1
      refine r_tableIn (tgt := 54) (off := 43) dX10_pipe_11 (by rw [c1]; decide) (by rw [c1]; decide) (by rw [c1]; rfl) (by decide) ?_
      refine r_aload_n dX10_pipe_54 rfl rfl ?_
      refine r_get (k := 0) (i := 0) (j := 9) (v := rV 3 (σ.2.2 0 0)) rfl rfl ho0 rfl hX10 (by decide) rfl fX10_21 dX10_pipe_55 (fun _ => rfl) ?_
      obtain ⟨q3, H⟩ := H
      refine r_get (k := 3) (i := (σ.2.2 0 0)) (j := 8) (v := rV 22 (σ.2.2 0 0)) rfl rfl (ho3 q3) rfl hX0 (by decide) rfl fX10_180 dX10_pipe_58 (fun _ => rfl) ?_
      refine r_iload_n dX10_pipe_61 rfl rfl ?_
      obtain ⟨q4, H⟩ := H
      refine r_iald (k := 22) (i := (σ.2.2 0 0)) rfl (ho22 q3) q4 dX10_pipe_62 ?_
      exact r_iret dX10_pipe_63 rfl H
    replace H := H.2 c1
    by_cases c2 : x2 = 2
    · have H := H.1 c2
      refine r_tableIn (tgt := 64) (off := 53) dX10_pipe_11 (by rw [c2]; decide) (by rw [c2]; decide) (by rw [c2]; rfl) (by decide) ?_
      refine r_aload_n dX10_pipe_64 rfl rfl ?_
      refine r_get (k := 0) (i := 0) (j := 9) (v := rV 3 (σ.2.2 0 0)) rfl rfl ho0 rfl hX10 (by decide) rfl fX10_21 dX10_pipe_65 (fun _ => rfl) ?_
      obtain ⟨q5, H⟩ := H
      refine r_get (k := 3) (i := (σ.2.2 0 0)) (j := 9) (v := rV 23 (σ.2.2 0 0)) rfl rfl (ho3 q5) rfl hX0 (by decide) rfl fX10_183 dX10_pipe_68 (fun _ => rfl) ?_
      refine r_iload_n dX10_pipe_71 rfl rfl ?_
      obtain ⟨q6, H⟩ := H
      refine r_iald (k := 23) (i := (σ.2.2 0 0)) rfl (ho23 q5) q6 dX10_pipe_72 ?_
      exact r_iret dX10_pipe_73 rfl H
    replace H := H.2 c2
    by_cases c3 : x2 = 3
    · have H := H.1 c3
      refine r_tableIn (tgt := 74) (off := 63) dX10_pipe_11 (by rw [c3]; decide) (by rw [c3]; decide) (by rw [c3]; rfl) (by decide) ?_
      refine r_aload_n dX10_pipe_74 rfl rfl ?_
      refine r_get (k := 0) (i := 0) (j := 4) (v := rV 7 0) rfl rfl ho0 rfl hX10 (by decide) rfl fX10_43 dX10_pipe_75 (fun _ => rfl) ?_
      refine r_callV (z := 0) (k := 7) (i := 0) (As := []) (st := []) kX5_asItGoes i_X5_asItGoes e_X5_asItGoes lX10_186 dX10_pipe_78 rfl rfl ho7 rfl rfl rfl rfl rfl (Nat.le_of_ble_eq_true rfl) ?_
      exact H
    replace H := H.2 c3
    by_cases c4 : x2 = 4
    · have H := H.1 c4
      refine r_tableIn (tgt := 97) (off := 86) dX10_pipe_11 (by rw [c4]; decide) (by rw [c4]; decide) (by rw [c4]; rfl) (by decide) ?_
      refine r_aload_n dX10_pipe_97 rfl rfl ?_
      refine r_get (k := 0) (i := 0) (j := 1) (v := rV 6 0) rfl rfl ho0 rfl hX10 (by decide) rfl fX10_30 dX10_pipe_98 (fun _ => rfl) ?_
      refine r_get (k := 6) (i := 0) (j := 2) (v := iV (σ.1 6 0 2)) rfl rfl (ho6 (by decide)) rfl hX8 (by decide) rfl fX10_193 dX10_pipe_101 (fun _ => rfl) ?_
      refine r_iload_n dX10_pipe_104 rfl rfl ?_
      refine r_ishr dX10_pipe_105 ?_
      refine r_iconst (v := (1 : Int32)) dX10_pipe_106 rfl ?_
      refine r_iand dX10_pipe_107 ?_
      exact r_iret dX10_pipe_108 rfl H
    replace H := H.2 c4
    refine r_tableOut (tgt := 109) dX10_pipe_11 (by have z0 := lv_neT c0 (show (0 : Int32).toInt = 0 by decide); have z1 := lv_neT c1 (show (1 : Int32).toInt = 1 by decide); have z2 := lv_neT c2 (show (2 : Int32).toInt = 2 by decide); have z3 := lv_neT c3 (show (3 : Int32).toInt = 3 by decide); have z4 := lv_neT c4 (show (4 : Int32).toInt = 4 by decide); omega) (by decide) ?_
    refine r_iconst (v := (-1 : Int32)) dX10_pipe_109 rfl ?_
    exact r_iret dX10_pipe_110 rfl H
  · have H := H.2 c
    refine r_iconst (v := (-1 : Int32)) dX10_pipe_8 rfl ?_
    exact r_iret dX10_pipe_9 rfl H
set_option maxRecDepth 100000 in
theorem bX10_pipe_81 {d : Nat} {Q : Option MV → MS → Prop} {x1 : Int32} {x2 : Int32} {σ : MS}  (H : (R mj_OC d mX5_openNow (fun r σ' => R mj_OC (d + 1) mX10_pipe Q 92 [some (rV 0 0), some (iV x1), some (iV x2)] (r.toList ++ []) σ') 0 [some (rV 7 0), some (rV 6 0), none] [] σ)) : R mj_OC (d + 1) mX10_pipe Q 81 [some (rV 0 0), some (iV x1), some (iV x2)] [] σ := by
  refine r_aload_n dX10_pipe_81 rfl rfl ?_
  refine r_get (k := 0) (i := 0) (j := 4) (v := rV 7 0) rfl rfl ho0 rfl hX10 (by decide) rfl fX10_43 dX10_pipe_82 (fun _ => rfl) ?_
  refine r_aload_n dX10_pipe_85 rfl rfl ?_
  refine r_get (k := 0) (i := 0) (j := 1) (v := rV 6 0) rfl rfl ho0 rfl hX10 (by decide) rfl fX10_30 dX10_pipe_86 (fun _ => rfl) ?_
  refine r_callV (z := 1) (k := 7) (i := 0) (As := [rV 6 0]) (st := []) kX5_openNow i_X5_openNow e_X5_openNow lX10_189 dX10_pipe_89 rfl rfl ho7 rfl rfl rfl rfl rfl (Nat.le_of_ble_eq_true rfl) ?_
  exact H
set_option maxRecDepth 100000 in
theorem bX10_pipe_92 {d : Nat} {Q : Option MV → MS → Prop} {x1 : Int32} {x2 : Int32} {s0 : Int32} {σ : MS}  (H : Q (some (iV ((s0 >>> (x1 &&& 31)) &&& (1 : Int32)))) σ) : R mj_OC d mX10_pipe Q 92 [some (rV 0 0), some (iV x1), some (iV x2)] [iV s0] σ := by
  refine r_iload_n dX10_pipe_92 rfl rfl ?_
  refine r_ishr dX10_pipe_93 ?_
  refine r_iconst (v := (1 : Int32)) dX10_pipe_94 rfl ?_
  refine r_iand dX10_pipe_95 ?_
  exact r_iret dX10_pipe_96 rfl H
set_option maxRecDepth 100000 in
theorem bX10_lock_0 {d : Nat} {Q : Option MV → MS → Prop} {x1 : Int32} {x2 : Int32} {σ : MS}  (H : (R mj_OC d mX10_isLock (fun r σ' => R mj_OC (d + 1) mX10_lock Q 5 [some (rV 0 0), some (iV x1), some (iV x2)] (r.toList ++ []) σ') 0 [some (rV 0 0), some (iV x1)] [] σ)) : R mj_OC (d + 1) mX10_lock Q 0 [some (rV 0 0), some (iV x1), some (iV x2)] [] σ := by
  refine r_aload_n dX10_lock_0 rfl rfl ?_
  refine r_iload_n dX10_lock_1 rfl rfl ?_
  refine r_callV (z := 0) (k := 0) (i := 0) (As := [iV x1]) (st := []) kX10_isLock i_X10_isLock e_X10_isLock lX10_196 dX10_lock_2 rfl rfl ho0 rfl rfl rfl rfl rfl (Nat.le_of_ble_eq_true rfl) ?_
  exact H
set_option maxRecDepth 100000 in
theorem bX10_lock_5 {d : Nat} {Q : Option MV → MS → Prop} {x1 : Int32} {x2 : Int32} {s0 : Int32} {σ : MS}  (H : ((¬ s0 = 0 → ((x2 = 0 → (σ.2.2 0 0 < 2 ∧ vp_in x1 3 ∧ Q (some (iV (σ.1 25 (σ.2.2 0 0) ((x1).toNatClampNeg)))) σ)) ∧ (¬ x2 = 0 → ((x2 = 1 → (σ.2.2 0 0 < 2 ∧ vp_in x1 3 ∧ Q (some (iV (σ.1 26 (σ.2.2 0 0) ((x1).toNatClampNeg)))) σ)) ∧ (¬ x2 = 1 → ((x2 = 2 → (σ.2.2 0 0 < 2 ∧ vp_in x1 3 ∧ Q (some (iV (σ.1 27 (σ.2.2 0 0) ((x1).toNatClampNeg)))) σ)) ∧ (¬ x2 = 2 → ((x2 = 3 → (R mj_OC d mX8_boatIn (fun r σ' => R mj_OC (d + 1) mX10_lock Q 87 [some (rV 0 0), some (iV x1), some (iV x2)] (r.toList ++ []) σ') 0 [some (rV 6 0), some (iV x1), none] [] σ)) ∧ (¬ x2 = 3 → Q (some (iV (-1 : Int32))) σ))))))))) ∧ (s0 = 0 → Q (some (iV (-1 : Int32))) σ))) : R mj_OC (d + 1) mX10_lock Q 5 [some (rV 0 0), some (iV x1), some (iV x2)] [iV s0] σ := by
  refine r_if_ne (tgt := 10) dX10_lock_5 (by decide) (fun c => ?_) (fun c => ?_)
  · have H := H.1 c
    refine r_iload_n dX10_lock_10 rfl rfl ?_
    by_cases c0 : x2 = 0
    · have H := H.1 c0
      refine r_tableIn (tgt := 40) (off := 29) dX10_lock_11 (by rw [c0]; decide) (by rw [c0]; decide) (by rw [c0]; rfl) (by decide) ?_
      refine r_aload_n dX10_lock_40 rfl rfl ?_
      refine r_get (k := 0) (i := 0) (j := 9) (v := rV 3 (σ.2.2 0 0)) rfl rfl ho0 rfl hX10 (by decide) rfl fX10_21 dX10_lock_41 (fun _ => rfl) ?_
      obtain ⟨q1, H⟩ := H
      refine r_get (k := 3) (i := (σ.2.2 0 0)) (j := 14) (v := rV 4 (σ.2.2 0 0)) rfl rfl (ho3 q1) rfl hX0 (by decide) rfl fX10_147 dX10_lock_44 (fun _ => rfl) ?_
      refine r_get (k := 4) (i := (σ.2.2 0 0)) (j := 1) (v := rV 25 (σ.2.2 0 0)) rfl rfl (ho4 q1) rfl hX4 (by decide) rfl fX10_199 dX10_lock_47 (fun _ => rfl) ?_
      refine r_iload_n dX10_lock_50 rfl rfl ?_
      obtain ⟨q2, H⟩ := H
      refine r_iald (k := 25) (i := (σ.2.2 0 0)) rfl (ho25 q1) q2 dX10_lock_51 ?_
      exact r_iret dX10_lock_52 rfl H
    replace H := H.2 c0
    by_cases c1 : x2 = 1
    · have H := H.1 c1
      refine r_tableIn (tgt := 53) (off := 42) dX10_lock_11 (by rw [c1]; decide) (by rw [c1]; decide) (by rw [c1]; rfl) (by decide) ?_
      refine r_aload_n dX10_lock_53 rfl rfl ?_
      refine r_get (k := 0) (i := 0) (j := 9) (v := rV 3 (σ.2.2 0 0)) rfl rfl ho0 rfl hX10 (by decide) rfl fX10_21 dX10_lock_54 (fun _ => rfl) ?_
      obtain ⟨q3, H⟩ := H
      refine r_get (k := 3) (i := (σ.2.2 0 0)) (j := 14) (v := rV 4 (σ.2.2 0 0)) rfl rfl (ho3 q3) rfl hX0 (by decide) rfl fX10_147 dX10_lock_57 (fun _ => rfl) ?_
      refine r_get (k := 4) (i := (σ.2.2 0 0)) (j := 2) (v := rV 26 (σ.2.2 0 0)) rfl rfl (ho4 q3) rfl hX4 (by decide) rfl fX10_202 dX10_lock_60 (fun _ => rfl) ?_
      refine r_iload_n dX10_lock_63 rfl rfl ?_
      obtain ⟨q4, H⟩ := H
      refine r_iald (k := 26) (i := (σ.2.2 0 0)) rfl (ho26 q3) q4 dX10_lock_64 ?_
      exact r_iret dX10_lock_65 rfl H
    replace H := H.2 c1
    by_cases c2 : x2 = 2
    · have H := H.1 c2
      refine r_tableIn (tgt := 66) (off := 55) dX10_lock_11 (by rw [c2]; decide) (by rw [c2]; decide) (by rw [c2]; rfl) (by decide) ?_
      refine r_aload_n dX10_lock_66 rfl rfl ?_
      refine r_get (k := 0) (i := 0) (j := 9) (v := rV 3 (σ.2.2 0 0)) rfl rfl ho0 rfl hX10 (by decide) rfl fX10_21 dX10_lock_67 (fun _ => rfl) ?_
      obtain ⟨q5, H⟩ := H
      refine r_get (k := 3) (i := (σ.2.2 0 0)) (j := 14) (v := rV 4 (σ.2.2 0 0)) rfl rfl (ho3 q5) rfl hX0 (by decide) rfl fX10_147 dX10_lock_70 (fun _ => rfl) ?_
      refine r_get (k := 4) (i := (σ.2.2 0 0)) (j := 3) (v := rV 27 (σ.2.2 0 0)) rfl rfl (ho4 q5) rfl hX4 (by decide) rfl fX10_205 dX10_lock_73 (fun _ => rfl) ?_
      refine r_iload_n dX10_lock_76 rfl rfl ?_
      obtain ⟨q6, H⟩ := H
      refine r_iald (k := 27) (i := (σ.2.2 0 0)) rfl (ho27 q5) q6 dX10_lock_77 ?_
      exact r_iret dX10_lock_78 rfl H
    replace H := H.2 c2
    by_cases c3 : x2 = 3
    · have H := H.1 c3
      refine r_tableIn (tgt := 79) (off := 68) dX10_lock_11 (by rw [c3]; decide) (by rw [c3]; decide) (by rw [c3]; rfl) (by decide) ?_
      refine r_aload_n dX10_lock_79 rfl rfl ?_
      refine r_get (k := 0) (i := 0) (j := 1) (v := rV 6 0) rfl rfl ho0 rfl hX10 (by decide) rfl fX10_30 dX10_lock_80 (fun _ => rfl) ?_
      refine r_iload_n dX10_lock_83 rfl rfl ?_
      refine r_callV (z := 1) (k := 6) (i := 0) (As := [iV x1]) (st := []) kX8_boatIn i_X8_boatIn e_X8_boatIn lX10_208 dX10_lock_84 rfl rfl (ho6 (by decide)) rfl rfl rfl rfl rfl (Nat.le_of_ble_eq_true rfl) ?_
      exact H
    replace H := H.2 c3
    refine r_tableOut (tgt := 91) dX10_lock_11 (by have z0 := lv_neT c0 (show (0 : Int32).toInt = 0 by decide); have z1 := lv_neT c1 (show (1 : Int32).toInt = 1 by decide); have z2 := lv_neT c2 (show (2 : Int32).toInt = 2 by decide); have z3 := lv_neT c3 (show (3 : Int32).toInt = 3 by decide); omega) (by decide) ?_
    refine r_iconst (v := (-1 : Int32)) dX10_lock_91 rfl ?_
    exact r_iret dX10_lock_92 rfl H
  · have H := H.2 c
    refine r_iconst (v := (-1 : Int32)) dX10_lock_8 rfl ?_
    exact r_iret dX10_lock_9 rfl H
set_option maxRecDepth 100000 in
theorem bX10_lock_87 {d : Nat} {Q : Option MV → MS → Prop} {x1 : Int32} {x2 : Int32} {s0 : Int32} {σ : MS}  (H : (R mj_OC d mX10_orWithout (fun r σ' => R mj_OC (d + 1) mX10_lock Q 90 [some (rV 0 0), some (iV x1), some (iV x2)] (r.toList ++ []) σ') 0 [some (iV s0)] [] σ)) : R mj_OC (d + 1) mX10_lock Q 87 [some (rV 0 0), some (iV x1), some (iV x2)] [iV s0] σ := by
  refine r_callS (z := 0) (As := [iV s0]) (st := []) kX10_orWithout s_X10_orWithout lX10_156 dX10_lock_87 rfl rfl rfl rfl (Nat.le_of_ble_eq_true rfl) ?_
  exact H
set_option maxRecDepth 100000 in
theorem bX10_lock_90 {d : Nat} {Q : Option MV → MS → Prop} {x1 : Int32} {x2 : Int32} {s0 : Int32} {σ : MS}  (H : Q (some (iV s0)) σ) : R mj_OC d mX10_lock Q 90 [some (rV 0 0), some (iV x1), some (iV x2)] [iV s0] σ := by
  exact r_iret dX10_lock_90 rfl H
set_option maxRecDepth 100000 in
theorem bX10_boat_0 {d : Nat} {Q : Option MV → MS → Prop} {x1 : Int32} {x2 : Int32} {σ : MS}  (H : (R mj_OC d mX10_isBoat (fun r σ' => R mj_OC (d + 1) mX10_boat Q 5 [some (rV 0 0), some (iV x1), some (iV x2)] (r.toList ++ []) σ') 0 [some (rV 0 0), some (iV x1)] [] σ)) : R mj_OC (d + 1) mX10_boat Q 0 [some (rV 0 0), some (iV x1), some (iV x2)] [] σ := by
  refine r_aload_n dX10_boat_0 rfl rfl ?_
  refine r_iload_n dX10_boat_1 rfl rfl ?_
  refine r_callV (z := 0) (k := 0) (i := 0) (As := [iV x1]) (st := []) kX10_isBoat i_X10_isBoat e_X10_isBoat lX10_211 dX10_boat_2 rfl rfl ho0 rfl rfl rfl rfl rfl (Nat.le_of_ble_eq_true rfl) ?_
  exact H
set_option maxRecDepth 100000 in
theorem bX10_boat_5 {d : Nat} {Q : Option MV → MS → Prop} {x1 : Int32} {x2 : Int32} {s0 : Int32} {σ : MS}  (H : ((¬ s0 = 0 → ((x2 = 0 → (σ.2.2 0 0 < 2 ∧ vp_in x1 8 ∧ Q (some (iV (σ.1 28 (σ.2.2 0 0) ((x1).toNatClampNeg)))) σ)) ∧ (¬ x2 = 0 → ((x2 = 1 → (σ.2.2 0 0 < 2 ∧ vp_in x1 8 ∧ Q (some (iV (σ.1 29 (σ.2.2 0 0) ((x1).toNatClampNeg)))) σ)) ∧ (¬ x2 = 1 → ((x2 = 2 → (vp_in x1 8 ∧ Q (some (iV (σ.1 36 0 ((x1).toNatClampNeg)))) σ)) ∧ (¬ x2 = 2 → ((x2 = 3 → (vp_in x1 8 ∧ Q (some (iV (σ.1 37 0 ((x1).toNatClampNeg)))) σ)) ∧ (¬ x2 = 3 → Q (some (iV (-1 : Int32))) σ))))))))) ∧ (s0 = 0 → Q (some (iV (-1 : Int32))) σ))) : R mj_OC d mX10_boat Q 5 [some (rV 0 0), some (iV x1), some (iV x2)] [iV s0] σ := by
  refine r_if_ne (tgt := 10) dX10_boat_5 (by decide) (fun c => ?_) (fun c => ?_)
  · have H := H.1 c
    refine r_iload_n dX10_boat_10 rfl rfl ?_
    by_cases c0 : x2 = 0
    · have H := H.1 c0
      refine r_tableIn (tgt := 40) (off := 29) dX10_boat_11 (by rw [c0]; decide) (by rw [c0]; decide) (by rw [c0]; rfl) (by decide) ?_
      refine r_aload_n dX10_boat_40 rfl rfl ?_
      refine r_get (k := 0) (i := 0) (j := 9) (v := rV 3 (σ.2.2 0 0)) rfl rfl ho0 rfl hX10 (by decide) rfl fX10_21 dX10_boat_41 (fun _ => rfl) ?_
      obtain ⟨q1, H⟩ := H
      refine r_get (k := 3) (i := (σ.2.2 0 0)) (j := 14) (v := rV 4 (σ.2.2 0 0)) rfl rfl (ho3 q1) rfl hX0 (by decide) rfl fX10_147 dX10_boat_44 (fun _ => rfl) ?_
      refine r_get (k := 4) (i := (σ.2.2 0 0)) (j := 5) (v := rV 28 (σ.2.2 0 0)) rfl rfl (ho4 q1) rfl hX4 (by decide) rfl fX10_214 dX10_boat_47 (fun _ => rfl) ?_
      refine r_iload_n dX10_boat_50 rfl rfl ?_
      obtain ⟨q2, H⟩ := H
      refine r_iald (k := 28) (i := (σ.2.2 0 0)) rfl (ho28 q1) q2 dX10_boat_51 ?_
      exact r_iret dX10_boat_52 rfl H
    replace H := H.2 c0
    by_cases c1 : x2 = 1
    · have H := H.1 c1
      refine r_tableIn (tgt := 53) (off := 42) dX10_boat_11 (by rw [c1]; decide) (by rw [c1]; decide) (by rw [c1]; rfl) (by decide) ?_
      refine r_aload_n dX10_boat_53 rfl rfl ?_
      refine r_get (k := 0) (i := 0) (j := 9) (v := rV 3 (σ.2.2 0 0)) rfl rfl ho0 rfl hX10 (by decide) rfl fX10_21 dX10_boat_54 (fun _ => rfl) ?_
      obtain ⟨q3, H⟩ := H
      refine r_get (k := 3) (i := (σ.2.2 0 0)) (j := 14) (v := rV 4 (σ.2.2 0 0)) rfl rfl (ho3 q3) rfl hX0 (by decide) rfl fX10_147 dX10_boat_57 (fun _ => rfl) ?_
      refine r_get (k := 4) (i := (σ.2.2 0 0)) (j := 6) (v := rV 29 (σ.2.2 0 0)) rfl rfl (ho4 q3) rfl hX4 (by decide) rfl fX10_217 dX10_boat_60 (fun _ => rfl) ?_
      refine r_iload_n dX10_boat_63 rfl rfl ?_
      obtain ⟨q4, H⟩ := H
      refine r_iald (k := 29) (i := (σ.2.2 0 0)) rfl (ho29 q3) q4 dX10_boat_64 ?_
      exact r_iret dX10_boat_65 rfl H
    replace H := H.2 c1
    by_cases c2 : x2 = 2
    · have H := H.1 c2
      refine r_tableIn (tgt := 66) (off := 55) dX10_boat_11 (by rw [c2]; decide) (by rw [c2]; decide) (by rw [c2]; rfl) (by decide) ?_
      refine r_aload_n dX10_boat_66 rfl rfl ?_
      refine r_get (k := 0) (i := 0) (j := 1) (v := rV 6 0) rfl rfl ho0 rfl hX10 (by decide) rfl fX10_30 dX10_boat_67 (fun _ => rfl) ?_
      refine r_get (k := 6) (i := 0) (j := 3) (v := rV 36 0) rfl rfl (ho6 (by decide)) rfl hX8 (by decide) rfl fX10_220 dX10_boat_70 (fun _ => rfl) ?_
      refine r_iload_n dX10_boat_73 rfl rfl ?_
      obtain ⟨q5, H⟩ := H
      refine r_iald (k := 36) (i := 0) rfl (ho36 (by decide)) q5 dX10_boat_74 ?_
      exact r_iret dX10_boat_75 rfl H
    replace H := H.2 c2
    by_cases c3 : x2 = 3
    · have H := H.1 c3
      refine r_tableIn (tgt := 76) (off := 65) dX10_boat_11 (by rw [c3]; decide) (by rw [c3]; decide) (by rw [c3]; rfl) (by decide) ?_
      refine r_aload_n dX10_boat_76 rfl rfl ?_
      refine r_get (k := 0) (i := 0) (j := 1) (v := rV 6 0) rfl rfl ho0 rfl hX10 (by decide) rfl fX10_30 dX10_boat_77 (fun _ => rfl) ?_
      refine r_get (k := 6) (i := 0) (j := 4) (v := rV 37 0) rfl rfl (ho6 (by decide)) rfl hX8 (by decide) rfl fX10_223 dX10_boat_80 (fun _ => rfl) ?_
      refine r_iload_n dX10_boat_83 rfl rfl ?_
      obtain ⟨q6, H⟩ := H
      refine r_iald (k := 37) (i := 0) rfl (ho37 (by decide)) q6 dX10_boat_84 ?_
      exact r_iret dX10_boat_85 rfl H
    replace H := H.2 c3
    refine r_tableOut (tgt := 86) dX10_boat_11 (by have z0 := lv_neT c0 (show (0 : Int32).toInt = 0 by decide); have z1 := lv_neT c1 (show (1 : Int32).toInt = 1 by decide); have z2 := lv_neT c2 (show (2 : Int32).toInt = 2 by decide); have z3 := lv_neT c3 (show (3 : Int32).toInt = 3 by decide); omega) (by decide) ?_
    refine r_iconst (v := (-1 : Int32)) dX10_boat_86 rfl ?_
    exact r_iret dX10_boat_87 rfl H
  · have H := H.2 c
    refine r_iconst (v := (-1 : Int32)) dX10_boat_8 rfl ?_
    exact r_iret dX10_boat_9 rfl H
set_option maxRecDepth 100000 in
theorem bX10_law_0 {d : Nat} {Q : Option MV → MS → Prop} {x1 : Int32} {x2 : Int32} {σ : MS}  (H : (R mj_OC d mX5_asItGoes (fun r σ' => R mj_OC (d + 1) mX10_law Q 7 [some (rV 0 0), some (iV x1), some (iV x2)] (r.toList ++ []) σ') 0 [some (rV 7 0)] [] σ)) : R mj_OC (d + 1) mX10_law Q 0 [some (rV 0 0), some (iV x1), some (iV x2)] [] σ := by
  refine r_aload_n dX10_law_0 rfl rfl ?_
  refine r_get (k := 0) (i := 0) (j := 4) (v := rV 7 0) rfl rfl ho0 rfl hX10 (by decide) rfl fX10_43 dX10_law_1 (fun _ => rfl) ?_
  refine r_callV (z := 0) (k := 7) (i := 0) (As := []) (st := []) kX5_asItGoes i_X5_asItGoes e_X5_asItGoes lX10_186 dX10_law_4 rfl rfl ho7 rfl rfl rfl rfl rfl (Nat.le_of_ble_eq_true rfl) ?_
  exact H
set_option maxRecDepth 100000 in
theorem bX10_law_7 {d : Nat} {Q : Option MV → MS → Prop} {x1 : Int32} {x2 : Int32} {σ : MS}  (H : ((¬ x1 = 0 → ((¬ x1 = (1 : Int32) → ((¬ x1 = (2 : Int32) → Q (some (lV (-9223372036854775808 : Int64))) σ) ∧ (x1 = (2 : Int32) → (R mj_OC d mX10_isBoat (fun r σ' => R mj_OC (d + 1) mX10_law Q 87 [some (rV 0 0), some (iV x1), some (iV x2)] (r.toList ++ []) σ') 0 [some (rV 0 0), some (iV x2)] [] σ)))) ∧ (x1 = (1 : Int32) → (R mj_OC d mX10_isPond (fun r σ' => R mj_OC (d + 1) mX10_law Q 59 [some (rV 0 0), some (iV x1), some (iV x2)] (r.toList ++ []) σ') 0 [some (rV 0 0), some (iV x2)] [] σ)))) ∧ (x1 = 0 → (R mj_OC d mX10_isPipe (fun r σ' => R mj_OC (d + 1) mX10_law Q 16 [some (rV 0 0), some (iV x1), some (iV x2)] (r.toList ++ []) σ') 0 [some (rV 0 0), some (iV x2)] [] σ)))) : R mj_OC (d + 1) mX10_law Q 7 [some (rV 0 0), some (iV x1), some (iV x2)] [] σ := by
  refine r_iload_n dX10_law_7 rfl rfl ?_
  refine r_if_ne (tgt := 49) dX10_law_8 (by decide) (fun c => ?_) (fun c => ?_)
  · have H := H.1 c
    refine r_iload_n dX10_law_49 rfl rfl ?_
    refine r_iconst (v := (1 : Int32)) dX10_law_50 rfl ?_
    refine r_icmp_ne (tgt := 77) dX10_law_51 (by decide) (fun c => ?_) (fun c => ?_)
    · have H := H.1 c
      refine r_iload_n dX10_law_77 rfl rfl ?_
      refine r_iconst (v := (2 : Int32)) dX10_law_78 rfl ?_
      refine r_icmp_ne (tgt := 115) dX10_law_79 (by decide) (fun c => ?_) (fun c => ?_)
      · have H := H.1 c
        refine r_ldc2 (v := (-9223372036854775808 : Int64)) olX10_236 dX10_law_115 ?_
        exact r_lret dX10_law_118 rfl H
      · have H := H.2 c
        refine r_aload_n dX10_law_82 rfl rfl ?_
        refine r_iload_n dX10_law_83 rfl rfl ?_
        refine r_callV (z := 0) (k := 0) (i := 0) (As := [iV x2]) (st := []) kX10_isBoat i_X10_isBoat e_X10_isBoat lX10_211 dX10_law_84 rfl rfl ho0 rfl rfl rfl rfl rfl (Nat.le_of_ble_eq_true rfl) ?_
        exact H
    · have H := H.2 c
      refine r_aload_n dX10_law_54 rfl rfl ?_
      refine r_iload_n dX10_law_55 rfl rfl ?_
      refine r_callV (z := 0) (k := 0) (i := 0) (As := [iV x2]) (st := []) kX10_isPond i_X10_isPond e_X10_isPond lX10_124 dX10_law_56 rfl rfl ho0 rfl rfl rfl rfl rfl (Nat.le_of_ble_eq_true rfl) ?_
      exact H
  · have H := H.2 c
    refine r_aload_n dX10_law_11 rfl rfl ?_
    refine r_iload_n dX10_law_12 rfl rfl ?_
    refine r_callV (z := 0) (k := 0) (i := 0) (As := [iV x2]) (st := []) kX10_isPipe i_X10_isPipe e_X10_isPipe lX10_174 dX10_law_13 rfl rfl ho0 rfl rfl rfl rfl rfl (Nat.le_of_ble_eq_true rfl) ?_
    exact H
set_option maxRecDepth 100000 in
theorem bX10_law_16 {d : Nat} {Q : Option MV → MS → Prop} {x1 : Int32} {x2 : Int32} {s0 : Int32} {σ : MS}  (H : ((s0 = 0 → ((¬ x1 = (1 : Int32) → ((¬ x1 = (2 : Int32) → Q (some (lV (-9223372036854775808 : Int64))) σ) ∧ (x1 = (2 : Int32) → (R mj_OC d mX10_isBoat (fun r σ' => R mj_OC (d + 1) mX10_law Q 87 [some (rV 0 0), some (iV x1), some (iV x2)] (r.toList ++ []) σ') 0 [some (rV 0 0), some (iV x2)] [] σ)))) ∧ (x1 = (1 : Int32) → (R mj_OC d mX10_isPond (fun r σ' => R mj_OC (d + 1) mX10_law Q 59 [some (rV 0 0), some (iV x1), some (iV x2)] (r.toList ++ []) σ') 0 [some (rV 0 0), some (iV x2)] [] σ)))) ∧ (¬ s0 = 0 → (R mj_OC d mX8_giver (fun r σ' => R mj_OC (d + 1) mX10_law Q 36 [some (rV 0 0), some (iV x1), some (iV x2)] (r.toList ++ [iV (0 : Int32), rV 6 0, rV 7 0]) σ') 0 [some (rV 6 0), some (iV x2), none, none] [] σ)))) : R mj_OC (d + 1) mX10_law Q 16 [some (rV 0 0), some (iV x1), some (iV x2)] [iV s0] σ := by
  refine r_if_eq (tgt := 49) dX10_law_16 (by decide) (fun c => ?_) (fun c => ?_)
  · have H := H.1 c
    refine r_iload_n dX10_law_49 rfl rfl ?_
    refine r_iconst (v := (1 : Int32)) dX10_law_50 rfl ?_
    refine r_icmp_ne (tgt := 77) dX10_law_51 (by decide) (fun c => ?_) (fun c => ?_)
    · have H := H.1 c
      refine r_iload_n dX10_law_77 rfl rfl ?_
      refine r_iconst (v := (2 : Int32)) dX10_law_78 rfl ?_
      refine r_icmp_ne (tgt := 115) dX10_law_79 (by decide) (fun c => ?_) (fun c => ?_)
      · have H := H.1 c
        refine r_ldc2 (v := (-9223372036854775808 : Int64)) olX10_236 dX10_law_115 ?_
        exact r_lret dX10_law_118 rfl H
      · have H := H.2 c
        refine r_aload_n dX10_law_82 rfl rfl ?_
        refine r_iload_n dX10_law_83 rfl rfl ?_
        refine r_callV (z := 0) (k := 0) (i := 0) (As := [iV x2]) (st := []) kX10_isBoat i_X10_isBoat e_X10_isBoat lX10_211 dX10_law_84 rfl rfl ho0 rfl rfl rfl rfl rfl (Nat.le_of_ble_eq_true rfl) ?_
        exact H
    · have H := H.2 c
      refine r_aload_n dX10_law_54 rfl rfl ?_
      refine r_iload_n dX10_law_55 rfl rfl ?_
      refine r_callV (z := 0) (k := 0) (i := 0) (As := [iV x2]) (st := []) kX10_isPond i_X10_isPond e_X10_isPond lX10_124 dX10_law_56 rfl rfl ho0 rfl rfl rfl rfl rfl (Nat.le_of_ble_eq_true rfl) ?_
      exact H
  · have H := H.2 c
    refine r_aload_n dX10_law_19 rfl rfl ?_
    refine r_get (k := 0) (i := 0) (j := 4) (v := rV 7 0) rfl rfl ho0 rfl hX10 (by decide) rfl fX10_43 dX10_law_20 (fun _ => rfl) ?_
    refine r_aload_n dX10_law_23 rfl rfl ?_
    refine r_get (k := 0) (i := 0) (j := 1) (v := rV 6 0) rfl rfl ho0 rfl hX10 (by decide) rfl fX10_30 dX10_law_24 (fun _ => rfl) ?_
    refine r_iconst (v := (0 : Int32)) dX10_law_27 rfl ?_
    refine r_aload_n dX10_law_28 rfl rfl ?_
    refine r_get (k := 0) (i := 0) (j := 1) (v := rV 6 0) rfl rfl ho0 rfl hX10 (by decide) rfl fX10_30 dX10_law_29 (fun _ => rfl) ?_
    refine r_iload_n dX10_law_32 rfl rfl ?_
    refine r_callV (z := 2) (k := 6) (i := 0) (As := [iV x2]) (st := [iV (0 : Int32), rV 6 0, rV 7 0]) kX8_giver i_X8_giver e_X8_giver lX10_226 dX10_law_33 rfl rfl (ho6 (by decide)) rfl rfl rfl rfl rfl (Nat.le_of_ble_eq_true rfl) ?_
    exact H
set_option maxRecDepth 100000 in
theorem bX10_law_36 {d : Nat} {Q : Option MV → MS → Prop} {x1 : Int32} {x2 : Int32} {s0 : Int32} {s1 : Int32} {σ : MS}  (H : (σ.2.2 0 0 < 2 ∧ vp_in x2 10 ∧ (R mj_OC d mX5_worth (fun r σ' => R mj_OC (d + 1) mX10_law Q 48 [some (rV 0 0), some (iV x1), some (iV x2)] (r.toList ++ []) σ') 0 [some (rV 7 0), some (rV 6 0), some (iV s1), some (iV s0), some (iV (σ.1 23 (σ.2.2 0 0) ((x2).toNatClampNeg)))] [] σ))) : R mj_OC (d + 1) mX10_law Q 36 [some (rV 0 0), some (iV x1), some (iV x2)] [iV s0, iV s1, rV 6 0, rV 7 0] σ := by
  refine r_aload_n dX10_law_36 rfl rfl ?_
  refine r_get (k := 0) (i := 0) (j := 9) (v := rV 3 (σ.2.2 0 0)) rfl rfl ho0 rfl hX10 (by decide) rfl fX10_21 dX10_law_37 (fun _ => rfl) ?_
  obtain ⟨q1, H⟩ := H
  refine r_get (k := 3) (i := (σ.2.2 0 0)) (j := 9) (v := rV 23 (σ.2.2 0 0)) rfl rfl (ho3 q1) rfl hX0 (by decide) rfl fX10_183 dX10_law_40 (fun _ => rfl) ?_
  refine r_iload_n dX10_law_43 rfl rfl ?_
  obtain ⟨q2, H⟩ := H
  refine r_iald (k := 23) (i := (σ.2.2 0 0)) rfl (ho23 q1) q2 dX10_law_44 ?_
  refine r_callV (z := 0) (k := 7) (i := 0) (As := [rV 6 0, iV s1, iV s0, iV (σ.1 23 (σ.2.2 0 0) ((x2).toNatClampNeg))]) (st := []) kX5_worth i_X5_worth e_X5_worth lX10_229 dX10_law_45 rfl rfl ho7 rfl rfl rfl rfl rfl (Nat.le_of_ble_eq_true rfl) ?_
  exact H
set_option maxRecDepth 100000 in
theorem bX10_law_48 {d : Nat} {Q : Option MV → MS → Prop} {x1 : Int32} {x2 : Int32} {s0 : Int64} {σ : MS}  (H : Q (some (lV s0)) σ) : R mj_OC d mX10_law Q 48 [some (rV 0 0), some (iV x1), some (iV x2)] [lV s0] σ := by
  exact r_lret dX10_law_48 rfl H
set_option maxRecDepth 100000 in
theorem bX10_law_59 {d : Nat} {Q : Option MV → MS → Prop} {x1 : Int32} {x2 : Int32} {s0 : Int32} {σ : MS}  (H : ((s0 = 0 → ((¬ x1 = (2 : Int32) → Q (some (lV (-9223372036854775808 : Int64))) σ) ∧ (x1 = (2 : Int32) → (R mj_OC d mX10_isBoat (fun r σ' => R mj_OC (d + 1) mX10_law Q 87 [some (rV 0 0), some (iV x1), some (iV x2)] (r.toList ++ []) σ') 0 [some (rV 0 0), some (iV x2)] [] σ)))) ∧ (¬ s0 = 0 → (R mj_OC d mX5_worth (fun r σ' => R mj_OC (d + 1) mX10_law Q 76 [some (rV 0 0), some (iV x1), some (iV x2)] (r.toList ++ []) σ') 0 [some (rV 7 0), some (rV 6 0), some (iV (1 : Int32)), some (iV x2), some (iV (0 : Int32))] [] σ)))) : R mj_OC (d + 1) mX10_law Q 59 [some (rV 0 0), some (iV x1), some (iV x2)] [iV s0] σ := by
  refine r_if_eq (tgt := 77) dX10_law_59 (by decide) (fun c => ?_) (fun c => ?_)
  · have H := H.1 c
    refine r_iload_n dX10_law_77 rfl rfl ?_
    refine r_iconst (v := (2 : Int32)) dX10_law_78 rfl ?_
    refine r_icmp_ne (tgt := 115) dX10_law_79 (by decide) (fun c => ?_) (fun c => ?_)
    · have H := H.1 c
      refine r_ldc2 (v := (-9223372036854775808 : Int64)) olX10_236 dX10_law_115 ?_
      exact r_lret dX10_law_118 rfl H
    · have H := H.2 c
      refine r_aload_n dX10_law_82 rfl rfl ?_
      refine r_iload_n dX10_law_83 rfl rfl ?_
      refine r_callV (z := 0) (k := 0) (i := 0) (As := [iV x2]) (st := []) kX10_isBoat i_X10_isBoat e_X10_isBoat lX10_211 dX10_law_84 rfl rfl ho0 rfl rfl rfl rfl rfl (Nat.le_of_ble_eq_true rfl) ?_
      exact H
  · have H := H.2 c
    refine r_aload_n dX10_law_62 rfl rfl ?_
    refine r_get (k := 0) (i := 0) (j := 4) (v := rV 7 0) rfl rfl ho0 rfl hX10 (by decide) rfl fX10_43 dX10_law_63 (fun _ => rfl) ?_
    refine r_aload_n dX10_law_66 rfl rfl ?_
    refine r_get (k := 0) (i := 0) (j := 1) (v := rV 6 0) rfl rfl ho0 rfl hX10 (by decide) rfl fX10_30 dX10_law_67 (fun _ => rfl) ?_
    refine r_iconst (v := (1 : Int32)) dX10_law_70 rfl ?_
    refine r_iload_n dX10_law_71 rfl rfl ?_
    refine r_iconst (v := (0 : Int32)) dX10_law_72 rfl ?_
    refine r_callV (z := 0) (k := 7) (i := 0) (As := [rV 6 0, iV (1 : Int32), iV x2, iV (0 : Int32)]) (st := []) kX5_worth i_X5_worth e_X5_worth lX10_229 dX10_law_73 rfl rfl ho7 rfl rfl rfl rfl rfl (Nat.le_of_ble_eq_true rfl) ?_
    exact H
set_option maxRecDepth 100000 in
theorem bX10_law_76 {d : Nat} {Q : Option MV → MS → Prop} {x1 : Int32} {x2 : Int32} {s0 : Int64} {σ : MS}  (H : Q (some (lV s0)) σ) : R mj_OC d mX10_law Q 76 [some (rV 0 0), some (iV x1), some (iV x2)] [lV s0] σ := by
  exact r_lret dX10_law_76 rfl H
set_option maxRecDepth 100000 in
theorem bX10_law_87 {d : Nat} {Q : Option MV → MS → Prop} {x1 : Int32} {x2 : Int32} {s0 : Int32} {σ : MS}  (H : ((s0 = 0 → Q (some (lV (-9223372036854775808 : Int64))) σ) ∧ (¬ s0 = 0 → (σ.2.2 0 0 < 2 ∧ (R mj_OC d mX4_pondOfBoat (fun r σ' => R mj_OC (d + 1) mX10_law Q 110 [some (rV 0 0), some (iV x1), some (iV x2)] (r.toList ++ [iV (2 : Int32), rV 6 0, rV 7 0]) σ') 0 [some (rV 4 (σ.2.2 0 0)), some (iV x2)] [] σ))))) : R mj_OC (d + 1) mX10_law Q 87 [some (rV 0 0), some (iV x1), some (iV x2)] [iV s0] σ := by
  refine r_if_eq (tgt := 115) dX10_law_87 (by decide) (fun c => ?_) (fun c => ?_)
  · have H := H.1 c
    refine r_ldc2 (v := (-9223372036854775808 : Int64)) olX10_236 dX10_law_115 ?_
    exact r_lret dX10_law_118 rfl H
  · have H := H.2 c
    refine r_aload_n dX10_law_90 rfl rfl ?_
    refine r_get (k := 0) (i := 0) (j := 4) (v := rV 7 0) rfl rfl ho0 rfl hX10 (by decide) rfl fX10_43 dX10_law_91 (fun _ => rfl) ?_
    refine r_aload_n dX10_law_94 rfl rfl ?_
    refine r_get (k := 0) (i := 0) (j := 1) (v := rV 6 0) rfl rfl ho0 rfl hX10 (by decide) rfl fX10_30 dX10_law_95 (fun _ => rfl) ?_
    refine r_iconst (v := (2 : Int32)) dX10_law_98 rfl ?_
    refine r_aload_n dX10_law_99 rfl rfl ?_
    refine r_get (k := 0) (i := 0) (j := 9) (v := rV 3 (σ.2.2 0 0)) rfl rfl ho0 rfl hX10 (by decide) rfl fX10_21 dX10_law_100 (fun _ => rfl) ?_
    obtain ⟨q1, H⟩ := H
    refine r_get (k := 3) (i := (σ.2.2 0 0)) (j := 14) (v := rV 4 (σ.2.2 0 0)) rfl rfl (ho3 q1) rfl hX0 (by decide) rfl fX10_147 dX10_law_103 (fun _ => rfl) ?_
    refine r_iload_n dX10_law_106 rfl rfl ?_
    refine r_callV (z := 0) (k := 4) (i := (σ.2.2 0 0)) (As := [iV x2]) (st := [iV (2 : Int32), rV 6 0, rV 7 0]) kX4_pondOfBoat i_X4_pondOfBoat e_X4_pondOfBoat lX10_233 dX10_law_107 rfl rfl (ho4 q1) rfl rfl rfl rfl rfl (Nat.le_of_ble_eq_true rfl) ?_
    exact H
set_option maxRecDepth 100000 in
theorem bX10_law_110 {d : Nat} {Q : Option MV → MS → Prop} {x1 : Int32} {x2 : Int32} {s0 : Int32} {s1 : Int32} {σ : MS}  (H : (R mj_OC d mX5_worth (fun r σ' => R mj_OC (d + 1) mX10_law Q 114 [some (rV 0 0), some (iV x1), some (iV x2)] (r.toList ++ []) σ') 0 [some (rV 7 0), some (rV 6 0), some (iV s1), some (iV s0), some (iV (0 : Int32))] [] σ)) : R mj_OC (d + 1) mX10_law Q 110 [some (rV 0 0), some (iV x1), some (iV x2)] [iV s0, iV s1, rV 6 0, rV 7 0] σ := by
  refine r_iconst (v := (0 : Int32)) dX10_law_110 rfl ?_
  refine r_callV (z := 0) (k := 7) (i := 0) (As := [rV 6 0, iV s1, iV s0, iV (0 : Int32)]) (st := []) kX5_worth i_X5_worth e_X5_worth lX10_229 dX10_law_111 rfl rfl ho7 rfl rfl rfl rfl rfl (Nat.le_of_ble_eq_true rfl) ?_
  exact H
set_option maxRecDepth 100000 in
theorem bX10_law_114 {d : Nat} {Q : Option MV → MS → Prop} {x1 : Int32} {x2 : Int32} {s0 : Int64} {σ : MS}  (H : Q (some (lV s0)) σ) : R mj_OC d mX10_law Q 114 [some (rV 0 0), some (iV x1), some (iV x2)] [lV s0] σ := by
  exact r_lret dX10_law_114 rfl H
set_option maxRecDepth 100000 in
theorem bX10_runs_0 {d : Nat} {Q : Option MV → MS → Prop} {x1 : Int32} {x2 : Int32} {σ : MS}  (H : (R mj_OC d mX10_isPipe (fun r σ' => R mj_OC (d + 1) mX10_runs Q 5 [some (rV 0 0), some (iV x1), some (iV x2)] (r.toList ++ []) σ') 0 [some (rV 0 0), some (iV x1)] [] σ)) : R mj_OC (d + 1) mX10_runs Q 0 [some (rV 0 0), some (iV x1), some (iV x2)] [] σ := by
  refine r_aload_n dX10_runs_0 rfl rfl ?_
  refine r_iload_n dX10_runs_1 rfl rfl ?_
  refine r_callV (z := 0) (k := 0) (i := 0) (As := [iV x1]) (st := []) kX10_isPipe i_X10_isPipe e_X10_isPipe lX10_174 dX10_runs_2 rfl rfl ho0 rfl rfl rfl rfl rfl (Nat.le_of_ble_eq_true rfl) ?_
  exact H
set_option maxRecDepth 100000 in
theorem bX10_runs_5 {d : Nat} {Q : Option MV → MS → Prop} {x1 : Int32} {x2 : Int32} {s0 : Int32} {σ : MS}  (H : ((¬ s0 = 0 → ((x2 = 0 → (R mj_OC d mX8_movable (fun r σ' => R mj_OC (d + 1) mX10_runs Q 44 [some (rV 0 0), some (iV x1), some (iV x2)] (r.toList ++ []) σ') 0 [some (rV 6 0), some (iV x1), none, none, none] [] σ)) ∧ (¬ x2 = 0 → ((x2 = 1 → (R mj_OC d mX8_giver (fun r σ' => R mj_OC (d + 1) mX10_runs Q 53 [some (rV 0 0), some (iV x1), some (iV x2)] (r.toList ++ []) σ') 0 [some (rV 6 0), some (iV x1), none, none] [] σ)) ∧ (¬ x2 = 1 → Q (some (iV (-1 : Int32))) σ))))) ∧ (s0 = 0 → Q (some (iV (-1 : Int32))) σ))) : R mj_OC (d + 1) mX10_runs Q 5 [some (rV 0 0), some (iV x1), some (iV x2)] [iV s0] σ := by
  refine r_if_ne (tgt := 10) dX10_runs_5 (by decide) (fun c => ?_) (fun c => ?_)
  · have H := H.1 c
    refine r_iload_n dX10_runs_10 rfl rfl ?_
    by_cases c0 : x2 = 0
    · have H := H.1 c0
      refine r_lookup (tgt := 36) (off := 25) dX10_runs_11 (by decide) (by rw [c0]; rfl) (by decide) ?_
      refine r_aload_n dX10_runs_36 rfl rfl ?_
      refine r_get (k := 0) (i := 0) (j := 1) (v := rV 6 0) rfl rfl ho0 rfl hX10 (by decide) rfl fX10_30 dX10_runs_37 (fun _ => rfl) ?_
      refine r_iload_n dX10_runs_40 rfl rfl ?_
      refine r_callV (z := 3) (k := 6) (i := 0) (As := [iV x1]) (st := []) kX8_movable i_X8_movable e_X8_movable lX10_238 dX10_runs_41 rfl rfl (ho6 (by decide)) rfl rfl rfl rfl rfl (Nat.le_of_ble_eq_true rfl) ?_
      exact H
    replace H := H.2 c0
    by_cases c1 : x2 = 1
    · have H := H.1 c1
      refine r_lookup (tgt := 45) (off := 34) dX10_runs_11 (by decide) (by rw [c1]; rfl) (by decide) ?_
      refine r_aload_n dX10_runs_45 rfl rfl ?_
      refine r_get (k := 0) (i := 0) (j := 1) (v := rV 6 0) rfl rfl ho0 rfl hX10 (by decide) rfl fX10_30 dX10_runs_46 (fun _ => rfl) ?_
      refine r_iload_n dX10_runs_49 rfl rfl ?_
      refine r_callV (z := 2) (k := 6) (i := 0) (As := [iV x1]) (st := []) kX8_giver i_X8_giver e_X8_giver lX10_226 dX10_runs_50 rfl rfl (ho6 (by decide)) rfl rfl rfl rfl rfl (Nat.le_of_ble_eq_true rfl) ?_
      exact H
    replace H := H.2 c1
    refine r_lookup (tgt := 54) (off := 43) dX10_runs_11 (by decide) ((lv_osw c0 (by decide)).trans ((lv_osw c1 (by decide)).trans rfl)) (by decide) ?_
    refine r_iconst (v := (-1 : Int32)) dX10_runs_54 rfl ?_
    exact r_iret dX10_runs_55 rfl H
  · have H := H.2 c
    refine r_iconst (v := (-1 : Int32)) dX10_runs_8 rfl ?_
    exact r_iret dX10_runs_9 rfl H
set_option maxRecDepth 100000 in
theorem bX10_runs_44 {d : Nat} {Q : Option MV → MS → Prop} {x1 : Int32} {x2 : Int32} {s0 : Int32} {σ : MS}  (H : Q (some (iV s0)) σ) : R mj_OC d mX10_runs Q 44 [some (rV 0 0), some (iV x1), some (iV x2)] [iV s0] σ := by
  exact r_iret dX10_runs_44 rfl H
set_option maxRecDepth 100000 in
theorem bX10_runs_53 {d : Nat} {Q : Option MV → MS → Prop} {x1 : Int32} {x2 : Int32} {s0 : Int32} {σ : MS}  (H : Q (some (iV s0)) σ) : R mj_OC d mX10_runs Q 53 [some (rV 0 0), some (iV x1), some (iV x2)] [iV s0] σ := by
  exact r_iret dX10_runs_53 rfl H
set_option maxRecDepth 100000 in
theorem bX10_draw_0 {d : Nat} {Q : Option MV → MS → Prop} {x1 : Int32} {x2 : Int32} {σ : MS}  (H : (R mj_OC d mX10_isPipe (fun r σ' => R mj_OC (d + 1) mX10_draw Q 5 [some (rV 0 0), some (iV x1), some (iV x2)] (r.toList ++ []) σ') 0 [some (rV 0 0), some (iV x1)] [] σ)) : R mj_OC (d + 1) mX10_draw Q 0 [some (rV 0 0), some (iV x1), some (iV x2)] [] σ := by
  refine r_aload_n dX10_draw_0 rfl rfl ?_
  refine r_iload_n dX10_draw_1 rfl rfl ?_
  refine r_callV (z := 0) (k := 0) (i := 0) (As := [iV x1]) (st := []) kX10_isPipe i_X10_isPipe e_X10_isPipe lX10_174 dX10_draw_2 rfl rfl ho0 rfl rfl rfl rfl rfl (Nat.le_of_ble_eq_true rfl) ?_
  exact H
set_option maxRecDepth 100000 in
theorem bX10_draw_5 {d : Nat} {Q : Option MV → MS → Prop} {x1 : Int32} {x2 : Int32} {s0 : Int32} {σ : MS}  (H : ((s0 = 0 → Q (some (iV (-1 : Int32))) σ) ∧ (¬ s0 = 0 → ((x2 < (1 : Int32) → Q (some (iV (-1 : Int32))) σ) ∧ (¬ x2 < (1 : Int32) → ((x2 ≤ (999 : Int32) → (R mj_OC d mX8_isJammed (fun r σ' => R mj_OC (d + 1) mX10_draw Q 30 [some (rV 0 0), some (iV x1), some (iV x2)] (r.toList ++ []) σ') 0 [some (rV 6 0), some (iV x1)] [] σ)) ∧ (¬ x2 ≤ (999 : Int32) → Q (some (iV (-1 : Int32))) σ))))))) : R mj_OC (d + 1) mX10_draw Q 5 [some (rV 0 0), some (iV x1), some (iV x2)] [iV s0] σ := by
  refine r_if_eq (tgt := 20) dX10_draw_5 (by decide) (fun c => ?_) (fun c => ?_)
  · have H := H.1 c
    refine r_iconst (v := (-1 : Int32)) dX10_draw_20 rfl ?_
    exact r_iret dX10_draw_21 rfl H
  · have H := H.2 c
    refine r_iload_n dX10_draw_8 rfl rfl ?_
    refine r_iconst (v := (1 : Int32)) dX10_draw_9 rfl ?_
    refine r_icmp_lt (tgt := 20) dX10_draw_10 (by decide) (fun c => ?_) (fun c => ?_)
    · have H := H.1 c
      refine r_iconst (v := (-1 : Int32)) dX10_draw_20 rfl ?_
      exact r_iret dX10_draw_21 rfl H
    · have H := H.2 c
      refine r_iload_n dX10_draw_13 rfl rfl ?_
      refine r_sipush (v := (999 : Int32)) dX10_draw_14 rfl ?_
      refine r_icmp_le (tgt := 22) dX10_draw_17 (by decide) (fun c => ?_) (fun c => ?_)
      · have H := H.1 c
        refine r_aload_n dX10_draw_22 rfl rfl ?_
        refine r_get (k := 0) (i := 0) (j := 1) (v := rV 6 0) rfl rfl ho0 rfl hX10 (by decide) rfl fX10_30 dX10_draw_23 (fun _ => rfl) ?_
        refine r_iload_n dX10_draw_26 rfl rfl ?_
        refine r_callV (z := 0) (k := 6) (i := 0) (As := [iV x1]) (st := []) kX8_isJammed i_X8_isJammed e_X8_isJammed lX10_241 dX10_draw_27 rfl rfl (ho6 (by decide)) rfl rfl rfl rfl rfl (Nat.le_of_ble_eq_true rfl) ?_
        exact H
      · have H := H.2 c
        refine r_iconst (v := (-1 : Int32)) dX10_draw_20 rfl ?_
        exact r_iret dX10_draw_21 rfl H
set_option maxRecDepth 100000 in
theorem bX10_draw_30 {d : Nat} {Q : Option MV → MS → Prop} {x1 : Int32} {x2 : Int32} {s0 : Int32} {σ : MS}  (H : ((s0 = 0 → (R mj_OC d mX2_note (fun r σ' => R mj_OC (d + 1) mX10_draw Q 47 [some (rV 0 0), some (iV x1), some (iV x2)] (r.toList ++ []) σ') 0 [some (rV 10 0), some (rV 6 0), none] [] σ)) ∧ (¬ s0 = 0 → Q (some (iV (-2 : Int32))) σ))) : R mj_OC (d + 1) mX10_draw Q 30 [some (rV 0 0), some (iV x1), some (iV x2)] [iV s0] σ := by
  refine r_if_eq (tgt := 36) dX10_draw_30 (by decide) (fun c => ?_) (fun c => ?_)
  · have H := H.1 c
    refine r_aload_n dX10_draw_36 rfl rfl ?_
    refine r_get (k := 0) (i := 0) (j := 7) (v := rV 10 0) rfl rfl ho0 rfl hX10 (by decide) rfl fX10_64 dX10_draw_37 (fun _ => rfl) ?_
    refine r_aload_n dX10_draw_40 rfl rfl ?_
    refine r_get (k := 0) (i := 0) (j := 1) (v := rV 6 0) rfl rfl ho0 rfl hX10 (by decide) rfl fX10_30 dX10_draw_41 (fun _ => rfl) ?_
    refine r_callV (z := 1) (k := 10) (i := 0) (As := [rV 6 0]) (st := []) kX2_note i_X2_note e_X2_note lX10_244 dX10_draw_44 rfl rfl ho10 rfl rfl rfl rfl rfl (Nat.le_of_ble_eq_true rfl) ?_
    exact H
  · have H := H.2 c
    refine r_bipush (v := (-2 : Int32)) dX10_draw_33 rfl ?_
    exact r_iret dX10_draw_35 rfl H
set_option maxRecDepth 100000 in
theorem bX10_draw_47 {d : Nat} {Q : Option MV → MS → Prop} {x1 : Int32} {x2 : Int32} {σ : MS}  (H : (R mj_OC d mX8_run (fun r σ' => R mj_OC (d + 1) mX10_draw Q 56 [some (rV 0 0), some (iV x1), some (iV x2)] (r.toList ++ []) σ') 0 [some (rV 6 0), some (iV x1), some (iV x2), none, none] [] σ)) : R mj_OC (d + 1) mX10_draw Q 47 [some (rV 0 0), some (iV x1), some (iV x2)] [] σ := by
  refine r_aload_n dX10_draw_47 rfl rfl ?_
  refine r_get (k := 0) (i := 0) (j := 1) (v := rV 6 0) rfl rfl ho0 rfl hX10 (by decide) rfl fX10_30 dX10_draw_48 (fun _ => rfl) ?_
  refine r_iload_n dX10_draw_51 rfl rfl ?_
  refine r_iload_n dX10_draw_52 rfl rfl ?_
  refine r_callV (z := 2) (k := 6) (i := 0) (As := [iV x1, iV x2]) (st := []) kX8_run i_X8_run e_X8_run lX10_248 dX10_draw_53 rfl rfl (ho6 (by decide)) rfl rfl rfl rfl rfl (Nat.le_of_ble_eq_true rfl) ?_
  exact H
set_option maxRecDepth 100000 in
theorem bX10_draw_56 {d : Nat} {Q : Option MV → MS → Prop} {x1 : Int32} {x2 : Int32} {s0 : Int32} {σ : MS}  (H : Q (some (iV s0)) σ) : R mj_OC d mX10_draw Q 56 [some (rV 0 0), some (iV x1), some (iV x2)] [iV s0] σ := by
  exact r_iret dX10_draw_56 rfl H
set_option maxRecDepth 100000 in
theorem bX10_fill_0 {d : Nat} {Q : Option MV → MS → Prop} {x1 : Int32} {x2 : Int32} {σ : MS}  (H : (R mj_OC d mX10_isPond (fun r σ' => R mj_OC (d + 1) mX10_fill Q 5 [some (rV 0 0), some (iV x1), some (iV x2)] (r.toList ++ []) σ') 0 [some (rV 0 0), some (iV x1)] [] σ)) : R mj_OC (d + 1) mX10_fill Q 0 [some (rV 0 0), some (iV x1), some (iV x2)] [] σ := by
  refine r_aload_n dX10_fill_0 rfl rfl ?_
  refine r_iload_n dX10_fill_1 rfl rfl ?_
  refine r_callV (z := 0) (k := 0) (i := 0) (As := [iV x1]) (st := []) kX10_isPond i_X10_isPond e_X10_isPond lX10_124 dX10_fill_2 rfl rfl ho0 rfl rfl rfl rfl rfl (Nat.le_of_ble_eq_true rfl) ?_
  exact H
set_option maxRecDepth 100000 in
theorem bX10_fill_5 {d : Nat} {Q : Option MV → MS → Prop} {x1 : Int32} {x2 : Int32} {s0 : Int32} {σ : MS}  (H : ((s0 = 0 → Q (some (iV (-1 : Int32))) σ) ∧ (¬ s0 = 0 → (R mj_OC d mX10_isBucket (fun r σ' => R mj_OC (d + 1) mX10_fill Q 12 [some (rV 0 0), some (iV x1), some (iV x2)] (r.toList ++ []) σ') 0 [some (iV x2)] [] σ)))) : R mj_OC (d + 1) mX10_fill Q 5 [some (rV 0 0), some (iV x1), some (iV x2)] [iV s0] σ := by
  refine r_if_eq (tgt := 15) dX10_fill_5 (by decide) (fun c => ?_) (fun c => ?_)
  · have H := H.1 c
    refine r_iconst (v := (-1 : Int32)) dX10_fill_15 rfl ?_
    exact r_iret dX10_fill_16 rfl H
  · have H := H.2 c
    refine r_iload_n dX10_fill_8 rfl rfl ?_
    refine r_callS (z := 0) (As := [iV x2]) (st := []) kX10_isBucket s_X10_isBucket lX10_252 dX10_fill_9 rfl rfl rfl rfl (Nat.le_of_ble_eq_true rfl) ?_
    exact H
set_option maxRecDepth 100000 in
theorem bX10_fill_12 {d : Nat} {Q : Option MV → MS → Prop} {x1 : Int32} {x2 : Int32} {s0 : Int32} {σ : MS}  (H : ((¬ s0 = 0 → (R mj_OC d mX2_note (fun r σ' => R mj_OC (d + 1) mX10_fill Q 28 [some (rV 0 0), some (iV x1), some (iV x2)] (r.toList ++ []) σ') 0 [some (rV 10 0), some (rV 6 0), none] [] σ)) ∧ (s0 = 0 → Q (some (iV (-1 : Int32))) σ))) : R mj_OC (d + 1) mX10_fill Q 12 [some (rV 0 0), some (iV x1), some (iV x2)] [iV s0] σ := by
  refine r_if_ne (tgt := 17) dX10_fill_12 (by decide) (fun c => ?_) (fun c => ?_)
  · have H := H.1 c
    refine r_aload_n dX10_fill_17 rfl rfl ?_
    refine r_get (k := 0) (i := 0) (j := 7) (v := rV 10 0) rfl rfl ho0 rfl hX10 (by decide) rfl fX10_64 dX10_fill_18 (fun _ => rfl) ?_
    refine r_aload_n dX10_fill_21 rfl rfl ?_
    refine r_get (k := 0) (i := 0) (j := 1) (v := rV 6 0) rfl rfl ho0 rfl hX10 (by decide) rfl fX10_30 dX10_fill_22 (fun _ => rfl) ?_
    refine r_callV (z := 1) (k := 10) (i := 0) (As := [rV 6 0]) (st := []) kX2_note i_X2_note e_X2_note lX10_244 dX10_fill_25 rfl rfl ho10 rfl rfl rfl rfl rfl (Nat.le_of_ble_eq_true rfl) ?_
    exact H
  · have H := H.2 c
    refine r_iconst (v := (-1 : Int32)) dX10_fill_15 rfl ?_
    exact r_iret dX10_fill_16 rfl H
set_option maxRecDepth 100000 in
theorem bX10_fill_28 {d : Nat} {Q : Option MV → MS → Prop} {x1 : Int32} {x2 : Int32} {σ : MS}  (H : (R mj_OC d mX8_pour (fun r σ' => R mj_OC (d + 1) mX10_fill Q 37 [some (rV 0 0), some (iV x1), some (iV x2)] (r.toList ++ []) σ') 0 [some (rV 6 0), some (iV x1), some (iV x2)] [] σ)) : R mj_OC (d + 1) mX10_fill Q 28 [some (rV 0 0), some (iV x1), some (iV x2)] [] σ := by
  refine r_aload_n dX10_fill_28 rfl rfl ?_
  refine r_get (k := 0) (i := 0) (j := 1) (v := rV 6 0) rfl rfl ho0 rfl hX10 (by decide) rfl fX10_30 dX10_fill_29 (fun _ => rfl) ?_
  refine r_iload_n dX10_fill_32 rfl rfl ?_
  refine r_iload_n dX10_fill_33 rfl rfl ?_
  refine r_callV (z := 0) (k := 6) (i := 0) (As := [iV x1, iV x2]) (st := []) kX8_pour i_X8_pour e_X8_pour lX10_255 dX10_fill_34 rfl rfl (ho6 (by decide)) rfl rfl rfl rfl rfl (Nat.le_of_ble_eq_true rfl) ?_
  exact H
set_option maxRecDepth 100000 in
theorem bX10_fill_37 {d : Nat} {Q : Option MV → MS → Prop} {x1 : Int32} {x2 : Int32} {σ : MS}  (H : (vp_in x1 7 ∧ Q (some (iV (σ.1 35 0 ((x1).toNatClampNeg)))) σ)) : R mj_OC d mX10_fill Q 37 [some (rV 0 0), some (iV x1), some (iV x2)] [] σ := by
  refine r_aload_n dX10_fill_37 rfl rfl ?_
  refine r_get (k := 0) (i := 0) (j := 1) (v := rV 6 0) rfl rfl ho0 rfl hX10 (by decide) rfl fX10_30 dX10_fill_38 (fun _ => rfl) ?_
  refine r_get (k := 6) (i := 0) (j := 1) (v := rV 35 0) rfl rfl (ho6 (by decide)) rfl hX8 (by decide) rfl fX10_141 dX10_fill_41 (fun _ => rfl) ?_
  refine r_iload_n dX10_fill_44 rfl rfl ?_
  obtain ⟨q1, H⟩ := H
  refine r_iald (k := 35) (i := 0) rfl (ho35 (by decide)) q1 dX10_fill_45 ?_
  exact r_iret dX10_fill_46 rfl H
set_option maxRecDepth 100000 in
theorem bX10_spill_0 {d : Nat} {Q : Option MV → MS → Prop} {x1 : Int32} {x2 : Int32} {σ : MS}  (H : (R mj_OC d mX10_isPond (fun r σ' => R mj_OC (d + 1) mX10_spill Q 5 [some (rV 0 0), some (iV x1), some (iV x2)] (r.toList ++ []) σ') 0 [some (rV 0 0), some (iV x1)] [] σ)) : R mj_OC (d + 1) mX10_spill Q 0 [some (rV 0 0), some (iV x1), some (iV x2)] [] σ := by
  refine r_aload_n dX10_spill_0 rfl rfl ?_
  refine r_iload_n dX10_spill_1 rfl rfl ?_
  refine r_callV (z := 0) (k := 0) (i := 0) (As := [iV x1]) (st := []) kX10_isPond i_X10_isPond e_X10_isPond lX10_124 dX10_spill_2 rfl rfl ho0 rfl rfl rfl rfl rfl (Nat.le_of_ble_eq_true rfl) ?_
  exact H
set_option maxRecDepth 100000 in
theorem bX10_spill_5 {d : Nat} {Q : Option MV → MS → Prop} {x1 : Int32} {x2 : Int32} {s0 : Int32} {σ : MS}  (H : ((s0 = 0 → Q (some (iV (-1 : Int32))) σ) ∧ (¬ s0 = 0 → (R mj_OC d mX10_isBucket (fun r σ' => R mj_OC (d + 1) mX10_spill Q 12 [some (rV 0 0), some (iV x1), some (iV x2)] (r.toList ++ []) σ') 0 [some (iV x2)] [] σ)))) : R mj_OC (d + 1) mX10_spill Q 5 [some (rV 0 0), some (iV x1), some (iV x2)] [iV s0] σ := by
  refine r_if_eq (tgt := 15) dX10_spill_5 (by decide) (fun c => ?_) (fun c => ?_)
  · have H := H.1 c
    refine r_iconst (v := (-1 : Int32)) dX10_spill_15 rfl ?_
    exact r_iret dX10_spill_16 rfl H
  · have H := H.2 c
    refine r_iload_n dX10_spill_8 rfl rfl ?_
    refine r_callS (z := 0) (As := [iV x2]) (st := []) kX10_isBucket s_X10_isBucket lX10_252 dX10_spill_9 rfl rfl rfl rfl (Nat.le_of_ble_eq_true rfl) ?_
    exact H
set_option maxRecDepth 100000 in
theorem bX10_spill_12 {d : Nat} {Q : Option MV → MS → Prop} {x1 : Int32} {x2 : Int32} {s0 : Int32} {σ : MS}  (H : ((¬ s0 = 0 → (vp_in x1 7 ∧ ((x2 ≤ (σ.1 35 0 ((x1).toNatClampNeg)) → (R mj_OC d mX2_note (fun r σ' => R mj_OC (d + 1) mX10_spill Q 44 [some (rV 0 0), some (iV x1), some (iV x2)] (r.toList ++ []) σ') 0 [some (rV 10 0), some (rV 6 0), none] [] σ)) ∧ (¬ x2 ≤ (σ.1 35 0 ((x1).toNatClampNeg)) → Q (some (iV (-2 : Int32))) σ)))) ∧ (s0 = 0 → Q (some (iV (-1 : Int32))) σ))) : R mj_OC (d + 1) mX10_spill Q 12 [some (rV 0 0), some (iV x1), some (iV x2)] [iV s0] σ := by
  refine r_if_ne (tgt := 17) dX10_spill_12 (by decide) (fun c => ?_) (fun c => ?_)
  · have H := H.1 c
    refine r_aload_n dX10_spill_17 rfl rfl ?_
    refine r_get (k := 0) (i := 0) (j := 1) (v := rV 6 0) rfl rfl ho0 rfl hX10 (by decide) rfl fX10_30 dX10_spill_18 (fun _ => rfl) ?_
    refine r_get (k := 6) (i := 0) (j := 1) (v := rV 35 0) rfl rfl (ho6 (by decide)) rfl hX8 (by decide) rfl fX10_141 dX10_spill_21 (fun _ => rfl) ?_
    refine r_iload_n dX10_spill_24 rfl rfl ?_
    obtain ⟨q1, H⟩ := H
    refine r_iald (k := 35) (i := 0) rfl (ho35 (by decide)) q1 dX10_spill_25 ?_
    refine r_iload_n dX10_spill_26 rfl rfl ?_
    refine r_icmp_ge (tgt := 33) dX10_spill_27 (by decide) (fun c => ?_) (fun c => ?_)
    · have H := H.1 c
      refine r_aload_n dX10_spill_33 rfl rfl ?_
      refine r_get (k := 0) (i := 0) (j := 7) (v := rV 10 0) rfl rfl ho0 rfl hX10 (by decide) rfl fX10_64 dX10_spill_34 (fun _ => rfl) ?_
      refine r_aload_n dX10_spill_37 rfl rfl ?_
      refine r_get (k := 0) (i := 0) (j := 1) (v := rV 6 0) rfl rfl ho0 rfl hX10 (by decide) rfl fX10_30 dX10_spill_38 (fun _ => rfl) ?_
      refine r_callV (z := 1) (k := 10) (i := 0) (As := [rV 6 0]) (st := []) kX2_note i_X2_note e_X2_note lX10_244 dX10_spill_41 rfl rfl ho10 rfl rfl rfl rfl rfl (Nat.le_of_ble_eq_true rfl) ?_
      exact H
    · have H := H.2 c
      refine r_bipush (v := (-2 : Int32)) dX10_spill_30 rfl ?_
      exact r_iret dX10_spill_32 rfl H
  · have H := H.2 c
    refine r_iconst (v := (-1 : Int32)) dX10_spill_15 rfl ?_
    exact r_iret dX10_spill_16 rfl H
set_option maxRecDepth 100000 in
theorem bX10_spill_44 {d : Nat} {Q : Option MV → MS → Prop} {x1 : Int32} {x2 : Int32} {σ : MS}  (H : (R mj_OC d mX8_lose (fun r σ' => R mj_OC (d + 1) mX10_spill Q 53 [some (rV 0 0), some (iV x1), some (iV x2)] (r.toList ++ []) σ') 0 [some (rV 6 0), some (iV x1), some (iV x2)] [] σ)) : R mj_OC (d + 1) mX10_spill Q 44 [some (rV 0 0), some (iV x1), some (iV x2)] [] σ := by
  refine r_aload_n dX10_spill_44 rfl rfl ?_
  refine r_get (k := 0) (i := 0) (j := 1) (v := rV 6 0) rfl rfl ho0 rfl hX10 (by decide) rfl fX10_30 dX10_spill_45 (fun _ => rfl) ?_
  refine r_iload_n dX10_spill_48 rfl rfl ?_
  refine r_iload_n dX10_spill_49 rfl rfl ?_
  refine r_callV (z := 0) (k := 6) (i := 0) (As := [iV x1, iV x2]) (st := []) kX8_lose i_X8_lose e_X8_lose lX10_259 dX10_spill_50 rfl rfl (ho6 (by decide)) rfl rfl rfl rfl rfl (Nat.le_of_ble_eq_true rfl) ?_
  exact H
set_option maxRecDepth 100000 in
theorem bX10_spill_53 {d : Nat} {Q : Option MV → MS → Prop} {x1 : Int32} {x2 : Int32} {σ : MS}  (H : (vp_in x1 7 ∧ Q (some (iV (σ.1 35 0 ((x1).toNatClampNeg)))) σ)) : R mj_OC d mX10_spill Q 53 [some (rV 0 0), some (iV x1), some (iV x2)] [] σ := by
  refine r_aload_n dX10_spill_53 rfl rfl ?_
  refine r_get (k := 0) (i := 0) (j := 1) (v := rV 6 0) rfl rfl ho0 rfl hX10 (by decide) rfl fX10_30 dX10_spill_54 (fun _ => rfl) ?_
  refine r_get (k := 6) (i := 0) (j := 1) (v := rV 35 0) rfl rfl (ho6 (by decide)) rfl hX8 (by decide) rfl fX10_141 dX10_spill_57 (fun _ => rfl) ?_
  refine r_iload_n dX10_spill_60 rfl rfl ?_
  obtain ⟨q1, H⟩ := H
  refine r_iald (k := 35) (i := 0) rfl (ho35 (by decide)) q1 dX10_spill_61 ?_
  exact r_iret dX10_spill_62 rfl H
set_option maxRecDepth 100000 in
theorem bX10_mend_0 {d : Nat} {Q : Option MV → MS → Prop} {x1 : Int32} {σ : MS}  (H : (R mj_OC d mX10_isPipe (fun r σ' => R mj_OC (d + 1) mX10_mend Q 5 [some (rV 0 0), some (iV x1)] (r.toList ++ []) σ') 0 [some (rV 0 0), some (iV x1)] [] σ)) : R mj_OC (d + 1) mX10_mend Q 0 [some (rV 0 0), some (iV x1)] [] σ := by
  refine r_aload_n dX10_mend_0 rfl rfl ?_
  refine r_iload_n dX10_mend_1 rfl rfl ?_
  refine r_callV (z := 0) (k := 0) (i := 0) (As := [iV x1]) (st := []) kX10_isPipe i_X10_isPipe e_X10_isPipe lX10_174 dX10_mend_2 rfl rfl ho0 rfl rfl rfl rfl rfl (Nat.le_of_ble_eq_true rfl) ?_
  exact H
set_option maxRecDepth 100000 in
theorem bX10_mend_5 {d : Nat} {Q : Option MV → MS → Prop} {x1 : Int32} {s0 : Int32} {σ : MS}  (H : ((s0 = 0 → Q (some (iV (0 : Int32))) σ) ∧ (¬ s0 = 0 → (R mj_OC d mX8_isJammed (fun r σ' => R mj_OC (d + 1) mX10_mend Q 16 [some (rV 0 0), some (iV x1)] (r.toList ++ []) σ') 0 [some (rV 6 0), some (iV x1)] [] σ)))) : R mj_OC (d + 1) mX10_mend Q 5 [some (rV 0 0), some (iV x1)] [iV s0] σ := by
  refine r_if_eq (tgt := 19) dX10_mend_5 (by decide) (fun c => ?_) (fun c => ?_)
  · have H := H.1 c
    refine r_iconst (v := (0 : Int32)) dX10_mend_19 rfl ?_
    exact r_zret dX10_mend_20 rfl (by decide) H
  · have H := H.2 c
    refine r_aload_n dX10_mend_8 rfl rfl ?_
    refine r_get (k := 0) (i := 0) (j := 1) (v := rV 6 0) rfl rfl ho0 rfl hX10 (by decide) rfl fX10_30 dX10_mend_9 (fun _ => rfl) ?_
    refine r_iload_n dX10_mend_12 rfl rfl ?_
    refine r_callV (z := 0) (k := 6) (i := 0) (As := [iV x1]) (st := []) kX8_isJammed i_X8_isJammed e_X8_isJammed lX10_241 dX10_mend_13 rfl rfl (ho6 (by decide)) rfl rfl rfl rfl rfl (Nat.le_of_ble_eq_true rfl) ?_
    exact H
set_option maxRecDepth 100000 in
theorem bX10_mend_16 {d : Nat} {Q : Option MV → MS → Prop} {x1 : Int32} {s0 : Int32} {σ : MS}  (H : ((¬ s0 = 0 → (R mj_OC d mX2_note (fun r σ' => R mj_OC (d + 1) mX10_mend Q 32 [some (rV 0 0), some (iV x1)] (r.toList ++ []) σ') 0 [some (rV 10 0), some (rV 6 0), none] [] σ)) ∧ (s0 = 0 → Q (some (iV (0 : Int32))) σ))) : R mj_OC (d + 1) mX10_mend Q 16 [some (rV 0 0), some (iV x1)] [iV s0] σ := by
  refine r_if_ne (tgt := 21) dX10_mend_16 (by decide) (fun c => ?_) (fun c => ?_)
  · have H := H.1 c
    refine r_aload_n dX10_mend_21 rfl rfl ?_
    refine r_get (k := 0) (i := 0) (j := 7) (v := rV 10 0) rfl rfl ho0 rfl hX10 (by decide) rfl fX10_64 dX10_mend_22 (fun _ => rfl) ?_
    refine r_aload_n dX10_mend_25 rfl rfl ?_
    refine r_get (k := 0) (i := 0) (j := 1) (v := rV 6 0) rfl rfl ho0 rfl hX10 (by decide) rfl fX10_30 dX10_mend_26 (fun _ => rfl) ?_
    refine r_callV (z := 1) (k := 10) (i := 0) (As := [rV 6 0]) (st := []) kX2_note i_X2_note e_X2_note lX10_244 dX10_mend_29 rfl rfl ho10 rfl rfl rfl rfl rfl (Nat.le_of_ble_eq_true rfl) ?_
    exact H
  · have H := H.2 c
    refine r_iconst (v := (0 : Int32)) dX10_mend_19 rfl ?_
    exact r_zret dX10_mend_20 rfl (by decide) H
set_option maxRecDepth 100000 in
theorem bX10_mend_32 {d : Nat} {Q : Option MV → MS → Prop} {x1 : Int32} {σ : MS}  (H : Q (some (iV (1 : Int32))) (uI σ 6 0 2 ((σ.1 6 0 2) &&& (((1 : Int32) <<< (x1 &&& 31)) ^^^ (-1 : Int32))))) : R mj_OC d mX10_mend Q 32 [some (rV 0 0), some (iV x1)] [] σ := by
  refine r_aload_n dX10_mend_32 rfl rfl ?_
  refine r_get (k := 0) (i := 0) (j := 1) (v := rV 6 0) rfl rfl ho0 rfl hX10 (by decide) rfl fX10_30 dX10_mend_33 (fun _ => rfl) ?_
  refine r_dup_r dX10_mend_36 ?_
  refine r_get (k := 6) (i := 0) (j := 2) (v := iV (σ.1 6 0 2)) rfl rfl (ho6 (by decide)) rfl hX8 (by decide) rfl fX10_193 dX10_mend_37 (fun _ => rfl) ?_
  refine r_iconst (v := (1 : Int32)) dX10_mend_40 rfl ?_
  refine r_iload_n dX10_mend_41 rfl rfl ?_
  refine r_ishl dX10_mend_42 ?_
  refine r_iconst (v := (-1 : Int32)) dX10_mend_43 rfl ?_
  refine r_ixor dX10_mend_44 ?_
  refine r_iand dX10_mend_45 ?_
  refine r_putI (k := 6) (i := 0) (j := 2) (ty0 := tyX8) rfl rfl (ho6 (by decide)) rfl hX8 (by decide) rfl fX10_193 dX10_mend_46 rfl tyX8_ok nmX8 rfl rfl rfl ?_
  refine r_iconst (v := (1 : Int32)) dX10_mend_49 rfl ?_
  exact r_zret dX10_mend_50 rfl (by decide) H
set_option maxRecDepth 100000 in
theorem bX10_go_0 {d : Nat} {Q : Option MV → MS → Prop} {x1 : Int32} {σ : MS}  (H : ((x1 < 0 → Q (some (iV (-1 : Int32))) σ) ∧ (¬ x1 < 0 → (((200 : Int32) < x1 → Q (some (iV (-1 : Int32))) σ) ∧ (¬ (200 : Int32) < x1 → ((((σ.1 6 0 6) + x1) ≤ (9800 : Int32) → (R mj_OC d mX5_asItGoes (fun r σ' => R mj_OC (d + 1) mX10_go Q 35 [some (rV 0 0), some (iV x1)] (r.toList ++ []) σ') 0 [some (rV 7 0)] [] σ)) ∧ (¬ ((σ.1 6 0 6) + x1) ≤ (9800 : Int32) → Q (some (iV (-1 : Int32))) σ))))))) : R mj_OC (d + 1) mX10_go Q 0 [some (rV 0 0), some (iV x1)] [] σ := by
  refine r_iload_n dX10_go_0 rfl rfl ?_
  refine r_if_lt (tgt := 26) dX10_go_1 (by decide) (fun c => ?_) (fun c => ?_)
  · have H := H.1 c
    refine r_iconst (v := (-1 : Int32)) dX10_go_26 rfl ?_
    exact r_iret dX10_go_27 rfl H
  · have H := H.2 c
    refine r_iload_n dX10_go_4 rfl rfl ?_
    refine r_sipush (v := (200 : Int32)) dX10_go_5 rfl ?_
    refine r_icmp_gt (tgt := 26) dX10_go_8 (by decide) (fun c => ?_) (fun c => ?_)
    · have H := H.1 c
      refine r_iconst (v := (-1 : Int32)) dX10_go_26 rfl ?_
      exact r_iret dX10_go_27 rfl H
    · have H := H.2 c
      refine r_aload_n dX10_go_11 rfl rfl ?_
      refine r_get (k := 0) (i := 0) (j := 1) (v := rV 6 0) rfl rfl ho0 rfl hX10 (by decide) rfl fX10_30 dX10_go_12 (fun _ => rfl) ?_
      refine r_get (k := 6) (i := 0) (j := 6) (v := iV (σ.1 6 0 6)) rfl rfl (ho6 (by decide)) rfl hX8 (by decide) rfl fX10_262 dX10_go_15 (fun _ => rfl) ?_
      refine r_iload_n dX10_go_18 rfl rfl ?_
      refine r_iadd dX10_go_19 ?_
      refine r_sipush (v := (9800 : Int32)) dX10_go_20 rfl ?_
      refine r_icmp_le (tgt := 28) dX10_go_23 (by decide) (fun c => ?_) (fun c => ?_)
      · have H := H.1 c
        refine r_aload_n dX10_go_28 rfl rfl ?_
        refine r_get (k := 0) (i := 0) (j := 4) (v := rV 7 0) rfl rfl ho0 rfl hX10 (by decide) rfl fX10_43 dX10_go_29 (fun _ => rfl) ?_
        refine r_callV (z := 0) (k := 7) (i := 0) (As := []) (st := []) kX5_asItGoes i_X5_asItGoes e_X5_asItGoes lX10_186 dX10_go_32 rfl rfl ho7 rfl rfl rfl rfl rfl (Nat.le_of_ble_eq_true rfl) ?_
        exact H
      · have H := H.2 c
        refine r_iconst (v := (-1 : Int32)) dX10_go_26 rfl ?_
        exact r_iret dX10_go_27 rfl H
set_option maxRecDepth 100000 in
theorem bX10_go_35 {d : Nat} {Q : Option MV → MS → Prop} {x1 : Int32} {σ : MS}  (H : (R mj_OC d mX5_advance (fun r σ' => R mj_OC (d + 1) mX10_go Q 55 [some (rV 0 0), some (iV x1)] (r.toList ++ []) σ') 0 [some (rV 7 0), some (rV 6 0), some (iV x1), none] [] (uI σ 7 0 0 (1 : Int32)))) : R mj_OC (d + 1) mX10_go Q 35 [some (rV 0 0), some (iV x1)] [] σ := by
  refine r_aload_n dX10_go_35 rfl rfl ?_
  refine r_get (k := 0) (i := 0) (j := 4) (v := rV 7 0) rfl rfl ho0 rfl hX10 (by decide) rfl fX10_43 dX10_go_36 (fun _ => rfl) ?_
  refine r_iconst (v := (1 : Int32)) dX10_go_39 rfl ?_
  refine r_putI (k := 7) (i := 0) (j := 0) (ty0 := tyX5) rfl rfl ho7 rfl hX5 (by decide) rfl fX10_265 dX10_go_40 rfl tyX5_ok nmX5 rfl (by decide) (by decide) ?_
  refine r_aload_n dX10_go_43 rfl rfl ?_
  refine r_get (k := 0) (i := 0) (j := 4) (v := rV 7 0) rfl rfl ho0 rfl hX10 (by decide) rfl fX10_43 dX10_go_44 (fun _ => rfl) ?_
  refine r_aload_n dX10_go_47 rfl rfl ?_
  refine r_get (k := 0) (i := 0) (j := 1) (v := rV 6 0) rfl rfl ho0 rfl hX10 (by decide) rfl fX10_30 dX10_go_48 (fun _ => rfl) ?_
  refine r_iload_n dX10_go_51 rfl rfl ?_
  refine r_callV (z := 1) (k := 7) (i := 0) (As := [rV 6 0, iV x1]) (st := []) kX5_advance i_X5_advance e_X5_advance lX10_268 dX10_go_52 rfl rfl ho7 rfl rfl rfl rfl rfl (Nat.le_of_ble_eq_true rfl) ?_
  exact H
set_option maxRecDepth 100000 in
theorem bX10_go_55 {d : Nat} {Q : Option MV → MS → Prop} {x1 : Int32} {σ : MS}  (H : ((x1 ≤ 0 → Q (some (iV (σ.1 6 0 6))) σ) ∧ (¬ x1 ≤ 0 → (R mj_OC d mX2_clear (fun r σ' => R mj_OC (d + 1) mX10_go Q 66 [some (rV 0 0), some (iV x1)] (r.toList ++ []) σ') 0 [some (rV 10 0)] [] σ)))) : R mj_OC (d + 1) mX10_go Q 55 [some (rV 0 0), some (iV x1)] [] σ := by
  refine r_iload_n dX10_go_55 rfl rfl ?_
  refine r_if_le (tgt := 66) dX10_go_56 (by decide) (fun c => ?_) (fun c => ?_)
  · have H := H.1 c
    refine r_aload_n dX10_go_66 rfl rfl ?_
    refine r_get (k := 0) (i := 0) (j := 1) (v := rV 6 0) rfl rfl ho0 rfl hX10 (by decide) rfl fX10_30 dX10_go_67 (fun _ => rfl) ?_
    refine r_get (k := 6) (i := 0) (j := 6) (v := iV (σ.1 6 0 6)) rfl rfl (ho6 (by decide)) rfl hX8 (by decide) rfl fX10_262 dX10_go_70 (fun _ => rfl) ?_
    exact r_iret dX10_go_73 rfl H
  · have H := H.2 c
    refine r_aload_n dX10_go_59 rfl rfl ?_
    refine r_get (k := 0) (i := 0) (j := 7) (v := rV 10 0) rfl rfl ho0 rfl hX10 (by decide) rfl fX10_64 dX10_go_60 (fun _ => rfl) ?_
    refine r_callV (z := 0) (k := 10) (i := 0) (As := []) (st := []) kX2_clear i_X2_clear e_X2_clear lX10_116 dX10_go_63 rfl rfl ho10 rfl rfl rfl rfl rfl (Nat.le_of_ble_eq_true rfl) ?_
    exact H
set_option maxRecDepth 100000 in
theorem bX10_go_66 {d : Nat} {Q : Option MV → MS → Prop} {x1 : Int32} {σ : MS}  (H : Q (some (iV (σ.1 6 0 6))) σ) : R mj_OC d mX10_go Q 66 [some (rV 0 0), some (iV x1)] [] σ := by
  refine r_aload_n dX10_go_66 rfl rfl ?_
  refine r_get (k := 0) (i := 0) (j := 1) (v := rV 6 0) rfl rfl ho0 rfl hX10 (by decide) rfl fX10_30 dX10_go_67 (fun _ => rfl) ?_
  refine r_get (k := 6) (i := 0) (j := 6) (v := iV (σ.1 6 0 6)) rfl rfl (ho6 (by decide)) rfl hX8 (by decide) rfl fX10_262 dX10_go_70 (fun _ => rfl) ?_
  exact r_iret dX10_go_73 rfl H
set_option maxRecDepth 100000 in
theorem bX10_ahead_0 {d : Nat} {Q : Option MV → MS → Prop} {x1 : Int32} {x2 : Int32} {x3 : Int32} {σ : MS}  (H : ((x1 < 0 → Q (some (iV (-1 : Int32))) σ) ∧ (¬ x1 < 0 → (((200 : Int32) < x1 → Q (some (iV (-1 : Int32))) σ) ∧ (¬ (200 : Int32) < x1 → ((¬ x2 = 0 → ((x2 < 0 → Q (some (iV (-1 : Int32))) σ) ∧ (¬ x2 < 0 → ((x2 ≤ (4 : Int32) → (R mj_OC d mX8_become (fun r σ' => R mj_OC (d + 1) mX10_ahead Q 45 [some (rV 0 0), some (iV x1), some (iV x2), some (iV x3)] (r.toList ++ []) σ') 0 [some (rV 6 2), some (rV 6 0), none] [] σ)) ∧ (¬ x2 ≤ (4 : Int32) → Q (some (iV (-1 : Int32))) σ))))) ∧ (x2 = 0 → (R mj_OC d mX10_isPond (fun r σ' => R mj_OC (d + 1) mX10_ahead Q 20 [some (rV 0 0), some (iV x1), some (iV x2), some (iV x3)] (r.toList ++ []) σ') 0 [some (rV 0 0), some (iV x3)] [] σ)))))))) : R mj_OC (d + 1) mX10_ahead Q 0 [some (rV 0 0), some (iV x1), some (iV x2), some (iV x3)] [] σ := by
  refine r_iload_n dX10_ahead_0 rfl rfl ?_
  refine r_if_lt (tgt := 32) dX10_ahead_1 (by decide) (fun c => ?_) (fun c => ?_)
  · have H := H.1 c
    refine r_iconst (v := (-1 : Int32)) dX10_ahead_32 rfl ?_
    exact r_iret dX10_ahead_33 rfl H
  · have H := H.2 c
    refine r_iload_n dX10_ahead_4 rfl rfl ?_
    refine r_sipush (v := (200 : Int32)) dX10_ahead_5 rfl ?_
    refine r_icmp_gt (tgt := 32) dX10_ahead_8 (by decide) (fun c => ?_) (fun c => ?_)
    · have H := H.1 c
      refine r_iconst (v := (-1 : Int32)) dX10_ahead_32 rfl ?_
      exact r_iret dX10_ahead_33 rfl H
    · have H := H.2 c
      refine r_iload_n dX10_ahead_11 rfl rfl ?_
      refine r_if_ne (tgt := 23) dX10_ahead_12 (by decide) (fun c => ?_) (fun c => ?_)
      · have H := H.1 c
        refine r_iload_n dX10_ahead_23 rfl rfl ?_
        refine r_if_lt (tgt := 32) dX10_ahead_24 (by decide) (fun c => ?_) (fun c => ?_)
        · have H := H.1 c
          refine r_iconst (v := (-1 : Int32)) dX10_ahead_32 rfl ?_
          exact r_iret dX10_ahead_33 rfl H
        · have H := H.2 c
          refine r_iload_n dX10_ahead_27 rfl rfl ?_
          refine r_iconst (v := (4 : Int32)) dX10_ahead_28 rfl ?_
          refine r_icmp_le (tgt := 34) dX10_ahead_29 (by decide) (fun c => ?_) (fun c => ?_)
          · have H := H.1 c
            refine r_aload_n dX10_ahead_34 rfl rfl ?_
            refine r_get (k := 0) (i := 0) (j := 3) (v := rV 6 2) rfl rfl ho0 rfl hX10 (by decide) rfl fX10_37 dX10_ahead_35 (fun _ => rfl) ?_
            refine r_aload_n dX10_ahead_38 rfl rfl ?_
            refine r_get (k := 0) (i := 0) (j := 1) (v := rV 6 0) rfl rfl ho0 rfl hX10 (by decide) rfl fX10_30 dX10_ahead_39 (fun _ => rfl) ?_
            refine r_callV (z := 1) (k := 6) (i := 2) (As := [rV 6 0]) (st := []) kX8_become i_X8_become e_X8_become lX10_272 dX10_ahead_42 rfl rfl (ho6 (by decide)) rfl rfl rfl rfl rfl (Nat.le_of_ble_eq_true rfl) ?_
            exact H
          · have H := H.2 c
            refine r_iconst (v := (-1 : Int32)) dX10_ahead_32 rfl ?_
            exact r_iret dX10_ahead_33 rfl H
      · have H := H.2 c
        refine r_aload_n dX10_ahead_15 rfl rfl ?_
        refine r_iload_n dX10_ahead_16 rfl rfl ?_
        refine r_callV (z := 0) (k := 0) (i := 0) (As := [iV x3]) (st := []) kX10_isPond i_X10_isPond e_X10_isPond lX10_124 dX10_ahead_17 rfl rfl ho0 rfl rfl rfl rfl rfl (Nat.le_of_ble_eq_true rfl) ?_
        exact H
set_option maxRecDepth 100000 in
theorem bX10_ahead_20 {d : Nat} {Q : Option MV → MS → Prop} {x1 : Int32} {x2 : Int32} {x3 : Int32} {s0 : Int32} {σ : MS}  (H : ((s0 = 0 → Q (some (iV (-1 : Int32))) σ) ∧ (¬ s0 = 0 → ((x2 < 0 → Q (some (iV (-1 : Int32))) σ) ∧ (¬ x2 < 0 → ((x2 ≤ (4 : Int32) → (R mj_OC d mX8_become (fun r σ' => R mj_OC (d + 1) mX10_ahead Q 45 [some (rV 0 0), some (iV x1), some (iV x2), some (iV x3)] (r.toList ++ []) σ') 0 [some (rV 6 2), some (rV 6 0), none] [] σ)) ∧ (¬ x2 ≤ (4 : Int32) → Q (some (iV (-1 : Int32))) σ))))))) : R mj_OC (d + 1) mX10_ahead Q 20 [some (rV 0 0), some (iV x1), some (iV x2), some (iV x3)] [iV s0] σ := by
  refine r_if_eq (tgt := 32) dX10_ahead_20 (by decide) (fun c => ?_) (fun c => ?_)
  · have H := H.1 c
    refine r_iconst (v := (-1 : Int32)) dX10_ahead_32 rfl ?_
    exact r_iret dX10_ahead_33 rfl H
  · have H := H.2 c
    refine r_iload_n dX10_ahead_23 rfl rfl ?_
    refine r_if_lt (tgt := 32) dX10_ahead_24 (by decide) (fun c => ?_) (fun c => ?_)
    · have H := H.1 c
      refine r_iconst (v := (-1 : Int32)) dX10_ahead_32 rfl ?_
      exact r_iret dX10_ahead_33 rfl H
    · have H := H.2 c
      refine r_iload_n dX10_ahead_27 rfl rfl ?_
      refine r_iconst (v := (4 : Int32)) dX10_ahead_28 rfl ?_
      refine r_icmp_le (tgt := 34) dX10_ahead_29 (by decide) (fun c => ?_) (fun c => ?_)
      · have H := H.1 c
        refine r_aload_n dX10_ahead_34 rfl rfl ?_
        refine r_get (k := 0) (i := 0) (j := 3) (v := rV 6 2) rfl rfl ho0 rfl hX10 (by decide) rfl fX10_37 dX10_ahead_35 (fun _ => rfl) ?_
        refine r_aload_n dX10_ahead_38 rfl rfl ?_
        refine r_get (k := 0) (i := 0) (j := 1) (v := rV 6 0) rfl rfl ho0 rfl hX10 (by decide) rfl fX10_30 dX10_ahead_39 (fun _ => rfl) ?_
        refine r_callV (z := 1) (k := 6) (i := 2) (As := [rV 6 0]) (st := []) kX8_become i_X8_become e_X8_become lX10_272 dX10_ahead_42 rfl rfl (ho6 (by decide)) rfl rfl rfl rfl rfl (Nat.le_of_ble_eq_true rfl) ?_
        exact H
      · have H := H.2 c
        refine r_iconst (v := (-1 : Int32)) dX10_ahead_32 rfl ?_
        exact r_iret dX10_ahead_33 rfl H
set_option maxRecDepth 100000 in
theorem bX10_ahead_45 {d : Nat} {Q : Option MV → MS → Prop} {x1 : Int32} {x2 : Int32} {x3 : Int32} {σ : MS}  (H : (R mj_OC d mX5_asItGoes (fun r σ' => R mj_OC (d + 1) mX10_ahead Q 52 [some (rV 0 0), some (iV x1), some (iV x2), some (iV x3)] (r.toList ++ []) σ') 0 [some (rV 7 0)] [] σ)) : R mj_OC (d + 1) mX10_ahead Q 45 [some (rV 0 0), some (iV x1), some (iV x2), some (iV x3)] [] σ := by
  refine r_aload_n dX10_ahead_45 rfl rfl ?_
  refine r_get (k := 0) (i := 0) (j := 4) (v := rV 7 0) rfl rfl ho0 rfl hX10 (by decide) rfl fX10_43 dX10_ahead_46 (fun _ => rfl) ?_
  refine r_callV (z := 0) (k := 7) (i := 0) (As := []) (st := []) kX5_asItGoes i_X5_asItGoes e_X5_asItGoes lX10_186 dX10_ahead_49 rfl rfl ho7 rfl rfl rfl rfl rfl (Nat.le_of_ble_eq_true rfl) ?_
  exact H
set_option maxRecDepth 100000 in
theorem bX10_ahead_52 {d : Nat} {Q : Option MV → MS → Prop} {x1 : Int32} {x2 : Int32} {x3 : Int32} {σ : MS}  (H : (R mj_OC d mX5_advance (fun r σ' => R mj_OC (d + 1) mX10_ahead Q 64 [some (rV 0 0), some (iV x1), some (iV x2), some (iV x3)] (r.toList ++ []) σ') 0 [some (rV 7 0), some (rV 6 2), some (iV x1), none] [] σ)) : R mj_OC (d + 1) mX10_ahead Q 52 [some (rV 0 0), some (iV x1), some (iV x2), some (iV x3)] [] σ := by
  refine r_aload_n dX10_ahead_52 rfl rfl ?_
  refine r_get (k := 0) (i := 0) (j := 4) (v := rV 7 0) rfl rfl ho0 rfl hX10 (by decide) rfl fX10_43 dX10_ahead_53 (fun _ => rfl) ?_
  refine r_aload_n dX10_ahead_56 rfl rfl ?_
  refine r_get (k := 0) (i := 0) (j := 3) (v := rV 6 2) rfl rfl ho0 rfl hX10 (by decide) rfl fX10_37 dX10_ahead_57 (fun _ => rfl) ?_
  refine r_iload_n dX10_ahead_60 rfl rfl ?_
  refine r_callV (z := 1) (k := 7) (i := 0) (As := [rV 6 2, iV x1]) (st := []) kX5_advance i_X5_advance e_X5_advance lX10_268 dX10_ahead_61 rfl rfl ho7 rfl rfl rfl rfl rfl (Nat.le_of_ble_eq_true rfl) ?_
  exact H
set_option maxRecDepth 100000 in
theorem bX10_ahead_64 {d : Nat} {Q : Option MV → MS → Prop} {x1 : Int32} {x2 : Int32} {x3 : Int32} {σ : MS}  (H : ((x2 = 0 → (vp_in x3 7 ∧ Q (some (iV (σ.1 35 2 ((x3).toNatClampNeg)))) σ)) ∧ (¬ x2 = 0 → ((x2 = 1 → (R mj_OC d mX8_boatsThatAre (fun r σ' => R mj_OC (d + 1) mX10_ahead Q 114 [some (rV 0 0), some (iV x1), some (iV x2), some (iV x3)] (r.toList ++ []) σ') 0 [some (rV 6 2), some (iV (2 : Int32)), none, none] [] σ)) ∧ (¬ x2 = 1 → ((x2 = 2 → (R mj_OC d mX8_waitedByAll (fun r σ' => R mj_OC (d + 1) mX10_ahead Q 122 [some (rV 0 0), some (iV x1), some (iV x2), some (iV x3)] (r.toList ++ []) σ') 0 [some (rV 6 2), none, none] [] σ)) ∧ (¬ x2 = 2 → ((x2 = 3 → (R mj_OC d mJ6_bitCount_0f7a4 (fun r σ' => R mj_OC (d + 1) mX10_ahead Q 141 [some (rV 0 0), some (iV x1), some (iV x2), some (iV x3)] (r.toList ++ []) σ') 0 [some (iV (σ.1 6 2 2))] [] σ)) ∧ (¬ x2 = 3 → Q (some (iV ((σ.1 6 2 5) - (σ.1 6 0 5)))) σ))))))))) : R mj_OC (d + 1) mX10_ahead Q 64 [some (rV 0 0), some (iV x1), some (iV x2), some (iV x3)] [] σ := by
  refine r_iload_n dX10_ahead_64 rfl rfl ?_
  by_cases c0 : x2 = 0
  · have H := H.1 c0
    refine r_tableIn (tgt := 96) (off := 31) dX10_ahead_65 (by rw [c0]; decide) (by rw [c0]; decide) (by rw [c0]; rfl) (by decide) ?_
    refine r_aload_n dX10_ahead_96 rfl rfl ?_
    refine r_get (k := 0) (i := 0) (j := 3) (v := rV 6 2) rfl rfl ho0 rfl hX10 (by decide) rfl fX10_37 dX10_ahead_97 (fun _ => rfl) ?_
    refine r_get (k := 6) (i := 2) (j := 1) (v := rV 35 2) rfl rfl (ho6 (by decide)) rfl hX8 (by decide) rfl fX10_141 dX10_ahead_100 (fun _ => rfl) ?_
    refine r_iload_n dX10_ahead_103 rfl rfl ?_
    obtain ⟨q1, H⟩ := H
    refine r_iald (k := 35) (i := 2) rfl (ho35 (by decide)) q1 dX10_ahead_104 ?_
    exact r_iret dX10_ahead_105 rfl H
  replace H := H.2 c0
  by_cases c1 : x2 = 1
  · have H := H.1 c1
    refine r_tableIn (tgt := 106) (off := 41) dX10_ahead_65 (by rw [c1]; decide) (by rw [c1]; decide) (by rw [c1]; rfl) (by decide) ?_
    refine r_aload_n dX10_ahead_106 rfl rfl ?_
    refine r_get (k := 0) (i := 0) (j := 3) (v := rV 6 2) rfl rfl ho0 rfl hX10 (by decide) rfl fX10_37 dX10_ahead_107 (fun _ => rfl) ?_
    refine r_iconst (v := (2 : Int32)) dX10_ahead_110 rfl ?_
    refine r_callV (z := 2) (k := 6) (i := 2) (As := [iV (2 : Int32)]) (st := []) kX8_boatsThatAre i_X8_boatsThatAre e_X8_boatsThatAre lX10_275 dX10_ahead_111 rfl rfl (ho6 (by decide)) rfl rfl rfl rfl rfl (Nat.le_of_ble_eq_true rfl) ?_
    exact H
  replace H := H.2 c1
  by_cases c2 : x2 = 2
  · have H := H.1 c2
    refine r_tableIn (tgt := 115) (off := 50) dX10_ahead_65 (by rw [c2]; decide) (by rw [c2]; decide) (by rw [c2]; rfl) (by decide) ?_
    refine r_aload_n dX10_ahead_115 rfl rfl ?_
    refine r_get (k := 0) (i := 0) (j := 3) (v := rV 6 2) rfl rfl ho0 rfl hX10 (by decide) rfl fX10_37 dX10_ahead_116 (fun _ => rfl) ?_
    refine r_callV (z := 2) (k := 6) (i := 2) (As := []) (st := []) kX8_waitedByAll i_X8_waitedByAll e_X8_waitedByAll lX10_278 dX10_ahead_119 rfl rfl (ho6 (by decide)) rfl rfl rfl rfl rfl (Nat.le_of_ble_eq_true rfl) ?_
    exact H
  replace H := H.2 c2
  by_cases c3 : x2 = 3
  · have H := H.1 c3
    refine r_tableIn (tgt := 131) (off := 66) dX10_ahead_65 (by rw [c3]; decide) (by rw [c3]; decide) (by rw [c3]; rfl) (by decide) ?_
    refine r_aload_n dX10_ahead_131 rfl rfl ?_
    refine r_get (k := 0) (i := 0) (j := 3) (v := rV 6 2) rfl rfl ho0 rfl hX10 (by decide) rfl fX10_37 dX10_ahead_132 (fun _ => rfl) ?_
    refine r_get (k := 6) (i := 2) (j := 2) (v := iV (σ.1 6 2 2)) rfl rfl (ho6 (by decide)) rfl hX8 (by decide) rfl fX10_193 dX10_ahead_135 (fun _ => rfl) ?_
    refine r_callS (z := 0) (As := [iV (σ.1 6 2 2)]) (st := []) kJ6_bitCount_0f7a4 s_J6_bitCount_0f7a4 lX10_282 dX10_ahead_138 rfl rfl rfl rfl (Nat.le_of_ble_eq_true rfl) ?_
    exact H
  replace H := H.2 c3
  refine r_tableOut (tgt := 142) dX10_ahead_65 (by have z0 := lv_neT c0 (show (0 : Int32).toInt = 0 by decide); have z1 := lv_neT c1 (show (1 : Int32).toInt = 1 by decide); have z2 := lv_neT c2 (show (2 : Int32).toInt = 2 by decide); have z3 := lv_neT c3 (show (3 : Int32).toInt = 3 by decide); omega) (by decide) ?_
  refine r_aload_n dX10_ahead_142 rfl rfl ?_
  refine r_get (k := 0) (i := 0) (j := 3) (v := rV 6 2) rfl rfl ho0 rfl hX10 (by decide) rfl fX10_37 dX10_ahead_143 (fun _ => rfl) ?_
  refine r_get (k := 6) (i := 2) (j := 5) (v := iV (σ.1 6 2 5)) rfl rfl (ho6 (by decide)) rfl hX8 (by decide) rfl fX10_287 dX10_ahead_146 (fun _ => rfl) ?_
  refine r_aload_n dX10_ahead_149 rfl rfl ?_
  refine r_get (k := 0) (i := 0) (j := 1) (v := rV 6 0) rfl rfl ho0 rfl hX10 (by decide) rfl fX10_30 dX10_ahead_150 (fun _ => rfl) ?_
  refine r_get (k := 6) (i := 0) (j := 5) (v := iV (σ.1 6 0 5)) rfl rfl (ho6 (by decide)) rfl hX8 (by decide) rfl fX10_287 dX10_ahead_153 (fun _ => rfl) ?_
  refine r_isub dX10_ahead_156 ?_
  exact r_iret dX10_ahead_157 rfl H
set_option maxRecDepth 100000 in
theorem bX10_ahead_114 {d : Nat} {Q : Option MV → MS → Prop} {x1 : Int32} {x2 : Int32} {x3 : Int32} {s0 : Int32} {σ : MS}  (H : Q (some (iV s0)) σ) : R mj_OC d mX10_ahead Q 114 [some (rV 0 0), some (iV x1), some (iV x2), some (iV x3)] [iV s0] σ := by
  exact r_iret dX10_ahead_114 rfl H
set_option maxRecDepth 100000 in
theorem bX10_ahead_122 {d : Nat} {Q : Option MV → MS → Prop} {x1 : Int32} {x2 : Int32} {x3 : Int32} {s0 : Int32} {σ : MS}  (H : (R mj_OC d mX8_waitedByAll (fun r σ' => R mj_OC (d + 1) mX10_ahead Q 129 [some (rV 0 0), some (iV x1), some (iV x2), some (iV x3)] (r.toList ++ [iV s0]) σ') 0 [some (rV 6 0), none, none] [] σ)) : R mj_OC (d + 1) mX10_ahead Q 122 [some (rV 0 0), some (iV x1), some (iV x2), some (iV x3)] [iV s0] σ := by
  refine r_aload_n dX10_ahead_122 rfl rfl ?_
  refine r_get (k := 0) (i := 0) (j := 1) (v := rV 6 0) rfl rfl ho0 rfl hX10 (by decide) rfl fX10_30 dX10_ahead_123 (fun _ => rfl) ?_
  refine r_callV (z := 2) (k := 6) (i := 0) (As := []) (st := [iV s0]) kX8_waitedByAll i_X8_waitedByAll e_X8_waitedByAll lX10_278 dX10_ahead_126 rfl rfl (ho6 (by decide)) rfl rfl rfl rfl rfl (Nat.le_of_ble_eq_true rfl) ?_
  exact H
set_option maxRecDepth 100000 in
theorem bX10_ahead_129 {d : Nat} {Q : Option MV → MS → Prop} {x1 : Int32} {x2 : Int32} {x3 : Int32} {s0 : Int32} {s1 : Int32} {σ : MS}  (H : Q (some (iV (s1 - s0))) σ) : R mj_OC d mX10_ahead Q 129 [some (rV 0 0), some (iV x1), some (iV x2), some (iV x3)] [iV s0, iV s1] σ := by
  refine r_isub dX10_ahead_129 ?_
  exact r_iret dX10_ahead_130 rfl H
set_option maxRecDepth 100000 in
theorem bX10_ahead_141 {d : Nat} {Q : Option MV → MS → Prop} {x1 : Int32} {x2 : Int32} {x3 : Int32} {s0 : Int32} {σ : MS}  (H : Q (some (iV s0)) σ) : R mj_OC d mX10_ahead Q 141 [some (rV 0 0), some (iV x1), some (iV x2), some (iV x3)] [iV s0] σ := by
  exact r_iret dX10_ahead_141 rfl H
set_option maxRecDepth 100000 in
theorem bX10_upWhen_0 {d : Nat} {Q : Option MV → MS → Prop} {x1 : Int32} {σ : MS}  (H : (R mj_OC d mX10_isBoat (fun r σ' => R mj_OC (d + 1) mX10_upWhen Q 5 [some (rV 0 0), some (iV x1), none] (r.toList ++ []) σ') 0 [some (rV 0 0), some (iV x1)] [] σ)) : R mj_OC (d + 1) mX10_upWhen Q 0 [some (rV 0 0), some (iV x1), none] [] σ := by
  refine r_aload_n dX10_upWhen_0 rfl rfl ?_
  refine r_iload_n dX10_upWhen_1 rfl rfl ?_
  refine r_callV (z := 0) (k := 0) (i := 0) (As := [iV x1]) (st := []) kX10_isBoat i_X10_isBoat e_X10_isBoat lX10_211 dX10_upWhen_2 rfl rfl ho0 rfl rfl rfl rfl rfl (Nat.le_of_ble_eq_true rfl) ?_
  exact H
set_option maxRecDepth 100000 in
theorem bX10_upWhen_5 {d : Nat} {Q : Option MV → MS → Prop} {x1 : Int32} {s0 : Int32} {σ : MS}  (H : ((¬ s0 = 0 → (R mj_OC d mX8_become (fun r σ' => R mj_OC (d + 1) mX10_upWhen Q 21 [some (rV 0 0), some (iV x1), none] (r.toList ++ []) σ') 0 [some (rV 6 2), some (rV 6 0), none] [] σ)) ∧ (s0 = 0 → Q (some (iV (-1 : Int32))) σ))) : R mj_OC (d + 1) mX10_upWhen Q 5 [some (rV 0 0), some (iV x1), none] [iV s0] σ := by
  refine r_if_ne (tgt := 10) dX10_upWhen_5 (by decide) (fun c => ?_) (fun c => ?_)
  · have H := H.1 c
    refine r_aload_n dX10_upWhen_10 rfl rfl ?_
    refine r_get (k := 0) (i := 0) (j := 3) (v := rV 6 2) rfl rfl ho0 rfl hX10 (by decide) rfl fX10_37 dX10_upWhen_11 (fun _ => rfl) ?_
    refine r_aload_n dX10_upWhen_14 rfl rfl ?_
    refine r_get (k := 0) (i := 0) (j := 1) (v := rV 6 0) rfl rfl ho0 rfl hX10 (by decide) rfl fX10_30 dX10_upWhen_15 (fun _ => rfl) ?_
    refine r_callV (z := 1) (k := 6) (i := 2) (As := [rV 6 0]) (st := []) kX8_become i_X8_become e_X8_become lX10_272 dX10_upWhen_18 rfl rfl (ho6 (by decide)) rfl rfl rfl rfl rfl (Nat.le_of_ble_eq_true rfl) ?_
    exact H
  · have H := H.2 c
    refine r_iconst (v := (-1 : Int32)) dX10_upWhen_8 rfl ?_
    exact r_iret dX10_upWhen_9 rfl H
set_option maxRecDepth 100000 in
theorem bX10_upWhen_21 {d : Nat} {Q : Option MV → MS → Prop} {x1 : Int32} {σ : MS}  (H : (R mj_OC d mX5_asItGoes (fun r σ' => R mj_OC (d + 1) mX10_upWhen Q 28 [some (rV 0 0), some (iV x1), none] (r.toList ++ []) σ') 0 [some (rV 7 0)] [] σ)) : R mj_OC (d + 1) mX10_upWhen Q 21 [some (rV 0 0), some (iV x1), none] [] σ := by
  refine r_aload_n dX10_upWhen_21 rfl rfl ?_
  refine r_get (k := 0) (i := 0) (j := 4) (v := rV 7 0) rfl rfl ho0 rfl hX10 (by decide) rfl fX10_43 dX10_upWhen_22 (fun _ => rfl) ?_
  refine r_callV (z := 0) (k := 7) (i := 0) (As := []) (st := []) kX5_asItGoes i_X5_asItGoes e_X5_asItGoes lX10_186 dX10_upWhen_25 rfl rfl ho7 rfl rfl rfl rfl rfl (Nat.le_of_ble_eq_true rfl) ?_
  exact H
set_option maxRecDepth 100000 in
theorem bX10_upWhen_28 {d : Nat} {Q : Option MV → MS → Prop} {x1 : Int32} {σ : MS}  (H : R mj_OC d mX10_upWhen Q 30 [some (rV 0 0), some (iV x1), some (iV (0 : Int32))] [] σ) : R mj_OC d mX10_upWhen Q 28 [some (rV 0 0), some (iV x1), none] [] σ := by
  refine r_iconst (v := (0 : Int32)) dX10_upWhen_28 rfl ?_
  refine r_istore_n dX10_upWhen_29 rfl (by decide) rfl ?_
  exact H
set_option maxRecDepth 100000 in
theorem bX10_upWhen_30 {d : Nat} {Q : Option MV → MS → Prop} {x1 : Int32} {x2 : Int32} {σ : MS}  (H : (((199 : Int32) < x2 → Q (some (iV (-2 : Int32))) σ) ∧ (¬ (199 : Int32) < x2 → (vp_in x1 8 ∧ ((¬ (σ.1 36 2 ((x1).toNatClampNeg)) = (2 : Int32) → (R mj_OC d mX5_oneMinute (fun r σ' => R mj_OC (d + 1) mX10_upWhen Q 63 [some (rV 0 0), some (iV x1), some (iV x2)] (r.toList ++ []) σ') 0 [some (rV 7 0), some (rV 6 2)] [] σ)) ∧ ((σ.1 36 2 ((x1).toNatClampNeg)) = (2 : Int32) → Q (some (iV x2)) σ)))))) : R mj_OC (d + 1) mX10_upWhen Q 30 [some (rV 0 0), some (iV x1), some (iV x2)] [] σ := by
  refine r_iload_n dX10_upWhen_30 rfl rfl ?_
  refine r_sipush (v := (199 : Int32)) dX10_upWhen_31 rfl ?_
  refine r_icmp_gt (tgt := 69) dX10_upWhen_34 (by decide) (fun c => ?_) (fun c => ?_)
  · have H := H.1 c
    refine r_bipush (v := (-2 : Int32)) dX10_upWhen_69 rfl ?_
    exact r_iret dX10_upWhen_71 rfl H
  · have H := H.2 c
    refine r_aload_n dX10_upWhen_37 rfl rfl ?_
    refine r_get (k := 0) (i := 0) (j := 3) (v := rV 6 2) rfl rfl ho0 rfl hX10 (by decide) rfl fX10_37 dX10_upWhen_38 (fun _ => rfl) ?_
    refine r_get (k := 6) (i := 2) (j := 3) (v := rV 36 2) rfl rfl (ho6 (by decide)) rfl hX8 (by decide) rfl fX10_220 dX10_upWhen_41 (fun _ => rfl) ?_
    refine r_iload_n dX10_upWhen_44 rfl rfl ?_
    obtain ⟨q1, H⟩ := H
    refine r_iald (k := 36) (i := 2) rfl (ho36 (by decide)) q1 dX10_upWhen_45 ?_
    refine r_iconst (v := (2 : Int32)) dX10_upWhen_46 rfl ?_
    refine r_icmp_ne (tgt := 52) dX10_upWhen_47 (by decide) (fun c => ?_) (fun c => ?_)
    · have H := H.1 c
      refine r_aload_n dX10_upWhen_52 rfl rfl ?_
      refine r_get (k := 0) (i := 0) (j := 4) (v := rV 7 0) rfl rfl ho0 rfl hX10 (by decide) rfl fX10_43 dX10_upWhen_53 (fun _ => rfl) ?_
      refine r_aload_n dX10_upWhen_56 rfl rfl ?_
      refine r_get (k := 0) (i := 0) (j := 3) (v := rV 6 2) rfl rfl ho0 rfl hX10 (by decide) rfl fX10_37 dX10_upWhen_57 (fun _ => rfl) ?_
      refine r_callV (z := 0) (k := 7) (i := 0) (As := [rV 6 2]) (st := []) kX5_oneMinute i_X5_oneMinute e_X5_oneMinute lX10_290 dX10_upWhen_60 rfl rfl ho7 rfl rfl rfl rfl rfl (Nat.le_of_ble_eq_true rfl) ?_
      exact H
    · have H := H.2 c
      refine r_iload_n dX10_upWhen_50 rfl rfl ?_
      exact r_iret dX10_upWhen_51 rfl H
set_option maxRecDepth 100000 in
theorem bX10_upWhen_63 {d : Nat} {Q : Option MV → MS → Prop} {x1 : Int32} {x2 : Int32} {σ : MS}  (H : R mj_OC d mX10_upWhen Q 30 [some (rV 0 0), some (iV x1), some (iV (x2 + (1 : Int32)))] [] σ) : R mj_OC d mX10_upWhen Q 63 [some (rV 0 0), some (iV x1), some (iV x2)] [] σ := by
  refine r_iinc (v := x2 + (1 : Int32)) dX10_upWhen_63 rfl rfl (by decide) rfl ?_
  refine r_goto (tgt := 30) dX10_upWhen_66 (by decide) ?_
  exact H
set_option maxRecDepth 100000 in
theorem bX10_joined_0 {d : Nat} {Q : Option MV → MS → Prop} {x1 : Int32} {x2 : Int32} {σ : MS}  (H : ((x1 < (1 : Int32) → Q (some (iV (-1 : Int32))) σ) ∧ (¬ x1 < (1 : Int32) → (σ.2.2 0 0 < 2 ∧ ((((1 : Int32) <<< ((σ.1 3 (σ.2.2 0 0) 0) &&& 31)) ≤ x1 → Q (some (iV (-1 : Int32))) σ) ∧ (¬ ((1 : Int32) <<< ((σ.1 3 (σ.2.2 0 0) 0) &&& 31)) ≤ x1 → (R mj_OC d mX10_isHalf (fun r σ' => R mj_OC (d + 1) mX10_joined Q 22 [some (rV 0 0), some (iV x1), some (iV x2), none, none, none, none, none, none, none, none, none] (r.toList ++ []) σ') 0 [some (iV x2)] [] σ))))))) : R mj_OC (d + 1) mX10_joined Q 0 [some (rV 0 0), some (iV x1), some (iV x2), none, none, none, none, none, none, none, none, none] [] σ := by
  refine r_iload_n dX10_joined_0 rfl rfl ?_
  refine r_iconst (v := (1 : Int32)) dX10_joined_1 rfl ?_
  refine r_icmp_lt (tgt := 25) dX10_joined_2 (by decide) (fun c => ?_) (fun c => ?_)
  · have H := H.1 c
    refine r_iconst (v := (-1 : Int32)) dX10_joined_25 rfl ?_
    exact r_iret dX10_joined_26 rfl H
  · have H := H.2 c
    refine r_iload_n dX10_joined_5 rfl rfl ?_
    refine r_iconst (v := (1 : Int32)) dX10_joined_6 rfl ?_
    refine r_aload_n dX10_joined_7 rfl rfl ?_
    refine r_get (k := 0) (i := 0) (j := 9) (v := rV 3 (σ.2.2 0 0)) rfl rfl ho0 rfl hX10 (by decide) rfl fX10_21 dX10_joined_8 (fun _ => rfl) ?_
    obtain ⟨q1, H⟩ := H
    refine r_get (k := 3) (i := (σ.2.2 0 0)) (j := 0) (v := iV (σ.1 3 (σ.2.2 0 0) 0)) rfl rfl (ho3 q1) rfl hX0 (by decide) rfl fX10_293 dX10_joined_11 (fun _ => rfl) ?_
    refine r_ishl dX10_joined_14 ?_
    refine r_icmp_ge (tgt := 25) dX10_joined_15 (by decide) (fun c => ?_) (fun c => ?_)
    · have H := H.1 c
      refine r_iconst (v := (-1 : Int32)) dX10_joined_25 rfl ?_
      exact r_iret dX10_joined_26 rfl H
    · have H := H.2 c
      refine r_iload_n dX10_joined_18 rfl rfl ?_
      refine r_callS (z := 0) (As := [iV x2]) (st := []) kX10_isHalf s_X10_isHalf lX10_164 dX10_joined_19 rfl rfl rfl rfl (Nat.le_of_ble_eq_true rfl) ?_
      exact H
set_option maxRecDepth 100000 in
theorem bX10_joined_22 {d : Nat} {Q : Option MV → MS → Prop} {x1 : Int32} {x2 : Int32} {s0 : Int32} {σ : MS}  (H : ((¬ s0 = 0 → R mj_OC d mX10_joined Q 35 [some (rV 0 0), some (iV x1), some (iV x2), some (lV (0 : Int64)), none, some (lV (0 : Int64)), none, some (iV (0 : Int32)), none, none, none, none] [] σ) ∧ (s0 = 0 → Q (some (iV (-1 : Int32))) σ))) : R mj_OC d mX10_joined Q 22 [some (rV 0 0), some (iV x1), some (iV x2), none, none, none, none, none, none, none, none, none] [iV s0] σ := by
  refine r_if_ne (tgt := 27) dX10_joined_22 (by decide) (fun c => ?_) (fun c => ?_)
  · have H := H.1 c
    refine r_lconst (v := (0 : Int64)) dX10_joined_27 rfl ?_
    refine r_lstore_n dX10_joined_28 rfl (by decide) rfl ?_
    refine r_lconst (v := (0 : Int64)) dX10_joined_29 rfl ?_
    refine r_lstore dX10_joined_30 (by decide) rfl ?_
    refine r_iconst (v := (0 : Int32)) dX10_joined_32 rfl ?_
    refine r_istore dX10_joined_33 (by decide) rfl ?_
    exact H
  · have H := H.2 c
    refine r_iconst (v := (-1 : Int32)) dX10_joined_25 rfl ?_
    exact r_iret dX10_joined_26 rfl H
set_option maxRecDepth 100000 in
theorem bX10_joined_35 {d : Nat} {Q : Option MV → MS → Prop} {x1 : Int32} {x2 : Int32} {x3 : Int64} {x5 : Int64} {x7 : Int32} {σ : MS}  (H : (σ.2.2 0 0 < 2 ∧ (((σ.1 3 (σ.2.2 0 0) 0) ≤ x7 → (R mj_OC d mX10_inLeastTerms (fun r σ' => R mj_OC (d + 1) mX10_joined Q 147 [some (rV 0 0), some (iV x1), some (iV x2), some (lV x3), none, some (lV x5), none, some (iV x7), none, none, none, none] (r.toList ++ []) σ') 0 [some (lV x3), none, some (lV x5), none, some (iV x2), none, none, none, none, none, none, none] [] σ)) ∧ (¬ (σ.1 3 (σ.2.2 0 0) 0) ≤ x7 → ((¬ ((x1 >>> (x7 &&& 31)) &&& (1 : Int32)) = (1 : Int32) → R mj_OC (d + 1) mX10_joined Q 35 [some (rV 0 0), some (iV x1), some (iV x2), some (lV x3), none, some (lV x5), none, some (iV (x7 + (1 : Int32))), none, none, none, none] [] σ) ∧ (((x1 >>> (x7 &&& 31)) &&& (1 : Int32)) = (1 : Int32) → (R mj_OC d mX8_waterOf (fun r σ' => R mj_OC (d + 1) mX10_joined Q 65 [some (rV 0 0), some (iV x1), some (iV x2), some (lV x3), none, some (lV x5), none, some (iV x7), none, none, none, none] (r.toList ++ []) σ') 0 [some (rV 6 0), some (iV x1), none, none] [] σ))))))) : R mj_OC (d + 1) mX10_joined Q 35 [some (rV 0 0), some (iV x1), some (iV x2), some (lV x3), none, some (lV x5), none, some (iV x7), none, none, none, none] [] σ := by
  refine r_iload dX10_joined_35 rfl ?_
  refine r_aload_n dX10_joined_37 rfl rfl ?_
  refine r_get (k := 0) (i := 0) (j := 9) (v := rV 3 (σ.2.2 0 0)) rfl rfl ho0 rfl hX10 (by decide) rfl fX10_21 dX10_joined_38 (fun _ => rfl) ?_
  obtain ⟨q1, H⟩ := H
  refine r_get (k := 3) (i := (σ.2.2 0 0)) (j := 0) (v := iV (σ.1 3 (σ.2.2 0 0) 0)) rfl rfl (ho3 q1) rfl hX0 (by decide) rfl fX10_293 dX10_joined_41 (fun _ => rfl) ?_
  refine r_icmp_ge (tgt := 140) dX10_joined_44 (by decide) (fun c => ?_) (fun c => ?_)
  · have H := H.1 c
    refine r_lload_n dX10_joined_140 rfl rfl ?_
    refine r_lload dX10_joined_141 rfl ?_
    refine r_iload_n dX10_joined_143 rfl rfl ?_
    refine r_callS (z := 7) (As := [lV x3, lV x5, iV x2]) (st := []) kX10_inLeastTerms s_X10_inLeastTerms lX10_170 dX10_joined_144 rfl rfl rfl rfl (Nat.le_of_ble_eq_true rfl) ?_
    exact H
  · have H := H.2 c
    refine r_iload_n dX10_joined_47 rfl rfl ?_
    refine r_iload dX10_joined_48 rfl ?_
    refine r_ishr dX10_joined_50 ?_
    refine r_iconst (v := (1 : Int32)) dX10_joined_51 rfl ?_
    refine r_iand dX10_joined_52 ?_
    refine r_iconst (v := (1 : Int32)) dX10_joined_53 rfl ?_
    refine r_icmp_ne (tgt := 134) dX10_joined_54 (by decide) (fun c => ?_) (fun c => ?_)
    · have H := H.1 c
      refine r_iinc (v := x7 + (1 : Int32)) dX10_joined_134 rfl rfl (by decide) rfl ?_
      refine r_goto (tgt := 35) dX10_joined_137 (by decide) ?_
      exact H
    · have H := H.2 c
      refine r_aload_n dX10_joined_57 rfl rfl ?_
      refine r_get (k := 0) (i := 0) (j := 1) (v := rV 6 0) rfl rfl ho0 rfl hX10 (by decide) rfl fX10_30 dX10_joined_58 (fun _ => rfl) ?_
      refine r_iload_n dX10_joined_61 rfl rfl ?_
      refine r_callV (z := 2) (k := 6) (i := 0) (As := [iV x1]) (st := []) kX8_waterOf i_X8_waterOf e_X8_waterOf lX10_296 dX10_joined_62 rfl rfl (ho6 (by decide)) rfl rfl rfl rfl rfl (Nat.le_of_ble_eq_true rfl) ?_
      exact H
set_option maxRecDepth 100000 in
theorem bX10_joined_65 {d : Nat} {Q : Option MV → MS → Prop} {x1 : Int32} {x2 : Int32} {x3 : Int64} {x5 : Int64} {x7 : Int32} {s0 : Int32} {σ : MS}  (H : (σ.2.2 0 0 < 2 ∧ vp_in x7 7 ∧ (R mj_OC d mX0_bedUpTo (fun r σ' => R mj_OC (d + 1) mX10_joined Q 84 [some (rV 0 0), some (iV x1), some (iV x2), some (lV x3), none, some (lV x5), none, some (iV x7), none, none, none, none] (r.toList ++ [lV s0.toInt64]) σ') 0 [some (rV 3 (σ.2.2 0 0)), some (iV x1), some (iV (σ.1 18 (σ.2.2 0 0) ((x7).toNatClampNeg))), none, none, none] [] σ))) : R mj_OC (d + 1) mX10_joined Q 65 [some (rV 0 0), some (iV x1), some (iV x2), some (lV x3), none, some (lV x5), none, some (iV x7), none, none, none, none] [iV s0] σ := by
  refine r_i2l (v := s0.toInt64) dX10_joined_65 rfl ?_
  refine r_aload_n dX10_joined_66 rfl rfl ?_
  refine r_get (k := 0) (i := 0) (j := 9) (v := rV 3 (σ.2.2 0 0)) rfl rfl ho0 rfl hX10 (by decide) rfl fX10_21 dX10_joined_67 (fun _ => rfl) ?_
  refine r_iload_n dX10_joined_70 rfl rfl ?_
  refine r_aload_n dX10_joined_71 rfl rfl ?_
  refine r_get (k := 0) (i := 0) (j := 9) (v := rV 3 (σ.2.2 0 0)) rfl rfl ho0 rfl hX10 (by decide) rfl fX10_21 dX10_joined_72 (fun _ => rfl) ?_
  obtain ⟨q1, H⟩ := H
  refine r_get (k := 3) (i := (σ.2.2 0 0)) (j := 3) (v := rV 18 (σ.2.2 0 0)) rfl rfl (ho3 q1) rfl hX0 (by decide) rfl fX10_138 dX10_joined_75 (fun _ => rfl) ?_
  refine r_iload dX10_joined_78 rfl ?_
  obtain ⟨q2, H⟩ := H
  refine r_iald (k := 18) (i := (σ.2.2 0 0)) rfl (ho18 q1) q2 dX10_joined_80 ?_
  refine r_callV (z := 3) (k := 3) (i := (σ.2.2 0 0)) (As := [iV x1, iV (σ.1 18 (σ.2.2 0 0) ((x7).toNatClampNeg))]) (st := [lV s0.toInt64]) kX0_bedUpTo i_X0_bedUpTo e_X0_bedUpTo lX10_299 dX10_joined_81 rfl rfl (ho3 q1) rfl rfl rfl rfl rfl (Nat.le_of_ble_eq_true rfl) ?_
  exact H
set_option maxRecDepth 100000 in
theorem bX10_joined_84 {d : Nat} {Q : Option MV → MS → Prop} {x1 : Int32} {x2 : Int32} {x3 : Int64} {x5 : Int64} {x7 : Int32} {s0 : Int64} {s1 : Int64} {σ : MS}  (H : (σ.2.2 0 0 < 2 ∧ vp_in x7 7 ∧ (R mj_OC d mX0_areaUpTo (fun r σ' => R mj_OC (d + 1) mX10_joined Q 105 [some (rV 0 0), some (iV x1), some (iV x2), some (lV x3), none, some (lV x5), none, some (iV x7), some (lV (s1 + s0)), none, none, none] (r.toList ++ []) σ') 0 [some (rV 3 (σ.2.2 0 0)), some (iV x1), some (iV (σ.1 18 (σ.2.2 0 0) ((x7).toNatClampNeg))), none, none, none] [] σ))) : R mj_OC (d + 1) mX10_joined Q 84 [some (rV 0 0), some (iV x1), some (iV x2), some (lV x3), none, some (lV x5), none, some (iV x7), none, none, none, none] [lV s0, lV s1] σ := by
  refine r_ladd dX10_joined_84 ?_
  refine r_lstore dX10_joined_85 (by decide) rfl ?_
  refine r_aload_n dX10_joined_87 rfl rfl ?_
  refine r_get (k := 0) (i := 0) (j := 9) (v := rV 3 (σ.2.2 0 0)) rfl rfl ho0 rfl hX10 (by decide) rfl fX10_21 dX10_joined_88 (fun _ => rfl) ?_
  refine r_iload_n dX10_joined_91 rfl rfl ?_
  refine r_aload_n dX10_joined_92 rfl rfl ?_
  refine r_get (k := 0) (i := 0) (j := 9) (v := rV 3 (σ.2.2 0 0)) rfl rfl ho0 rfl hX10 (by decide) rfl fX10_21 dX10_joined_93 (fun _ => rfl) ?_
  obtain ⟨q1, H⟩ := H
  refine r_get (k := 3) (i := (σ.2.2 0 0)) (j := 3) (v := rV 18 (σ.2.2 0 0)) rfl rfl (ho3 q1) rfl hX0 (by decide) rfl fX10_138 dX10_joined_96 (fun _ => rfl) ?_
  refine r_iload dX10_joined_99 rfl ?_
  obtain ⟨q2, H⟩ := H
  refine r_iald (k := 18) (i := (σ.2.2 0 0)) rfl (ho18 q1) q2 dX10_joined_101 ?_
  refine r_callV (z := 3) (k := 3) (i := (σ.2.2 0 0)) (As := [iV x1, iV (σ.1 18 (σ.2.2 0 0) ((x7).toNatClampNeg))]) (st := []) kX0_areaUpTo i_X0_areaUpTo e_X0_areaUpTo lX10_303 dX10_joined_102 rfl rfl (ho3 q1) rfl rfl rfl rfl rfl (Nat.le_of_ble_eq_true rfl) ?_
  exact H
set_option maxRecDepth 100000 in
theorem bX10_joined_105 {d : Nat} {Q : Option MV → MS → Prop} {x1 : Int32} {x2 : Int32} {x3 : Int64} {x5 : Int64} {x7 : Int32} {x8 : Int64} {s0 : Int64} {σ : MS}  (H : (((lg_cmp x5 (0 : Int64)) = 0 → R mj_OC d mX10_joined Q 35 [some (rV 0 0), some (iV x1), some (iV x2), some (lV x8), none, some (lV s0), none, some (iV (x7 + (1 : Int32))), none, none, none, none] [] σ) ∧ (¬ (lg_cmp x5 (0 : Int64)) = 0 → ((0 ≤ (lg_cmp (x8 * x5) (x3 * s0)) → R mj_OC d mX10_joined Q 35 [some (rV 0 0), some (iV x1), some (iV x2), some (lV x3), none, some (lV x5), none, some (iV (x7 + (1 : Int32))), none, none, none, none] [] σ) ∧ (¬ 0 ≤ (lg_cmp (x8 * x5) (x3 * s0)) → R mj_OC d mX10_joined Q 35 [some (rV 0 0), some (iV x1), some (iV x2), some (lV x8), none, some (lV s0), none, some (iV (x7 + (1 : Int32))), none, none, none, none] [] σ))))) : R mj_OC d mX10_joined Q 105 [some (rV 0 0), some (iV x1), some (iV x2), some (lV x3), none, some (lV x5), none, some (iV x7), some (lV x8), none, none, none] [lV s0] σ := by
  refine r_lstore dX10_joined_105 (by decide) rfl ?_
  refine r_lload dX10_joined_107 rfl ?_
  refine r_lconst (v := (0 : Int64)) dX10_joined_109 rfl ?_
  refine r_lcmp dX10_joined_110 ?_
  refine r_if_eq (tgt := 127) dX10_joined_111 (by decide) (fun c => ?_) (fun c => ?_)
  · have H := H.1 c
    refine r_lload dX10_joined_127 rfl ?_
    refine r_lstore_n dX10_joined_129 rfl (by decide) rfl ?_
    refine r_lload dX10_joined_130 rfl ?_
    refine r_lstore dX10_joined_132 (by decide) rfl ?_
    refine r_iinc (v := x7 + (1 : Int32)) dX10_joined_134 rfl rfl (by decide) rfl ?_
    refine r_goto (tgt := 35) dX10_joined_137 (by decide) ?_
    exact R.fw (ls' := [some (rV 0 0), some (iV x1), some (iV x2), some (lV x8), none, some (lV s0), none, some (iV (x7 + (1 : Int32))), none, none, none, none]) ⟨rfl, ⟨rfl, ⟨rfl, ⟨rfl, ⟨rfl, ⟨rfl, trivial⟩⟩⟩⟩⟩⟩ H
  · have H := H.2 c
    refine r_lload dX10_joined_114 rfl ?_
    refine r_lload dX10_joined_116 rfl ?_
    refine r_lmul dX10_joined_118 ?_
    refine r_lload_n dX10_joined_119 rfl rfl ?_
    refine r_lload dX10_joined_120 rfl ?_
    refine r_lmul dX10_joined_122 ?_
    refine r_lcmp dX10_joined_123 ?_
    refine r_if_ge (tgt := 134) dX10_joined_124 (by decide) (fun c => ?_) (fun c => ?_)
    · have H := H.1 c
      refine r_iinc (v := x7 + (1 : Int32)) dX10_joined_134 rfl rfl (by decide) rfl ?_
      refine r_goto (tgt := 35) dX10_joined_137 (by decide) ?_
      exact R.fw (ls' := [some (rV 0 0), some (iV x1), some (iV x2), some (lV x3), none, some (lV x5), none, some (iV (x7 + (1 : Int32))), none, none, none, none]) ⟨rfl, ⟨rfl, ⟨rfl, ⟨rfl, ⟨rfl, ⟨rfl, trivial⟩⟩⟩⟩⟩⟩ H
    · have H := H.2 c
      refine r_lload dX10_joined_127 rfl ?_
      refine r_lstore_n dX10_joined_129 rfl (by decide) rfl ?_
      refine r_lload dX10_joined_130 rfl ?_
      refine r_lstore dX10_joined_132 (by decide) rfl ?_
      refine r_iinc (v := x7 + (1 : Int32)) dX10_joined_134 rfl rfl (by decide) rfl ?_
      refine r_goto (tgt := 35) dX10_joined_137 (by decide) ?_
      exact R.fw (ls' := [some (rV 0 0), some (iV x1), some (iV x2), some (lV x8), none, some (lV s0), none, some (iV (x7 + (1 : Int32))), none, none, none, none]) ⟨rfl, ⟨rfl, ⟨rfl, ⟨rfl, ⟨rfl, ⟨rfl, trivial⟩⟩⟩⟩⟩⟩ H
set_option maxRecDepth 100000 in
theorem bX10_joined_147 {d : Nat} {Q : Option MV → MS → Prop} {x1 : Int32} {x2 : Int32} {x3 : Int64} {x5 : Int64} {x7 : Int32} {s0 : Int64} {σ : MS}  (H : Q (some (iV s0.toInt32)) σ) : R mj_OC d mX10_joined Q 147 [some (rV 0 0), some (iV x1), some (iV x2), some (lV x3), none, some (lV x5), none, some (iV x7), none, none, none, none] [lV s0] σ := by
  refine r_l2i (v := s0.toInt32) dX10_joined_147 rfl ?_
  exact r_iret dX10_joined_148 rfl H
set_option maxRecDepth 100000 in
theorem bX10_needs_0 {d : Nat} {Q : Option MV → MS → Prop} {x1 : Int32} {x2 : Int32} {σ : MS}  (H : (R mj_OC d mX10_isPond (fun r σ' => R mj_OC (d + 1) mX10_needs Q 5 [some (rV 0 0), some (iV x1), some (iV x2)] (r.toList ++ []) σ') 0 [some (rV 0 0), some (iV x1)] [] σ)) : R mj_OC (d + 1) mX10_needs Q 0 [some (rV 0 0), some (iV x1), some (iV x2)] [] σ := by
  refine r_aload_n dX10_needs_0 rfl rfl ?_
  refine r_iload_n dX10_needs_1 rfl rfl ?_
  refine r_callV (z := 0) (k := 0) (i := 0) (As := [iV x1]) (st := []) kX10_isPond i_X10_isPond e_X10_isPond lX10_124 dX10_needs_2 rfl rfl ho0 rfl rfl rfl rfl rfl (Nat.le_of_ble_eq_true rfl) ?_
  exact H
set_option maxRecDepth 100000 in
theorem bX10_needs_5 {d : Nat} {Q : Option MV → MS → Prop} {x1 : Int32} {x2 : Int32} {s0 : Int32} {σ : MS}  (H : ((s0 = 0 → Q (some (iV (-1 : Int32))) σ) ∧ (¬ s0 = 0 → (R mj_OC d mX10_isHeight (fun r σ' => R mj_OC (d + 1) mX10_needs Q 12 [some (rV 0 0), some (iV x1), some (iV x2)] (r.toList ++ []) σ') 0 [some (iV x2)] [] σ)))) : R mj_OC (d + 1) mX10_needs Q 5 [some (rV 0 0), some (iV x1), some (iV x2)] [iV s0] σ := by
  refine r_if_eq (tgt := 15) dX10_needs_5 (by decide) (fun c => ?_) (fun c => ?_)
  · have H := H.1 c
    refine r_iconst (v := (-1 : Int32)) dX10_needs_15 rfl ?_
    exact r_iret dX10_needs_16 rfl H
  · have H := H.2 c
    refine r_iload_n dX10_needs_8 rfl rfl ?_
    refine r_callS (z := 0) (As := [iV x2]) (st := []) kX10_isHeight s_X10_isHeight lX10_306 dX10_needs_9 rfl rfl rfl rfl (Nat.le_of_ble_eq_true rfl) ?_
    exact H
set_option maxRecDepth 100000 in
theorem bX10_needs_12 {d : Nat} {Q : Option MV → MS → Prop} {x1 : Int32} {x2 : Int32} {s0 : Int32} {σ : MS}  (H : ((¬ s0 = 0 → (σ.2.2 0 0 < 2 ∧ (R mj_OC d mX0_waterFor (fun r σ' => R mj_OC (d + 1) mX10_needs Q 27 [some (rV 0 0), some (iV x1), some (iV x2)] (r.toList ++ [iV (0 : Int32)]) σ') 0 [some (rV 3 (σ.2.2 0 0)), some (iV x1), some (iV x2)] [] σ))) ∧ (s0 = 0 → Q (some (iV (-1 : Int32))) σ))) : R mj_OC (d + 1) mX10_needs Q 12 [some (rV 0 0), some (iV x1), some (iV x2)] [iV s0] σ := by
  refine r_if_ne (tgt := 17) dX10_needs_12 (by decide) (fun c => ?_) (fun c => ?_)
  · have H := H.1 c
    refine r_iconst (v := (0 : Int32)) dX10_needs_17 rfl ?_
    refine r_aload_n dX10_needs_18 rfl rfl ?_
    refine r_get (k := 0) (i := 0) (j := 9) (v := rV 3 (σ.2.2 0 0)) rfl rfl ho0 rfl hX10 (by decide) rfl fX10_21 dX10_needs_19 (fun _ => rfl) ?_
    refine r_iload_n dX10_needs_22 rfl rfl ?_
    refine r_iload_n dX10_needs_23 rfl rfl ?_
    obtain ⟨q1, H⟩ := H
    refine r_callV (z := 0) (k := 3) (i := (σ.2.2 0 0)) (As := [iV x1, iV x2]) (st := [iV (0 : Int32)]) kX0_waterFor i_X0_waterFor e_X0_waterFor lX10_309 dX10_needs_24 rfl rfl (ho3 q1) rfl rfl rfl rfl rfl (Nat.le_of_ble_eq_true rfl) ?_
    exact H
  · have H := H.2 c
    refine r_iconst (v := (-1 : Int32)) dX10_needs_15 rfl ?_
    exact r_iret dX10_needs_16 rfl H
set_option maxRecDepth 100000 in
theorem bX10_needs_27 {d : Nat} {Q : Option MV → MS → Prop} {x1 : Int32} {x2 : Int32} {s0 : Int32} {s1 : Int32} {σ : MS}  (H : (vp_in x1 7 ∧ Q (some (iV (if s1 < (s0 - (σ.1 35 0 ((x1).toNatClampNeg))) then (s0 - (σ.1 35 0 ((x1).toNatClampNeg))) else s1))) σ)) : R mj_OC (d + 1) mX10_needs Q 27 [some (rV 0 0), some (iV x1), some (iV x2)] [iV s0, iV s1] σ := by
  refine r_aload_n dX10_needs_27 rfl rfl ?_
  refine r_get (k := 0) (i := 0) (j := 1) (v := rV 6 0) rfl rfl ho0 rfl hX10 (by decide) rfl fX10_30 dX10_needs_28 (fun _ => rfl) ?_
  refine r_get (k := 6) (i := 0) (j := 1) (v := rV 35 0) rfl rfl (ho6 (by decide)) rfl hX8 (by decide) rfl fX10_141 dX10_needs_31 (fun _ => rfl) ?_
  refine r_iload_n dX10_needs_34 rfl rfl ?_
  obtain ⟨q1, H⟩ := H
  refine r_iald (k := 35) (i := 0) rfl (ho35 (by decide)) q1 dX10_needs_35 ?_
  refine r_isub dX10_needs_36 ?_
  refine r_mmax lX10_312 dX10_needs_37 (Nat.le_of_ble_eq_true rfl) ?_
  exact r_iret dX10_needs_40 rfl H
set_option maxRecDepth 100000 in
theorem bX10_spare_0 {d : Nat} {Q : Option MV → MS → Prop} {x1 : Int32} {x2 : Int32} {σ : MS}  (H : (R mj_OC d mX10_isPond (fun r σ' => R mj_OC (d + 1) mX10_spare Q 5 [some (rV 0 0), some (iV x1), some (iV x2)] (r.toList ++ []) σ') 0 [some (rV 0 0), some (iV x1)] [] σ)) : R mj_OC (d + 1) mX10_spare Q 0 [some (rV 0 0), some (iV x1), some (iV x2)] [] σ := by
  refine r_aload_n dX10_spare_0 rfl rfl ?_
  refine r_iload_n dX10_spare_1 rfl rfl ?_
  refine r_callV (z := 0) (k := 0) (i := 0) (As := [iV x1]) (st := []) kX10_isPond i_X10_isPond e_X10_isPond lX10_124 dX10_spare_2 rfl rfl ho0 rfl rfl rfl rfl rfl (Nat.le_of_ble_eq_true rfl) ?_
  exact H
set_option maxRecDepth 100000 in
theorem bX10_spare_5 {d : Nat} {Q : Option MV → MS → Prop} {x1 : Int32} {x2 : Int32} {s0 : Int32} {σ : MS}  (H : ((s0 = 0 → Q (some (iV (-1 : Int32))) σ) ∧ (¬ s0 = 0 → (R mj_OC d mX10_isHeight (fun r σ' => R mj_OC (d + 1) mX10_spare Q 12 [some (rV 0 0), some (iV x1), some (iV x2)] (r.toList ++ []) σ') 0 [some (iV x2)] [] σ)))) : R mj_OC (d + 1) mX10_spare Q 5 [some (rV 0 0), some (iV x1), some (iV x2)] [iV s0] σ := by
  refine r_if_eq (tgt := 15) dX10_spare_5 (by decide) (fun c => ?_) (fun c => ?_)
  · have H := H.1 c
    refine r_iconst (v := (-1 : Int32)) dX10_spare_15 rfl ?_
    exact r_iret dX10_spare_16 rfl H
  · have H := H.2 c
    refine r_iload_n dX10_spare_8 rfl rfl ?_
    refine r_callS (z := 0) (As := [iV x2]) (st := []) kX10_isHeight s_X10_isHeight lX10_306 dX10_spare_9 rfl rfl rfl rfl (Nat.le_of_ble_eq_true rfl) ?_
    exact H
set_option maxRecDepth 100000 in
theorem bX10_spare_12 {d : Nat} {Q : Option MV → MS → Prop} {x1 : Int32} {x2 : Int32} {s0 : Int32} {σ : MS}  (H : ((¬ s0 = 0 → (vp_in x1 7 ∧ σ.2.2 0 0 < 2 ∧ (R mj_OC d mX0_waterFor (fun r σ' => R mj_OC (d + 1) mX10_spare Q 36 [some (rV 0 0), some (iV x1), some (iV x2)] (r.toList ++ [iV (σ.1 35 0 ((x1).toNatClampNeg)), iV (0 : Int32)]) σ') 0 [some (rV 3 (σ.2.2 0 0)), some (iV x1), some (iV x2)] [] σ))) ∧ (s0 = 0 → Q (some (iV (-1 : Int32))) σ))) : R mj_OC (d + 1) mX10_spare Q 12 [some (rV 0 0), some (iV x1), some (iV x2)] [iV s0] σ := by
  refine r_if_ne (tgt := 17) dX10_spare_12 (by decide) (fun c => ?_) (fun c => ?_)
  · have H := H.1 c
    refine r_iconst (v := (0 : Int32)) dX10_spare_17 rfl ?_
    refine r_aload_n dX10_spare_18 rfl rfl ?_
    refine r_get (k := 0) (i := 0) (j := 1) (v := rV 6 0) rfl rfl ho0 rfl hX10 (by decide) rfl fX10_30 dX10_spare_19 (fun _ => rfl) ?_
    refine r_get (k := 6) (i := 0) (j := 1) (v := rV 35 0) rfl rfl (ho6 (by decide)) rfl hX8 (by decide) rfl fX10_141 dX10_spare_22 (fun _ => rfl) ?_
    refine r_iload_n dX10_spare_25 rfl rfl ?_
    obtain ⟨q1, H⟩ := H
    refine r_iald (k := 35) (i := 0) rfl (ho35 (by decide)) q1 dX10_spare_26 ?_
    refine r_aload_n dX10_spare_27 rfl rfl ?_
    refine r_get (k := 0) (i := 0) (j := 9) (v := rV 3 (σ.2.2 0 0)) rfl rfl ho0 rfl hX10 (by decide) rfl fX10_21 dX10_spare_28 (fun _ => rfl) ?_
    refine r_iload_n dX10_spare_31 rfl rfl ?_
    refine r_iload_n dX10_spare_32 rfl rfl ?_
    obtain ⟨q2, H⟩ := H
    refine r_callV (z := 0) (k := 3) (i := (σ.2.2 0 0)) (As := [iV x1, iV x2]) (st := [iV (σ.1 35 0 ((x1).toNatClampNeg)), iV (0 : Int32)]) kX0_waterFor i_X0_waterFor e_X0_waterFor lX10_309 dX10_spare_33 rfl rfl (ho3 q2) rfl rfl rfl rfl rfl (Nat.le_of_ble_eq_true rfl) ?_
    exact H
  · have H := H.2 c
    refine r_iconst (v := (-1 : Int32)) dX10_spare_15 rfl ?_
    exact r_iret dX10_spare_16 rfl H
set_option maxRecDepth 100000 in
theorem bX10_spare_36 {d : Nat} {Q : Option MV → MS → Prop} {x1 : Int32} {x2 : Int32} {s0 : Int32} {s1 : Int32} {s2 : Int32} {σ : MS}  (H : Q (some (iV (if s2 < (s1 - s0) then (s1 - s0) else s2))) σ) : R mj_OC (d + 1) mX10_spare Q 36 [some (rV 0 0), some (iV x1), some (iV x2)] [iV s0, iV s1, iV s2] σ := by
  refine r_isub dX10_spare_36 ?_
  refine r_mmax lX10_312 dX10_spare_37 (Nat.le_of_ble_eq_true rfl) ?_
  exact r_iret dX10_spare_40 rfl H
set_option maxRecDepth 100000 in
theorem bX10_lift_0 {d : Nat} {Q : Option MV → MS → Prop} {x1 : Int32} {σ : MS}  (H : (R mj_OC d mX10_isLock (fun r σ' => R mj_OC (d + 1) mX10_lift Q 5 [some (rV 0 0), some (iV x1)] (r.toList ++ []) σ') 0 [some (rV 0 0), some (iV x1)] [] σ)) : R mj_OC (d + 1) mX10_lift Q 0 [some (rV 0 0), some (iV x1)] [] σ := by
  refine r_aload_n dX10_lift_0 rfl rfl ?_
  refine r_iload_n dX10_lift_1 rfl rfl ?_
  refine r_callV (z := 0) (k := 0) (i := 0) (As := [iV x1]) (st := []) kX10_isLock i_X10_isLock e_X10_isLock lX10_196 dX10_lift_2 rfl rfl ho0 rfl rfl rfl rfl rfl (Nat.le_of_ble_eq_true rfl) ?_
  exact H
set_option maxRecDepth 100000 in
theorem bX10_lift_5 {d : Nat} {Q : Option MV → MS → Prop} {x1 : Int32} {s0 : Int32} {σ : MS}  (H : ((s0 = 0 → Q (some (iV (-1 : Int32))) σ) ∧ (¬ s0 = 0 → (σ.2.2 0 0 < 2 ∧ (R mj_OC d mX0_liftOf (fun r σ' => R mj_OC (d + 1) mX10_lift Q 16 [some (rV 0 0), some (iV x1)] (r.toList ++ []) σ') 0 [some (rV 3 (σ.2.2 0 0)), some (iV x1)] [] σ))))) : R mj_OC (d + 1) mX10_lift Q 5 [some (rV 0 0), some (iV x1)] [iV s0] σ := by
  refine r_if_eq (tgt := 19) dX10_lift_5 (by decide) (fun c => ?_) (fun c => ?_)
  · have H := H.1 c
    refine r_iconst (v := (-1 : Int32)) dX10_lift_19 rfl ?_
    exact r_iret dX10_lift_20 rfl H
  · have H := H.2 c
    refine r_aload_n dX10_lift_8 rfl rfl ?_
    refine r_get (k := 0) (i := 0) (j := 9) (v := rV 3 (σ.2.2 0 0)) rfl rfl ho0 rfl hX10 (by decide) rfl fX10_21 dX10_lift_9 (fun _ => rfl) ?_
    refine r_iload_n dX10_lift_12 rfl rfl ?_
    obtain ⟨q1, H⟩ := H
    refine r_callV (z := 0) (k := 3) (i := (σ.2.2 0 0)) (As := [iV x1]) (st := []) kX0_liftOf i_X0_liftOf e_X0_liftOf lX10_317 dX10_lift_13 rfl rfl (ho3 q1) rfl rfl rfl rfl rfl (Nat.le_of_ble_eq_true rfl) ?_
    exact H
set_option maxRecDepth 100000 in
theorem bX10_lift_16 {d : Nat} {Q : Option MV → MS → Prop} {x1 : Int32} {s0 : Int32} {σ : MS}  (H : Q (some (iV s0)) σ) : R mj_OC d mX10_lift Q 16 [some (rV 0 0), some (iV x1)] [iV s0] σ := by
  refine r_goto (tgt := 20) dX10_lift_16 (by decide) ?_
  exact r_iret dX10_lift_20 rfl H
set_option maxRecDepth 100000 in
theorem bX10_fewest_0 {d : Nat} {Q : Option MV → MS → Prop} {x1 : Int32} {x2 : Int32} {x3 : Int32} {σ : MS}  (H : (R mj_OC d mX10_isPond (fun r σ' => R mj_OC (d + 1) mX10_fewest Q 5 [some (rV 0 0), some (iV x1), some (iV x2), some (iV x3)] (r.toList ++ []) σ') 0 [some (rV 0 0), some (iV x1)] [] σ)) : R mj_OC (d + 1) mX10_fewest Q 0 [some (rV 0 0), some (iV x1), some (iV x2), some (iV x3)] [] σ := by
  refine r_aload_n dX10_fewest_0 rfl rfl ?_
  refine r_iload_n dX10_fewest_1 rfl rfl ?_
  refine r_callV (z := 0) (k := 0) (i := 0) (As := [iV x1]) (st := []) kX10_isPond i_X10_isPond e_X10_isPond lX10_124 dX10_fewest_2 rfl rfl ho0 rfl rfl rfl rfl rfl (Nat.le_of_ble_eq_true rfl) ?_
  exact H
set_option maxRecDepth 100000 in
theorem bX10_fewest_5 {d : Nat} {Q : Option MV → MS → Prop} {x1 : Int32} {x2 : Int32} {x3 : Int32} {s0 : Int32} {σ : MS}  (H : ((s0 = 0 → Q (some (iV (-1 : Int32))) σ) ∧ (¬ s0 = 0 → (R mj_OC d mX10_isHeight (fun r σ' => R mj_OC (d + 1) mX10_fewest Q 12 [some (rV 0 0), some (iV x1), some (iV x2), some (iV x3)] (r.toList ++ []) σ') 0 [some (iV x2)] [] σ)))) : R mj_OC (d + 1) mX10_fewest Q 5 [some (rV 0 0), some (iV x1), some (iV x2), some (iV x3)] [iV s0] σ := by
  refine r_if_eq (tgt := 22) dX10_fewest_5 (by decide) (fun c => ?_) (fun c => ?_)
  · have H := H.1 c
    refine r_iconst (v := (-1 : Int32)) dX10_fewest_22 rfl ?_
    exact r_iret dX10_fewest_23 rfl H
  · have H := H.2 c
    refine r_iload_n dX10_fewest_8 rfl rfl ?_
    refine r_callS (z := 0) (As := [iV x2]) (st := []) kX10_isHeight s_X10_isHeight lX10_306 dX10_fewest_9 rfl rfl rfl rfl (Nat.le_of_ble_eq_true rfl) ?_
    exact H
set_option maxRecDepth 100000 in
theorem bX10_fewest_12 {d : Nat} {Q : Option MV → MS → Prop} {x1 : Int32} {x2 : Int32} {x3 : Int32} {s0 : Int32} {σ : MS}  (H : ((s0 = 0 → Q (some (iV (-1 : Int32))) σ) ∧ (¬ s0 = 0 → (R mj_OC d mX10_isHalf (fun r σ' => R mj_OC (d + 1) mX10_fewest Q 19 [some (rV 0 0), some (iV x1), some (iV x2), some (iV x3)] (r.toList ++ []) σ') 0 [some (iV x3)] [] σ)))) : R mj_OC (d + 1) mX10_fewest Q 12 [some (rV 0 0), some (iV x1), some (iV x2), some (iV x3)] [iV s0] σ := by
  refine r_if_eq (tgt := 22) dX10_fewest_12 (by decide) (fun c => ?_) (fun c => ?_)
  · have H := H.1 c
    refine r_iconst (v := (-1 : Int32)) dX10_fewest_22 rfl ?_
    exact r_iret dX10_fewest_23 rfl H
  · have H := H.2 c
    refine r_iload_n dX10_fewest_15 rfl rfl ?_
    refine r_callS (z := 0) (As := [iV x3]) (st := []) kX10_isHalf s_X10_isHalf lX10_164 dX10_fewest_16 rfl rfl rfl rfl (Nat.le_of_ble_eq_true rfl) ?_
    exact H
set_option maxRecDepth 100000 in
theorem bX10_fewest_19 {d : Nat} {Q : Option MV → MS → Prop} {x1 : Int32} {x2 : Int32} {x3 : Int32} {s0 : Int32} {σ : MS}  (H : ((¬ s0 = 0 → (R mj_OC d mX8_become (fun r σ' => R mj_OC (d + 1) mX10_fewest Q 35 [some (rV 0 0), some (iV x1), some (iV x2), some (iV x3)] (r.toList ++ []) σ') 0 [some (rV 6 2), some (rV 6 0), none] [] σ)) ∧ (s0 = 0 → Q (some (iV (-1 : Int32))) σ))) : R mj_OC (d + 1) mX10_fewest Q 19 [some (rV 0 0), some (iV x1), some (iV x2), some (iV x3)] [iV s0] σ := by
  refine r_if_ne (tgt := 24) dX10_fewest_19 (by decide) (fun c => ?_) (fun c => ?_)
  · have H := H.1 c
    refine r_aload_n dX10_fewest_24 rfl rfl ?_
    refine r_get (k := 0) (i := 0) (j := 3) (v := rV 6 2) rfl rfl ho0 rfl hX10 (by decide) rfl fX10_37 dX10_fewest_25 (fun _ => rfl) ?_
    refine r_aload_n dX10_fewest_28 rfl rfl ?_
    refine r_get (k := 0) (i := 0) (j := 1) (v := rV 6 0) rfl rfl ho0 rfl hX10 (by decide) rfl fX10_30 dX10_fewest_29 (fun _ => rfl) ?_
    refine r_callV (z := 1) (k := 6) (i := 2) (As := [rV 6 0]) (st := []) kX8_become i_X8_become e_X8_become lX10_272 dX10_fewest_32 rfl rfl (ho6 (by decide)) rfl rfl rfl rfl rfl (Nat.le_of_ble_eq_true rfl) ?_
    exact H
  · have H := H.2 c
    refine r_iconst (v := (-1 : Int32)) dX10_fewest_22 rfl ?_
    exact r_iret dX10_fewest_23 rfl H
set_option maxRecDepth 100000 in
theorem bX10_fewest_35 {d : Nat} {Q : Option MV → MS → Prop} {x1 : Int32} {x2 : Int32} {x3 : Int32} {σ : MS}  (H : (R mj_OC d mX6_seek (fun r σ' => R mj_OC (d + 1) mX10_fewest Q 49 [some (rV 0 0), some (iV x1), some (iV x2), some (iV x3)] (r.toList ++ []) σ') 0 [some (rV 8 0), some (rV 6 2), some (iV x1), some (iV x2), some (iV x1)] [] σ)) : R mj_OC (d + 1) mX10_fewest Q 35 [some (rV 0 0), some (iV x1), some (iV x2), some (iV x3)] [] σ := by
  refine r_aload_n dX10_fewest_35 rfl rfl ?_
  refine r_get (k := 0) (i := 0) (j := 5) (v := rV 8 0) rfl rfl ho0 rfl hX10 (by decide) rfl fX10_50 dX10_fewest_36 (fun _ => rfl) ?_
  refine r_aload_n dX10_fewest_39 rfl rfl ?_
  refine r_get (k := 0) (i := 0) (j := 3) (v := rV 6 2) rfl rfl ho0 rfl hX10 (by decide) rfl fX10_37 dX10_fewest_40 (fun _ => rfl) ?_
  refine r_iload_n dX10_fewest_43 rfl rfl ?_
  refine r_iload_n dX10_fewest_44 rfl rfl ?_
  refine r_iload_n dX10_fewest_45 rfl rfl ?_
  refine r_callV (z := 0) (k := 8) (i := 0) (As := [rV 6 2, iV x1, iV x2, iV x1]) (st := []) kX6_seek i_X6_seek e_X6_seek lX10_320 dX10_fewest_46 rfl rfl ho8 rfl rfl rfl rfl rfl (Nat.le_of_ble_eq_true rfl) ?_
  exact H
set_option maxRecDepth 100000 in
theorem bX10_fewest_49 {d : Nat} {Q : Option MV → MS → Prop} {x1 : Int32} {x2 : Int32} {x3 : Int32} {σ : MS}  (H : ((¬ x3 = 0 → Q (some (iV (σ.1 8 0 1))) σ) ∧ (x3 = 0 → Q (some (iV (σ.1 8 0 0))) σ))) : R mj_OC d mX10_fewest Q 49 [some (rV 0 0), some (iV x1), some (iV x2), some (iV x3)] [] σ := by
  refine r_iload_n dX10_fewest_49 rfl rfl ?_
  refine r_if_ne (tgt := 63) dX10_fewest_50 (by decide) (fun c => ?_) (fun c => ?_)
  · have H := H.1 c
    refine r_aload_n dX10_fewest_63 rfl rfl ?_
    refine r_get (k := 0) (i := 0) (j := 5) (v := rV 8 0) rfl rfl ho0 rfl hX10 (by decide) rfl fX10_50 dX10_fewest_64 (fun _ => rfl) ?_
    refine r_get (k := 8) (i := 0) (j := 1) (v := iV (σ.1 8 0 1)) rfl rfl ho8 rfl hX6 (by decide) rfl fX10_327 dX10_fewest_67 (fun _ => rfl) ?_
    exact r_iret dX10_fewest_70 rfl H
  · have H := H.2 c
    refine r_aload_n dX10_fewest_53 rfl rfl ?_
    refine r_get (k := 0) (i := 0) (j := 5) (v := rV 8 0) rfl rfl ho0 rfl hX10 (by decide) rfl fX10_50 dX10_fewest_54 (fun _ => rfl) ?_
    refine r_get (k := 8) (i := 0) (j := 0) (v := iV (σ.1 8 0 0)) rfl rfl ho8 rfl hX6 (by decide) rfl fX10_324 dX10_fewest_57 (fun _ => rfl) ?_
    refine r_goto (tgt := 70) dX10_fewest_60 (by decide) ?_
    exact r_iret dX10_fewest_70 rfl H
set_option maxRecDepth 100000 in
theorem bX10_draws_0 {d : Nat} {Q : Option MV → MS → Prop} {x1 : Int32} {x2 : Int32} {x3 : Int32} {σ : MS}  (H : (R mj_OC d mX10_isPond (fun r σ' => R mj_OC (d + 1) mX10_draws Q 5 [some (rV 0 0), some (iV x1), some (iV x2), some (iV x3)] (r.toList ++ []) σ') 0 [some (rV 0 0), some (iV x1)] [] σ)) : R mj_OC (d + 1) mX10_draws Q 0 [some (rV 0 0), some (iV x1), some (iV x2), some (iV x3)] [] σ := by
  refine r_aload_n dX10_draws_0 rfl rfl ?_
  refine r_iload_n dX10_draws_1 rfl rfl ?_
  refine r_callV (z := 0) (k := 0) (i := 0) (As := [iV x1]) (st := []) kX10_isPond i_X10_isPond e_X10_isPond lX10_124 dX10_draws_2 rfl rfl ho0 rfl rfl rfl rfl rfl (Nat.le_of_ble_eq_true rfl) ?_
  exact H
set_option maxRecDepth 100000 in
theorem bX10_draws_5 {d : Nat} {Q : Option MV → MS → Prop} {x1 : Int32} {x2 : Int32} {x3 : Int32} {s0 : Int32} {σ : MS}  (H : ((s0 = 0 → Q (some (iV (-1 : Int32))) σ) ∧ (¬ s0 = 0 → (R mj_OC d mX10_isHeight (fun r σ' => R mj_OC (d + 1) mX10_draws Q 12 [some (rV 0 0), some (iV x1), some (iV x2), some (iV x3)] (r.toList ++ []) σ') 0 [some (iV x2)] [] σ)))) : R mj_OC (d + 1) mX10_draws Q 5 [some (rV 0 0), some (iV x1), some (iV x2), some (iV x3)] [iV s0] σ := by
  refine r_if_eq (tgt := 28) dX10_draws_5 (by decide) (fun c => ?_) (fun c => ?_)
  · have H := H.1 c
    refine r_iconst (v := (-1 : Int32)) dX10_draws_28 rfl ?_
    exact r_iret dX10_draws_29 rfl H
  · have H := H.2 c
    refine r_iload_n dX10_draws_8 rfl rfl ?_
    refine r_callS (z := 0) (As := [iV x2]) (st := []) kX10_isHeight s_X10_isHeight lX10_306 dX10_draws_9 rfl rfl rfl rfl (Nat.le_of_ble_eq_true rfl) ?_
    exact H
set_option maxRecDepth 100000 in
theorem bX10_draws_12 {d : Nat} {Q : Option MV → MS → Prop} {x1 : Int32} {x2 : Int32} {x3 : Int32} {s0 : Int32} {σ : MS}  (H : ((s0 = 0 → Q (some (iV (-1 : Int32))) σ) ∧ (¬ s0 = 0 → (R mj_OC d mX10_isPond (fun r σ' => R mj_OC (d + 1) mX10_draws Q 20 [some (rV 0 0), some (iV x1), some (iV x2), some (iV x3)] (r.toList ++ []) σ') 0 [some (rV 0 0), some (iV x3)] [] σ)))) : R mj_OC (d + 1) mX10_draws Q 12 [some (rV 0 0), some (iV x1), some (iV x2), some (iV x3)] [iV s0] σ := by
  refine r_if_eq (tgt := 28) dX10_draws_12 (by decide) (fun c => ?_) (fun c => ?_)
  · have H := H.1 c
    refine r_iconst (v := (-1 : Int32)) dX10_draws_28 rfl ?_
    exact r_iret dX10_draws_29 rfl H
  · have H := H.2 c
    refine r_aload_n dX10_draws_15 rfl rfl ?_
    refine r_iload_n dX10_draws_16 rfl rfl ?_
    refine r_callV (z := 0) (k := 0) (i := 0) (As := [iV x3]) (st := []) kX10_isPond i_X10_isPond e_X10_isPond lX10_124 dX10_draws_17 rfl rfl ho0 rfl rfl rfl rfl rfl (Nat.le_of_ble_eq_true rfl) ?_
    exact H
set_option maxRecDepth 100000 in
theorem bX10_draws_20 {d : Nat} {Q : Option MV → MS → Prop} {x1 : Int32} {x2 : Int32} {x3 : Int32} {s0 : Int32} {σ : MS}  (H : ((s0 = 0 → Q (some (iV (-1 : Int32))) σ) ∧ (¬ s0 = 0 → ((¬ x1 = x3 → (R mj_OC d mX8_become (fun r σ' => R mj_OC (d + 1) mX10_draws Q 41 [some (rV 0 0), some (iV x1), some (iV x2), some (iV x3)] (r.toList ++ []) σ') 0 [some (rV 6 2), some (rV 6 0), none] [] σ)) ∧ (x1 = x3 → Q (some (iV (-1 : Int32))) σ))))) : R mj_OC (d + 1) mX10_draws Q 20 [some (rV 0 0), some (iV x1), some (iV x2), some (iV x3)] [iV s0] σ := by
  refine r_if_eq (tgt := 28) dX10_draws_20 (by decide) (fun c => ?_) (fun c => ?_)
  · have H := H.1 c
    refine r_iconst (v := (-1 : Int32)) dX10_draws_28 rfl ?_
    exact r_iret dX10_draws_29 rfl H
  · have H := H.2 c
    refine r_iload_n dX10_draws_23 rfl rfl ?_
    refine r_iload_n dX10_draws_24 rfl rfl ?_
    refine r_icmp_ne (tgt := 30) dX10_draws_25 (by decide) (fun c => ?_) (fun c => ?_)
    · have H := H.1 c
      refine r_aload_n dX10_draws_30 rfl rfl ?_
      refine r_get (k := 0) (i := 0) (j := 3) (v := rV 6 2) rfl rfl ho0 rfl hX10 (by decide) rfl fX10_37 dX10_draws_31 (fun _ => rfl) ?_
      refine r_aload_n dX10_draws_34 rfl rfl ?_
      refine r_get (k := 0) (i := 0) (j := 1) (v := rV 6 0) rfl rfl ho0 rfl hX10 (by decide) rfl fX10_30 dX10_draws_35 (fun _ => rfl) ?_
      refine r_callV (z := 1) (k := 6) (i := 2) (As := [rV 6 0]) (st := []) kX8_become i_X8_become e_X8_become lX10_272 dX10_draws_38 rfl rfl (ho6 (by decide)) rfl rfl rfl rfl rfl (Nat.le_of_ble_eq_true rfl) ?_
      exact H
    · have H := H.2 c
      refine r_iconst (v := (-1 : Int32)) dX10_draws_28 rfl ?_
      exact r_iret dX10_draws_29 rfl H
set_option maxRecDepth 100000 in
theorem bX10_draws_41 {d : Nat} {Q : Option MV → MS → Prop} {x1 : Int32} {x2 : Int32} {x3 : Int32} {σ : MS}  (H : (R mj_OC d mX6_seek (fun r σ' => R mj_OC (d + 1) mX10_draws Q 55 [some (rV 0 0), some (iV x1), some (iV x2), some (iV x3)] (r.toList ++ []) σ') 0 [some (rV 8 0), some (rV 6 2), some (iV x1), some (iV x2), some (iV x3)] [] σ)) : R mj_OC (d + 1) mX10_draws Q 41 [some (rV 0 0), some (iV x1), some (iV x2), some (iV x3)] [] σ := by
  refine r_aload_n dX10_draws_41 rfl rfl ?_
  refine r_get (k := 0) (i := 0) (j := 5) (v := rV 8 0) rfl rfl ho0 rfl hX10 (by decide) rfl fX10_50 dX10_draws_42 (fun _ => rfl) ?_
  refine r_aload_n dX10_draws_45 rfl rfl ?_
  refine r_get (k := 0) (i := 0) (j := 3) (v := rV 6 2) rfl rfl ho0 rfl hX10 (by decide) rfl fX10_37 dX10_draws_46 (fun _ => rfl) ?_
  refine r_iload_n dX10_draws_49 rfl rfl ?_
  refine r_iload_n dX10_draws_50 rfl rfl ?_
  refine r_iload_n dX10_draws_51 rfl rfl ?_
  refine r_callV (z := 0) (k := 8) (i := 0) (As := [rV 6 2, iV x1, iV x2, iV x3]) (st := []) kX6_seek i_X6_seek e_X6_seek lX10_320 dX10_draws_52 rfl rfl ho8 rfl rfl rfl rfl rfl (Nat.le_of_ble_eq_true rfl) ?_
  exact H
set_option maxRecDepth 100000 in
theorem bX10_draws_55 {d : Nat} {Q : Option MV → MS → Prop} {x1 : Int32} {x2 : Int32} {x3 : Int32} {σ : MS}  (H : Q (some (iV (σ.1 8 0 2))) σ) : R mj_OC d mX10_draws Q 55 [some (rV 0 0), some (iV x1), some (iV x2), some (iV x3)] [] σ := by
  refine r_aload_n dX10_draws_55 rfl rfl ?_
  refine r_get (k := 0) (i := 0) (j := 5) (v := rV 8 0) rfl rfl ho0 rfl hX10 (by decide) rfl fX10_50 dX10_draws_56 (fun _ => rfl) ?_
  refine r_get (k := 8) (i := 0) (j := 2) (v := iV (σ.1 8 0 2)) rfl rfl ho8 rfl hX6 (by decide) rfl fX10_330 dX10_draws_59 (fun _ => rfl) ?_
  exact r_iret dX10_draws_62 rfl H
set_option maxRecDepth 100000 in
theorem bX10_highest_0 {d : Nat} {Q : Option MV → MS → Prop} {x1 : Int32} {σ : MS}  (H : (R mj_OC d mX10_isHalf (fun r σ' => R mj_OC (d + 1) mX10_highest Q 4 [some (rV 0 0), some (iV x1), none, none, none] (r.toList ++ []) σ') 0 [some (iV x1)] [] σ)) : R mj_OC (d + 1) mX10_highest Q 0 [some (rV 0 0), some (iV x1), none, none, none] [] σ := by
  refine r_iload_n dX10_highest_0 rfl rfl ?_
  refine r_callS (z := 0) (As := [iV x1]) (st := []) kX10_isHalf s_X10_isHalf lX10_164 dX10_highest_1 rfl rfl rfl rfl (Nat.le_of_ble_eq_true rfl) ?_
  exact H
set_option maxRecDepth 100000 in
theorem bX10_highest_4 {d : Nat} {Q : Option MV → MS → Prop} {x1 : Int32} {s0 : Int32} {σ : MS}  (H : ((¬ s0 = 0 → R mj_OC d mX10_highest Q 13 [some (rV 0 0), some (iV x1), some (iV (0 : Int32)), some (iV (1 : Int32)), none] [] σ) ∧ (s0 = 0 → Q (some (iV (-1 : Int32))) σ))) : R mj_OC d mX10_highest Q 4 [some (rV 0 0), some (iV x1), none, none, none] [iV s0] σ := by
  refine r_if_ne (tgt := 9) dX10_highest_4 (by decide) (fun c => ?_) (fun c => ?_)
  · have H := H.1 c
    refine r_iconst (v := (0 : Int32)) dX10_highest_9 rfl ?_
    refine r_istore_n dX10_highest_10 rfl (by decide) rfl ?_
    refine r_iconst (v := (1 : Int32)) dX10_highest_11 rfl ?_
    refine r_istore_n dX10_highest_12 rfl (by decide) rfl ?_
    exact H
  · have H := H.2 c
    refine r_iconst (v := (-1 : Int32)) dX10_highest_7 rfl ?_
    exact r_iret dX10_highest_8 rfl H
set_option maxRecDepth 100000 in
theorem bX10_highest_13 {d : Nat} {Q : Option MV → MS → Prop} {x1 : Int32} {x2 : Int32} {x3 : Int32} {σ : MS}  (H : (σ.2.2 0 0 < 2 ∧ (((σ.1 3 (σ.2.2 0 0) 0) ≤ x3 → ((¬ (σ.1 3 (σ.2.2 0 0) 0) = 0 → Q (some (iV x2)) σ) ∧ ((σ.1 3 (σ.2.2 0 0) 0) = 0 → Q (some (iV (-2 : Int32))) σ))) ∧ (¬ (σ.1 3 (σ.2.2 0 0) 0) ≤ x3 → (R mj_OC d mX8_higherBy (fun r σ' => R mj_OC (d + 1) mX10_highest Q 33 [some (rV 0 0), some (iV x1), some (iV x2), some (iV x3), none] (r.toList ++ []) σ') 0 [some (rV 6 0), some (iV x3), some (iV x2), none, none] [] σ))))) : R mj_OC (d + 1) mX10_highest Q 13 [some (rV 0 0), some (iV x1), some (iV x2), some (iV x3), none] [] σ := by
  refine r_iload_n dX10_highest_13 rfl rfl ?_
  refine r_aload_n dX10_highest_14 rfl rfl ?_
  refine r_get (k := 0) (i := 0) (j := 9) (v := rV 3 (σ.2.2 0 0)) rfl rfl ho0 rfl hX10 (by decide) rfl fX10_21 dX10_highest_15 (fun _ => rfl) ?_
  obtain ⟨q1, H⟩ := H
  refine r_get (k := 3) (i := (σ.2.2 0 0)) (j := 0) (v := iV (σ.1 3 (σ.2.2 0 0) 0)) rfl rfl (ho3 q1) rfl hX0 (by decide) rfl fX10_293 dX10_highest_18 (fun _ => rfl) ?_
  refine r_icmp_ge (tgt := 60) dX10_highest_21 (by decide) (fun c => ?_) (fun c => ?_)
  · have H := H.1 c
    refine r_aload_n dX10_highest_60 rfl rfl ?_
    refine r_get (k := 0) (i := 0) (j := 9) (v := rV 3 (σ.2.2 0 0)) rfl rfl ho0 rfl hX10 (by decide) rfl fX10_21 dX10_highest_61 (fun _ => rfl) ?_
    refine r_get (k := 3) (i := (σ.2.2 0 0)) (j := 0) (v := iV (σ.1 3 (σ.2.2 0 0) 0)) rfl rfl (ho3 q1) rfl hX0 (by decide) rfl fX10_293 dX10_highest_64 (fun _ => rfl) ?_
    refine r_if_ne (tgt := 75) dX10_highest_67 (by decide) (fun c => ?_) (fun c => ?_)
    · have H := H.1 c
      refine r_iload_n dX10_highest_75 rfl rfl ?_
      exact r_iret dX10_highest_76 rfl H
    · have H := H.2 c
      refine r_bipush (v := (-2 : Int32)) dX10_highest_70 rfl ?_
      refine r_goto (tgt := 76) dX10_highest_72 (by decide) ?_
      exact r_iret dX10_highest_76 rfl H
  · have H := H.2 c
    refine r_aload_n dX10_highest_24 rfl rfl ?_
    refine r_get (k := 0) (i := 0) (j := 1) (v := rV 6 0) rfl rfl ho0 rfl hX10 (by decide) rfl fX10_30 dX10_highest_25 (fun _ => rfl) ?_
    refine r_iload_n dX10_highest_28 rfl rfl ?_
    refine r_iload_n dX10_highest_29 rfl rfl ?_
    refine r_callV (z := 2) (k := 6) (i := 0) (As := [iV x3, iV x2]) (st := []) kX8_higherBy i_X8_higherBy e_X8_higherBy lX10_333 dX10_highest_30 rfl rfl (ho6 (by decide)) rfl rfl rfl rfl rfl (Nat.le_of_ble_eq_true rfl) ?_
    exact H
set_option maxRecDepth 100000 in
theorem bX10_highest_33 {d : Nat} {Q : Option MV → MS → Prop} {x1 : Int32} {x2 : Int32} {x3 : Int32} {s0 : Int32} {σ : MS}  (H : ((¬ x1 = 0 → ((0 ≤ s0 → R mj_OC d mX10_highest Q 13 [some (rV 0 0), some (iV x1), some (iV x2), some (iV (x3 + (1 : Int32))), none] [] σ) ∧ (¬ 0 ≤ s0 → R mj_OC d mX10_highest Q 13 [some (rV 0 0), some (iV x1), some (iV x3), some (iV (x3 + (1 : Int32))), none] [] σ))) ∧ (x1 = 0 → ((s0 ≤ 0 → R mj_OC d mX10_highest Q 13 [some (rV 0 0), some (iV x1), some (iV x2), some (iV (x3 + (1 : Int32))), none] [] σ) ∧ (¬ s0 ≤ 0 → R mj_OC d mX10_highest Q 13 [some (rV 0 0), some (iV x1), some (iV x3), some (iV (x3 + (1 : Int32))), none] [] σ))))) : R mj_OC d mX10_highest Q 33 [some (rV 0 0), some (iV x1), some (iV x2), some (iV x3), none] [iV s0] σ := by
  refine r_istore dX10_highest_33 (by decide) rfl ?_
  refine r_iload_n dX10_highest_35 rfl rfl ?_
  refine r_if_ne (tgt := 47) dX10_highest_36 (by decide) (fun c => ?_) (fun c => ?_)
  · have H := H.1 c
    refine r_iload dX10_highest_47 rfl ?_
    refine r_if_ge (tgt := 54) dX10_highest_49 (by decide) (fun c => ?_) (fun c => ?_)
    · have H := H.1 c
      refine r_iinc (v := x3 + (1 : Int32)) dX10_highest_54 rfl rfl (by decide) rfl ?_
      refine r_goto (tgt := 13) dX10_highest_57 (by decide) ?_
      exact R.fw (ls' := [some (rV 0 0), some (iV x1), some (iV x2), some (iV (x3 + (1 : Int32))), none]) ⟨rfl, ⟨rfl, ⟨rfl, ⟨rfl, trivial⟩⟩⟩⟩ H
    · have H := H.2 c
      refine r_iload_n dX10_highest_52 rfl rfl ?_
      refine r_istore_n dX10_highest_53 rfl (by decide) rfl ?_
      refine r_iinc (v := x3 + (1 : Int32)) dX10_highest_54 rfl rfl (by decide) rfl ?_
      refine r_goto (tgt := 13) dX10_highest_57 (by decide) ?_
      exact R.fw (ls' := [some (rV 0 0), some (iV x1), some (iV x3), some (iV (x3 + (1 : Int32))), none]) ⟨rfl, ⟨rfl, ⟨rfl, ⟨rfl, trivial⟩⟩⟩⟩ H
  · have H := H.2 c
    refine r_iload dX10_highest_39 rfl ?_
    refine r_if_le (tgt := 54) dX10_highest_41 (by decide) (fun c => ?_) (fun c => ?_)
    · have H := H.1 c
      refine r_iinc (v := x3 + (1 : Int32)) dX10_highest_54 rfl rfl (by decide) rfl ?_
      refine r_goto (tgt := 13) dX10_highest_57 (by decide) ?_
      exact R.fw (ls' := [some (rV 0 0), some (iV x1), some (iV x2), some (iV (x3 + (1 : Int32))), none]) ⟨rfl, ⟨rfl, ⟨rfl, ⟨rfl, trivial⟩⟩⟩⟩ H
    · have H := H.2 c
      refine r_goto (tgt := 52) dX10_highest_44 (by decide) ?_
      refine r_iload_n dX10_highest_52 rfl rfl ?_
      refine r_istore_n dX10_highest_53 rfl (by decide) rfl ?_
      refine r_iinc (v := x3 + (1 : Int32)) dX10_highest_54 rfl rfl (by decide) rfl ?_
      refine r_goto (tgt := 13) dX10_highest_57 (by decide) ?_
      exact R.fw (ls' := [some (rV 0 0), some (iV x1), some (iV x3), some (iV (x3 + (1 : Int32))), none]) ⟨rfl, ⟨rfl, ⟨rfl, ⟨rfl, trivial⟩⟩⟩⟩ H
set_option maxRecDepth 100000 in
theorem bX10_apart_0 {d : Nat} {Q : Option MV → MS → Prop} {x1 : Int32} {x2 : Int32} {x3 : Int32} {σ : MS}  (H : (R mj_OC d mX10_isPond (fun r σ' => R mj_OC (d + 1) mX10_apart Q 5 [some (rV 0 0), some (iV x1), some (iV x2), some (iV x3)] (r.toList ++ []) σ') 0 [some (rV 0 0), some (iV x1)] [] σ)) : R mj_OC (d + 1) mX10_apart Q 0 [some (rV 0 0), some (iV x1), some (iV x2), some (iV x3)] [] σ := by
  refine r_aload_n dX10_apart_0 rfl rfl ?_
  refine r_iload_n dX10_apart_1 rfl rfl ?_
  refine r_callV (z := 0) (k := 0) (i := 0) (As := [iV x1]) (st := []) kX10_isPond i_X10_isPond e_X10_isPond lX10_124 dX10_apart_2 rfl rfl ho0 rfl rfl rfl rfl rfl (Nat.le_of_ble_eq_true rfl) ?_
  exact H
set_option maxRecDepth 100000 in
theorem bX10_apart_5 {d : Nat} {Q : Option MV → MS → Prop} {x1 : Int32} {x2 : Int32} {x3 : Int32} {s0 : Int32} {σ : MS}  (H : ((s0 = 0 → Q (some (iV (-1 : Int32))) σ) ∧ (¬ s0 = 0 → (R mj_OC d mX10_isPond (fun r σ' => R mj_OC (d + 1) mX10_apart Q 13 [some (rV 0 0), some (iV x1), some (iV x2), some (iV x3)] (r.toList ++ []) σ') 0 [some (rV 0 0), some (iV x2)] [] σ)))) : R mj_OC (d + 1) mX10_apart Q 5 [some (rV 0 0), some (iV x1), some (iV x2), some (iV x3)] [iV s0] σ := by
  refine r_if_eq (tgt := 23) dX10_apart_5 (by decide) (fun c => ?_) (fun c => ?_)
  · have H := H.1 c
    refine r_iconst (v := (-1 : Int32)) dX10_apart_23 rfl ?_
    exact r_iret dX10_apart_24 rfl H
  · have H := H.2 c
    refine r_aload_n dX10_apart_8 rfl rfl ?_
    refine r_iload_n dX10_apart_9 rfl rfl ?_
    refine r_callV (z := 0) (k := 0) (i := 0) (As := [iV x2]) (st := []) kX10_isPond i_X10_isPond e_X10_isPond lX10_124 dX10_apart_10 rfl rfl ho0 rfl rfl rfl rfl rfl (Nat.le_of_ble_eq_true rfl) ?_
    exact H
set_option maxRecDepth 100000 in
theorem bX10_apart_13 {d : Nat} {Q : Option MV → MS → Prop} {x1 : Int32} {x2 : Int32} {x3 : Int32} {s0 : Int32} {σ : MS}  (H : ((s0 = 0 → Q (some (iV (-1 : Int32))) σ) ∧ (¬ s0 = 0 → (R mj_OC d mX10_isHalf (fun r σ' => R mj_OC (d + 1) mX10_apart Q 20 [some (rV 0 0), some (iV x1), some (iV x2), some (iV x3)] (r.toList ++ []) σ') 0 [some (iV x3)] [] σ)))) : R mj_OC (d + 1) mX10_apart Q 13 [some (rV 0 0), some (iV x1), some (iV x2), some (iV x3)] [iV s0] σ := by
  refine r_if_eq (tgt := 23) dX10_apart_13 (by decide) (fun c => ?_) (fun c => ?_)
  · have H := H.1 c
    refine r_iconst (v := (-1 : Int32)) dX10_apart_23 rfl ?_
    exact r_iret dX10_apart_24 rfl H
  · have H := H.2 c
    refine r_iload_n dX10_apart_16 rfl rfl ?_
    refine r_callS (z := 0) (As := [iV x3]) (st := []) kX10_isHalf s_X10_isHalf lX10_164 dX10_apart_17 rfl rfl rfl rfl (Nat.le_of_ble_eq_true rfl) ?_
    exact H
set_option maxRecDepth 100000 in
theorem bX10_apart_20 {d : Nat} {Q : Option MV → MS → Prop} {x1 : Int32} {x2 : Int32} {x3 : Int32} {s0 : Int32} {σ : MS}  (H : ((¬ s0 = 0 → (R mj_OC d mX8_higherBy (fun r σ' => R mj_OC (d + 1) mX10_apart Q 34 [some (rV 0 0), some (iV x1), some (iV x2), some (iV x3)] (r.toList ++ []) σ') 0 [some (rV 6 0), some (iV x1), some (iV x2), none, none] [] σ)) ∧ (s0 = 0 → Q (some (iV (-1 : Int32))) σ))) : R mj_OC (d + 1) mX10_apart Q 20 [some (rV 0 0), some (iV x1), some (iV x2), some (iV x3)] [iV s0] σ := by
  refine r_if_ne (tgt := 25) dX10_apart_20 (by decide) (fun c => ?_) (fun c => ?_)
  · have H := H.1 c
    refine r_aload_n dX10_apart_25 rfl rfl ?_
    refine r_get (k := 0) (i := 0) (j := 1) (v := rV 6 0) rfl rfl ho0 rfl hX10 (by decide) rfl fX10_30 dX10_apart_26 (fun _ => rfl) ?_
    refine r_iload_n dX10_apart_29 rfl rfl ?_
    refine r_iload_n dX10_apart_30 rfl rfl ?_
    refine r_callV (z := 2) (k := 6) (i := 0) (As := [iV x1, iV x2]) (st := []) kX8_higherBy i_X8_higherBy e_X8_higherBy lX10_333 dX10_apart_31 rfl rfl (ho6 (by decide)) rfl rfl rfl rfl rfl (Nat.le_of_ble_eq_true rfl) ?_
    exact H
  · have H := H.2 c
    refine r_iconst (v := (-1 : Int32)) dX10_apart_23 rfl ?_
    exact r_iret dX10_apart_24 rfl H
set_option maxRecDepth 100000 in
theorem bX10_apart_34 {d : Nat} {Q : Option MV → MS → Prop} {x1 : Int32} {x2 : Int32} {x3 : Int32} {s0 : Int32} {σ : MS}  (H : (σ.2.2 0 0 < 2 ∧ vp_in x1 7 ∧ vp_in x2 7 ∧ (R mj_OC d mX10_inLeastTerms (fun r σ' => R mj_OC (d + 1) mX10_apart Q 62 [some (rV 0 0), some (iV x1), some (iV x2), some (iV x3)] (r.toList ++ []) σ') 0 [some (lV ((if 0 ≤ s0 then s0 else 0 - s0).toInt64)), none, some (lV (((σ.1 17 (σ.2.2 0 0) ((x1).toNatClampNeg)) * (σ.1 17 (σ.2.2 0 0) ((x2).toNatClampNeg))).toInt64)), none, some (iV x3), none, none, none, none, none, none, none] [] σ))) : R mj_OC (d + 1) mX10_apart Q 34 [some (rV 0 0), some (iV x1), some (iV x2), some (iV x3)] [iV s0] σ := by
  refine r_mabs lX10_336 dX10_apart_34 (Nat.le_of_ble_eq_true rfl) ?_
  refine r_i2l (v := (if 0 ≤ s0 then s0 else 0 - s0).toInt64) dX10_apart_37 rfl ?_
  refine r_aload_n dX10_apart_38 rfl rfl ?_
  refine r_get (k := 0) (i := 0) (j := 9) (v := rV 3 (σ.2.2 0 0)) rfl rfl ho0 rfl hX10 (by decide) rfl fX10_21 dX10_apart_39 (fun _ => rfl) ?_
  obtain ⟨q1, H⟩ := H
  refine r_get (k := 3) (i := (σ.2.2 0 0)) (j := 2) (v := rV 17 (σ.2.2 0 0)) rfl rfl (ho3 q1) rfl hX0 (by decide) rfl fX10_135 dX10_apart_42 (fun _ => rfl) ?_
  refine r_iload_n dX10_apart_45 rfl rfl ?_
  obtain ⟨q2, H⟩ := H
  refine r_iald (k := 17) (i := (σ.2.2 0 0)) rfl (ho17 q1) q2 dX10_apart_46 ?_
  refine r_aload_n dX10_apart_47 rfl rfl ?_
  refine r_get (k := 0) (i := 0) (j := 9) (v := rV 3 (σ.2.2 0 0)) rfl rfl ho0 rfl hX10 (by decide) rfl fX10_21 dX10_apart_48 (fun _ => rfl) ?_
  refine r_get (k := 3) (i := (σ.2.2 0 0)) (j := 2) (v := rV 17 (σ.2.2 0 0)) rfl rfl (ho3 q1) rfl hX0 (by decide) rfl fX10_135 dX10_apart_51 (fun _ => rfl) ?_
  refine r_iload_n dX10_apart_54 rfl rfl ?_
  obtain ⟨q3, H⟩ := H
  refine r_iald (k := 17) (i := (σ.2.2 0 0)) rfl (ho17 q1) q3 dX10_apart_55 ?_
  refine r_imul dX10_apart_56 ?_
  refine r_i2l (v := ((σ.1 17 (σ.2.2 0 0) ((x1).toNatClampNeg)) * (σ.1 17 (σ.2.2 0 0) ((x2).toNatClampNeg))).toInt64) dX10_apart_57 rfl ?_
  refine r_iload_n dX10_apart_58 rfl rfl ?_
  refine r_callS (z := 7) (As := [lV ((if 0 ≤ s0 then s0 else 0 - s0).toInt64), lV (((σ.1 17 (σ.2.2 0 0) ((x1).toNatClampNeg)) * (σ.1 17 (σ.2.2 0 0) ((x2).toNatClampNeg))).toInt64), iV x3]) (st := []) kX10_inLeastTerms s_X10_inLeastTerms lX10_170 dX10_apart_59 rfl rfl rfl rfl (Nat.le_of_ble_eq_true rfl) ?_
  exact H
set_option maxRecDepth 100000 in
theorem bX10_apart_62 {d : Nat} {Q : Option MV → MS → Prop} {x1 : Int32} {x2 : Int32} {x3 : Int32} {s0 : Int64} {σ : MS}  (H : Q (some (iV s0.toInt32)) σ) : R mj_OC d mX10_apart Q 62 [some (rV 0 0), some (iV x1), some (iV x2), some (iV x3)] [lV s0] σ := by
  refine r_l2i (v := s0.toInt32) dX10_apart_62 rfl ?_
  exact r_iret dX10_apart_63 rfl H
set_option maxRecDepth 100000 in
theorem bX10_still_0 {d : Nat} {Q : Option MV → MS → Prop} {x1 : Int32} {x2 : Int32} {σ : MS}  (H : (R mj_OC d mX10_isHalf (fun r σ' => R mj_OC (d + 1) mX10_still Q 4 [some (rV 0 0), some (iV x1), some (iV x2), none] (r.toList ++ []) σ') 0 [some (iV x1)] [] σ)) : R mj_OC (d + 1) mX10_still Q 0 [some (rV 0 0), some (iV x1), some (iV x2), none] [] σ := by
  refine r_iload_n dX10_still_0 rfl rfl ?_
  refine r_callS (z := 0) (As := [iV x1]) (st := []) kX10_isHalf s_X10_isHalf lX10_164 dX10_still_1 rfl rfl rfl rfl (Nat.le_of_ble_eq_true rfl) ?_
  exact H
set_option maxRecDepth 100000 in
theorem bX10_still_4 {d : Nat} {Q : Option MV → MS → Prop} {x1 : Int32} {x2 : Int32} {s0 : Int32} {σ : MS}  (H : ((s0 = 0 → Q (some (iV (-1 : Int32))) σ) ∧ (¬ s0 = 0 → ((¬ x1 = (1 : Int32) → (R mj_OC d mX8_become (fun r σ' => R mj_OC (d + 1) mX10_still Q 33 [some (rV 0 0), some (iV x1), some (iV x2), none] (r.toList ++ []) σ') 0 [some (rV 6 2), some (rV 6 0), none] [] σ)) ∧ (x1 = (1 : Int32) → (R mj_OC d mX10_isPond (fun r σ' => R mj_OC (d + 1) mX10_still Q 17 [some (rV 0 0), some (iV x1), some (iV x2), none] (r.toList ++ []) σ') 0 [some (rV 0 0), some (iV x2)] [] σ)))))) : R mj_OC (d + 1) mX10_still Q 4 [some (rV 0 0), some (iV x1), some (iV x2), none] [iV s0] σ := by
  refine r_if_eq (tgt := 20) dX10_still_4 (by decide) (fun c => ?_) (fun c => ?_)
  · have H := H.1 c
    refine r_iconst (v := (-1 : Int32)) dX10_still_20 rfl ?_
    exact r_iret dX10_still_21 rfl H
  · have H := H.2 c
    refine r_iload_n dX10_still_7 rfl rfl ?_
    refine r_iconst (v := (1 : Int32)) dX10_still_8 rfl ?_
    refine r_icmp_ne (tgt := 22) dX10_still_9 (by decide) (fun c => ?_) (fun c => ?_)
    · have H := H.1 c
      refine r_aload_n dX10_still_22 rfl rfl ?_
      refine r_get (k := 0) (i := 0) (j := 3) (v := rV 6 2) rfl rfl ho0 rfl hX10 (by decide) rfl fX10_37 dX10_still_23 (fun _ => rfl) ?_
      refine r_aload_n dX10_still_26 rfl rfl ?_
      refine r_get (k := 0) (i := 0) (j := 1) (v := rV 6 0) rfl rfl ho0 rfl hX10 (by decide) rfl fX10_30 dX10_still_27 (fun _ => rfl) ?_
      refine r_callV (z := 1) (k := 6) (i := 2) (As := [rV 6 0]) (st := []) kX8_become i_X8_become e_X8_become lX10_272 dX10_still_30 rfl rfl (ho6 (by decide)) rfl rfl rfl rfl rfl (Nat.le_of_ble_eq_true rfl) ?_
      exact H
    · have H := H.2 c
      refine r_aload_n dX10_still_12 rfl rfl ?_
      refine r_iload_n dX10_still_13 rfl rfl ?_
      refine r_callV (z := 0) (k := 0) (i := 0) (As := [iV x2]) (st := []) kX10_isPond i_X10_isPond e_X10_isPond lX10_124 dX10_still_14 rfl rfl ho0 rfl rfl rfl rfl rfl (Nat.le_of_ble_eq_true rfl) ?_
      exact H
set_option maxRecDepth 100000 in
theorem bX10_still_17 {d : Nat} {Q : Option MV → MS → Prop} {x1 : Int32} {x2 : Int32} {s0 : Int32} {σ : MS}  (H : ((¬ s0 = 0 → (R mj_OC d mX8_become (fun r σ' => R mj_OC (d + 1) mX10_still Q 33 [some (rV 0 0), some (iV x1), some (iV x2), none] (r.toList ++ []) σ') 0 [some (rV 6 2), some (rV 6 0), none] [] σ)) ∧ (s0 = 0 → Q (some (iV (-1 : Int32))) σ))) : R mj_OC (d + 1) mX10_still Q 17 [some (rV 0 0), some (iV x1), some (iV x2), none] [iV s0] σ := by
  refine r_if_ne (tgt := 22) dX10_still_17 (by decide) (fun c => ?_) (fun c => ?_)
  · have H := H.1 c
    refine r_aload_n dX10_still_22 rfl rfl ?_
    refine r_get (k := 0) (i := 0) (j := 3) (v := rV 6 2) rfl rfl ho0 rfl hX10 (by decide) rfl fX10_37 dX10_still_23 (fun _ => rfl) ?_
    refine r_aload_n dX10_still_26 rfl rfl ?_
    refine r_get (k := 0) (i := 0) (j := 1) (v := rV 6 0) rfl rfl ho0 rfl hX10 (by decide) rfl fX10_30 dX10_still_27 (fun _ => rfl) ?_
    refine r_callV (z := 1) (k := 6) (i := 2) (As := [rV 6 0]) (st := []) kX8_become i_X8_become e_X8_become lX10_272 dX10_still_30 rfl rfl (ho6 (by decide)) rfl rfl rfl rfl rfl (Nat.le_of_ble_eq_true rfl) ?_
    exact H
  · have H := H.2 c
    refine r_iconst (v := (-1 : Int32)) dX10_still_20 rfl ?_
    exact r_iret dX10_still_21 rfl H
set_option maxRecDepth 100000 in
theorem bX10_still_33 {d : Nat} {Q : Option MV → MS → Prop} {x1 : Int32} {x2 : Int32} {σ : MS}  (H : R mj_OC d mX10_still Q 35 [some (rV 0 0), some (iV x1), some (iV x2), some (iV (0 : Int32))] [] σ) : R mj_OC d mX10_still Q 33 [some (rV 0 0), some (iV x1), some (iV x2), none] [] σ := by
  refine r_iconst (v := (0 : Int32)) dX10_still_33 rfl ?_
  refine r_istore_n dX10_still_34 rfl (by decide) rfl ?_
  exact H
set_option maxRecDepth 100000 in
theorem bX10_still_35 {d : Nat} {Q : Option MV → MS → Prop} {x1 : Int32} {x2 : Int32} {x3 : Int32} {σ : MS}  (H : (((99 : Int32) ≤ x3 → ((¬ x1 = 0 → (vp_in x2 7 ∧ Q (some (iV (σ.1 35 2 ((x2).toNatClampNeg)))) σ)) ∧ (x1 = 0 → Q (some (iV x3)) σ))) ∧ (¬ (99 : Int32) ≤ x3 → (R mj_OC d mX8_runAll (fun r σ' => R mj_OC (d + 1) mX10_still Q 48 [some (rV 0 0), some (iV x1), some (iV x2), some (iV x3)] (r.toList ++ []) σ') 0 [some (rV 6 2), none, none] [] σ)))) : R mj_OC (d + 1) mX10_still Q 35 [some (rV 0 0), some (iV x1), some (iV x2), some (iV x3)] [] σ := by
  refine r_iload_n dX10_still_35 rfl rfl ?_
  refine r_bipush (v := (99 : Int32)) dX10_still_36 rfl ?_
  refine r_icmp_ge (tgt := 57) dX10_still_38 (by decide) (fun c => ?_) (fun c => ?_)
  · have H := H.1 c
    refine r_iload_n dX10_still_57 rfl rfl ?_
    refine r_if_ne (tgt := 65) dX10_still_58 (by decide) (fun c => ?_) (fun c => ?_)
    · have H := H.1 c
      refine r_aload_n dX10_still_65 rfl rfl ?_
      refine r_get (k := 0) (i := 0) (j := 3) (v := rV 6 2) rfl rfl ho0 rfl hX10 (by decide) rfl fX10_37 dX10_still_66 (fun _ => rfl) ?_
      refine r_get (k := 6) (i := 2) (j := 1) (v := rV 35 2) rfl rfl (ho6 (by decide)) rfl hX8 (by decide) rfl fX10_141 dX10_still_69 (fun _ => rfl) ?_
      refine r_iload_n dX10_still_72 rfl rfl ?_
      obtain ⟨q1, H⟩ := H
      refine r_iald (k := 35) (i := 2) rfl (ho35 (by decide)) q1 dX10_still_73 ?_
      exact r_iret dX10_still_74 rfl H
    · have H := H.2 c
      refine r_iload_n dX10_still_61 rfl rfl ?_
      refine r_goto (tgt := 74) dX10_still_62 (by decide) ?_
      exact r_iret dX10_still_74 rfl H
  · have H := H.2 c
    refine r_aload_n dX10_still_41 rfl rfl ?_
    refine r_get (k := 0) (i := 0) (j := 3) (v := rV 6 2) rfl rfl ho0 rfl hX10 (by decide) rfl fX10_37 dX10_still_42 (fun _ => rfl) ?_
    refine r_callV (z := 2) (k := 6) (i := 2) (As := []) (st := []) kX8_runAll i_X8_runAll e_X8_runAll lX10_339 dX10_still_45 rfl rfl (ho6 (by decide)) rfl rfl rfl rfl rfl (Nat.le_of_ble_eq_true rfl) ?_
    exact H
set_option maxRecDepth 100000 in
theorem bX10_still_48 {d : Nat} {Q : Option MV → MS → Prop} {x1 : Int32} {x2 : Int32} {x3 : Int32} {s0 : Int32} {σ : MS}  (H : ((s0 ≤ 0 → ((¬ x1 = 0 → (vp_in x2 7 ∧ Q (some (iV (σ.1 35 2 ((x2).toNatClampNeg)))) σ)) ∧ (x1 = 0 → Q (some (iV x3)) σ))) ∧ (¬ s0 ≤ 0 → R mj_OC d mX10_still Q 35 [some (rV 0 0), some (iV x1), some (iV x2), some (iV (x3 + (1 : Int32)))] [] σ))) : R mj_OC d mX10_still Q 48 [some (rV 0 0), some (iV x1), some (iV x2), some (iV x3)] [iV s0] σ := by
  refine r_if_le (tgt := 57) dX10_still_48 (by decide) (fun c => ?_) (fun c => ?_)
  · have H := H.1 c
    refine r_iload_n dX10_still_57 rfl rfl ?_
    refine r_if_ne (tgt := 65) dX10_still_58 (by decide) (fun c => ?_) (fun c => ?_)
    · have H := H.1 c
      refine r_aload_n dX10_still_65 rfl rfl ?_
      refine r_get (k := 0) (i := 0) (j := 3) (v := rV 6 2) rfl rfl ho0 rfl hX10 (by decide) rfl fX10_37 dX10_still_66 (fun _ => rfl) ?_
      refine r_get (k := 6) (i := 2) (j := 1) (v := rV 35 2) rfl rfl (ho6 (by decide)) rfl hX8 (by decide) rfl fX10_141 dX10_still_69 (fun _ => rfl) ?_
      refine r_iload_n dX10_still_72 rfl rfl ?_
      obtain ⟨q1, H⟩ := H
      refine r_iald (k := 35) (i := 2) rfl (ho35 (by decide)) q1 dX10_still_73 ?_
      exact r_iret dX10_still_74 rfl H
    · have H := H.2 c
      refine r_iload_n dX10_still_61 rfl rfl ?_
      refine r_goto (tgt := 74) dX10_still_62 (by decide) ?_
      exact r_iret dX10_still_74 rfl H
  · have H := H.2 c
    refine r_iinc (v := x3 + (1 : Int32)) dX10_still_51 rfl rfl (by decide) rfl ?_
    refine r_goto (tgt := 35) dX10_still_54 (by decide) ?_
    exact H
set_option maxRecDepth 100000 in
theorem bX10_reach_0 {d : Nat} {Q : Option MV → MS → Prop} {x1 : Int32} {σ : MS}  (H : (R mj_OC d mX10_isPond (fun r σ' => R mj_OC (d + 1) mX10_reach Q 5 [some (rV 0 0), some (iV x1), none, none] (r.toList ++ []) σ') 0 [some (rV 0 0), some (iV x1)] [] σ)) : R mj_OC (d + 1) mX10_reach Q 0 [some (rV 0 0), some (iV x1), none, none] [] σ := by
  refine r_aload_n dX10_reach_0 rfl rfl ?_
  refine r_iload_n dX10_reach_1 rfl rfl ?_
  refine r_callV (z := 0) (k := 0) (i := 0) (As := [iV x1]) (st := []) kX10_isPond i_X10_isPond e_X10_isPond lX10_124 dX10_reach_2 rfl rfl ho0 rfl rfl rfl rfl rfl (Nat.le_of_ble_eq_true rfl) ?_
  exact H
set_option maxRecDepth 100000 in
theorem bX10_reach_5 {d : Nat} {Q : Option MV → MS → Prop} {x1 : Int32} {s0 : Int32} {σ : MS}  (H : ((¬ s0 = 0 → R mj_OC d mX10_reach Q 16 [some (rV 0 0), some (iV x1), some (iV ((1 : Int32) <<< (x1 &&& 31))), some (iV (1 : Int32))] [] σ) ∧ (s0 = 0 → Q (some (iV (-1 : Int32))) σ))) : R mj_OC d mX10_reach Q 5 [some (rV 0 0), some (iV x1), none, none] [iV s0] σ := by
  refine r_if_ne (tgt := 10) dX10_reach_5 (by decide) (fun c => ?_) (fun c => ?_)
  · have H := H.1 c
    refine r_iconst (v := (1 : Int32)) dX10_reach_10 rfl ?_
    refine r_iload_n dX10_reach_11 rfl rfl ?_
    refine r_ishl dX10_reach_12 ?_
    refine r_istore_n dX10_reach_13 rfl (by decide) rfl ?_
    refine r_iconst (v := (1 : Int32)) dX10_reach_14 rfl ?_
    refine r_istore_n dX10_reach_15 rfl (by decide) rfl ?_
    exact H
  · have H := H.2 c
    refine r_iconst (v := (-1 : Int32)) dX10_reach_8 rfl ?_
    exact r_iret dX10_reach_9 rfl H
set_option maxRecDepth 100000 in
theorem bX10_reach_16 {d : Nat} {Q : Option MV → MS → Prop} {x1 : Int32} {x2 : Int32} {x3 : Int32} {σ : MS}  (H : (σ.2.2 0 0 < 2 ∧ (((σ.1 3 (σ.2.2 0 0) 0) ≤ x3 → Q (some (iV x2)) σ) ∧ (¬ (σ.1 3 (σ.2.2 0 0) 0) ≤ x3 → (R mj_OC d mX0_nextTo (fun r σ' => R mj_OC (d + 1) mX10_reach Q 43 [some (rV 0 0), some (iV x1), some (iV x2), some (iV x3)] (r.toList ++ [iV x2]) σ') 0 [some (rV 3 (σ.2.2 0 0)), some (iV x2), some (iV (σ.1 6 0 2)), none, none, none] [] σ))))) : R mj_OC (d + 1) mX10_reach Q 16 [some (rV 0 0), some (iV x1), some (iV x2), some (iV x3)] [] σ := by
  refine r_iload_n dX10_reach_16 rfl rfl ?_
  refine r_aload_n dX10_reach_17 rfl rfl ?_
  refine r_get (k := 0) (i := 0) (j := 9) (v := rV 3 (σ.2.2 0 0)) rfl rfl ho0 rfl hX10 (by decide) rfl fX10_21 dX10_reach_18 (fun _ => rfl) ?_
  obtain ⟨q1, H⟩ := H
  refine r_get (k := 3) (i := (σ.2.2 0 0)) (j := 0) (v := iV (σ.1 3 (σ.2.2 0 0) 0)) rfl rfl (ho3 q1) rfl hX0 (by decide) rfl fX10_293 dX10_reach_21 (fun _ => rfl) ?_
  refine r_icmp_ge (tgt := 51) dX10_reach_24 (by decide) (fun c => ?_) (fun c => ?_)
  · have H := H.1 c
    refine r_iload_n dX10_reach_51 rfl rfl ?_
    exact r_iret dX10_reach_52 rfl H
  · have H := H.2 c
    refine r_iload_n dX10_reach_27 rfl rfl ?_
    refine r_aload_n dX10_reach_28 rfl rfl ?_
    refine r_get (k := 0) (i := 0) (j := 9) (v := rV 3 (σ.2.2 0 0)) rfl rfl ho0 rfl hX10 (by decide) rfl fX10_21 dX10_reach_29 (fun _ => rfl) ?_
    refine r_iload_n dX10_reach_32 rfl rfl ?_
    refine r_aload_n dX10_reach_33 rfl rfl ?_
    refine r_get (k := 0) (i := 0) (j := 1) (v := rV 6 0) rfl rfl ho0 rfl hX10 (by decide) rfl fX10_30 dX10_reach_34 (fun _ => rfl) ?_
    refine r_get (k := 6) (i := 0) (j := 2) (v := iV (σ.1 6 0 2)) rfl rfl (ho6 (by decide)) rfl hX8 (by decide) rfl fX10_193 dX10_reach_37 (fun _ => rfl) ?_
    refine r_callV (z := 3) (k := 3) (i := (σ.2.2 0 0)) (As := [iV x2, iV (σ.1 6 0 2)]) (st := [iV x2]) kX0_nextTo i_X0_nextTo e_X0_nextTo lX10_342 dX10_reach_40 rfl rfl (ho3 q1) rfl rfl rfl rfl rfl (Nat.le_of_ble_eq_true rfl) ?_
    exact H
set_option maxRecDepth 100000 in
theorem bX10_reach_43 {d : Nat} {Q : Option MV → MS → Prop} {x1 : Int32} {x2 : Int32} {x3 : Int32} {s0 : Int32} {s1 : Int32} {σ : MS}  (H : R mj_OC d mX10_reach Q 16 [some (rV 0 0), some (iV x1), some (iV (s1 ||| s0)), some (iV (x3 + (1 : Int32)))] [] σ) : R mj_OC d mX10_reach Q 43 [some (rV 0 0), some (iV x1), some (iV x2), some (iV x3)] [iV s0, iV s1] σ := by
  refine r_ior dX10_reach_43 ?_
  refine r_istore_n dX10_reach_44 rfl (by decide) rfl ?_
  refine r_iinc (v := x3 + (1 : Int32)) dX10_reach_45 rfl rfl (by decide) rfl ?_
  refine r_goto (tgt := 16) dX10_reach_48 (by decide) ?_
  exact H
set_option maxRecDepth 100000 in
theorem bX10_pass_0 {d : Nat} {Q : Option MV → MS → Prop} {x1 : Int32} {x2 : Int32} {σ : MS}  (H : (R mj_OC d mX10_isPond (fun r σ' => R mj_OC (d + 1) mX10_pass Q 5 [some (rV 0 0), some (iV x1), some (iV x2), none, none] (r.toList ++ []) σ') 0 [some (rV 0 0), some (iV x1)] [] σ)) : R mj_OC (d + 1) mX10_pass Q 0 [some (rV 0 0), some (iV x1), some (iV x2), none, none] [] σ := by
  refine r_aload_n dX10_pass_0 rfl rfl ?_
  refine r_iload_n dX10_pass_1 rfl rfl ?_
  refine r_callV (z := 0) (k := 0) (i := 0) (As := [iV x1]) (st := []) kX10_isPond i_X10_isPond e_X10_isPond lX10_124 dX10_pass_2 rfl rfl ho0 rfl rfl rfl rfl rfl (Nat.le_of_ble_eq_true rfl) ?_
  exact H
set_option maxRecDepth 100000 in
theorem bX10_pass_5 {d : Nat} {Q : Option MV → MS → Prop} {x1 : Int32} {x2 : Int32} {s0 : Int32} {σ : MS}  (H : ((s0 = 0 → Q (some (iV (-1 : Int32))) σ) ∧ (¬ s0 = 0 → (R mj_OC d mX10_isPond (fun r σ' => R mj_OC (d + 1) mX10_pass Q 13 [some (rV 0 0), some (iV x1), some (iV x2), none, none] (r.toList ++ []) σ') 0 [some (rV 0 0), some (iV x2)] [] σ)))) : R mj_OC (d + 1) mX10_pass Q 5 [some (rV 0 0), some (iV x1), some (iV x2), none, none] [iV s0] σ := by
  refine r_if_eq (tgt := 21) dX10_pass_5 (by decide) (fun c => ?_) (fun c => ?_)
  · have H := H.1 c
    refine r_iconst (v := (-1 : Int32)) dX10_pass_21 rfl ?_
    exact r_iret dX10_pass_22 rfl H
  · have H := H.2 c
    refine r_aload_n dX10_pass_8 rfl rfl ?_
    refine r_iload_n dX10_pass_9 rfl rfl ?_
    refine r_callV (z := 0) (k := 0) (i := 0) (As := [iV x2]) (st := []) kX10_isPond i_X10_isPond e_X10_isPond lX10_124 dX10_pass_10 rfl rfl ho0 rfl rfl rfl rfl rfl (Nat.le_of_ble_eq_true rfl) ?_
    exact H
set_option maxRecDepth 100000 in
theorem bX10_pass_13 {d : Nat} {Q : Option MV → MS → Prop} {x1 : Int32} {x2 : Int32} {s0 : Int32} {σ : MS}  (H : ((s0 = 0 → Q (some (iV (-1 : Int32))) σ) ∧ (¬ s0 = 0 → ((¬ x1 = x2 → R mj_OC d mX10_pass Q 30 [some (rV 0 0), some (iV x1), some (iV x2), some (iV (2147483647 : Int32)), some (iV (0 : Int32))] [] σ) ∧ (x1 = x2 → Q (some (iV (-1 : Int32))) σ))))) : R mj_OC d mX10_pass Q 13 [some (rV 0 0), some (iV x1), some (iV x2), none, none] [iV s0] σ := by
  refine r_if_eq (tgt := 21) dX10_pass_13 (by decide) (fun c => ?_) (fun c => ?_)
  · have H := H.1 c
    refine r_iconst (v := (-1 : Int32)) dX10_pass_21 rfl ?_
    exact r_iret dX10_pass_22 rfl H
  · have H := H.2 c
    refine r_iload_n dX10_pass_16 rfl rfl ?_
    refine r_iload_n dX10_pass_17 rfl rfl ?_
    refine r_icmp_ne (tgt := 23) dX10_pass_18 (by decide) (fun c => ?_) (fun c => ?_)
    · have H := H.1 c
      refine r_ldcw (v := (2147483647 : Int32)) oX10_345 dX10_pass_23 ?_
      refine r_istore_n dX10_pass_26 rfl (by decide) rfl ?_
      refine r_iconst (v := (0 : Int32)) dX10_pass_27 rfl ?_
      refine r_istore dX10_pass_28 (by decide) rfl ?_
      exact H
    · have H := H.2 c
      refine r_iconst (v := (-1 : Int32)) dX10_pass_21 rfl ?_
      exact r_iret dX10_pass_22 rfl H
set_option maxRecDepth 100000 in
theorem bX10_pass_30 {d : Nat} {Q : Option MV → MS → Prop} {x1 : Int32} {x2 : Int32} {x3 : Int32} {x4 : Int32} {σ : MS}  (H : (σ.2.2 0 0 < 2 ∧ ((((1 : Int32) <<< ((σ.1 3 (σ.2.2 0 0) 0) &&& 31)) ≤ x4 → Q (some (iV x3)) σ) ∧ (¬ ((1 : Int32) <<< ((σ.1 3 (σ.2.2 0 0) 0) &&& 31)) ≤ x4 → ((¬ ((x4 >>> (x1 &&& 31)) &&& (1 : Int32)) = (1 : Int32) → R mj_OC (d + 1) mX10_pass Q 30 [some (rV 0 0), some (iV x1), some (iV x2), some (iV x3), some (iV (x4 + (1 : Int32)))] [] σ) ∧ (((x4 >>> (x1 &&& 31)) &&& (1 : Int32)) = (1 : Int32) → ((¬ ((x4 >>> (x2 &&& 31)) &&& (1 : Int32)) = 0 → R mj_OC (d + 1) mX10_pass Q 30 [some (rV 0 0), some (iV x1), some (iV x2), some (iV x3), some (iV (x4 + (1 : Int32)))] [] σ) ∧ (((x4 >>> (x2 &&& 31)) &&& (1 : Int32)) = 0 → (R mj_OC d mX0_wideAcross (fun r σ' => R mj_OC (d + 1) mX10_pass Q 80 [some (rV 0 0), some (iV x1), some (iV x2), some (iV x3), some (iV x4)] (r.toList ++ [iV x3]) σ') 0 [some (rV 3 (σ.2.2 0 0)), some (iV x4), some (iV (σ.1 6 0 2)), none, none] [] σ))))))))) : R mj_OC (d + 1) mX10_pass Q 30 [some (rV 0 0), some (iV x1), some (iV x2), some (iV x3), some (iV x4)] [] σ := by
  refine r_iload dX10_pass_30 rfl ?_
  refine r_iconst (v := (1 : Int32)) dX10_pass_32 rfl ?_
  refine r_aload_n dX10_pass_33 rfl rfl ?_
  refine r_get (k := 0) (i := 0) (j := 9) (v := rV 3 (σ.2.2 0 0)) rfl rfl ho0 rfl hX10 (by decide) rfl fX10_21 dX10_pass_34 (fun _ => rfl) ?_
  obtain ⟨q1, H⟩ := H
  refine r_get (k := 3) (i := (σ.2.2 0 0)) (j := 0) (v := iV (σ.1 3 (σ.2.2 0 0) 0)) rfl rfl (ho3 q1) rfl hX0 (by decide) rfl fX10_293 dX10_pass_37 (fun _ => rfl) ?_
  refine r_ishl dX10_pass_40 ?_
  refine r_icmp_ge (tgt := 90) dX10_pass_41 (by decide) (fun c => ?_) (fun c => ?_)
  · have H := H.1 c
    refine r_iload_n dX10_pass_90 rfl rfl ?_
    exact r_iret dX10_pass_91 rfl H
  · have H := H.2 c
    refine r_iload dX10_pass_44 rfl ?_
    refine r_iload_n dX10_pass_46 rfl rfl ?_
    refine r_ishr dX10_pass_47 ?_
    refine r_iconst (v := (1 : Int32)) dX10_pass_48 rfl ?_
    refine r_iand dX10_pass_49 ?_
    refine r_iconst (v := (1 : Int32)) dX10_pass_50 rfl ?_
    refine r_icmp_ne (tgt := 84) dX10_pass_51 (by decide) (fun c => ?_) (fun c => ?_)
    · have H := H.1 c
      refine r_iinc (v := x4 + (1 : Int32)) dX10_pass_84 rfl rfl (by decide) rfl ?_
      refine r_goto (tgt := 30) dX10_pass_87 (by decide) ?_
      exact H
    · have H := H.2 c
      refine r_iload dX10_pass_54 rfl ?_
      refine r_iload_n dX10_pass_56 rfl rfl ?_
      refine r_ishr dX10_pass_57 ?_
      refine r_iconst (v := (1 : Int32)) dX10_pass_58 rfl ?_
      refine r_iand dX10_pass_59 ?_
      refine r_if_ne (tgt := 84) dX10_pass_60 (by decide) (fun c => ?_) (fun c => ?_)
      · have H := H.1 c
        refine r_iinc (v := x4 + (1 : Int32)) dX10_pass_84 rfl rfl (by decide) rfl ?_
        refine r_goto (tgt := 30) dX10_pass_87 (by decide) ?_
        exact H
      · have H := H.2 c
        refine r_iload_n dX10_pass_63 rfl rfl ?_
        refine r_aload_n dX10_pass_64 rfl rfl ?_
        refine r_get (k := 0) (i := 0) (j := 9) (v := rV 3 (σ.2.2 0 0)) rfl rfl ho0 rfl hX10 (by decide) rfl fX10_21 dX10_pass_65 (fun _ => rfl) ?_
        refine r_iload dX10_pass_68 rfl ?_
        refine r_aload_n dX10_pass_70 rfl rfl ?_
        refine r_get (k := 0) (i := 0) (j := 1) (v := rV 6 0) rfl rfl ho0 rfl hX10 (by decide) rfl fX10_30 dX10_pass_71 (fun _ => rfl) ?_
        refine r_get (k := 6) (i := 0) (j := 2) (v := iV (σ.1 6 0 2)) rfl rfl (ho6 (by decide)) rfl hX8 (by decide) rfl fX10_193 dX10_pass_74 (fun _ => rfl) ?_
        refine r_callV (z := 2) (k := 3) (i := (σ.2.2 0 0)) (As := [iV x4, iV (σ.1 6 0 2)]) (st := [iV x3]) kX0_wideAcross i_X0_wideAcross e_X0_wideAcross lX10_346 dX10_pass_77 rfl rfl (ho3 q1) rfl rfl rfl rfl rfl (Nat.le_of_ble_eq_true rfl) ?_
        exact H
set_option maxRecDepth 100000 in
theorem bX10_pass_80 {d : Nat} {Q : Option MV → MS → Prop} {x1 : Int32} {x2 : Int32} {x3 : Int32} {x4 : Int32} {s0 : Int32} {s1 : Int32} {σ : MS}  (H : R mj_OC (d + 1) mX10_pass Q 30 [some (rV 0 0), some (iV x1), some (iV x2), some (iV (if s0 < s1 then s0 else s1)), some (iV (x4 + (1 : Int32)))] [] σ) : R mj_OC (d + 1) mX10_pass Q 80 [some (rV 0 0), some (iV x1), some (iV x2), some (iV x3), some (iV x4)] [iV s0, iV s1] σ := by
  refine r_mmin lX10_349 dX10_pass_80 (Nat.le_of_ble_eq_true rfl) ?_
  refine r_istore_n dX10_pass_83 rfl (by decide) rfl ?_
  refine r_iinc (v := x4 + (1 : Int32)) dX10_pass_84 rfl rfl (by decide) rfl ?_
  refine r_goto (tgt := 30) dX10_pass_87 (by decide) ?_
  exact H
set_option maxRecDepth 100000 in
theorem bX10_lockfuls_0 {d : Nat} {Q : Option MV → MS → Prop} {x1 : Int32} {x2 : Int32} {σ : MS}  (H : (R mj_OC d mX10_isPond (fun r σ' => R mj_OC (d + 1) mX10_lockfuls Q 5 [some (rV 0 0), some (iV x1), some (iV x2), none] (r.toList ++ []) σ') 0 [some (rV 0 0), some (iV x1)] [] σ)) : R mj_OC (d + 1) mX10_lockfuls Q 0 [some (rV 0 0), some (iV x1), some (iV x2), none] [] σ := by
  refine r_aload_n dX10_lockfuls_0 rfl rfl ?_
  refine r_iload_n dX10_lockfuls_1 rfl rfl ?_
  refine r_callV (z := 0) (k := 0) (i := 0) (As := [iV x1]) (st := []) kX10_isPond i_X10_isPond e_X10_isPond lX10_124 dX10_lockfuls_2 rfl rfl ho0 rfl rfl rfl rfl rfl (Nat.le_of_ble_eq_true rfl) ?_
  exact H
set_option maxRecDepth 100000 in
theorem bX10_lockfuls_5 {d : Nat} {Q : Option MV → MS → Prop} {x1 : Int32} {x2 : Int32} {s0 : Int32} {σ : MS}  (H : ((s0 = 0 → Q (some (iV (-1 : Int32))) σ) ∧ (¬ s0 = 0 → (R mj_OC d mX10_isLock (fun r σ' => R mj_OC (d + 1) mX10_lockfuls Q 13 [some (rV 0 0), some (iV x1), some (iV x2), none] (r.toList ++ []) σ') 0 [some (rV 0 0), some (iV x2)] [] σ)))) : R mj_OC (d + 1) mX10_lockfuls Q 5 [some (rV 0 0), some (iV x1), some (iV x2), none] [iV s0] σ := by
  refine r_if_eq (tgt := 16) dX10_lockfuls_5 (by decide) (fun c => ?_) (fun c => ?_)
  · have H := H.1 c
    refine r_iconst (v := (-1 : Int32)) dX10_lockfuls_16 rfl ?_
    exact r_iret dX10_lockfuls_17 rfl H
  · have H := H.2 c
    refine r_aload_n dX10_lockfuls_8 rfl rfl ?_
    refine r_iload_n dX10_lockfuls_9 rfl rfl ?_
    refine r_callV (z := 0) (k := 0) (i := 0) (As := [iV x2]) (st := []) kX10_isLock i_X10_isLock e_X10_isLock lX10_196 dX10_lockfuls_10 rfl rfl ho0 rfl rfl rfl rfl rfl (Nat.le_of_ble_eq_true rfl) ?_
    exact H
set_option maxRecDepth 100000 in
theorem bX10_lockfuls_13 {d : Nat} {Q : Option MV → MS → Prop} {x1 : Int32} {x2 : Int32} {s0 : Int32} {σ : MS}  (H : ((¬ s0 = 0 → (σ.2.2 0 0 < 2 ∧ (R mj_OC d mX0_liftOf (fun r σ' => R mj_OC (d + 1) mX10_lockfuls Q 26 [some (rV 0 0), some (iV x1), some (iV x2), none] (r.toList ++ []) σ') 0 [some (rV 3 (σ.2.2 0 0)), some (iV x2)] [] σ))) ∧ (s0 = 0 → Q (some (iV (-1 : Int32))) σ))) : R mj_OC (d + 1) mX10_lockfuls Q 13 [some (rV 0 0), some (iV x1), some (iV x2), none] [iV s0] σ := by
  refine r_if_ne (tgt := 18) dX10_lockfuls_13 (by decide) (fun c => ?_) (fun c => ?_)
  · have H := H.1 c
    refine r_aload_n dX10_lockfuls_18 rfl rfl ?_
    refine r_get (k := 0) (i := 0) (j := 9) (v := rV 3 (σ.2.2 0 0)) rfl rfl ho0 rfl hX10 (by decide) rfl fX10_21 dX10_lockfuls_19 (fun _ => rfl) ?_
    refine r_iload_n dX10_lockfuls_22 rfl rfl ?_
    obtain ⟨q1, H⟩ := H
    refine r_callV (z := 0) (k := 3) (i := (σ.2.2 0 0)) (As := [iV x2]) (st := []) kX0_liftOf i_X0_liftOf e_X0_liftOf lX10_317 dX10_lockfuls_23 rfl rfl (ho3 q1) rfl rfl rfl rfl rfl (Nat.le_of_ble_eq_true rfl) ?_
    exact H
  · have H := H.2 c
    refine r_iconst (v := (-1 : Int32)) dX10_lockfuls_16 rfl ?_
    exact r_iret dX10_lockfuls_17 rfl H
set_option maxRecDepth 100000 in
theorem bX10_lockfuls_26 {d : Nat} {Q : Option MV → MS → Prop} {x1 : Int32} {x2 : Int32} {s0 : Int32} {σ : MS}  (H : ((s0 ≤ 0 → Q (some (iV (999 : Int32))) σ) ∧ (¬ s0 ≤ 0 → (vp_in x1 7 ∧ (¬ s0 = 0) ∧ Q (some (iV ((σ.1 35 0 ((x1).toNatClampNeg)) / s0))) σ)))) : R mj_OC d mX10_lockfuls Q 26 [some (rV 0 0), some (iV x1), some (iV x2), none] [iV s0] σ := by
  refine r_istore_n dX10_lockfuls_26 rfl (by decide) rfl ?_
  refine r_iload_n dX10_lockfuls_27 rfl rfl ?_
  refine r_if_le (tgt := 45) dX10_lockfuls_28 (by decide) (fun c => ?_) (fun c => ?_)
  · have H := H.1 c
    refine r_sipush (v := (999 : Int32)) dX10_lockfuls_45 rfl ?_
    exact r_iret dX10_lockfuls_48 rfl H
  · have H := H.2 c
    refine r_aload_n dX10_lockfuls_31 rfl rfl ?_
    refine r_get (k := 0) (i := 0) (j := 1) (v := rV 6 0) rfl rfl ho0 rfl hX10 (by decide) rfl fX10_30 dX10_lockfuls_32 (fun _ => rfl) ?_
    refine r_get (k := 6) (i := 0) (j := 1) (v := rV 35 0) rfl rfl (ho6 (by decide)) rfl hX8 (by decide) rfl fX10_141 dX10_lockfuls_35 (fun _ => rfl) ?_
    refine r_iload_n dX10_lockfuls_38 rfl rfl ?_
    obtain ⟨q1, H⟩ := H
    refine r_iald (k := 35) (i := 0) rfl (ho35 (by decide)) q1 dX10_lockfuls_39 ?_
    refine r_iload_n dX10_lockfuls_40 rfl rfl ?_
    obtain ⟨q2, H⟩ := H
    refine r_idiv dX10_lockfuls_41 q2 ?_
    refine r_goto (tgt := 48) dX10_lockfuls_42 (by decide) ?_
    exact r_iret dX10_lockfuls_48 rfl H
set_option maxRecDepth 100000 in
theorem bX10_game_0 {d : Nat} {Q : Option MV → MS → Prop} {x1 : Int32} {x2 : Int32} {x3 : Int32} {σ : MS}  (H : (R mj_OC d mX10_isPond (fun r σ' => R mj_OC (d + 1) mX10_game Q 5 [some (rV 0 0), some (iV x1), some (iV x2), some (iV x3), none, none] (r.toList ++ []) σ') 0 [some (rV 0 0), some (iV x1)] [] σ)) : R mj_OC (d + 1) mX10_game Q 0 [some (rV 0 0), some (iV x1), some (iV x2), some (iV x3), none, none] [] σ := by
  refine r_aload_n dX10_game_0 rfl rfl ?_
  refine r_iload_n dX10_game_1 rfl rfl ?_
  refine r_callV (z := 0) (k := 0) (i := 0) (As := [iV x1]) (st := []) kX10_isPond i_X10_isPond e_X10_isPond lX10_124 dX10_game_2 rfl rfl ho0 rfl rfl rfl rfl rfl (Nat.le_of_ble_eq_true rfl) ?_
  exact H
set_option maxRecDepth 100000 in
theorem bX10_game_5 {d : Nat} {Q : Option MV → MS → Prop} {x1 : Int32} {x2 : Int32} {x3 : Int32} {s0 : Int32} {σ : MS}  (H : ((s0 = 0 → Q (some (iV (-1 : Int32))) σ) ∧ (¬ s0 = 0 → (R mj_OC d mX10_isHeight (fun r σ' => R mj_OC (d + 1) mX10_game Q 12 [some (rV 0 0), some (iV x1), some (iV x2), some (iV x3), none, none] (r.toList ++ []) σ') 0 [some (iV x2)] [] σ)))) : R mj_OC (d + 1) mX10_game Q 5 [some (rV 0 0), some (iV x1), some (iV x2), some (iV x3), none, none] [iV s0] σ := by
  refine r_if_eq (tgt := 22) dX10_game_5 (by decide) (fun c => ?_) (fun c => ?_)
  · have H := H.1 c
    refine r_iconst (v := (-1 : Int32)) dX10_game_22 rfl ?_
    exact r_iret dX10_game_23 rfl H
  · have H := H.2 c
    refine r_iload_n dX10_game_8 rfl rfl ?_
    refine r_callS (z := 0) (As := [iV x2]) (st := []) kX10_isHeight s_X10_isHeight lX10_306 dX10_game_9 rfl rfl rfl rfl (Nat.le_of_ble_eq_true rfl) ?_
    exact H
set_option maxRecDepth 100000 in
theorem bX10_game_12 {d : Nat} {Q : Option MV → MS → Prop} {x1 : Int32} {x2 : Int32} {x3 : Int32} {s0 : Int32} {σ : MS}  (H : ((s0 = 0 → Q (some (iV (-1 : Int32))) σ) ∧ (¬ s0 = 0 → (R mj_OC d mX10_isHalf (fun r σ' => R mj_OC (d + 1) mX10_game Q 19 [some (rV 0 0), some (iV x1), some (iV x2), some (iV x3), none, none] (r.toList ++ []) σ') 0 [some (iV x3)] [] σ)))) : R mj_OC (d + 1) mX10_game Q 12 [some (rV 0 0), some (iV x1), some (iV x2), some (iV x3), none, none] [iV s0] σ := by
  refine r_if_eq (tgt := 22) dX10_game_12 (by decide) (fun c => ?_) (fun c => ?_)
  · have H := H.1 c
    refine r_iconst (v := (-1 : Int32)) dX10_game_22 rfl ?_
    exact r_iret dX10_game_23 rfl H
  · have H := H.2 c
    refine r_iload_n dX10_game_15 rfl rfl ?_
    refine r_callS (z := 0) (As := [iV x3]) (st := []) kX10_isHalf s_X10_isHalf lX10_164 dX10_game_16 rfl rfl rfl rfl (Nat.le_of_ble_eq_true rfl) ?_
    exact H
set_option maxRecDepth 100000 in
theorem bX10_game_19 {d : Nat} {Q : Option MV → MS → Prop} {x1 : Int32} {x2 : Int32} {x3 : Int32} {s0 : Int32} {σ : MS}  (H : ((¬ s0 = 0 → (vp_in x1 7 ∧ σ.2.2 0 0 < 2 ∧ (R mj_OC d mX0_waterFor (fun r σ' => R mj_OC (d + 1) mX10_game Q 42 [some (rV 0 0), some (iV x1), some (iV x2), some (iV x3), none, none] (r.toList ++ [iV (σ.1 35 0 ((x1).toNatClampNeg))]) σ') 0 [some (rV 3 (σ.2.2 0 0)), some (iV x1), some (iV x2)] [] σ))) ∧ (s0 = 0 → Q (some (iV (-1 : Int32))) σ))) : R mj_OC (d + 1) mX10_game Q 19 [some (rV 0 0), some (iV x1), some (iV x2), some (iV x3), none, none] [iV s0] σ := by
  refine r_if_ne (tgt := 24) dX10_game_19 (by decide) (fun c => ?_) (fun c => ?_)
  · have H := H.1 c
    refine r_aload_n dX10_game_24 rfl rfl ?_
    refine r_get (k := 0) (i := 0) (j := 1) (v := rV 6 0) rfl rfl ho0 rfl hX10 (by decide) rfl fX10_30 dX10_game_25 (fun _ => rfl) ?_
    refine r_get (k := 6) (i := 0) (j := 1) (v := rV 35 0) rfl rfl (ho6 (by decide)) rfl hX8 (by decide) rfl fX10_141 dX10_game_28 (fun _ => rfl) ?_
    refine r_iload_n dX10_game_31 rfl rfl ?_
    obtain ⟨q1, H⟩ := H
    refine r_iald (k := 35) (i := 0) rfl (ho35 (by decide)) q1 dX10_game_32 ?_
    refine r_aload_n dX10_game_33 rfl rfl ?_
    refine r_get (k := 0) (i := 0) (j := 9) (v := rV 3 (σ.2.2 0 0)) rfl rfl ho0 rfl hX10 (by decide) rfl fX10_21 dX10_game_34 (fun _ => rfl) ?_
    refine r_iload_n dX10_game_37 rfl rfl ?_
    refine r_iload_n dX10_game_38 rfl rfl ?_
    obtain ⟨q2, H⟩ := H
    refine r_callV (z := 0) (k := 3) (i := (σ.2.2 0 0)) (As := [iV x1, iV x2]) (st := [iV (σ.1 35 0 ((x1).toNatClampNeg))]) kX0_waterFor i_X0_waterFor e_X0_waterFor lX10_309 dX10_game_39 rfl rfl (ho3 q2) rfl rfl rfl rfl rfl (Nat.le_of_ble_eq_true rfl) ?_
    exact H
  · have H := H.2 c
    refine r_iconst (v := (-1 : Int32)) dX10_game_22 rfl ?_
    exact r_iret dX10_game_23 rfl H
set_option maxRecDepth 100000 in
theorem bX10_game_42 {d : Nat} {Q : Option MV → MS → Prop} {x1 : Int32} {x2 : Int32} {x3 : Int32} {s0 : Int32} {s1 : Int32} {σ : MS}  (H : ((0 ≤ (s1 - s0) → ((¬ x3 = 0 → ((((s1 - s0) - (s1 - s0) / (4 : Int32) * (4 : Int32)) ≤ 0 → Q (some (iV (-2 : Int32))) σ) ∧ (¬ ((s1 - s0) - (s1 - s0) / (4 : Int32) * (4 : Int32)) ≤ 0 → Q (some (iV ((s1 - s0) - (s1 - s0) / (4 : Int32) * (4 : Int32)))) σ))) ∧ (x3 = 0 → ((((s1 - s0) - (s1 - s0) / (4 : Int32) * (4 : Int32)) ≤ 0 → Q (some (iV (1 : Int32))) σ) ∧ (¬ ((s1 - s0) - (s1 - s0) / (4 : Int32) * (4 : Int32)) ≤ 0 → Q (some (iV (0 : Int32))) σ))))) ∧ (¬ 0 ≤ (s1 - s0) → ((¬ x3 = 0 → Q (some (iV (-2 : Int32))) σ) ∧ (x3 = 0 → Q (some (iV (2 : Int32))) σ))))) : R mj_OC d mX10_game Q 42 [some (rV 0 0), some (iV x1), some (iV x2), some (iV x3), none, none] [iV s0, iV s1] σ := by
  refine r_isub dX10_game_42 ?_
  refine r_istore dX10_game_43 (by decide) rfl ?_
  refine r_iload dX10_game_45 rfl ?_
  refine r_if_ge (tgt := 61) dX10_game_47 (by decide) (fun c => ?_) (fun c => ?_)
  · have H := H.1 c
    refine r_iload dX10_game_61 rfl ?_
    refine r_iconst (v := (4 : Int32)) dX10_game_63 rfl ?_
    refine r_irem dX10_game_64 (by decide) ?_
    refine r_istore dX10_game_65 (by decide) rfl ?_
    refine r_iload_n dX10_game_67 rfl rfl ?_
    refine r_if_ne (tgt := 82) dX10_game_68 (by decide) (fun c => ?_) (fun c => ?_)
    · have H := H.1 c
      refine r_iload dX10_game_82 rfl ?_
      refine r_if_le (tgt := 92) dX10_game_84 (by decide) (fun c => ?_) (fun c => ?_)
      · have H := H.1 c
        refine r_bipush (v := (-2 : Int32)) dX10_game_92 rfl ?_
        exact r_iret dX10_game_94 rfl H
      · have H := H.2 c
        refine r_iload dX10_game_87 rfl ?_
        refine r_goto (tgt := 94) dX10_game_89 (by decide) ?_
        exact r_iret dX10_game_94 rfl H
    · have H := H.2 c
      refine r_iload dX10_game_71 rfl ?_
      refine r_if_le (tgt := 80) dX10_game_73 (by decide) (fun c => ?_) (fun c => ?_)
      · have H := H.1 c
        refine r_iconst (v := (1 : Int32)) dX10_game_80 rfl ?_
        exact r_iret dX10_game_81 rfl H
      · have H := H.2 c
        refine r_iconst (v := (0 : Int32)) dX10_game_76 rfl ?_
        refine r_goto (tgt := 81) dX10_game_77 (by decide) ?_
        exact r_iret dX10_game_81 rfl H
  · have H := H.2 c
    refine r_iload_n dX10_game_50 rfl rfl ?_
    refine r_if_ne (tgt := 58) dX10_game_51 (by decide) (fun c => ?_) (fun c => ?_)
    · have H := H.1 c
      refine r_bipush (v := (-2 : Int32)) dX10_game_58 rfl ?_
      exact r_iret dX10_game_60 rfl H
    · have H := H.2 c
      refine r_iconst (v := (2 : Int32)) dX10_game_54 rfl ?_
      refine r_goto (tgt := 60) dX10_game_55 (by decide) ?_
      exact r_iret dX10_game_60 rfl H
set_option maxRecDepth 100000 in
theorem bX10_rests_0 {d : Nat} {Q : Option MV → MS → Prop} {x1 : Int32} {x2 : Int32} {σ : MS}  (H : (R mj_OC d mX10_isPond (fun r σ' => R mj_OC (d + 1) mX10_rests Q 5 [some (rV 0 0), some (iV x1), some (iV x2), none, none] (r.toList ++ []) σ') 0 [some (rV 0 0), some (iV x1)] [] σ)) : R mj_OC (d + 1) mX10_rests Q 0 [some (rV 0 0), some (iV x1), some (iV x2), none, none] [] σ := by
  refine r_aload_n dX10_rests_0 rfl rfl ?_
  refine r_iload_n dX10_rests_1 rfl rfl ?_
  refine r_callV (z := 0) (k := 0) (i := 0) (As := [iV x1]) (st := []) kX10_isPond i_X10_isPond e_X10_isPond lX10_124 dX10_rests_2 rfl rfl ho0 rfl rfl rfl rfl rfl (Nat.le_of_ble_eq_true rfl) ?_
  exact H
set_option maxRecDepth 100000 in
theorem bX10_rests_5 {d : Nat} {Q : Option MV → MS → Prop} {x1 : Int32} {x2 : Int32} {s0 : Int32} {σ : MS}  (H : ((s0 = 0 → Q (some (iV (-1 : Int32))) σ) ∧ (¬ s0 = 0 → (R mj_OC d mX10_isPond (fun r σ' => R mj_OC (d + 1) mX10_rests Q 13 [some (rV 0 0), some (iV x1), some (iV x2), none, none] (r.toList ++ []) σ') 0 [some (rV 0 0), some (iV x2)] [] σ)))) : R mj_OC (d + 1) mX10_rests Q 5 [some (rV 0 0), some (iV x1), some (iV x2), none, none] [iV s0] σ := by
  refine r_if_eq (tgt := 21) dX10_rests_5 (by decide) (fun c => ?_) (fun c => ?_)
  · have H := H.1 c
    refine r_iconst (v := (-1 : Int32)) dX10_rests_21 rfl ?_
    exact r_iret dX10_rests_22 rfl H
  · have H := H.2 c
    refine r_aload_n dX10_rests_8 rfl rfl ?_
    refine r_iload_n dX10_rests_9 rfl rfl ?_
    refine r_callV (z := 0) (k := 0) (i := 0) (As := [iV x2]) (st := []) kX10_isPond i_X10_isPond e_X10_isPond lX10_124 dX10_rests_10 rfl rfl ho0 rfl rfl rfl rfl rfl (Nat.le_of_ble_eq_true rfl) ?_
    exact H
set_option maxRecDepth 100000 in
theorem bX10_rests_13 {d : Nat} {Q : Option MV → MS → Prop} {x1 : Int32} {x2 : Int32} {s0 : Int32} {σ : MS}  (H : ((s0 = 0 → Q (some (iV (-1 : Int32))) σ) ∧ (¬ s0 = 0 → ((¬ x1 = x2 → R mj_OC d mX10_rests Q 28 [some (rV 0 0), some (iV x1), some (iV x2), some (iV (0 : Int32)), some (iV (0 : Int32))] [] σ) ∧ (x1 = x2 → Q (some (iV (-1 : Int32))) σ))))) : R mj_OC d mX10_rests Q 13 [some (rV 0 0), some (iV x1), some (iV x2), none, none] [iV s0] σ := by
  refine r_if_eq (tgt := 21) dX10_rests_13 (by decide) (fun c => ?_) (fun c => ?_)
  · have H := H.1 c
    refine r_iconst (v := (-1 : Int32)) dX10_rests_21 rfl ?_
    exact r_iret dX10_rests_22 rfl H
  · have H := H.2 c
    refine r_iload_n dX10_rests_16 rfl rfl ?_
    refine r_iload_n dX10_rests_17 rfl rfl ?_
    refine r_icmp_ne (tgt := 23) dX10_rests_18 (by decide) (fun c => ?_) (fun c => ?_)
    · have H := H.1 c
      refine r_iconst (v := (0 : Int32)) dX10_rests_23 rfl ?_
      refine r_istore_n dX10_rests_24 rfl (by decide) rfl ?_
      refine r_iconst (v := (0 : Int32)) dX10_rests_25 rfl ?_
      refine r_istore dX10_rests_26 (by decide) rfl ?_
      exact H
    · have H := H.2 c
      refine r_iconst (v := (-1 : Int32)) dX10_rests_21 rfl ?_
      exact r_iret dX10_rests_22 rfl H
set_option maxRecDepth 100000 in
theorem bX10_rests_28 {d : Nat} {Q : Option MV → MS → Prop} {x1 : Int32} {x2 : Int32} {x3 : Int32} {x4 : Int32} {σ : MS}  (H : (((4 : Int32) ≤ x4 → Q (some (iV x3)) σ) ∧ (¬ (4 : Int32) ≤ x4 → (R mj_OC d mX10_isRest (fun r σ' => R mj_OC (d + 1) mX10_rests Q 42 [some (rV 0 0), some (iV x1), some (iV x2), some (iV x3), some (iV x4)] (r.toList ++ []) σ') 0 [some (rV 0 0), some (iV x1), some (iV x2), some (iV x4), none, none, none, none] [] σ)))) : R mj_OC (d + 1) mX10_rests Q 28 [some (rV 0 0), some (iV x1), some (iV x2), some (iV x3), some (iV x4)] [] σ := by
  refine r_iload dX10_rests_28 rfl ?_
  refine r_iconst (v := (4 : Int32)) dX10_rests_30 rfl ?_
  refine r_icmp_ge (tgt := 54) dX10_rests_31 (by decide) (fun c => ?_) (fun c => ?_)
  · have H := H.1 c
    refine r_iload_n dX10_rests_54 rfl rfl ?_
    exact r_iret dX10_rests_55 rfl H
  · have H := H.2 c
    refine r_aload_n dX10_rests_34 rfl rfl ?_
    refine r_iload_n dX10_rests_35 rfl rfl ?_
    refine r_iload_n dX10_rests_36 rfl rfl ?_
    refine r_iload dX10_rests_37 rfl ?_
    refine r_callV (z := 4) (k := 0) (i := 0) (As := [iV x1, iV x2, iV x4]) (st := []) kX10_isRest i_X10_isRest e_X10_isRest lX10_352 dX10_rests_39 rfl rfl ho0 rfl rfl rfl rfl rfl (Nat.le_of_ble_eq_true rfl) ?_
    exact H
set_option maxRecDepth 100000 in
theorem bX10_rests_42 {d : Nat} {Q : Option MV → MS → Prop} {x1 : Int32} {x2 : Int32} {x3 : Int32} {x4 : Int32} {s0 : Int32} {σ : MS}  (H : ((s0 = 0 → R mj_OC d mX10_rests Q 28 [some (rV 0 0), some (iV x1), some (iV x2), some (iV x3), some (iV (x4 + (1 : Int32)))] [] σ) ∧ (¬ s0 = 0 → R mj_OC d mX10_rests Q 28 [some (rV 0 0), some (iV x1), some (iV x2), some (iV (x3 + (1 : Int32))), some (iV (x4 + (1 : Int32)))] [] σ))) : R mj_OC d mX10_rests Q 42 [some (rV 0 0), some (iV x1), some (iV x2), some (iV x3), some (iV x4)] [iV s0] σ := by
  refine r_if_eq (tgt := 48) dX10_rests_42 (by decide) (fun c => ?_) (fun c => ?_)
  · have H := H.1 c
    refine r_iinc (v := x4 + (1 : Int32)) dX10_rests_48 rfl rfl (by decide) rfl ?_
    refine r_goto (tgt := 28) dX10_rests_51 (by decide) ?_
    exact H
  · have H := H.2 c
    refine r_iinc (v := x3 + (1 : Int32)) dX10_rests_45 rfl rfl (by decide) rfl ?_
    refine r_iinc (v := x4 + (1 : Int32)) dX10_rests_48 rfl rfl (by decide) rfl ?_
    refine r_goto (tgt := 28) dX10_rests_51 (by decide) ?_
    exact H
set_option maxRecDepth 100000 in
theorem bX10_rest_0 {d : Nat} {Q : Option MV → MS → Prop} {x1 : Int32} {x2 : Int32} {x3 : Int32} {σ : MS}  (H : (R mj_OC d mX10_isPond (fun r σ' => R mj_OC (d + 1) mX10_rest Q 5 [some (rV 0 0), some (iV x1), some (iV x2), some (iV x3), none, none] (r.toList ++ []) σ') 0 [some (rV 0 0), some (iV x1)] [] σ)) : R mj_OC (d + 1) mX10_rest Q 0 [some (rV 0 0), some (iV x1), some (iV x2), some (iV x3), none, none] [] σ := by
  refine r_aload_n dX10_rest_0 rfl rfl ?_
  refine r_iload_n dX10_rest_1 rfl rfl ?_
  refine r_callV (z := 0) (k := 0) (i := 0) (As := [iV x1]) (st := []) kX10_isPond i_X10_isPond e_X10_isPond lX10_124 dX10_rest_2 rfl rfl ho0 rfl rfl rfl rfl rfl (Nat.le_of_ble_eq_true rfl) ?_
  exact H
set_option maxRecDepth 100000 in
theorem bX10_rest_5 {d : Nat} {Q : Option MV → MS → Prop} {x1 : Int32} {x2 : Int32} {x3 : Int32} {s0 : Int32} {σ : MS}  (H : ((s0 = 0 → Q (some (iV (-1 : Int32))) σ) ∧ (¬ s0 = 0 → (R mj_OC d mX10_isPond (fun r σ' => R mj_OC (d + 1) mX10_rest Q 13 [some (rV 0 0), some (iV x1), some (iV x2), some (iV x3), none, none] (r.toList ++ []) σ') 0 [some (rV 0 0), some (iV x2)] [] σ)))) : R mj_OC (d + 1) mX10_rest Q 5 [some (rV 0 0), some (iV x1), some (iV x2), some (iV x3), none, none] [iV s0] σ := by
  refine r_if_eq (tgt := 25) dX10_rest_5 (by decide) (fun c => ?_) (fun c => ?_)
  · have H := H.1 c
    refine r_iconst (v := (-1 : Int32)) dX10_rest_25 rfl ?_
    exact r_iret dX10_rest_26 rfl H
  · have H := H.2 c
    refine r_aload_n dX10_rest_8 rfl rfl ?_
    refine r_iload_n dX10_rest_9 rfl rfl ?_
    refine r_callV (z := 0) (k := 0) (i := 0) (As := [iV x2]) (st := []) kX10_isPond i_X10_isPond e_X10_isPond lX10_124 dX10_rest_10 rfl rfl ho0 rfl rfl rfl rfl rfl (Nat.le_of_ble_eq_true rfl) ?_
    exact H
set_option maxRecDepth 100000 in
theorem bX10_rest_13 {d : Nat} {Q : Option MV → MS → Prop} {x1 : Int32} {x2 : Int32} {x3 : Int32} {s0 : Int32} {σ : MS}  (H : ((s0 = 0 → Q (some (iV (-1 : Int32))) σ) ∧ (¬ s0 = 0 → ((x1 = x2 → Q (some (iV (-1 : Int32))) σ) ∧ (¬ x1 = x2 → ((0 ≤ x3 → R mj_OC d mX10_rest Q 33 [some (rV 0 0), some (iV x1), some (iV x2), some (iV x3), some (iV (0 : Int32)), some (iV (0 : Int32))] [] σ) ∧ (¬ 0 ≤ x3 → Q (some (iV (-1 : Int32))) σ))))))) : R mj_OC d mX10_rest Q 13 [some (rV 0 0), some (iV x1), some (iV x2), some (iV x3), none, none] [iV s0] σ := by
  refine r_if_eq (tgt := 25) dX10_rest_13 (by decide) (fun c => ?_) (fun c => ?_)
  · have H := H.1 c
    refine r_iconst (v := (-1 : Int32)) dX10_rest_25 rfl ?_
    exact r_iret dX10_rest_26 rfl H
  · have H := H.2 c
    refine r_iload_n dX10_rest_16 rfl rfl ?_
    refine r_iload_n dX10_rest_17 rfl rfl ?_
    refine r_icmp_eq (tgt := 25) dX10_rest_18 (by decide) (fun c => ?_) (fun c => ?_)
    · have H := H.1 c
      refine r_iconst (v := (-1 : Int32)) dX10_rest_25 rfl ?_
      exact r_iret dX10_rest_26 rfl H
    · have H := H.2 c
      refine r_iload_n dX10_rest_21 rfl rfl ?_
      refine r_if_ge (tgt := 27) dX10_rest_22 (by decide) (fun c => ?_) (fun c => ?_)
      · have H := H.1 c
        refine r_iconst (v := (0 : Int32)) dX10_rest_27 rfl ?_
        refine r_istore dX10_rest_28 (by decide) rfl ?_
        refine r_iconst (v := (0 : Int32)) dX10_rest_30 rfl ?_
        refine r_istore dX10_rest_31 (by decide) rfl ?_
        exact H
      · have H := H.2 c
        refine r_iconst (v := (-1 : Int32)) dX10_rest_25 rfl ?_
        exact r_iret dX10_rest_26 rfl H
set_option maxRecDepth 100000 in
theorem bX10_rest_33 {d : Nat} {Q : Option MV → MS → Prop} {x1 : Int32} {x2 : Int32} {x3 : Int32} {x4 : Int32} {x5 : Int32} {σ : MS}  (H : (((4 : Int32) ≤ x5 → Q (some (iV (-2 : Int32))) σ) ∧ (¬ (4 : Int32) ≤ x5 → (R mj_OC d mX10_isRest (fun r σ' => R mj_OC (d + 1) mX10_rest Q 47 [some (rV 0 0), some (iV x1), some (iV x2), some (iV x3), some (iV x4), some (iV x5)] (r.toList ++ []) σ') 0 [some (rV 0 0), some (iV x1), some (iV x2), some (iV x5), none, none, none, none] [] σ)))) : R mj_OC (d + 1) mX10_rest Q 33 [some (rV 0 0), some (iV x1), some (iV x2), some (iV x3), some (iV x4), some (iV x5)] [] σ := by
  refine r_iload dX10_rest_33 rfl ?_
  refine r_iconst (v := (4 : Int32)) dX10_rest_35 rfl ?_
  refine r_icmp_ge (tgt := 78) dX10_rest_36 (by decide) (fun c => ?_) (fun c => ?_)
  · have H := H.1 c
    refine r_bipush (v := (-2 : Int32)) dX10_rest_78 rfl ?_
    exact r_iret dX10_rest_80 rfl H
  · have H := H.2 c
    refine r_aload_n dX10_rest_39 rfl rfl ?_
    refine r_iload_n dX10_rest_40 rfl rfl ?_
    refine r_iload_n dX10_rest_41 rfl rfl ?_
    refine r_iload dX10_rest_42 rfl ?_
    refine r_callV (z := 4) (k := 0) (i := 0) (As := [iV x1, iV x2, iV x5]) (st := []) kX10_isRest i_X10_isRest e_X10_isRest lX10_352 dX10_rest_44 rfl rfl ho0 rfl rfl rfl rfl rfl (Nat.le_of_ble_eq_true rfl) ?_
    exact H
set_option maxRecDepth 100000 in
theorem bX10_rest_47 {d : Nat} {Q : Option MV → MS → Prop} {x1 : Int32} {x2 : Int32} {x3 : Int32} {x4 : Int32} {x5 : Int32} {s0 : Int32} {σ : MS}  (H : ((s0 = 0 → R mj_OC d mX10_rest Q 33 [some (rV 0 0), some (iV x1), some (iV x2), some (iV x3), some (iV x4), some (iV (x5 + (1 : Int32)))] [] σ) ∧ (¬ s0 = 0 → ((¬ x4 = x3 → R mj_OC d mX10_rest Q 33 [some (rV 0 0), some (iV x1), some (iV x2), some (iV x3), some (iV (x4 + (1 : Int32))), some (iV (x5 + (1 : Int32)))] [] σ) ∧ (x4 = x3 → Q (some (iV (((x5 / (2 : Int32)) * (10 : Int32)) + (x5 - x5 / (2 : Int32) * (2 : Int32))))) σ))))) : R mj_OC d mX10_rest Q 47 [some (rV 0 0), some (iV x1), some (iV x2), some (iV x3), some (iV x4), some (iV x5)] [iV s0] σ := by
  refine r_if_eq (tgt := 72) dX10_rest_47 (by decide) (fun c => ?_) (fun c => ?_)
  · have H := H.1 c
    refine r_iinc (v := x5 + (1 : Int32)) dX10_rest_72 rfl rfl (by decide) rfl ?_
    refine r_goto (tgt := 33) dX10_rest_75 (by decide) ?_
    exact H
  · have H := H.2 c
    refine r_iload dX10_rest_50 rfl ?_
    refine r_iload_n dX10_rest_52 rfl rfl ?_
    refine r_icmp_ne (tgt := 69) dX10_rest_53 (by decide) (fun c => ?_) (fun c => ?_)
    · have H := H.1 c
      refine r_iinc (v := x4 + (1 : Int32)) dX10_rest_69 rfl rfl (by decide) rfl ?_
      refine r_iinc (v := x5 + (1 : Int32)) dX10_rest_72 rfl rfl (by decide) rfl ?_
      refine r_goto (tgt := 33) dX10_rest_75 (by decide) ?_
      exact H
    · have H := H.2 c
      refine r_iload dX10_rest_56 rfl ?_
      refine r_iconst (v := (2 : Int32)) dX10_rest_58 rfl ?_
      refine r_idiv dX10_rest_59 (by decide) ?_
      refine r_bipush (v := (10 : Int32)) dX10_rest_60 rfl ?_
      refine r_imul dX10_rest_62 ?_
      refine r_iload dX10_rest_63 rfl ?_
      refine r_iconst (v := (2 : Int32)) dX10_rest_65 rfl ?_
      refine r_irem dX10_rest_66 (by decide) ?_
      refine r_iadd dX10_rest_67 ?_
      exact r_iret dX10_rest_68 rfl H
set_option maxRecDepth 100000 in
theorem bX10_holds_0 {d : Nat} {Q : Option MV → MS → Prop} {x1 : Int32} {x2 : Int32} {σ : MS}  (H : ((x1 < 0 → Q (some (lV (-1 : Int64))) σ) ∧ (¬ x1 < 0 → (((6 : Int32) < x1 → Q (some (lV (-1 : Int64))) σ) ∧ (¬ (6 : Int32) < x1 → (R mj_OC d mX10_isHalf (fun r σ' => R mj_OC (d + 1) mX10_holds Q 14 [some (rV 0 0), some (iV x1), some (iV x2), none, none, none, none, none] (r.toList ++ []) σ') 0 [some (iV x2)] [] σ)))))) : R mj_OC (d + 1) mX10_holds Q 0 [some (rV 0 0), some (iV x1), some (iV x2), none, none, none, none, none] [] σ := by
  refine r_iload_n dX10_holds_0 rfl rfl ?_
  refine r_if_lt (tgt := 17) dX10_holds_1 (by decide) (fun c => ?_) (fun c => ?_)
  · have H := H.1 c
    refine r_ldc2 (v := (-1 : Int64)) olX10_356 dX10_holds_17 ?_
    exact r_lret dX10_holds_20 rfl H
  · have H := H.2 c
    refine r_iload_n dX10_holds_4 rfl rfl ?_
    refine r_bipush (v := (6 : Int32)) dX10_holds_5 rfl ?_
    refine r_icmp_gt (tgt := 17) dX10_holds_7 (by decide) (fun c => ?_) (fun c => ?_)
    · have H := H.1 c
      refine r_ldc2 (v := (-1 : Int64)) olX10_356 dX10_holds_17 ?_
      exact r_lret dX10_holds_20 rfl H
    · have H := H.2 c
      refine r_iload_n dX10_holds_10 rfl rfl ?_
      refine r_callS (z := 0) (As := [iV x2]) (st := []) kX10_isHalf s_X10_isHalf lX10_164 dX10_holds_11 rfl rfl rfl rfl (Nat.le_of_ble_eq_true rfl) ?_
      exact H
set_option maxRecDepth 100000 in
theorem bX10_holds_14 {d : Nat} {Q : Option MV → MS → Prop} {x1 : Int32} {x2 : Int32} {s0 : Int32} {σ : MS}  (H : ((¬ s0 = 0 → R mj_OC d mX10_holds Q 29 [some (rV 0 0), some (iV x1), some (iV x2), some (lV (1 : Int64)), none, some (lV (1 : Int64)), none, some (iV (0 : Int32))] [] σ) ∧ (s0 = 0 → Q (some (lV (-1 : Int64))) σ))) : R mj_OC d mX10_holds Q 14 [some (rV 0 0), some (iV x1), some (iV x2), none, none, none, none, none] [iV s0] σ := by
  refine r_if_ne (tgt := 21) dX10_holds_14 (by decide) (fun c => ?_) (fun c => ?_)
  · have H := H.1 c
    refine r_lconst (v := (1 : Int64)) dX10_holds_21 rfl ?_
    refine r_lstore_n dX10_holds_22 rfl (by decide) rfl ?_
    refine r_lconst (v := (1 : Int64)) dX10_holds_23 rfl ?_
    refine r_lstore dX10_holds_24 (by decide) rfl ?_
    refine r_iconst (v := (0 : Int32)) dX10_holds_26 rfl ?_
    refine r_istore dX10_holds_27 (by decide) rfl ?_
    exact H
  · have H := H.2 c
    refine r_ldc2 (v := (-1 : Int64)) olX10_356 dX10_holds_17 ?_
    exact r_lret dX10_holds_20 rfl H
set_option maxRecDepth 100000 in
theorem bX10_holds_29 {d : Nat} {Q : Option MV → MS → Prop} {x1 : Int32} {x2 : Int32} {x3 : Int64} {x5 : Int64} {x7 : Int32} {σ : MS}  (H : ((x1 ≤ x7 → (R mj_OC d mX10_inLeastTerms (fun r σ' => R mj_OC (d + 1) mX10_holds Q 70 [some (rV 0 0), some (iV x1), some (iV x2), some (lV x3), none, some (lV x5), none, some (iV x7)] (r.toList ++ []) σ') 0 [some (lV x3), none, some (lV x5), none, some (iV x2), none, none, none, none, none, none, none] [] σ)) ∧ (¬ x1 ≤ x7 → (σ.2.2 0 0 < 2 ∧ R mj_OC (d + 1) mX10_holds Q 29 [some (rV 0 0), some (iV x1), some (iV x2), some (lV (x3 * (((100 : Int32) - (σ.1 3 (σ.2.2 0 0) 12)).toInt64))), none, some (lV (x5 * (100 : Int64))), none, some (iV (x7 + (1 : Int32)))] [] σ)))) : R mj_OC (d + 1) mX10_holds Q 29 [some (rV 0 0), some (iV x1), some (iV x2), some (lV x3), none, some (lV x5), none, some (iV x7)] [] σ := by
  refine r_iload dX10_holds_29 rfl ?_
  refine r_iload_n dX10_holds_31 rfl rfl ?_
  refine r_icmp_ge (tgt := 63) dX10_holds_32 (by decide) (fun c => ?_) (fun c => ?_)
  · have H := H.1 c
    refine r_lload_n dX10_holds_63 rfl rfl ?_
    refine r_lload dX10_holds_64 rfl ?_
    refine r_iload_n dX10_holds_66 rfl rfl ?_
    refine r_callS (z := 7) (As := [lV x3, lV x5, iV x2]) (st := []) kX10_inLeastTerms s_X10_inLeastTerms lX10_170 dX10_holds_67 rfl rfl rfl rfl (Nat.le_of_ble_eq_true rfl) ?_
    exact H
  · have H := H.2 c
    refine r_lload_n dX10_holds_35 rfl rfl ?_
    refine r_bipush (v := (100 : Int32)) dX10_holds_36 rfl ?_
    refine r_aload_n dX10_holds_38 rfl rfl ?_
    refine r_get (k := 0) (i := 0) (j := 9) (v := rV 3 (σ.2.2 0 0)) rfl rfl ho0 rfl hX10 (by decide) rfl fX10_21 dX10_holds_39 (fun _ => rfl) ?_
    obtain ⟨q1, H⟩ := H
    refine r_get (k := 3) (i := (σ.2.2 0 0)) (j := 12) (v := iV (σ.1 3 (σ.2.2 0 0) 12)) rfl rfl (ho3 q1) rfl hX0 (by decide) rfl fX10_358 dX10_holds_42 (fun _ => rfl) ?_
    refine r_isub dX10_holds_45 ?_
    refine r_i2l (v := ((100 : Int32) - (σ.1 3 (σ.2.2 0 0) 12)).toInt64) dX10_holds_46 rfl ?_
    refine r_lmul dX10_holds_47 ?_
    refine r_lstore_n dX10_holds_48 rfl (by decide) rfl ?_
    refine r_lload dX10_holds_49 rfl ?_
    refine r_ldc2 (v := (100 : Int64)) olX10_361 dX10_holds_51 ?_
    refine r_lmul dX10_holds_54 ?_
    refine r_lstore dX10_holds_55 (by decide) rfl ?_
    refine r_iinc (v := x7 + (1 : Int32)) dX10_holds_57 rfl rfl (by decide) rfl ?_
    refine r_goto (tgt := 29) dX10_holds_60 (by decide) ?_
    exact H
set_option maxRecDepth 100000 in
theorem bX10_holds_70 {d : Nat} {Q : Option MV → MS → Prop} {x1 : Int32} {x2 : Int32} {x3 : Int64} {x5 : Int64} {x7 : Int32} {s0 : Int64} {σ : MS}  (H : Q (some (lV s0)) σ) : R mj_OC d mX10_holds Q 70 [some (rV 0 0), some (iV x1), some (iV x2), some (lV x3), none, some (lV x5), none, some (iV x7)] [lV s0] σ := by
  exact r_lret dX10_holds_70 rfl H
set_option maxRecDepth 100000 in
theorem bX10_see_0 {d : Nat} {Q : Option MV → MS → Prop} {x1 : Int32} {x2 : Int32} {x3 : Int32} {x4 : Int32} {σ : MS}  (H : ((x1 < (1 : Int32) → Q (some (iV (-1 : Int32))) σ) ∧ (¬ x1 < (1 : Int32) → (((60 : Int32) < x1 → Q (some (iV (-1 : Int32))) σ) ∧ (¬ (60 : Int32) < x1 → (R mj_OC d mX10_isPond (fun r σ' => R mj_OC (d + 1) mX10_see Q 16 [some (rV 0 0), some (iV x1), some (iV x2), some (iV x3), some (iV x4)] (r.toList ++ []) σ') 0 [some (rV 0 0), some (iV x2)] [] σ)))))) : R mj_OC (d + 1) mX10_see Q 0 [some (rV 0 0), some (iV x1), some (iV x2), some (iV x3), some (iV x4)] [] σ := by
  refine r_iload_n dX10_see_0 rfl rfl ?_
  refine r_iconst (v := (1 : Int32)) dX10_see_1 rfl ?_
  refine r_icmp_lt (tgt := 40) dX10_see_2 (by decide) (fun c => ?_) (fun c => ?_)
  · have H := H.1 c
    refine r_iconst (v := (-1 : Int32)) dX10_see_40 rfl ?_
    exact r_iret dX10_see_41 rfl H
  · have H := H.2 c
    refine r_iload_n dX10_see_5 rfl rfl ?_
    refine r_bipush (v := (60 : Int32)) dX10_see_6 rfl ?_
    refine r_icmp_gt (tgt := 40) dX10_see_8 (by decide) (fun c => ?_) (fun c => ?_)
    · have H := H.1 c
      refine r_iconst (v := (-1 : Int32)) dX10_see_40 rfl ?_
      exact r_iret dX10_see_41 rfl H
    · have H := H.2 c
      refine r_aload_n dX10_see_11 rfl rfl ?_
      refine r_iload_n dX10_see_12 rfl rfl ?_
      refine r_callV (z := 0) (k := 0) (i := 0) (As := [iV x2]) (st := []) kX10_isPond i_X10_isPond e_X10_isPond lX10_124 dX10_see_13 rfl rfl ho0 rfl rfl rfl rfl rfl (Nat.le_of_ble_eq_true rfl) ?_
      exact H
set_option maxRecDepth 100000 in
theorem bX10_see_16 {d : Nat} {Q : Option MV → MS → Prop} {x1 : Int32} {x2 : Int32} {x3 : Int32} {x4 : Int32} {s0 : Int32} {σ : MS}  (H : ((s0 = 0 → Q (some (iV (-1 : Int32))) σ) ∧ (¬ s0 = 0 → ((x3 < 0 → Q (some (iV (-1 : Int32))) σ) ∧ (¬ x3 < 0 → (((9999 : Int32) < x3 → Q (some (iV (-1 : Int32))) σ) ∧ (¬ (9999 : Int32) < x3 → (R mj_OC d mX1_isFull (fun r σ' => R mj_OC (d + 1) mX10_see Q 37 [some (rV 0 0), some (iV x1), some (iV x2), some (iV x3), some (iV x4)] (r.toList ++ []) σ') 0 [some (rV 9 0)] [] σ)))))))) : R mj_OC (d + 1) mX10_see Q 16 [some (rV 0 0), some (iV x1), some (iV x2), some (iV x3), some (iV x4)] [iV s0] σ := by
  refine r_if_eq (tgt := 40) dX10_see_16 (by decide) (fun c => ?_) (fun c => ?_)
  · have H := H.1 c
    refine r_iconst (v := (-1 : Int32)) dX10_see_40 rfl ?_
    exact r_iret dX10_see_41 rfl H
  · have H := H.2 c
    refine r_iload_n dX10_see_19 rfl rfl ?_
    refine r_if_lt (tgt := 40) dX10_see_20 (by decide) (fun c => ?_) (fun c => ?_)
    · have H := H.1 c
      refine r_iconst (v := (-1 : Int32)) dX10_see_40 rfl ?_
      exact r_iret dX10_see_41 rfl H
    · have H := H.2 c
      refine r_iload_n dX10_see_23 rfl rfl ?_
      refine r_sipush (v := (9999 : Int32)) dX10_see_24 rfl ?_
      refine r_icmp_gt (tgt := 40) dX10_see_27 (by decide) (fun c => ?_) (fun c => ?_)
      · have H := H.1 c
        refine r_iconst (v := (-1 : Int32)) dX10_see_40 rfl ?_
        exact r_iret dX10_see_41 rfl H
      · have H := H.2 c
        refine r_aload_n dX10_see_30 rfl rfl ?_
        refine r_get (k := 0) (i := 0) (j := 6) (v := rV 9 0) rfl rfl ho0 rfl hX10 (by decide) rfl fX10_57 dX10_see_31 (fun _ => rfl) ?_
        refine r_callV (z := 0) (k := 9) (i := 0) (As := []) (st := []) kX1_isFull i_X1_isFull e_X1_isFull lX10_363 dX10_see_34 rfl rfl ho9 rfl rfl rfl rfl rfl (Nat.le_of_ble_eq_true rfl) ?_
        exact H
set_option maxRecDepth 100000 in
theorem bX10_see_37 {d : Nat} {Q : Option MV → MS → Prop} {x1 : Int32} {x2 : Int32} {x3 : Int32} {x4 : Int32} {s0 : Int32} {σ : MS}  (H : ((s0 = 0 → ((x4 = 0 → (R mj_OC d mX1_add (fun r σ' => R mj_OC (d + 1) mX10_see Q 62 [some (rV 0 0), some (iV x1), some (iV x2), some (iV x3), some (iV x4)] (r.toList ++ []) σ') 0 [some (rV 9 0), some (iV (0 : Int32)), some (iV x1), some (iV x2), some (iV x3)] [] σ)) ∧ (¬ x4 = 0 → (R mj_OC d mX1_add (fun r σ' => R mj_OC (d + 1) mX10_see Q 62 [some (rV 0 0), some (iV x1), some (iV x2), some (iV x3), some (iV x4)] (r.toList ++ []) σ') 0 [some (rV 9 0), some (iV (1 : Int32)), some (iV x1), some (iV x2), some (iV x3)] [] σ)))) ∧ (¬ s0 = 0 → Q (some (iV (-1 : Int32))) σ))) : R mj_OC (d + 1) mX10_see Q 37 [some (rV 0 0), some (iV x1), some (iV x2), some (iV x3), some (iV x4)] [iV s0] σ := by
  refine r_if_eq (tgt := 42) dX10_see_37 (by decide) (fun c => ?_) (fun c => ?_)
  · have H := H.1 c
    refine r_aload_n dX10_see_42 rfl rfl ?_
    refine r_get (k := 0) (i := 0) (j := 6) (v := rV 9 0) rfl rfl ho0 rfl hX10 (by decide) rfl fX10_57 dX10_see_43 (fun _ => rfl) ?_
    refine r_iload dX10_see_46 rfl ?_
    refine r_if_eq (tgt := 55) dX10_see_48 (by decide) (fun c => ?_) (fun c => ?_)
    · have H := H.1 c
      refine r_iconst (v := (0 : Int32)) dX10_see_55 rfl ?_
      refine r_iload_n dX10_see_56 rfl rfl ?_
      refine r_iload_n dX10_see_57 rfl rfl ?_
      refine r_iload_n dX10_see_58 rfl rfl ?_
      refine r_callV (z := 0) (k := 9) (i := 0) (As := [iV (0 : Int32), iV x1, iV x2, iV x3]) (st := []) kX1_add i_X1_add e_X1_add lX10_366 dX10_see_59 rfl rfl ho9 rfl rfl rfl rfl rfl (Nat.le_of_ble_eq_true rfl) ?_
      exact H
    · have H := H.2 c
      refine r_iconst (v := (1 : Int32)) dX10_see_51 rfl ?_
      refine r_goto (tgt := 56) dX10_see_52 (by decide) ?_
      refine r_iload_n dX10_see_56 rfl rfl ?_
      refine r_iload_n dX10_see_57 rfl rfl ?_
      refine r_iload_n dX10_see_58 rfl rfl ?_
      refine r_callV (z := 0) (k := 9) (i := 0) (As := [iV (1 : Int32), iV x1, iV x2, iV x3]) (st := []) kX1_add i_X1_add e_X1_add lX10_366 dX10_see_59 rfl rfl ho9 rfl rfl rfl rfl rfl (Nat.le_of_ble_eq_true rfl) ?_
      exact H
  · have H := H.2 c
    refine r_iconst (v := (-1 : Int32)) dX10_see_40 rfl ?_
    exact r_iret dX10_see_41 rfl H
set_option maxRecDepth 100000 in
theorem bX10_see_62 {d : Nat} {Q : Option MV → MS → Prop} {x1 : Int32} {x2 : Int32} {x3 : Int32} {x4 : Int32} {s0 : Int32} {σ : MS}  (H : Q (some (iV s0)) σ) : R mj_OC d mX10_see Q 62 [some (rV 0 0), some (iV x1), some (iV x2), some (iV x3), some (iV x4)] [iV s0] σ := by
  exact r_iret dX10_see_62 rfl H
set_option maxRecDepth 100000 in
theorem bX10_strike_0 {d : Nat} {Q : Option MV → MS → Prop} {x1 : Int32} {σ : MS}  (H : ((x1 < 0 → Q (some (iV (-1 : Int32))) σ) ∧ (¬ x1 < 0 → (((σ.1 9 0 0) ≤ x1 → Q (some (iV (-1 : Int32))) σ) ∧ (¬ (σ.1 9 0 0) ≤ x1 → (R mj_OC d mX1_isFull (fun r σ' => R mj_OC (d + 1) mX10_strike Q 22 [some (rV 0 0), some (iV x1)] (r.toList ++ []) σ') 0 [some (rV 9 0)] [] σ)))))) : R mj_OC (d + 1) mX10_strike Q 0 [some (rV 0 0), some (iV x1)] [] σ := by
  refine r_iload_n dX10_strike_0 rfl rfl ?_
  refine r_if_lt (tgt := 25) dX10_strike_1 (by decide) (fun c => ?_) (fun c => ?_)
  · have H := H.1 c
    refine r_iconst (v := (-1 : Int32)) dX10_strike_25 rfl ?_
    exact r_iret dX10_strike_26 rfl H
  · have H := H.2 c
    refine r_iload_n dX10_strike_4 rfl rfl ?_
    refine r_aload_n dX10_strike_5 rfl rfl ?_
    refine r_get (k := 0) (i := 0) (j := 6) (v := rV 9 0) rfl rfl ho0 rfl hX10 (by decide) rfl fX10_57 dX10_strike_6 (fun _ => rfl) ?_
    refine r_get (k := 9) (i := 0) (j := 0) (v := iV (σ.1 9 0 0)) rfl rfl ho9 rfl hX1 (by decide) rfl fX10_370 dX10_strike_9 (fun _ => rfl) ?_
    refine r_icmp_ge (tgt := 25) dX10_strike_12 (by decide) (fun c => ?_) (fun c => ?_)
    · have H := H.1 c
      refine r_iconst (v := (-1 : Int32)) dX10_strike_25 rfl ?_
      exact r_iret dX10_strike_26 rfl H
    · have H := H.2 c
      refine r_aload_n dX10_strike_15 rfl rfl ?_
      refine r_get (k := 0) (i := 0) (j := 6) (v := rV 9 0) rfl rfl ho0 rfl hX10 (by decide) rfl fX10_57 dX10_strike_16 (fun _ => rfl) ?_
      refine r_callV (z := 0) (k := 9) (i := 0) (As := []) (st := []) kX1_isFull i_X1_isFull e_X1_isFull lX10_363 dX10_strike_19 rfl rfl ho9 rfl rfl rfl rfl rfl (Nat.le_of_ble_eq_true rfl) ?_
      exact H
set_option maxRecDepth 100000 in
theorem bX10_strike_22 {d : Nat} {Q : Option MV → MS → Prop} {x1 : Int32} {s0 : Int32} {σ : MS}  (H : ((s0 = 0 → (R mj_OC d mX1_add (fun r σ' => R mj_OC (d + 1) mX10_strike Q 38 [some (rV 0 0), some (iV x1)] (r.toList ++ []) σ') 0 [some (rV 9 0), some (iV (2 : Int32)), some (iV (0 : Int32)), some (iV x1), some (iV (0 : Int32))] [] σ)) ∧ (¬ s0 = 0 → Q (some (iV (-1 : Int32))) σ))) : R mj_OC (d + 1) mX10_strike Q 22 [some (rV 0 0), some (iV x1)] [iV s0] σ := by
  refine r_if_eq (tgt := 27) dX10_strike_22 (by decide) (fun c => ?_) (fun c => ?_)
  · have H := H.1 c
    refine r_aload_n dX10_strike_27 rfl rfl ?_
    refine r_get (k := 0) (i := 0) (j := 6) (v := rV 9 0) rfl rfl ho0 rfl hX10 (by decide) rfl fX10_57 dX10_strike_28 (fun _ => rfl) ?_
    refine r_iconst (v := (2 : Int32)) dX10_strike_31 rfl ?_
    refine r_iconst (v := (0 : Int32)) dX10_strike_32 rfl ?_
    refine r_iload_n dX10_strike_33 rfl rfl ?_
    refine r_iconst (v := (0 : Int32)) dX10_strike_34 rfl ?_
    refine r_callV (z := 0) (k := 9) (i := 0) (As := [iV (2 : Int32), iV (0 : Int32), iV x1, iV (0 : Int32)]) (st := []) kX1_add i_X1_add e_X1_add lX10_366 dX10_strike_35 rfl rfl ho9 rfl rfl rfl rfl rfl (Nat.le_of_ble_eq_true rfl) ?_
    exact H
  · have H := H.2 c
    refine r_iconst (v := (-1 : Int32)) dX10_strike_25 rfl ?_
    exact r_iret dX10_strike_26 rfl H
set_option maxRecDepth 100000 in
theorem bX10_strike_38 {d : Nat} {Q : Option MV → MS → Prop} {x1 : Int32} {s0 : Int32} {σ : MS}  (H : Q (some (iV s0)) σ) : R mj_OC d mX10_strike Q 38 [some (rV 0 0), some (iV x1)] [iV s0] σ := by
  exact r_iret dX10_strike_38 rfl H
set_option maxRecDepth 100000 in
theorem bX10_known_0 {d : Nat} {Q : Option MV → MS → Prop} {x1 : Int32} {σ : MS}  (H : ((x1 < (-1 : Int32) → Q (some (iV (0 : Int32))) σ) ∧ (¬ x1 < (-1 : Int32) → ((x1 ≤ (σ.1 9 0 0) → Q (some (iV (1 : Int32))) (uI σ 9 0 1 x1)) ∧ (¬ x1 ≤ (σ.1 9 0 0) → Q (some (iV (0 : Int32))) σ))))) : R mj_OC d mX10_known Q 0 [some (rV 0 0), some (iV x1)] [] σ := by
  refine r_iload_n dX10_known_0 rfl rfl ?_
  refine r_iconst (v := (-1 : Int32)) dX10_known_1 rfl ?_
  refine r_icmp_lt (tgt := 16) dX10_known_2 (by decide) (fun c => ?_) (fun c => ?_)
  · have H := H.1 c
    refine r_iconst (v := (0 : Int32)) dX10_known_16 rfl ?_
    exact r_zret dX10_known_17 rfl (by decide) H
  · have H := H.2 c
    refine r_iload_n dX10_known_5 rfl rfl ?_
    refine r_aload_n dX10_known_6 rfl rfl ?_
    refine r_get (k := 0) (i := 0) (j := 6) (v := rV 9 0) rfl rfl ho0 rfl hX10 (by decide) rfl fX10_57 dX10_known_7 (fun _ => rfl) ?_
    refine r_get (k := 9) (i := 0) (j := 0) (v := iV (σ.1 9 0 0)) rfl rfl ho9 rfl hX1 (by decide) rfl fX10_370 dX10_known_10 (fun _ => rfl) ?_
    refine r_icmp_le (tgt := 18) dX10_known_13 (by decide) (fun c => ?_) (fun c => ?_)
    · have H := H.1 c
      refine r_aload_n dX10_known_18 rfl rfl ?_
      refine r_get (k := 0) (i := 0) (j := 6) (v := rV 9 0) rfl rfl ho0 rfl hX10 (by decide) rfl fX10_57 dX10_known_19 (fun _ => rfl) ?_
      refine r_iload_n dX10_known_22 rfl rfl ?_
      refine r_putI (k := 9) (i := 0) (j := 1) (ty0 := tyX1) rfl rfl ho9 rfl hX1 (by decide) rfl fX10_373 dX10_known_23 rfl tyX1_ok nmX1 rfl rfl rfl ?_
      refine r_iconst (v := (1 : Int32)) dX10_known_26 rfl ?_
      exact r_zret dX10_known_27 rfl (by decide) H
    · have H := H.2 c
      refine r_iconst (v := (0 : Int32)) dX10_known_16 rfl ?_
      exact r_zret dX10_known_17 rfl (by decide) H
set_option maxRecDepth 100000 in
theorem bX10_leaks_0 {d : Nat} {Q : Option MV → MS → Prop} {x1 : Int32} {σ : MS}  (H : (R mj_OC d mX10_isPond (fun r σ' => R mj_OC (d + 1) mX10_leaks Q 5 [some (rV 0 0), some (iV x1)] (r.toList ++ []) σ') 0 [some (rV 0 0), some (iV x1)] [] σ)) : R mj_OC (d + 1) mX10_leaks Q 0 [some (rV 0 0), some (iV x1)] [] σ := by
  refine r_aload_n dX10_leaks_0 rfl rfl ?_
  refine r_iload_n dX10_leaks_1 rfl rfl ?_
  refine r_callV (z := 0) (k := 0) (i := 0) (As := [iV x1]) (st := []) kX10_isPond i_X10_isPond e_X10_isPond lX10_124 dX10_leaks_2 rfl rfl ho0 rfl rfl rfl rfl rfl (Nat.le_of_ble_eq_true rfl) ?_
  exact H
set_option maxRecDepth 100000 in
theorem bX10_leaks_5 {d : Nat} {Q : Option MV → MS → Prop} {x1 : Int32} {s0 : Int32} {σ : MS}  (H : ((¬ s0 = 0 → (R mj_OC d mX1_settle (fun r σ' => R mj_OC (d + 1) mX10_leaks Q 17 [some (rV 0 0), some (iV x1)] (r.toList ++ []) σ') 0 [some (rV 9 0), none] [] σ)) ∧ (s0 = 0 → Q (some (iV (-1 : Int32))) σ))) : R mj_OC (d + 1) mX10_leaks Q 5 [some (rV 0 0), some (iV x1)] [iV s0] σ := by
  refine r_if_ne (tgt := 10) dX10_leaks_5 (by decide) (fun c => ?_) (fun c => ?_)
  · have H := H.1 c
    refine r_aload_n dX10_leaks_10 rfl rfl ?_
    refine r_get (k := 0) (i := 0) (j := 6) (v := rV 9 0) rfl rfl ho0 rfl hX10 (by decide) rfl fX10_57 dX10_leaks_11 (fun _ => rfl) ?_
    refine r_callV (z := 1) (k := 9) (i := 0) (As := []) (st := []) kX1_settle i_X1_settle e_X1_settle lX10_376 dX10_leaks_14 rfl rfl ho9 rfl rfl rfl rfl rfl (Nat.le_of_ble_eq_true rfl) ?_
    exact H
  · have H := H.2 c
    refine r_iconst (v := (-1 : Int32)) dX10_leaks_8 rfl ?_
    exact r_iret dX10_leaks_9 rfl H
set_option maxRecDepth 100000 in
theorem bX10_leaks_17 {d : Nat} {Q : Option MV → MS → Prop} {x1 : Int32} {σ : MS}  (H : (R mj_OC d mX1_lastKnownMinute (fun r σ' => R mj_OC (d + 1) mX10_leaks Q 26 [some (rV 0 0), some (iV x1)] (r.toList ++ [iV x1, rV 0 0]) σ') 0 [some (rV 9 0), none, none] [] σ)) : R mj_OC (d + 1) mX10_leaks Q 17 [some (rV 0 0), some (iV x1)] [] σ := by
  refine r_aload_n dX10_leaks_17 rfl rfl ?_
  refine r_iload_n dX10_leaks_18 rfl rfl ?_
  refine r_aload_n dX10_leaks_19 rfl rfl ?_
  refine r_get (k := 0) (i := 0) (j := 6) (v := rV 9 0) rfl rfl ho0 rfl hX10 (by decide) rfl fX10_57 dX10_leaks_20 (fun _ => rfl) ?_
  refine r_callV (z := 2) (k := 9) (i := 0) (As := []) (st := [iV x1, rV 0 0]) kX1_lastKnownMinute i_X1_lastKnownMinute e_X1_lastKnownMinute lX10_379 dX10_leaks_23 rfl rfl ho9 rfl rfl rfl rfl rfl (Nat.le_of_ble_eq_true rfl) ?_
  exact H
set_option maxRecDepth 100000 in
theorem bX10_leaks_26 {d : Nat} {Q : Option MV → MS → Prop} {x1 : Int32} {s0 : Int32} {s1 : Int32} {σ : MS}  (H : (R mj_OC d mX10_weigh (fun r σ' => R mj_OC (d + 1) mX10_leaks Q 29 [some (rV 0 0), some (iV x1)] (r.toList ++ []) σ') 0 [some (rV 0 0), some (iV s1), some (iV s0), none, none, none, none] [] σ)) : R mj_OC (d + 1) mX10_leaks Q 26 [some (rV 0 0), some (iV x1)] [iV s0, iV s1, rV 0 0] σ := by
  refine r_callV (z := 4) (k := 0) (i := 0) (As := [iV s1, iV s0]) (st := []) kX10_weigh i_X10_weigh e_X10_weigh lX10_382 dX10_leaks_26 rfl rfl ho0 rfl rfl rfl rfl rfl (Nat.le_of_ble_eq_true rfl) ?_
  exact H
set_option maxRecDepth 100000 in
theorem bX10_leaks_29 {d : Nat} {Q : Option MV → MS → Prop} {x1 : Int32} {s0 : Int32} {σ : MS}  (H : Q (some (iV s0)) σ) : R mj_OC d mX10_leaks Q 29 [some (rV 0 0), some (iV x1)] [iV s0] σ := by
  exact r_iret dX10_leaks_29 rfl H
set_option maxRecDepth 100000 in
theorem bX10_ask_0 {d : Nat} {Q : Option MV → MS → Prop} {x1 : Int32} {x2 : Int32} {σ : MS}  (H : (R mj_OC d mX10_isPond (fun r σ' => R mj_OC (d + 1) mX10_ask Q 5 [some (rV 0 0), some (iV x1), some (iV x2), none, none, none, none, none] (r.toList ++ []) σ') 0 [some (rV 0 0), some (iV x1)] [] σ)) : R mj_OC (d + 1) mX10_ask Q 0 [some (rV 0 0), some (iV x1), some (iV x2), none, none, none, none, none] [] σ := by
  refine r_aload_n dX10_ask_0 rfl rfl ?_
  refine r_iload_n dX10_ask_1 rfl rfl ?_
  refine r_callV (z := 0) (k := 0) (i := 0) (As := [iV x1]) (st := []) kX10_isPond i_X10_isPond e_X10_isPond lX10_124 dX10_ask_2 rfl rfl ho0 rfl rfl rfl rfl rfl (Nat.le_of_ble_eq_true rfl) ?_
  exact H
set_option maxRecDepth 100000 in
theorem bX10_ask_5 {d : Nat} {Q : Option MV → MS → Prop} {x1 : Int32} {x2 : Int32} {s0 : Int32} {σ : MS}  (H : ((s0 = 0 → Q (some (iV (-1 : Int32))) σ) ∧ (¬ s0 = 0 → (R mj_OC d mX10_isHalf (fun r σ' => R mj_OC (d + 1) mX10_ask Q 12 [some (rV 0 0), some (iV x1), some (iV x2), none, none, none, none, none] (r.toList ++ []) σ') 0 [some (iV x2)] [] σ)))) : R mj_OC (d + 1) mX10_ask Q 5 [some (rV 0 0), some (iV x1), some (iV x2), none, none, none, none, none] [iV s0] σ := by
  refine r_if_eq (tgt := 15) dX10_ask_5 (by decide) (fun c => ?_) (fun c => ?_)
  · have H := H.1 c
    refine r_iconst (v := (-1 : Int32)) dX10_ask_15 rfl ?_
    exact r_iret dX10_ask_16 rfl H
  · have H := H.2 c
    refine r_iload_n dX10_ask_8 rfl rfl ?_
    refine r_callS (z := 0) (As := [iV x2]) (st := []) kX10_isHalf s_X10_isHalf lX10_164 dX10_ask_9 rfl rfl rfl rfl (Nat.le_of_ble_eq_true rfl) ?_
    exact H
set_option maxRecDepth 100000 in
theorem bX10_ask_12 {d : Nat} {Q : Option MV → MS → Prop} {x1 : Int32} {x2 : Int32} {s0 : Int32} {σ : MS}  (H : ((¬ s0 = 0 → (R mj_OC d mX1_settle (fun r σ' => R mj_OC (d + 1) mX10_ask Q 24 [some (rV 0 0), some (iV x1), some (iV x2), none, none, none, none, none] (r.toList ++ []) σ') 0 [some (rV 9 0), none] [] σ)) ∧ (s0 = 0 → Q (some (iV (-1 : Int32))) σ))) : R mj_OC (d + 1) mX10_ask Q 12 [some (rV 0 0), some (iV x1), some (iV x2), none, none, none, none, none] [iV s0] σ := by
  refine r_if_ne (tgt := 17) dX10_ask_12 (by decide) (fun c => ?_) (fun c => ?_)
  · have H := H.1 c
    refine r_aload_n dX10_ask_17 rfl rfl ?_
    refine r_get (k := 0) (i := 0) (j := 6) (v := rV 9 0) rfl rfl ho0 rfl hX10 (by decide) rfl fX10_57 dX10_ask_18 (fun _ => rfl) ?_
    refine r_callV (z := 1) (k := 9) (i := 0) (As := []) (st := []) kX1_settle i_X1_settle e_X1_settle lX10_376 dX10_ask_21 rfl rfl ho9 rfl rfl rfl rfl rfl (Nat.le_of_ble_eq_true rfl) ?_
    exact H
  · have H := H.2 c
    refine r_iconst (v := (-1 : Int32)) dX10_ask_15 rfl ?_
    exact r_iret dX10_ask_16 rfl H
set_option maxRecDepth 100000 in
theorem bX10_ask_24 {d : Nat} {Q : Option MV → MS → Prop} {x1 : Int32} {x2 : Int32} {σ : MS}  (H : (R mj_OC d mX10_weigh (fun r σ' => R mj_OC (d + 1) mX10_ask Q 31 [some (rV 0 0), some (iV x1), some (iV x2), none, none, none, none, none] (r.toList ++ []) σ') 0 [some (rV 0 0), some (iV x1), some (iV (60 : Int32)), none, none, none, none] [] σ)) : R mj_OC (d + 1) mX10_ask Q 24 [some (rV 0 0), some (iV x1), some (iV x2), none, none, none, none, none] [] σ := by
  refine r_aload_n dX10_ask_24 rfl rfl ?_
  refine r_iload_n dX10_ask_25 rfl rfl ?_
  refine r_bipush (v := (60 : Int32)) dX10_ask_26 rfl ?_
  refine r_callV (z := 4) (k := 0) (i := 0) (As := [iV x1, iV (60 : Int32)]) (st := []) kX10_weigh i_X10_weigh e_X10_weigh lX10_382 dX10_ask_28 rfl rfl ho0 rfl rfl rfl rfl rfl (Nat.le_of_ble_eq_true rfl) ?_
  exact H
set_option maxRecDepth 100000 in
theorem bX10_ask_31 {d : Nat} {Q : Option MV → MS → Prop} {x1 : Int32} {x2 : Int32} {s0 : Int32} {σ : MS}  (H : (R mj_OC d mX10_leftAtWorst (fun r σ' => R mj_OC (d + 1) mX10_ask Q 41 [some (rV 0 0), some (iV x1), some (iV x2), some (iV s0), some (iV (1 : Int32)), none, none, none] (r.toList ++ []) σ') 0 [some (rV 0 0), some (iV s0), some (iV (1 : Int32)), none, none, none, none] [] σ)) : R mj_OC (d + 1) mX10_ask Q 31 [some (rV 0 0), some (iV x1), some (iV x2), none, none, none, none, none] [iV s0] σ := by
  refine r_istore_n dX10_ask_31 rfl (by decide) rfl ?_
  refine r_iconst (v := (1 : Int32)) dX10_ask_32 rfl ?_
  refine r_istore dX10_ask_33 (by decide) rfl ?_
  refine r_aload_n dX10_ask_35 rfl rfl ?_
  refine r_iload_n dX10_ask_36 rfl rfl ?_
  refine r_iconst (v := (1 : Int32)) dX10_ask_37 rfl ?_
  refine r_callV (z := 4) (k := 0) (i := 0) (As := [iV s0, iV (1 : Int32)]) (st := []) kX10_leftAtWorst i_X10_leftAtWorst e_X10_leftAtWorst lX10_385 dX10_ask_38 rfl rfl ho0 rfl rfl rfl rfl rfl (Nat.le_of_ble_eq_true rfl) ?_
  exact H
set_option maxRecDepth 100000 in
theorem bX10_ask_41 {d : Nat} {Q : Option MV → MS → Prop} {x1 : Int32} {x2 : Int32} {x3 : Int32} {x4 : Int32} {s0 : Int32} {σ : MS}  (H : R mj_OC d mX10_ask Q 46 [some (rV 0 0), some (iV x1), some (iV x2), some (iV x3), some (iV x4), some (iV s0), some (iV (2 : Int32)), none] [] σ) : R mj_OC d mX10_ask Q 41 [some (rV 0 0), some (iV x1), some (iV x2), some (iV x3), some (iV x4), none, none, none] [iV s0] σ := by
  refine r_istore dX10_ask_41 (by decide) rfl ?_
  refine r_iconst (v := (2 : Int32)) dX10_ask_43 rfl ?_
  refine r_istore dX10_ask_44 (by decide) rfl ?_
  exact H
set_option maxRecDepth 100000 in
theorem bX10_ask_46 {d : Nat} {Q : Option MV → MS → Prop} {x1 : Int32} {x2 : Int32} {x3 : Int32} {x4 : Int32} {x5 : Int32} {x6 : Int32} {σ : MS}  (H : (((60 : Int32) < x6 → ((¬ x2 = 0 → Q (some (iV x5)) σ) ∧ (x2 = 0 → Q (some (iV x4)) σ))) ∧ (¬ (60 : Int32) < x6 → (R mj_OC d mX10_leftAtWorst (fun r σ' => R mj_OC (d + 1) mX10_ask Q 60 [some (rV 0 0), some (iV x1), some (iV x2), some (iV x3), some (iV x4), some (iV x5), some (iV x6), none] (r.toList ++ []) σ') 0 [some (rV 0 0), some (iV x3), some (iV x6), none, none, none, none] [] σ)))) : R mj_OC (d + 1) mX10_ask Q 46 [some (rV 0 0), some (iV x1), some (iV x2), some (iV x3), some (iV x4), some (iV x5), some (iV x6), none] [] σ := by
  refine r_iload dX10_ask_46 rfl ?_
  refine r_bipush (v := (60 : Int32)) dX10_ask_48 rfl ?_
  refine r_icmp_gt (tgt := 83) dX10_ask_50 (by decide) (fun c => ?_) (fun c => ?_)
  · have H := H.1 c
    refine r_iload_n dX10_ask_83 rfl rfl ?_
    refine r_if_ne (tgt := 92) dX10_ask_84 (by decide) (fun c => ?_) (fun c => ?_)
    · have H := H.1 c
      refine r_iload dX10_ask_92 rfl ?_
      exact r_iret dX10_ask_94 rfl H
    · have H := H.2 c
      refine r_iload dX10_ask_87 rfl ?_
      refine r_goto (tgt := 94) dX10_ask_89 (by decide) ?_
      exact r_iret dX10_ask_94 rfl H
  · have H := H.2 c
    refine r_aload_n dX10_ask_53 rfl rfl ?_
    refine r_iload_n dX10_ask_54 rfl rfl ?_
    refine r_iload dX10_ask_55 rfl ?_
    refine r_callV (z := 4) (k := 0) (i := 0) (As := [iV x3, iV x6]) (st := []) kX10_leftAtWorst i_X10_leftAtWorst e_X10_leftAtWorst lX10_385 dX10_ask_57 rfl rfl ho0 rfl rfl rfl rfl rfl (Nat.le_of_ble_eq_true rfl) ?_
    exact H
set_option maxRecDepth 100000 in
theorem bX10_ask_60 {d : Nat} {Q : Option MV → MS → Prop} {x1 : Int32} {x2 : Int32} {x3 : Int32} {x4 : Int32} {x5 : Int32} {x6 : Int32} {s0 : Int32} {σ : MS}  (H : ((x5 ≤ s0 → R mj_OC d mX10_ask Q 46 [some (rV 0 0), some (iV x1), some (iV x2), some (iV x3), some (iV x4), some (iV x5), some (iV (x6 + (1 : Int32))), none] [] σ) ∧ (¬ x5 ≤ s0 → R mj_OC d mX10_ask Q 46 [some (rV 0 0), some (iV x1), some (iV x2), some (iV x3), some (iV x6), some (iV s0), some (iV (x6 + (1 : Int32))), none] [] σ))) : R mj_OC d mX10_ask Q 60 [some (rV 0 0), some (iV x1), some (iV x2), some (iV x3), some (iV x4), some (iV x5), some (iV x6), none] [iV s0] σ := by
  refine r_istore dX10_ask_60 (by decide) rfl ?_
  refine r_iload dX10_ask_62 rfl ?_
  refine r_iload dX10_ask_64 rfl ?_
  refine r_icmp_ge (tgt := 77) dX10_ask_66 (by decide) (fun c => ?_) (fun c => ?_)
  · have H := H.1 c
    refine r_iinc (v := x6 + (1 : Int32)) dX10_ask_77 rfl rfl (by decide) rfl ?_
    refine r_goto (tgt := 46) dX10_ask_80 (by decide) ?_
    exact R.fw (ls' := [some (rV 0 0), some (iV x1), some (iV x2), some (iV x3), some (iV x4), some (iV x5), some (iV (x6 + (1 : Int32))), none]) ⟨rfl, ⟨rfl, ⟨rfl, ⟨rfl, ⟨rfl, ⟨rfl, ⟨rfl, trivial⟩⟩⟩⟩⟩⟩⟩ H
  · have H := H.2 c
    refine r_iload dX10_ask_69 rfl ?_
    refine r_istore dX10_ask_71 (by decide) rfl ?_
    refine r_iload dX10_ask_73 rfl ?_
    refine r_istore dX10_ask_75 (by decide) rfl ?_
    refine r_iinc (v := x6 + (1 : Int32)) dX10_ask_77 rfl rfl (by decide) rfl ?_
    refine r_goto (tgt := 46) dX10_ask_80 (by decide) ?_
    exact R.fw (ls' := [some (rV 0 0), some (iV x1), some (iV x2), some (iV x3), some (iV x6), some (iV s0), some (iV (x6 + (1 : Int32))), none]) ⟨rfl, ⟨rfl, ⟨rfl, ⟨rfl, ⟨rfl, ⟨rfl, ⟨rfl, trivial⟩⟩⟩⟩⟩⟩⟩ H
set_option maxRecDepth 100000 in
theorem bX10_chance_0 {d : Nat} {Q : Option MV → MS → Prop} {x1 : Int32} {x2 : Int32} {x3 : Int32} {σ : MS}  (H : ((x1 < 0 → Q (some (iV (-1 : Int32))) σ) ∧ (¬ x1 < 0 → ((x2 < (1 : Int32) → Q (some (iV (-1 : Int32))) σ) ∧ (¬ x2 < (1 : Int32) → (((99 : Int32) < x2 → Q (some (iV (-1 : Int32))) σ) ∧ (¬ (99 : Int32) < x2 → (R mj_OC d mX10_isPipe (fun r σ' => R mj_OC (d + 1) mX10_chance Q 20 [some (rV 0 0), some (iV x1), some (iV x2), some (iV x3), none, none, none] (r.toList ++ []) σ') 0 [some (rV 0 0), some (iV x3)] [] σ)))))))) : R mj_OC (d + 1) mX10_chance Q 0 [some (rV 0 0), some (iV x1), some (iV x2), some (iV x3), none, none, none] [] σ := by
  refine r_iload_n dX10_chance_0 rfl rfl ?_
  refine r_if_lt (tgt := 23) dX10_chance_1 (by decide) (fun c => ?_) (fun c => ?_)
  · have H := H.1 c
    refine r_iconst (v := (-1 : Int32)) dX10_chance_23 rfl ?_
    exact r_iret dX10_chance_24 rfl H
  · have H := H.2 c
    refine r_iload_n dX10_chance_4 rfl rfl ?_
    refine r_iconst (v := (1 : Int32)) dX10_chance_5 rfl ?_
    refine r_icmp_lt (tgt := 23) dX10_chance_6 (by decide) (fun c => ?_) (fun c => ?_)
    · have H := H.1 c
      refine r_iconst (v := (-1 : Int32)) dX10_chance_23 rfl ?_
      exact r_iret dX10_chance_24 rfl H
    · have H := H.2 c
      refine r_iload_n dX10_chance_9 rfl rfl ?_
      refine r_bipush (v := (99 : Int32)) dX10_chance_10 rfl ?_
      refine r_icmp_gt (tgt := 23) dX10_chance_12 (by decide) (fun c => ?_) (fun c => ?_)
      · have H := H.1 c
        refine r_iconst (v := (-1 : Int32)) dX10_chance_23 rfl ?_
        exact r_iret dX10_chance_24 rfl H
      · have H := H.2 c
        refine r_aload_n dX10_chance_15 rfl rfl ?_
        refine r_iload_n dX10_chance_16 rfl rfl ?_
        refine r_callV (z := 0) (k := 0) (i := 0) (As := [iV x3]) (st := []) kX10_isPipe i_X10_isPipe e_X10_isPipe lX10_174 dX10_chance_17 rfl rfl ho0 rfl rfl rfl rfl rfl (Nat.le_of_ble_eq_true rfl) ?_
        exact H
set_option maxRecDepth 100000 in
theorem bX10_chance_20 {d : Nat} {Q : Option MV → MS → Prop} {x1 : Int32} {x2 : Int32} {x3 : Int32} {s0 : Int32} {σ : MS}  (H : ((¬ s0 = 0 → (R mj_OC d mX5_asItGoes (fun r σ' => R mj_OC (d + 1) mX10_chance Q 38 [some (rV 0 0), some (iV x1), some (iV x2), some (iV x3), some (iV x1), some (iV (0 : Int32)), none] (r.toList ++ []) σ') 0 [some (rV 7 0)] [] σ)) ∧ (s0 = 0 → Q (some (iV (-1 : Int32))) σ))) : R mj_OC (d + 1) mX10_chance Q 20 [some (rV 0 0), some (iV x1), some (iV x2), some (iV x3), none, none, none] [iV s0] σ := by
  refine r_if_ne (tgt := 25) dX10_chance_20 (by decide) (fun c => ?_) (fun c => ?_)
  · have H := H.1 c
    refine r_iload_n dX10_chance_25 rfl rfl ?_
    refine r_istore dX10_chance_26 (by decide) rfl ?_
    refine r_iconst (v := (0 : Int32)) dX10_chance_28 rfl ?_
    refine r_istore dX10_chance_29 (by decide) rfl ?_
    refine r_aload_n dX10_chance_31 rfl rfl ?_
    refine r_get (k := 0) (i := 0) (j := 4) (v := rV 7 0) rfl rfl ho0 rfl hX10 (by decide) rfl fX10_43 dX10_chance_32 (fun _ => rfl) ?_
    refine r_callV (z := 0) (k := 7) (i := 0) (As := []) (st := []) kX5_asItGoes i_X5_asItGoes e_X5_asItGoes lX10_186 dX10_chance_35 rfl rfl ho7 rfl rfl rfl rfl rfl (Nat.le_of_ble_eq_true rfl) ?_
    exact H
  · have H := H.2 c
    refine r_iconst (v := (-1 : Int32)) dX10_chance_23 rfl ?_
    exact r_iret dX10_chance_24 rfl H
set_option maxRecDepth 100000 in
theorem bX10_chance_38 {d : Nat} {Q : Option MV → MS → Prop} {x1 : Int32} {x2 : Int32} {x3 : Int32} {x4 : Int32} {x5 : Int32} {σ : MS}  (H : R mj_OC d mX10_chance Q 49 [some (rV 0 0), some (iV x1), some (iV x2), some (iV x3), some (iV x4), some (iV x5), some (iV (0 : Int32))] [] (uI σ 7 0 0 (1 : Int32))) : R mj_OC d mX10_chance Q 38 [some (rV 0 0), some (iV x1), some (iV x2), some (iV x3), some (iV x4), some (iV x5), none] [] σ := by
  refine r_aload_n dX10_chance_38 rfl rfl ?_
  refine r_get (k := 0) (i := 0) (j := 4) (v := rV 7 0) rfl rfl ho0 rfl hX10 (by decide) rfl fX10_43 dX10_chance_39 (fun _ => rfl) ?_
  refine r_iconst (v := (1 : Int32)) dX10_chance_42 rfl ?_
  refine r_putI (k := 7) (i := 0) (j := 0) (ty0 := tyX5) rfl rfl ho7 rfl hX5 (by decide) rfl fX10_265 dX10_chance_43 rfl tyX5_ok nmX5 rfl (by decide) (by decide) ?_
  refine r_iconst (v := (0 : Int32)) dX10_chance_46 rfl ?_
  refine r_istore dX10_chance_47 (by decide) rfl ?_
  exact H
set_option maxRecDepth 100000 in
theorem bX10_chance_49 {d : Nat} {Q : Option MV → MS → Prop} {x1 : Int32} {x2 : Int32} {x3 : Int32} {x4 : Int32} {x5 : Int32} {x6 : Int32} {σ : MS}  (H : (((10 : Int32) ≤ x6 → Q (some (iV x5)) σ) ∧ (¬ (10 : Int32) ≤ x6 → (R mj_OC d mX8_become (fun r σ' => R mj_OC (d + 1) mX10_chance Q 67 [some (rV 0 0), some (iV x1), some (iV x2), some (iV x3), some (iV x4), some (iV x5), some (iV x6)] (r.toList ++ []) σ') 0 [some (rV 6 2), some (rV 6 0), none] [] σ)))) : R mj_OC (d + 1) mX10_chance Q 49 [some (rV 0 0), some (iV x1), some (iV x2), some (iV x3), some (iV x4), some (iV x5), some (iV x6)] [] σ := by
  refine r_iload dX10_chance_49 rfl ?_
  refine r_bipush (v := (10 : Int32)) dX10_chance_51 rfl ?_
  refine r_icmp_ge (tgt := 117) dX10_chance_53 (by decide) (fun c => ?_) (fun c => ?_)
  · have H := H.1 c
    refine r_iload dX10_chance_117 rfl ?_
    exact r_iret dX10_chance_119 rfl H
  · have H := H.2 c
    refine r_aload_n dX10_chance_56 rfl rfl ?_
    refine r_get (k := 0) (i := 0) (j := 3) (v := rV 6 2) rfl rfl ho0 rfl hX10 (by decide) rfl fX10_37 dX10_chance_57 (fun _ => rfl) ?_
    refine r_aload_n dX10_chance_60 rfl rfl ?_
    refine r_get (k := 0) (i := 0) (j := 1) (v := rV 6 0) rfl rfl ho0 rfl hX10 (by decide) rfl fX10_30 dX10_chance_61 (fun _ => rfl) ?_
    refine r_callV (z := 1) (k := 6) (i := 2) (As := [rV 6 0]) (st := []) kX8_become i_X8_become e_X8_become lX10_272 dX10_chance_64 rfl rfl (ho6 (by decide)) rfl rfl rfl rfl rfl (Nat.le_of_ble_eq_true rfl) ?_
    exact H
set_option maxRecDepth 100000 in
theorem bX10_chance_67 {d : Nat} {Q : Option MV → MS → Prop} {x1 : Int32} {x2 : Int32} {x3 : Int32} {x4 : Int32} {x5 : Int32} {x6 : Int32} {σ : MS}  (H : (R mj_OC d mX5_advance (fun r σ' => R mj_OC (d + 1) mX10_chance Q 88 [some (rV 0 0), some (iV x1), some (iV x2), some (iV x3), some (iV x4), some (iV x5), some (iV x6)] (r.toList ++ []) σ') 0 [some (rV 7 0), some (rV 6 2), some (iV x2), none] [] (uI σ 6 2 7 x4))) : R mj_OC (d + 1) mX10_chance Q 67 [some (rV 0 0), some (iV x1), some (iV x2), some (iV x3), some (iV x4), some (iV x5), some (iV x6)] [] σ := by
  refine r_aload_n dX10_chance_67 rfl rfl ?_
  refine r_get (k := 0) (i := 0) (j := 3) (v := rV 6 2) rfl rfl ho0 rfl hX10 (by decide) rfl fX10_37 dX10_chance_68 (fun _ => rfl) ?_
  refine r_iload dX10_chance_71 rfl ?_
  refine r_putI (k := 6) (i := 2) (j := 7) (ty0 := tyX8) rfl rfl (ho6 (by decide)) rfl hX8 (by decide) rfl fX10_388 dX10_chance_73 rfl tyX8_ok nmX8 rfl rfl rfl ?_
  refine r_aload_n dX10_chance_76 rfl rfl ?_
  refine r_get (k := 0) (i := 0) (j := 4) (v := rV 7 0) rfl rfl ho0 rfl hX10 (by decide) rfl fX10_43 dX10_chance_77 (fun _ => rfl) ?_
  refine r_aload_n dX10_chance_80 rfl rfl ?_
  refine r_get (k := 0) (i := 0) (j := 3) (v := rV 6 2) rfl rfl ho0 rfl hX10 (by decide) rfl fX10_37 dX10_chance_81 (fun _ => rfl) ?_
  refine r_iload_n dX10_chance_84 rfl rfl ?_
  refine r_callV (z := 1) (k := 7) (i := 0) (As := [rV 6 2, iV x2]) (st := []) kX5_advance i_X5_advance e_X5_advance lX10_268 dX10_chance_85 rfl rfl ho7 rfl rfl rfl rfl rfl (Nat.le_of_ble_eq_true rfl) ?_
  exact H
set_option maxRecDepth 100000 in
theorem bX10_chance_88 {d : Nat} {Q : Option MV → MS → Prop} {x1 : Int32} {x2 : Int32} {x3 : Int32} {x4 : Int32} {x5 : Int32} {x6 : Int32} {σ : MS}  (H : (R mj_OC d mX8_isJammed (fun r σ' => R mj_OC (d + 1) mX10_chance Q 105 [some (rV 0 0), some (iV x1), some (iV x2), some (iV x3), some (iV (σ.1 6 2 7)), some (iV x5), some (iV x6)] (r.toList ++ []) σ') 0 [some (rV 6 2), some (iV x3)] [] σ)) : R mj_OC (d + 1) mX10_chance Q 88 [some (rV 0 0), some (iV x1), some (iV x2), some (iV x3), some (iV x4), some (iV x5), some (iV x6)] [] σ := by
  refine r_aload_n dX10_chance_88 rfl rfl ?_
  refine r_get (k := 0) (i := 0) (j := 3) (v := rV 6 2) rfl rfl ho0 rfl hX10 (by decide) rfl fX10_37 dX10_chance_89 (fun _ => rfl) ?_
  refine r_get (k := 6) (i := 2) (j := 7) (v := iV (σ.1 6 2 7)) rfl rfl (ho6 (by decide)) rfl hX8 (by decide) rfl fX10_388 dX10_chance_92 (fun _ => rfl) ?_
  refine r_istore dX10_chance_95 (by decide) rfl ?_
  refine r_aload_n dX10_chance_97 rfl rfl ?_
  refine r_get (k := 0) (i := 0) (j := 3) (v := rV 6 2) rfl rfl ho0 rfl hX10 (by decide) rfl fX10_37 dX10_chance_98 (fun _ => rfl) ?_
  refine r_iload_n dX10_chance_101 rfl rfl ?_
  refine r_callV (z := 0) (k := 6) (i := 2) (As := [iV x3]) (st := []) kX8_isJammed i_X8_isJammed e_X8_isJammed lX10_241 dX10_chance_102 rfl rfl (ho6 (by decide)) rfl rfl rfl rfl rfl (Nat.le_of_ble_eq_true rfl) ?_
  exact H
set_option maxRecDepth 100000 in
theorem bX10_chance_105 {d : Nat} {Q : Option MV → MS → Prop} {x1 : Int32} {x2 : Int32} {x3 : Int32} {x4 : Int32} {x5 : Int32} {x6 : Int32} {s0 : Int32} {σ : MS}  (H : ((s0 = 0 → R mj_OC d mX10_chance Q 49 [some (rV 0 0), some (iV x1), some (iV x2), some (iV x3), some (iV x4), some (iV x5), some (iV (x6 + (1 : Int32)))] [] σ) ∧ (¬ s0 = 0 → R mj_OC d mX10_chance Q 49 [some (rV 0 0), some (iV x1), some (iV x2), some (iV x3), some (iV x4), some (iV (x5 + (1 : Int32))), some (iV (x6 + (1 : Int32)))] [] σ))) : R mj_OC d mX10_chance Q 105 [some (rV 0 0), some (iV x1), some (iV x2), some (iV x3), some (iV x4), some (iV x5), some (iV x6)] [iV s0] σ := by
  refine r_if_eq (tgt := 111) dX10_chance_105 (by decide) (fun c => ?_) (fun c => ?_)
  · have H := H.1 c
    refine r_iinc (v := x6 + (1 : Int32)) dX10_chance_111 rfl rfl (by decide) rfl ?_
    refine r_goto (tgt := 49) dX10_chance_114 (by decide) ?_
    exact H
  · have H := H.2 c
    refine r_iinc (v := x5 + (1 : Int32)) dX10_chance_108 rfl rfl (by decide) rfl ?_
    refine r_iinc (v := x6 + (1 : Int32)) dX10_chance_111 rfl rfl (by decide) rfl ?_
    refine r_goto (tgt := 49) dX10_chance_114 (by decide) ?_
    exact H
set_option maxRecDepth 100000 in
theorem bX10_tried_0 {d : Nat} {Q : Option MV → MS → Prop} {x1 : Int32} {x2 : Int32} {x3 : Int32} {σ : MS}  (H : ((¬ x1 = (2 : Int32) → ((¬ x2 = 0 → ((x1 < 0 → R mj_OC (d + 1) mX10_tried Q 49 [some (rV 0 0), some (iV x1), some (iV x2), some (iV x3), some (iV (0 : Int32))] [] σ) ∧ (¬ x1 < 0 → (((4 : Int32) < x1 → R mj_OC (d + 1) mX10_tried Q 49 [some (rV 0 0), some (iV x1), some (iV x2), some (iV x3), some (iV (0 : Int32))] [] σ) ∧ (¬ (4 : Int32) < x1 → (((0 : Int32) = 0 → R mj_OC (d + 1) mX10_tried Q 49 [some (rV 0 0), some (iV x1), some (iV x2), some (iV x3), some (iV (0 : Int32))] [] σ) ∧ (¬ (0 : Int32) = 0 → ((x3 < 0 → R mj_OC (d + 1) mX10_tried Q 49 [some (rV 0 0), some (iV x1), some (iV x2), some (iV x3), some (iV (0 : Int32))] [] σ) ∧ (¬ x3 < 0 → ((x3 ≤ (200 : Int32) → (R mj_OC d mX8_become (fun r σ' => R mj_OC (d + 1) mX10_tried Q 62 [some (rV 0 0), some (iV x1), some (iV x2), some (iV x3), some (iV (0 : Int32))] (r.toList ++ []) σ') 0 [some (rV 6 2), some (rV 6 0), none] [] σ)) ∧ (¬ x3 ≤ (200 : Int32) → R mj_OC (d + 1) mX10_tried Q 49 [some (rV 0 0), some (iV x1), some (iV x2), some (iV x3), some (iV (0 : Int32))] [] σ))))))))))) ∧ (x2 = 0 → ((x1 < 0 → R mj_OC (d + 1) mX10_tried Q 49 [some (rV 0 0), some (iV x1), some (iV x2), some (iV x3), some (iV (1 : Int32))] [] σ) ∧ (¬ x1 < 0 → (((4 : Int32) < x1 → R mj_OC (d + 1) mX10_tried Q 49 [some (rV 0 0), some (iV x1), some (iV x2), some (iV x3), some (iV (1 : Int32))] [] σ) ∧ (¬ (4 : Int32) < x1 → (((1 : Int32) = 0 → R mj_OC (d + 1) mX10_tried Q 49 [some (rV 0 0), some (iV x1), some (iV x2), some (iV x3), some (iV (1 : Int32))] [] σ) ∧ (¬ (1 : Int32) = 0 → ((x3 < 0 → R mj_OC (d + 1) mX10_tried Q 49 [some (rV 0 0), some (iV x1), some (iV x2), some (iV x3), some (iV (1 : Int32))] [] σ) ∧ (¬ x3 < 0 → ((x3 ≤ (200 : Int32) → (R mj_OC d mX8_become (fun r σ' => R mj_OC (d + 1) mX10_tried Q 62 [some (rV 0 0), some (iV x1), some (iV x2), some (iV x3), some (iV (1 : Int32))] (r.toList ++ []) σ') 0 [some (rV 6 2), some (rV 6 0), none] [] σ)) ∧ (¬ x3 ≤ (200 : Int32) → R mj_OC (d + 1) mX10_tried Q 49 [some (rV 0 0), some (iV x1), some (iV x2), some (iV x3), some (iV (1 : Int32))] [] σ))))))))))))) ∧ (x1 = (2 : Int32) → (R mj_OC d mX10_isPipe (fun r σ' => R mj_OC (d + 1) mX10_tried Q 10 [some (rV 0 0), some (iV x1), some (iV x2), some (iV x3), none] (r.toList ++ []) σ') 0 [some (rV 0 0), some (iV x2)] [] σ)))) : R mj_OC (d + 1) mX10_tried Q 0 [some (rV 0 0), some (iV x1), some (iV x2), some (iV x3), none] [] σ := by
  refine r_iload_n dX10_tried_0 rfl rfl ?_
  refine r_iconst (v := (2 : Int32)) dX10_tried_1 rfl ?_
  refine r_icmp_ne (tgt := 13) dX10_tried_2 (by decide) (fun c => ?_) (fun c => ?_)
  · have H := H.1 c
    refine r_iload_n dX10_tried_13 rfl rfl ?_
    refine r_if_ne (tgt := 21) dX10_tried_14 (by decide) (fun c => ?_) (fun c => ?_)
    · have H := H.1 c
      refine r_iconst (v := (0 : Int32)) dX10_tried_21 rfl ?_
      refine r_istore dX10_tried_22 (by decide) rfl ?_
      refine r_iload_n dX10_tried_24 rfl rfl ?_
      refine r_if_lt (tgt := 49) dX10_tried_25 (by decide) (fun c => ?_) (fun c => ?_)
      · have H := H.1 c
        exact H
      · have H := H.2 c
        refine r_iload_n dX10_tried_28 rfl rfl ?_
        refine r_iconst (v := (4 : Int32)) dX10_tried_29 rfl ?_
        refine r_icmp_gt (tgt := 49) dX10_tried_30 (by decide) (fun c => ?_) (fun c => ?_)
        · have H := H.1 c
          exact H
        · have H := H.2 c
          refine r_iload dX10_tried_33 rfl ?_
          refine r_if_eq (tgt := 49) dX10_tried_35 (by decide) (fun c => ?_) (fun c => ?_)
          · have H := H.1 c
            exact H
          · have H := H.2 c
            refine r_iload_n dX10_tried_38 rfl rfl ?_
            refine r_if_lt (tgt := 49) dX10_tried_39 (by decide) (fun c => ?_) (fun c => ?_)
            · have H := H.1 c
              exact H
            · have H := H.2 c
              refine r_iload_n dX10_tried_42 rfl rfl ?_
              refine r_sipush (v := (200 : Int32)) dX10_tried_43 rfl ?_
              refine r_icmp_le (tgt := 51) dX10_tried_46 (by decide) (fun c => ?_) (fun c => ?_)
              · have H := H.1 c
                refine r_aload_n dX10_tried_51 rfl rfl ?_
                refine r_get (k := 0) (i := 0) (j := 3) (v := rV 6 2) rfl rfl ho0 rfl hX10 (by decide) rfl fX10_37 dX10_tried_52 (fun _ => rfl) ?_
                refine r_aload_n dX10_tried_55 rfl rfl ?_
                refine r_get (k := 0) (i := 0) (j := 1) (v := rV 6 0) rfl rfl ho0 rfl hX10 (by decide) rfl fX10_30 dX10_tried_56 (fun _ => rfl) ?_
                refine r_callV (z := 1) (k := 6) (i := 2) (As := [rV 6 0]) (st := []) kX8_become i_X8_become e_X8_become lX10_272 dX10_tried_59 rfl rfl (ho6 (by decide)) rfl rfl rfl rfl rfl (Nat.le_of_ble_eq_true rfl) ?_
                exact H
              · have H := H.2 c
                exact H
    · have H := H.2 c
      refine r_iconst (v := (1 : Int32)) dX10_tried_17 rfl ?_
      refine r_goto (tgt := 22) dX10_tried_18 (by decide) ?_
      refine r_istore dX10_tried_22 (by decide) rfl ?_
      refine r_iload_n dX10_tried_24 rfl rfl ?_
      refine r_if_lt (tgt := 49) dX10_tried_25 (by decide) (fun c => ?_) (fun c => ?_)
      · have H := H.1 c
        exact H
      · have H := H.2 c
        refine r_iload_n dX10_tried_28 rfl rfl ?_
        refine r_iconst (v := (4 : Int32)) dX10_tried_29 rfl ?_
        refine r_icmp_gt (tgt := 49) dX10_tried_30 (by decide) (fun c => ?_) (fun c => ?_)
        · have H := H.1 c
          exact H
        · have H := H.2 c
          refine r_iload dX10_tried_33 rfl ?_
          refine r_if_eq (tgt := 49) dX10_tried_35 (by decide) (fun c => ?_) (fun c => ?_)
          · have H := H.1 c
            exact H
          · have H := H.2 c
            refine r_iload_n dX10_tried_38 rfl rfl ?_
            refine r_if_lt (tgt := 49) dX10_tried_39 (by decide) (fun c => ?_) (fun c => ?_)
            · have H := H.1 c
              exact H
            · have H := H.2 c
              refine r_iload_n dX10_tried_42 rfl rfl ?_
              refine r_sipush (v := (200 : Int32)) dX10_tried_43 rfl ?_
              refine r_icmp_le (tgt := 51) dX10_tried_46 (by decide) (fun c => ?_) (fun c => ?_)
              · have H := H.1 c
                refine r_aload_n dX10_tried_51 rfl rfl ?_
                refine r_get (k := 0) (i := 0) (j := 3) (v := rV 6 2) rfl rfl ho0 rfl hX10 (by decide) rfl fX10_37 dX10_tried_52 (fun _ => rfl) ?_
                refine r_aload_n dX10_tried_55 rfl rfl ?_
                refine r_get (k := 0) (i := 0) (j := 1) (v := rV 6 0) rfl rfl ho0 rfl hX10 (by decide) rfl fX10_30 dX10_tried_56 (fun _ => rfl) ?_
                refine r_callV (z := 1) (k := 6) (i := 2) (As := [rV 6 0]) (st := []) kX8_become i_X8_become e_X8_become lX10_272 dX10_tried_59 rfl rfl (ho6 (by decide)) rfl rfl rfl rfl rfl (Nat.le_of_ble_eq_true rfl) ?_
                exact H
              · have H := H.2 c
                exact H
  · have H := H.2 c
    refine r_aload_n dX10_tried_5 rfl rfl ?_
    refine r_iload_n dX10_tried_6 rfl rfl ?_
    refine r_callV (z := 0) (k := 0) (i := 0) (As := [iV x2]) (st := []) kX10_isPipe i_X10_isPipe e_X10_isPipe lX10_174 dX10_tried_7 rfl rfl ho0 rfl rfl rfl rfl rfl (Nat.le_of_ble_eq_true rfl) ?_
    exact H
set_option maxRecDepth 100000 in
theorem bX10_tried_10 {d : Nat} {Q : Option MV → MS → Prop} {x1 : Int32} {x2 : Int32} {x3 : Int32} {s0 : Int32} {σ : MS}  (H : ((x1 < 0 → R mj_OC (d + 1) mX10_tried Q 49 [some (rV 0 0), some (iV x1), some (iV x2), some (iV x3), some (iV s0)] [] σ) ∧ (¬ x1 < 0 → (((4 : Int32) < x1 → R mj_OC (d + 1) mX10_tried Q 49 [some (rV 0 0), some (iV x1), some (iV x2), some (iV x3), some (iV s0)] [] σ) ∧ (¬ (4 : Int32) < x1 → ((s0 = 0 → R mj_OC (d + 1) mX10_tried Q 49 [some (rV 0 0), some (iV x1), some (iV x2), some (iV x3), some (iV s0)] [] σ) ∧ (¬ s0 = 0 → ((x3 < 0 → R mj_OC (d + 1) mX10_tried Q 49 [some (rV 0 0), some (iV x1), some (iV x2), some (iV x3), some (iV s0)] [] σ) ∧ (¬ x3 < 0 → ((x3 ≤ (200 : Int32) → (R mj_OC d mX8_become (fun r σ' => R mj_OC (d + 1) mX10_tried Q 62 [some (rV 0 0), some (iV x1), some (iV x2), some (iV x3), some (iV s0)] (r.toList ++ []) σ') 0 [some (rV 6 2), some (rV 6 0), none] [] σ)) ∧ (¬ x3 ≤ (200 : Int32) → R mj_OC (d + 1) mX10_tried Q 49 [some (rV 0 0), some (iV x1), some (iV x2), some (iV x3), some (iV s0)] [] σ))))))))))) : R mj_OC (d + 1) mX10_tried Q 10 [some (rV 0 0), some (iV x1), some (iV x2), some (iV x3), none] [iV s0] σ := by
  refine r_goto (tgt := 22) dX10_tried_10 (by decide) ?_
  refine r_istore dX10_tried_22 (by decide) rfl ?_
  refine r_iload_n dX10_tried_24 rfl rfl ?_
  refine r_if_lt (tgt := 49) dX10_tried_25 (by decide) (fun c => ?_) (fun c => ?_)
  · have H := H.1 c
    exact H
  · have H := H.2 c
    refine r_iload_n dX10_tried_28 rfl rfl ?_
    refine r_iconst (v := (4 : Int32)) dX10_tried_29 rfl ?_
    refine r_icmp_gt (tgt := 49) dX10_tried_30 (by decide) (fun c => ?_) (fun c => ?_)
    · have H := H.1 c
      exact H
    · have H := H.2 c
      refine r_iload dX10_tried_33 rfl ?_
      refine r_if_eq (tgt := 49) dX10_tried_35 (by decide) (fun c => ?_) (fun c => ?_)
      · have H := H.1 c
        exact H
      · have H := H.2 c
        refine r_iload_n dX10_tried_38 rfl rfl ?_
        refine r_if_lt (tgt := 49) dX10_tried_39 (by decide) (fun c => ?_) (fun c => ?_)
        · have H := H.1 c
          exact H
        · have H := H.2 c
          refine r_iload_n dX10_tried_42 rfl rfl ?_
          refine r_sipush (v := (200 : Int32)) dX10_tried_43 rfl ?_
          refine r_icmp_le (tgt := 51) dX10_tried_46 (by decide) (fun c => ?_) (fun c => ?_)
          · have H := H.1 c
            refine r_aload_n dX10_tried_51 rfl rfl ?_
            refine r_get (k := 0) (i := 0) (j := 3) (v := rV 6 2) rfl rfl ho0 rfl hX10 (by decide) rfl fX10_37 dX10_tried_52 (fun _ => rfl) ?_
            refine r_aload_n dX10_tried_55 rfl rfl ?_
            refine r_get (k := 0) (i := 0) (j := 1) (v := rV 6 0) rfl rfl ho0 rfl hX10 (by decide) rfl fX10_30 dX10_tried_56 (fun _ => rfl) ?_
            refine r_callV (z := 1) (k := 6) (i := 2) (As := [rV 6 0]) (st := []) kX8_become i_X8_become e_X8_become lX10_272 dX10_tried_59 rfl rfl (ho6 (by decide)) rfl rfl rfl rfl rfl (Nat.le_of_ble_eq_true rfl) ?_
            exact H
          · have H := H.2 c
            exact H
set_option maxRecDepth 100000 in
theorem bX10_tried_49 {d : Nat} {Q : Option MV → MS → Prop} {x1 : Int32} {x2 : Int32} {x3 : Int32} {x4 : Int32} {σ : MS}  (H : Q (some (iV (-1 : Int32))) σ) : R mj_OC d mX10_tried Q 49 [some (rV 0 0), some (iV x1), some (iV x2), some (iV x3), some (iV x4)] [] σ := by
  refine r_iconst (v := (-1 : Int32)) dX10_tried_49 rfl ?_
  exact r_iret dX10_tried_50 rfl H
set_option maxRecDepth 100000 in
theorem bX10_tried_62 {d : Nat} {Q : Option MV → MS → Prop} {x1 : Int32} {x2 : Int32} {x3 : Int32} {x4 : Int32} {σ : MS}  (H : (R mj_OC d mX5_asItGoes (fun r σ' => R mj_OC (d + 1) mX10_tried Q 69 [some (rV 0 0), some (iV x1), some (iV x2), some (iV x3), some (iV x4)] (r.toList ++ []) σ') 0 [some (rV 7 0)] [] σ)) : R mj_OC (d + 1) mX10_tried Q 62 [some (rV 0 0), some (iV x1), some (iV x2), some (iV x3), some (iV x4)] [] σ := by
  refine r_aload_n dX10_tried_62 rfl rfl ?_
  refine r_get (k := 0) (i := 0) (j := 4) (v := rV 7 0) rfl rfl ho0 rfl hX10 (by decide) rfl fX10_43 dX10_tried_63 (fun _ => rfl) ?_
  refine r_callV (z := 0) (k := 7) (i := 0) (As := []) (st := []) kX5_asItGoes i_X5_asItGoes e_X5_asItGoes lX10_186 dX10_tried_66 rfl rfl ho7 rfl rfl rfl rfl rfl (Nat.le_of_ble_eq_true rfl) ?_
  exact H
set_option maxRecDepth 100000 in
theorem bX10_tried_69 {d : Nat} {Q : Option MV → MS → Prop} {x1 : Int32} {x2 : Int32} {x3 : Int32} {x4 : Int32} {σ : MS}  (H : ((x1 = 0 → ((x1 = (1 : Int32) → ((¬ x1 = (2 : Int32) → ((x1 = (3 : Int32) → ((¬ x1 = (4 : Int32) → (R mj_OC d mX5_advance (fun r σ' => R mj_OC (d + 1) mX10_tried Q 165 [some (rV 0 0), some (iV x1), some (iV x2), some (iV x3), some (iV x4)] (r.toList ++ []) σ') 0 [some (rV 7 0), some (rV 6 2), some (iV x3), none] [] (uI (uI (uI (uI (uI σ 7 0 1 (0 : Int32)) 7 0 2 (0 : Int32)) 7 0 5 (-1 : Int32)) 7 0 3 (0 : Int32)) 7 0 4 (0 : Int32)))) ∧ (x1 = (4 : Int32) → (R mj_OC d mX5_advance (fun r σ' => R mj_OC (d + 1) mX10_tried Q 165 [some (rV 0 0), some (iV x1), some (iV x2), some (iV x3), some (iV x4)] (r.toList ++ []) σ') 0 [some (rV 7 0), some (rV 6 2), some (iV x3), none] [] (uI (uI (uI (uI (uI σ 7 0 1 (0 : Int32)) 7 0 2 (0 : Int32)) 7 0 5 (-1 : Int32)) 7 0 3 (0 : Int32)) 7 0 4 (1 : Int32)))))) ∧ (¬ x1 = (3 : Int32) → ((¬ x1 = (4 : Int32) → (R mj_OC d mX5_advance (fun r σ' => R mj_OC (d + 1) mX10_tried Q 165 [some (rV 0 0), some (iV x1), some (iV x2), some (iV x3), some (iV x4)] (r.toList ++ []) σ') 0 [some (rV 7 0), some (rV 6 2), some (iV x3), none] [] (uI (uI (uI (uI (uI σ 7 0 1 (0 : Int32)) 7 0 2 (0 : Int32)) 7 0 5 (-1 : Int32)) 7 0 3 (1 : Int32)) 7 0 4 (0 : Int32)))) ∧ (x1 = (4 : Int32) → (R mj_OC d mX5_advance (fun r σ' => R mj_OC (d + 1) mX10_tried Q 165 [some (rV 0 0), some (iV x1), some (iV x2), some (iV x3), some (iV x4)] (r.toList ++ []) σ') 0 [some (rV 7 0), some (rV 6 2), some (iV x3), none] [] (uI (uI (uI (uI (uI σ 7 0 1 (0 : Int32)) 7 0 2 (0 : Int32)) 7 0 5 (-1 : Int32)) 7 0 3 (1 : Int32)) 7 0 4 (1 : Int32)))))))) ∧ (x1 = (2 : Int32) → ((x1 = (3 : Int32) → ((¬ x1 = (4 : Int32) → (R mj_OC d mX5_advance (fun r σ' => R mj_OC (d + 1) mX10_tried Q 165 [some (rV 0 0), some (iV x1), some (iV x2), some (iV x3), some (iV x4)] (r.toList ++ []) σ') 0 [some (rV 7 0), some (rV 6 2), some (iV x3), none] [] (uI (uI (uI (uI (uI σ 7 0 1 (0 : Int32)) 7 0 2 (0 : Int32)) 7 0 5 x2) 7 0 3 (0 : Int32)) 7 0 4 (0 : Int32)))) ∧ (x1 = (4 : Int32) → (R mj_OC d mX5_advance (fun r σ' => R mj_OC (d + 1) mX10_tried Q 165 [some (rV 0 0), some (iV x1), some (iV x2), some (iV x3), some (iV x4)] (r.toList ++ []) σ') 0 [some (rV 7 0), some (rV 6 2), some (iV x3), none] [] (uI (uI (uI (uI (uI σ 7 0 1 (0 : Int32)) 7 0 2 (0 : Int32)) 7 0 5 x2) 7 0 3 (0 : Int32)) 7 0 4 (1 : Int32)))))) ∧ (¬ x1 = (3 : Int32) → ((¬ x1 = (4 : Int32) → (R mj_OC d mX5_advance (fun r σ' => R mj_OC (d + 1) mX10_tried Q 165 [some (rV 0 0), some (iV x1), some (iV x2), some (iV x3), some (iV x4)] (r.toList ++ []) σ') 0 [some (rV 7 0), some (rV 6 2), some (iV x3), none] [] (uI (uI (uI (uI (uI σ 7 0 1 (0 : Int32)) 7 0 2 (0 : Int32)) 7 0 5 x2) 7 0 3 (1 : Int32)) 7 0 4 (0 : Int32)))) ∧ (x1 = (4 : Int32) → (R mj_OC d mX5_advance (fun r σ' => R mj_OC (d + 1) mX10_tried Q 165 [some (rV 0 0), some (iV x1), some (iV x2), some (iV x3), some (iV x4)] (r.toList ++ []) σ') 0 [some (rV 7 0), some (rV 6 2), some (iV x3), none] [] (uI (uI (uI (uI (uI σ 7 0 1 (0 : Int32)) 7 0 2 (0 : Int32)) 7 0 5 x2) 7 0 3 (1 : Int32)) 7 0 4 (1 : Int32)))))))))) ∧ (¬ x1 = (1 : Int32) → ((¬ x1 = (2 : Int32) → ((x1 = (3 : Int32) → ((¬ x1 = (4 : Int32) → (R mj_OC d mX5_advance (fun r σ' => R mj_OC (d + 1) mX10_tried Q 165 [some (rV 0 0), some (iV x1), some (iV x2), some (iV x3), some (iV x4)] (r.toList ++ []) σ') 0 [some (rV 7 0), some (rV 6 2), some (iV x3), none] [] (uI (uI (uI (uI (uI σ 7 0 1 (0 : Int32)) 7 0 2 (1 : Int32)) 7 0 5 (-1 : Int32)) 7 0 3 (0 : Int32)) 7 0 4 (0 : Int32)))) ∧ (x1 = (4 : Int32) → (R mj_OC d mX5_advance (fun r σ' => R mj_OC (d + 1) mX10_tried Q 165 [some (rV 0 0), some (iV x1), some (iV x2), some (iV x3), some (iV x4)] (r.toList ++ []) σ') 0 [some (rV 7 0), some (rV 6 2), some (iV x3), none] [] (uI (uI (uI (uI (uI σ 7 0 1 (0 : Int32)) 7 0 2 (1 : Int32)) 7 0 5 (-1 : Int32)) 7 0 3 (0 : Int32)) 7 0 4 (1 : Int32)))))) ∧ (¬ x1 = (3 : Int32) → ((¬ x1 = (4 : Int32) → (R mj_OC d mX5_advance (fun r σ' => R mj_OC (d + 1) mX10_tried Q 165 [some (rV 0 0), some (iV x1), some (iV x2), some (iV x3), some (iV x4)] (r.toList ++ []) σ') 0 [some (rV 7 0), some (rV 6 2), some (iV x3), none] [] (uI (uI (uI (uI (uI σ 7 0 1 (0 : Int32)) 7 0 2 (1 : Int32)) 7 0 5 (-1 : Int32)) 7 0 3 (1 : Int32)) 7 0 4 (0 : Int32)))) ∧ (x1 = (4 : Int32) → (R mj_OC d mX5_advance (fun r σ' => R mj_OC (d + 1) mX10_tried Q 165 [some (rV 0 0), some (iV x1), some (iV x2), some (iV x3), some (iV x4)] (r.toList ++ []) σ') 0 [some (rV 7 0), some (rV 6 2), some (iV x3), none] [] (uI (uI (uI (uI (uI σ 7 0 1 (0 : Int32)) 7 0 2 (1 : Int32)) 7 0 5 (-1 : Int32)) 7 0 3 (1 : Int32)) 7 0 4 (1 : Int32)))))))) ∧ (x1 = (2 : Int32) → ((x1 = (3 : Int32) → ((¬ x1 = (4 : Int32) → (R mj_OC d mX5_advance (fun r σ' => R mj_OC (d + 1) mX10_tried Q 165 [some (rV 0 0), some (iV x1), some (iV x2), some (iV x3), some (iV x4)] (r.toList ++ []) σ') 0 [some (rV 7 0), some (rV 6 2), some (iV x3), none] [] (uI (uI (uI (uI (uI σ 7 0 1 (0 : Int32)) 7 0 2 (1 : Int32)) 7 0 5 x2) 7 0 3 (0 : Int32)) 7 0 4 (0 : Int32)))) ∧ (x1 = (4 : Int32) → (R mj_OC d mX5_advance (fun r σ' => R mj_OC (d + 1) mX10_tried Q 165 [some (rV 0 0), some (iV x1), some (iV x2), some (iV x3), some (iV x4)] (r.toList ++ []) σ') 0 [some (rV 7 0), some (rV 6 2), some (iV x3), none] [] (uI (uI (uI (uI (uI σ 7 0 1 (0 : Int32)) 7 0 2 (1 : Int32)) 7 0 5 x2) 7 0 3 (0 : Int32)) 7 0 4 (1 : Int32)))))) ∧ (¬ x1 = (3 : Int32) → ((¬ x1 = (4 : Int32) → (R mj_OC d mX5_advance (fun r σ' => R mj_OC (d + 1) mX10_tried Q 165 [some (rV 0 0), some (iV x1), some (iV x2), some (iV x3), some (iV x4)] (r.toList ++ []) σ') 0 [some (rV 7 0), some (rV 6 2), some (iV x3), none] [] (uI (uI (uI (uI (uI σ 7 0 1 (0 : Int32)) 7 0 2 (1 : Int32)) 7 0 5 x2) 7 0 3 (1 : Int32)) 7 0 4 (0 : Int32)))) ∧ (x1 = (4 : Int32) → (R mj_OC d mX5_advance (fun r σ' => R mj_OC (d + 1) mX10_tried Q 165 [some (rV 0 0), some (iV x1), some (iV x2), some (iV x3), some (iV x4)] (r.toList ++ []) σ') 0 [some (rV 7 0), some (rV 6 2), some (iV x3), none] [] (uI (uI (uI (uI (uI σ 7 0 1 (0 : Int32)) 7 0 2 (1 : Int32)) 7 0 5 x2) 7 0 3 (1 : Int32)) 7 0 4 (1 : Int32)))))))))))) ∧ (¬ x1 = 0 → ((x1 = (1 : Int32) → ((¬ x1 = (2 : Int32) → ((x1 = (3 : Int32) → ((¬ x1 = (4 : Int32) → (R mj_OC d mX5_advance (fun r σ' => R mj_OC (d + 1) mX10_tried Q 165 [some (rV 0 0), some (iV x1), some (iV x2), some (iV x3), some (iV x4)] (r.toList ++ []) σ') 0 [some (rV 7 0), some (rV 6 2), some (iV x3), none] [] (uI (uI (uI (uI (uI σ 7 0 1 (1 : Int32)) 7 0 2 (0 : Int32)) 7 0 5 (-1 : Int32)) 7 0 3 (0 : Int32)) 7 0 4 (0 : Int32)))) ∧ (x1 = (4 : Int32) → (R mj_OC d mX5_advance (fun r σ' => R mj_OC (d + 1) mX10_tried Q 165 [some (rV 0 0), some (iV x1), some (iV x2), some (iV x3), some (iV x4)] (r.toList ++ []) σ') 0 [some (rV 7 0), some (rV 6 2), some (iV x3), none] [] (uI (uI (uI (uI (uI σ 7 0 1 (1 : Int32)) 7 0 2 (0 : Int32)) 7 0 5 (-1 : Int32)) 7 0 3 (0 : Int32)) 7 0 4 (1 : Int32)))))) ∧ (¬ x1 = (3 : Int32) → ((¬ x1 = (4 : Int32) → (R mj_OC d mX5_advance (fun r σ' => R mj_OC (d + 1) mX10_tried Q 165 [some (rV 0 0), some (iV x1), some (iV x2), some (iV x3), some (iV x4)] (r.toList ++ []) σ') 0 [some (rV 7 0), some (rV 6 2), some (iV x3), none] [] (uI (uI (uI (uI (uI σ 7 0 1 (1 : Int32)) 7 0 2 (0 : Int32)) 7 0 5 (-1 : Int32)) 7 0 3 (1 : Int32)) 7 0 4 (0 : Int32)))) ∧ (x1 = (4 : Int32) → (R mj_OC d mX5_advance (fun r σ' => R mj_OC (d + 1) mX10_tried Q 165 [some (rV 0 0), some (iV x1), some (iV x2), some (iV x3), some (iV x4)] (r.toList ++ []) σ') 0 [some (rV 7 0), some (rV 6 2), some (iV x3), none] [] (uI (uI (uI (uI (uI σ 7 0 1 (1 : Int32)) 7 0 2 (0 : Int32)) 7 0 5 (-1 : Int32)) 7 0 3 (1 : Int32)) 7 0 4 (1 : Int32)))))))) ∧ (x1 = (2 : Int32) → ((x1 = (3 : Int32) → ((¬ x1 = (4 : Int32) → (R mj_OC d mX5_advance (fun r σ' => R mj_OC (d + 1) mX10_tried Q 165 [some (rV 0 0), some (iV x1), some (iV x2), some (iV x3), some (iV x4)] (r.toList ++ []) σ') 0 [some (rV 7 0), some (rV 6 2), some (iV x3), none] [] (uI (uI (uI (uI (uI σ 7 0 1 (1 : Int32)) 7 0 2 (0 : Int32)) 7 0 5 x2) 7 0 3 (0 : Int32)) 7 0 4 (0 : Int32)))) ∧ (x1 = (4 : Int32) → (R mj_OC d mX5_advance (fun r σ' => R mj_OC (d + 1) mX10_tried Q 165 [some (rV 0 0), some (iV x1), some (iV x2), some (iV x3), some (iV x4)] (r.toList ++ []) σ') 0 [some (rV 7 0), some (rV 6 2), some (iV x3), none] [] (uI (uI (uI (uI (uI σ 7 0 1 (1 : Int32)) 7 0 2 (0 : Int32)) 7 0 5 x2) 7 0 3 (0 : Int32)) 7 0 4 (1 : Int32)))))) ∧ (¬ x1 = (3 : Int32) → ((¬ x1 = (4 : Int32) → (R mj_OC d mX5_advance (fun r σ' => R mj_OC (d + 1) mX10_tried Q 165 [some (rV 0 0), some (iV x1), some (iV x2), some (iV x3), some (iV x4)] (r.toList ++ []) σ') 0 [some (rV 7 0), some (rV 6 2), some (iV x3), none] [] (uI (uI (uI (uI (uI σ 7 0 1 (1 : Int32)) 7 0 2 (0 : Int32)) 7 0 5 x2) 7 0 3 (1 : Int32)) 7 0 4 (0 : Int32)))) ∧ (x1 = (4 : Int32) → (R mj_OC d mX5_advance (fun r σ' => R mj_OC (d + 1) mX10_tried Q 165 [some (rV 0 0), some (iV x1), some (iV x2), some (iV x3), some (iV x4)] (r.toList ++ []) σ') 0 [some (rV 7 0), some (rV 6 2), some (iV x3), none] [] (uI (uI (uI (uI (uI σ 7 0 1 (1 : Int32)) 7 0 2 (0 : Int32)) 7 0 5 x2) 7 0 3 (1 : Int32)) 7 0 4 (1 : Int32)))))))))) ∧ (¬ x1 = (1 : Int32) → ((¬ x1 = (2 : Int32) → ((x1 = (3 : Int32) → ((¬ x1 = (4 : Int32) → (R mj_OC d mX5_advance (fun r σ' => R mj_OC (d + 1) mX10_tried Q 165 [some (rV 0 0), some (iV x1), some (iV x2), some (iV x3), some (iV x4)] (r.toList ++ []) σ') 0 [some (rV 7 0), some (rV 6 2), some (iV x3), none] [] (uI (uI (uI (uI (uI σ 7 0 1 (1 : Int32)) 7 0 2 (1 : Int32)) 7 0 5 (-1 : Int32)) 7 0 3 (0 : Int32)) 7 0 4 (0 : Int32)))) ∧ (x1 = (4 : Int32) → (R mj_OC d mX5_advance (fun r σ' => R mj_OC (d + 1) mX10_tried Q 165 [some (rV 0 0), some (iV x1), some (iV x2), some (iV x3), some (iV x4)] (r.toList ++ []) σ') 0 [some (rV 7 0), some (rV 6 2), some (iV x3), none] [] (uI (uI (uI (uI (uI σ 7 0 1 (1 : Int32)) 7 0 2 (1 : Int32)) 7 0 5 (-1 : Int32)) 7 0 3 (0 : Int32)) 7 0 4 (1 : Int32)))))) ∧ (¬ x1 = (3 : Int32) → ((¬ x1 = (4 : Int32) → (R mj_OC d mX5_advance (fun r σ' => R mj_OC (d + 1) mX10_tried Q 165 [some (rV 0 0), some (iV x1), some (iV x2), some (iV x3), some (iV x4)] (r.toList ++ []) σ') 0 [some (rV 7 0), some (rV 6 2), some (iV x3), none] [] (uI (uI (uI (uI (uI σ 7 0 1 (1 : Int32)) 7 0 2 (1 : Int32)) 7 0 5 (-1 : Int32)) 7 0 3 (1 : Int32)) 7 0 4 (0 : Int32)))) ∧ (x1 = (4 : Int32) → (R mj_OC d mX5_advance (fun r σ' => R mj_OC (d + 1) mX10_tried Q 165 [some (rV 0 0), some (iV x1), some (iV x2), some (iV x3), some (iV x4)] (r.toList ++ []) σ') 0 [some (rV 7 0), some (rV 6 2), some (iV x3), none] [] (uI (uI (uI (uI (uI σ 7 0 1 (1 : Int32)) 7 0 2 (1 : Int32)) 7 0 5 (-1 : Int32)) 7 0 3 (1 : Int32)) 7 0 4 (1 : Int32)))))))) ∧ (x1 = (2 : Int32) → ((x1 = (3 : Int32) → ((¬ x1 = (4 : Int32) → (R mj_OC d mX5_advance (fun r σ' => R mj_OC (d + 1) mX10_tried Q 165 [some (rV 0 0), some (iV x1), some (iV x2), some (iV x3), some (iV x4)] (r.toList ++ []) σ') 0 [some (rV 7 0), some (rV 6 2), some (iV x3), none] [] (uI (uI (uI (uI (uI σ 7 0 1 (1 : Int32)) 7 0 2 (1 : Int32)) 7 0 5 x2) 7 0 3 (0 : Int32)) 7 0 4 (0 : Int32)))) ∧ (x1 = (4 : Int32) → (R mj_OC d mX5_advance (fun r σ' => R mj_OC (d + 1) mX10_tried Q 165 [some (rV 0 0), some (iV x1), some (iV x2), some (iV x3), some (iV x4)] (r.toList ++ []) σ') 0 [some (rV 7 0), some (rV 6 2), some (iV x3), none] [] (uI (uI (uI (uI (uI σ 7 0 1 (1 : Int32)) 7 0 2 (1 : Int32)) 7 0 5 x2) 7 0 3 (0 : Int32)) 7 0 4 (1 : Int32)))))) ∧ (¬ x1 = (3 : Int32) → ((¬ x1 = (4 : Int32) → (R mj_OC d mX5_advance (fun r σ' => R mj_OC (d + 1) mX10_tried Q 165 [some (rV 0 0), some (iV x1), some (iV x2), some (iV x3), some (iV x4)] (r.toList ++ []) σ') 0 [some (rV 7 0), some (rV 6 2), some (iV x3), none] [] (uI (uI (uI (uI (uI σ 7 0 1 (1 : Int32)) 7 0 2 (1 : Int32)) 7 0 5 x2) 7 0 3 (1 : Int32)) 7 0 4 (0 : Int32)))) ∧ (x1 = (4 : Int32) → (R mj_OC d mX5_advance (fun r σ' => R mj_OC (d + 1) mX10_tried Q 165 [some (rV 0 0), some (iV x1), some (iV x2), some (iV x3), some (iV x4)] (r.toList ++ []) σ') 0 [some (rV 7 0), some (rV 6 2), some (iV x3), none] [] (uI (uI (uI (uI (uI σ 7 0 1 (1 : Int32)) 7 0 2 (1 : Int32)) 7 0 5 x2) 7 0 3 (1 : Int32)) 7 0 4 (1 : Int32)))))))))))))) : R mj_OC (d + 1) mX10_tried Q 69 [some (rV 0 0), some (iV x1), some (iV x2), some (iV x3), some (iV x4)] [] σ := by
  refine r_aload_n dX10_tried_69 rfl rfl ?_
  refine r_get (k := 0) (i := 0) (j := 4) (v := rV 7 0) rfl rfl ho0 rfl hX10 (by decide) rfl fX10_43 dX10_tried_70 (fun _ => rfl) ?_
  refine r_iload_n dX10_tried_73 rfl rfl ?_
  refine r_if_eq (tgt := 81) dX10_tried_74 (by decide) (fun c => ?_) (fun c => ?_)
  · have H := H.1 c
    refine r_iconst (v := (0 : Int32)) dX10_tried_81 rfl ?_
    refine r_putI (k := 7) (i := 0) (j := 1) (ty0 := tyX5) rfl rfl ho7 rfl hX5 (by decide) rfl fX10_391 dX10_tried_82 rfl tyX5_ok nmX5 rfl (by decide) (by decide) ?_
    refine r_aload_n dX10_tried_85 rfl rfl ?_
    refine r_get (k := 0) (i := 0) (j := 4) (v := rV 7 0) rfl rfl ho0 rfl hX10 (by decide) rfl fX10_43 dX10_tried_86 (fun _ => rfl) ?_
    refine r_iload_n dX10_tried_89 rfl rfl ?_
    refine r_iconst (v := (1 : Int32)) dX10_tried_90 rfl ?_
    refine r_icmp_eq (tgt := 98) dX10_tried_91 (by decide) (fun c => ?_) (fun c => ?_)
    · have H := H.1 c
      refine r_iconst (v := (0 : Int32)) dX10_tried_98 rfl ?_
      refine r_putI (k := 7) (i := 0) (j := 2) (ty0 := tyX5) rfl rfl ho7 rfl hX5 (by decide) rfl fX10_394 dX10_tried_99 rfl tyX5_ok nmX5 rfl (by decide) (by decide) ?_
      refine r_aload_n dX10_tried_102 rfl rfl ?_
      refine r_get (k := 0) (i := 0) (j := 4) (v := rV 7 0) rfl rfl ho0 rfl hX10 (by decide) rfl fX10_43 dX10_tried_103 (fun _ => rfl) ?_
      refine r_iload_n dX10_tried_106 rfl rfl ?_
      refine r_iconst (v := (2 : Int32)) dX10_tried_107 rfl ?_
      refine r_icmp_ne (tgt := 115) dX10_tried_108 (by decide) (fun c => ?_) (fun c => ?_)
      · have H := H.1 c
        refine r_iconst (v := (-1 : Int32)) dX10_tried_115 rfl ?_
        refine r_putI (k := 7) (i := 0) (j := 5) (ty0 := tyX5) rfl rfl ho7 rfl hX5 (by decide) rfl fX10_397 dX10_tried_116 rfl tyX5_ok nmX5 rfl rfl rfl ?_
        refine r_aload_n dX10_tried_119 rfl rfl ?_
        refine r_get (k := 0) (i := 0) (j := 4) (v := rV 7 0) rfl rfl ho0 rfl hX10 (by decide) rfl fX10_43 dX10_tried_120 (fun _ => rfl) ?_
        refine r_iload_n dX10_tried_123 rfl rfl ?_
        refine r_iconst (v := (3 : Int32)) dX10_tried_124 rfl ?_
        refine r_icmp_eq (tgt := 132) dX10_tried_125 (by decide) (fun c => ?_) (fun c => ?_)
        · have H := H.1 c
          refine r_iconst (v := (0 : Int32)) dX10_tried_132 rfl ?_
          refine r_putI (k := 7) (i := 0) (j := 3) (ty0 := tyX5) rfl rfl ho7 rfl hX5 (by decide) rfl fX10_400 dX10_tried_133 rfl tyX5_ok nmX5 rfl (by decide) (by decide) ?_
          refine r_aload_n dX10_tried_136 rfl rfl ?_
          refine r_get (k := 0) (i := 0) (j := 4) (v := rV 7 0) rfl rfl ho0 rfl hX10 (by decide) rfl fX10_43 dX10_tried_137 (fun _ => rfl) ?_
          refine r_iload_n dX10_tried_140 rfl rfl ?_
          refine r_iconst (v := (4 : Int32)) dX10_tried_141 rfl ?_
          refine r_icmp_ne (tgt := 149) dX10_tried_142 (by decide) (fun c => ?_) (fun c => ?_)
          · have H := H.1 c
            refine r_iconst (v := (0 : Int32)) dX10_tried_149 rfl ?_
            refine r_putI (k := 7) (i := 0) (j := 4) (ty0 := tyX5) rfl rfl ho7 rfl hX5 (by decide) rfl fX10_403 dX10_tried_150 rfl tyX5_ok nmX5 rfl (by decide) (by decide) ?_
            refine r_aload_n dX10_tried_153 rfl rfl ?_
            refine r_get (k := 0) (i := 0) (j := 4) (v := rV 7 0) rfl rfl ho0 rfl hX10 (by decide) rfl fX10_43 dX10_tried_154 (fun _ => rfl) ?_
            refine r_aload_n dX10_tried_157 rfl rfl ?_
            refine r_get (k := 0) (i := 0) (j := 3) (v := rV 6 2) rfl rfl ho0 rfl hX10 (by decide) rfl fX10_37 dX10_tried_158 (fun _ => rfl) ?_
            refine r_iload_n dX10_tried_161 rfl rfl ?_
            refine r_callV (z := 1) (k := 7) (i := 0) (As := [rV 6 2, iV x3]) (st := []) kX5_advance i_X5_advance e_X5_advance lX10_268 dX10_tried_162 rfl rfl ho7 rfl rfl rfl rfl rfl (Nat.le_of_ble_eq_true rfl) ?_
            exact H
          · have H := H.2 c
            refine r_iconst (v := (1 : Int32)) dX10_tried_145 rfl ?_
            refine r_goto (tgt := 150) dX10_tried_146 (by decide) ?_
            refine r_putI (k := 7) (i := 0) (j := 4) (ty0 := tyX5) rfl rfl ho7 rfl hX5 (by decide) rfl fX10_403 dX10_tried_150 rfl tyX5_ok nmX5 rfl (by decide) (by decide) ?_
            refine r_aload_n dX10_tried_153 rfl rfl ?_
            refine r_get (k := 0) (i := 0) (j := 4) (v := rV 7 0) rfl rfl ho0 rfl hX10 (by decide) rfl fX10_43 dX10_tried_154 (fun _ => rfl) ?_
            refine r_aload_n dX10_tried_157 rfl rfl ?_
            refine r_get (k := 0) (i := 0) (j := 3) (v := rV 6 2) rfl rfl ho0 rfl hX10 (by decide) rfl fX10_37 dX10_tried_158 (fun _ => rfl) ?_
            refine r_iload_n dX10_tried_161 rfl rfl ?_
            refine r_callV (z := 1) (k := 7) (i := 0) (As := [rV 6 2, iV x3]) (st := []) kX5_advance i_X5_advance e_X5_advance lX10_268 dX10_tried_162 rfl rfl ho7 rfl rfl rfl rfl rfl (Nat.le_of_ble_eq_true rfl) ?_
            exact H
        · have H := H.2 c
          refine r_iconst (v := (1 : Int32)) dX10_tried_128 rfl ?_
          refine r_goto (tgt := 133) dX10_tried_129 (by decide) ?_
          refine r_putI (k := 7) (i := 0) (j := 3) (ty0 := tyX5) rfl rfl ho7 rfl hX5 (by decide) rfl fX10_400 dX10_tried_133 rfl tyX5_ok nmX5 rfl (by decide) (by decide) ?_
          refine r_aload_n dX10_tried_136 rfl rfl ?_
          refine r_get (k := 0) (i := 0) (j := 4) (v := rV 7 0) rfl rfl ho0 rfl hX10 (by decide) rfl fX10_43 dX10_tried_137 (fun _ => rfl) ?_
          refine r_iload_n dX10_tried_140 rfl rfl ?_
          refine r_iconst (v := (4 : Int32)) dX10_tried_141 rfl ?_
          refine r_icmp_ne (tgt := 149) dX10_tried_142 (by decide) (fun c => ?_) (fun c => ?_)
          · have H := H.1 c
            refine r_iconst (v := (0 : Int32)) dX10_tried_149 rfl ?_
            refine r_putI (k := 7) (i := 0) (j := 4) (ty0 := tyX5) rfl rfl ho7 rfl hX5 (by decide) rfl fX10_403 dX10_tried_150 rfl tyX5_ok nmX5 rfl (by decide) (by decide) ?_
            refine r_aload_n dX10_tried_153 rfl rfl ?_
            refine r_get (k := 0) (i := 0) (j := 4) (v := rV 7 0) rfl rfl ho0 rfl hX10 (by decide) rfl fX10_43 dX10_tried_154 (fun _ => rfl) ?_
            refine r_aload_n dX10_tried_157 rfl rfl ?_
            refine r_get (k := 0) (i := 0) (j := 3) (v := rV 6 2) rfl rfl ho0 rfl hX10 (by decide) rfl fX10_37 dX10_tried_158 (fun _ => rfl) ?_
            refine r_iload_n dX10_tried_161 rfl rfl ?_
            refine r_callV (z := 1) (k := 7) (i := 0) (As := [rV 6 2, iV x3]) (st := []) kX5_advance i_X5_advance e_X5_advance lX10_268 dX10_tried_162 rfl rfl ho7 rfl rfl rfl rfl rfl (Nat.le_of_ble_eq_true rfl) ?_
            exact H
          · have H := H.2 c
            refine r_iconst (v := (1 : Int32)) dX10_tried_145 rfl ?_
            refine r_goto (tgt := 150) dX10_tried_146 (by decide) ?_
            refine r_putI (k := 7) (i := 0) (j := 4) (ty0 := tyX5) rfl rfl ho7 rfl hX5 (by decide) rfl fX10_403 dX10_tried_150 rfl tyX5_ok nmX5 rfl (by decide) (by decide) ?_
            refine r_aload_n dX10_tried_153 rfl rfl ?_
            refine r_get (k := 0) (i := 0) (j := 4) (v := rV 7 0) rfl rfl ho0 rfl hX10 (by decide) rfl fX10_43 dX10_tried_154 (fun _ => rfl) ?_
            refine r_aload_n dX10_tried_157 rfl rfl ?_
            refine r_get (k := 0) (i := 0) (j := 3) (v := rV 6 2) rfl rfl ho0 rfl hX10 (by decide) rfl fX10_37 dX10_tried_158 (fun _ => rfl) ?_
            refine r_iload_n dX10_tried_161 rfl rfl ?_
            refine r_callV (z := 1) (k := 7) (i := 0) (As := [rV 6 2, iV x3]) (st := []) kX5_advance i_X5_advance e_X5_advance lX10_268 dX10_tried_162 rfl rfl ho7 rfl rfl rfl rfl rfl (Nat.le_of_ble_eq_true rfl) ?_
            exact H
      · have H := H.2 c
        refine r_iload_n dX10_tried_111 rfl rfl ?_
        refine r_goto (tgt := 116) dX10_tried_112 (by decide) ?_
        refine r_putI (k := 7) (i := 0) (j := 5) (ty0 := tyX5) rfl rfl ho7 rfl hX5 (by decide) rfl fX10_397 dX10_tried_116 rfl tyX5_ok nmX5 rfl rfl rfl ?_
        refine r_aload_n dX10_tried_119 rfl rfl ?_
        refine r_get (k := 0) (i := 0) (j := 4) (v := rV 7 0) rfl rfl ho0 rfl hX10 (by decide) rfl fX10_43 dX10_tried_120 (fun _ => rfl) ?_
        refine r_iload_n dX10_tried_123 rfl rfl ?_
        refine r_iconst (v := (3 : Int32)) dX10_tried_124 rfl ?_
        refine r_icmp_eq (tgt := 132) dX10_tried_125 (by decide) (fun c => ?_) (fun c => ?_)
        · have H := H.1 c
          refine r_iconst (v := (0 : Int32)) dX10_tried_132 rfl ?_
          refine r_putI (k := 7) (i := 0) (j := 3) (ty0 := tyX5) rfl rfl ho7 rfl hX5 (by decide) rfl fX10_400 dX10_tried_133 rfl tyX5_ok nmX5 rfl (by decide) (by decide) ?_
          refine r_aload_n dX10_tried_136 rfl rfl ?_
          refine r_get (k := 0) (i := 0) (j := 4) (v := rV 7 0) rfl rfl ho0 rfl hX10 (by decide) rfl fX10_43 dX10_tried_137 (fun _ => rfl) ?_
          refine r_iload_n dX10_tried_140 rfl rfl ?_
          refine r_iconst (v := (4 : Int32)) dX10_tried_141 rfl ?_
          refine r_icmp_ne (tgt := 149) dX10_tried_142 (by decide) (fun c => ?_) (fun c => ?_)
          · have H := H.1 c
            refine r_iconst (v := (0 : Int32)) dX10_tried_149 rfl ?_
            refine r_putI (k := 7) (i := 0) (j := 4) (ty0 := tyX5) rfl rfl ho7 rfl hX5 (by decide) rfl fX10_403 dX10_tried_150 rfl tyX5_ok nmX5 rfl (by decide) (by decide) ?_
            refine r_aload_n dX10_tried_153 rfl rfl ?_
            refine r_get (k := 0) (i := 0) (j := 4) (v := rV 7 0) rfl rfl ho0 rfl hX10 (by decide) rfl fX10_43 dX10_tried_154 (fun _ => rfl) ?_
            refine r_aload_n dX10_tried_157 rfl rfl ?_
            refine r_get (k := 0) (i := 0) (j := 3) (v := rV 6 2) rfl rfl ho0 rfl hX10 (by decide) rfl fX10_37 dX10_tried_158 (fun _ => rfl) ?_
            refine r_iload_n dX10_tried_161 rfl rfl ?_
            refine r_callV (z := 1) (k := 7) (i := 0) (As := [rV 6 2, iV x3]) (st := []) kX5_advance i_X5_advance e_X5_advance lX10_268 dX10_tried_162 rfl rfl ho7 rfl rfl rfl rfl rfl (Nat.le_of_ble_eq_true rfl) ?_
            exact H
          · have H := H.2 c
            refine r_iconst (v := (1 : Int32)) dX10_tried_145 rfl ?_
            refine r_goto (tgt := 150) dX10_tried_146 (by decide) ?_
            refine r_putI (k := 7) (i := 0) (j := 4) (ty0 := tyX5) rfl rfl ho7 rfl hX5 (by decide) rfl fX10_403 dX10_tried_150 rfl tyX5_ok nmX5 rfl (by decide) (by decide) ?_
            refine r_aload_n dX10_tried_153 rfl rfl ?_
            refine r_get (k := 0) (i := 0) (j := 4) (v := rV 7 0) rfl rfl ho0 rfl hX10 (by decide) rfl fX10_43 dX10_tried_154 (fun _ => rfl) ?_
            refine r_aload_n dX10_tried_157 rfl rfl ?_
            refine r_get (k := 0) (i := 0) (j := 3) (v := rV 6 2) rfl rfl ho0 rfl hX10 (by decide) rfl fX10_37 dX10_tried_158 (fun _ => rfl) ?_
            refine r_iload_n dX10_tried_161 rfl rfl ?_
            refine r_callV (z := 1) (k := 7) (i := 0) (As := [rV 6 2, iV x3]) (st := []) kX5_advance i_X5_advance e_X5_advance lX10_268 dX10_tried_162 rfl rfl ho7 rfl rfl rfl rfl rfl (Nat.le_of_ble_eq_true rfl) ?_
            exact H
        · have H := H.2 c
          refine r_iconst (v := (1 : Int32)) dX10_tried_128 rfl ?_
          refine r_goto (tgt := 133) dX10_tried_129 (by decide) ?_
          refine r_putI (k := 7) (i := 0) (j := 3) (ty0 := tyX5) rfl rfl ho7 rfl hX5 (by decide) rfl fX10_400 dX10_tried_133 rfl tyX5_ok nmX5 rfl (by decide) (by decide) ?_
          refine r_aload_n dX10_tried_136 rfl rfl ?_
          refine r_get (k := 0) (i := 0) (j := 4) (v := rV 7 0) rfl rfl ho0 rfl hX10 (by decide) rfl fX10_43 dX10_tried_137 (fun _ => rfl) ?_
          refine r_iload_n dX10_tried_140 rfl rfl ?_
          refine r_iconst (v := (4 : Int32)) dX10_tried_141 rfl ?_
          refine r_icmp_ne (tgt := 149) dX10_tried_142 (by decide) (fun c => ?_) (fun c => ?_)
          · have H := H.1 c
            refine r_iconst (v := (0 : Int32)) dX10_tried_149 rfl ?_
            refine r_putI (k := 7) (i := 0) (j := 4) (ty0 := tyX5) rfl rfl ho7 rfl hX5 (by decide) rfl fX10_403 dX10_tried_150 rfl tyX5_ok nmX5 rfl (by decide) (by decide) ?_
            refine r_aload_n dX10_tried_153 rfl rfl ?_
            refine r_get (k := 0) (i := 0) (j := 4) (v := rV 7 0) rfl rfl ho0 rfl hX10 (by decide) rfl fX10_43 dX10_tried_154 (fun _ => rfl) ?_
            refine r_aload_n dX10_tried_157 rfl rfl ?_
            refine r_get (k := 0) (i := 0) (j := 3) (v := rV 6 2) rfl rfl ho0 rfl hX10 (by decide) rfl fX10_37 dX10_tried_158 (fun _ => rfl) ?_
            refine r_iload_n dX10_tried_161 rfl rfl ?_
            refine r_callV (z := 1) (k := 7) (i := 0) (As := [rV 6 2, iV x3]) (st := []) kX5_advance i_X5_advance e_X5_advance lX10_268 dX10_tried_162 rfl rfl ho7 rfl rfl rfl rfl rfl (Nat.le_of_ble_eq_true rfl) ?_
            exact H
          · have H := H.2 c
            refine r_iconst (v := (1 : Int32)) dX10_tried_145 rfl ?_
            refine r_goto (tgt := 150) dX10_tried_146 (by decide) ?_
            refine r_putI (k := 7) (i := 0) (j := 4) (ty0 := tyX5) rfl rfl ho7 rfl hX5 (by decide) rfl fX10_403 dX10_tried_150 rfl tyX5_ok nmX5 rfl (by decide) (by decide) ?_
            refine r_aload_n dX10_tried_153 rfl rfl ?_
            refine r_get (k := 0) (i := 0) (j := 4) (v := rV 7 0) rfl rfl ho0 rfl hX10 (by decide) rfl fX10_43 dX10_tried_154 (fun _ => rfl) ?_
            refine r_aload_n dX10_tried_157 rfl rfl ?_
            refine r_get (k := 0) (i := 0) (j := 3) (v := rV 6 2) rfl rfl ho0 rfl hX10 (by decide) rfl fX10_37 dX10_tried_158 (fun _ => rfl) ?_
            refine r_iload_n dX10_tried_161 rfl rfl ?_
            refine r_callV (z := 1) (k := 7) (i := 0) (As := [rV 6 2, iV x3]) (st := []) kX5_advance i_X5_advance e_X5_advance lX10_268 dX10_tried_162 rfl rfl ho7 rfl rfl rfl rfl rfl (Nat.le_of_ble_eq_true rfl) ?_
            exact H
    · have H := H.2 c
      refine r_iconst (v := (1 : Int32)) dX10_tried_94 rfl ?_
      refine r_goto (tgt := 99) dX10_tried_95 (by decide) ?_
      refine r_putI (k := 7) (i := 0) (j := 2) (ty0 := tyX5) rfl rfl ho7 rfl hX5 (by decide) rfl fX10_394 dX10_tried_99 rfl tyX5_ok nmX5 rfl (by decide) (by decide) ?_
      refine r_aload_n dX10_tried_102 rfl rfl ?_
      refine r_get (k := 0) (i := 0) (j := 4) (v := rV 7 0) rfl rfl ho0 rfl hX10 (by decide) rfl fX10_43 dX10_tried_103 (fun _ => rfl) ?_
      refine r_iload_n dX10_tried_106 rfl rfl ?_
      refine r_iconst (v := (2 : Int32)) dX10_tried_107 rfl ?_
      refine r_icmp_ne (tgt := 115) dX10_tried_108 (by decide) (fun c => ?_) (fun c => ?_)
      · have H := H.1 c
        refine r_iconst (v := (-1 : Int32)) dX10_tried_115 rfl ?_
        refine r_putI (k := 7) (i := 0) (j := 5) (ty0 := tyX5) rfl rfl ho7 rfl hX5 (by decide) rfl fX10_397 dX10_tried_116 rfl tyX5_ok nmX5 rfl rfl rfl ?_
        refine r_aload_n dX10_tried_119 rfl rfl ?_
        refine r_get (k := 0) (i := 0) (j := 4) (v := rV 7 0) rfl rfl ho0 rfl hX10 (by decide) rfl fX10_43 dX10_tried_120 (fun _ => rfl) ?_
        refine r_iload_n dX10_tried_123 rfl rfl ?_
        refine r_iconst (v := (3 : Int32)) dX10_tried_124 rfl ?_
        refine r_icmp_eq (tgt := 132) dX10_tried_125 (by decide) (fun c => ?_) (fun c => ?_)
        · have H := H.1 c
          refine r_iconst (v := (0 : Int32)) dX10_tried_132 rfl ?_
          refine r_putI (k := 7) (i := 0) (j := 3) (ty0 := tyX5) rfl rfl ho7 rfl hX5 (by decide) rfl fX10_400 dX10_tried_133 rfl tyX5_ok nmX5 rfl (by decide) (by decide) ?_
          refine r_aload_n dX10_tried_136 rfl rfl ?_
          refine r_get (k := 0) (i := 0) (j := 4) (v := rV 7 0) rfl rfl ho0 rfl hX10 (by decide) rfl fX10_43 dX10_tried_137 (fun _ => rfl) ?_
          refine r_iload_n dX10_tried_140 rfl rfl ?_
          refine r_iconst (v := (4 : Int32)) dX10_tried_141 rfl ?_
          refine r_icmp_ne (tgt := 149) dX10_tried_142 (by decide) (fun c => ?_) (fun c => ?_)
          · have H := H.1 c
            refine r_iconst (v := (0 : Int32)) dX10_tried_149 rfl ?_
            refine r_putI (k := 7) (i := 0) (j := 4) (ty0 := tyX5) rfl rfl ho7 rfl hX5 (by decide) rfl fX10_403 dX10_tried_150 rfl tyX5_ok nmX5 rfl (by decide) (by decide) ?_
            refine r_aload_n dX10_tried_153 rfl rfl ?_
            refine r_get (k := 0) (i := 0) (j := 4) (v := rV 7 0) rfl rfl ho0 rfl hX10 (by decide) rfl fX10_43 dX10_tried_154 (fun _ => rfl) ?_
            refine r_aload_n dX10_tried_157 rfl rfl ?_
            refine r_get (k := 0) (i := 0) (j := 3) (v := rV 6 2) rfl rfl ho0 rfl hX10 (by decide) rfl fX10_37 dX10_tried_158 (fun _ => rfl) ?_
            refine r_iload_n dX10_tried_161 rfl rfl ?_
            refine r_callV (z := 1) (k := 7) (i := 0) (As := [rV 6 2, iV x3]) (st := []) kX5_advance i_X5_advance e_X5_advance lX10_268 dX10_tried_162 rfl rfl ho7 rfl rfl rfl rfl rfl (Nat.le_of_ble_eq_true rfl) ?_
            exact H
          · have H := H.2 c
            refine r_iconst (v := (1 : Int32)) dX10_tried_145 rfl ?_
            refine r_goto (tgt := 150) dX10_tried_146 (by decide) ?_
            refine r_putI (k := 7) (i := 0) (j := 4) (ty0 := tyX5) rfl rfl ho7 rfl hX5 (by decide) rfl fX10_403 dX10_tried_150 rfl tyX5_ok nmX5 rfl (by decide) (by decide) ?_
            refine r_aload_n dX10_tried_153 rfl rfl ?_
            refine r_get (k := 0) (i := 0) (j := 4) (v := rV 7 0) rfl rfl ho0 rfl hX10 (by decide) rfl fX10_43 dX10_tried_154 (fun _ => rfl) ?_
            refine r_aload_n dX10_tried_157 rfl rfl ?_
            refine r_get (k := 0) (i := 0) (j := 3) (v := rV 6 2) rfl rfl ho0 rfl hX10 (by decide) rfl fX10_37 dX10_tried_158 (fun _ => rfl) ?_
            refine r_iload_n dX10_tried_161 rfl rfl ?_
            refine r_callV (z := 1) (k := 7) (i := 0) (As := [rV 6 2, iV x3]) (st := []) kX5_advance i_X5_advance e_X5_advance lX10_268 dX10_tried_162 rfl rfl ho7 rfl rfl rfl rfl rfl (Nat.le_of_ble_eq_true rfl) ?_
            exact H
        · have H := H.2 c
          refine r_iconst (v := (1 : Int32)) dX10_tried_128 rfl ?_
          refine r_goto (tgt := 133) dX10_tried_129 (by decide) ?_
          refine r_putI (k := 7) (i := 0) (j := 3) (ty0 := tyX5) rfl rfl ho7 rfl hX5 (by decide) rfl fX10_400 dX10_tried_133 rfl tyX5_ok nmX5 rfl (by decide) (by decide) ?_
          refine r_aload_n dX10_tried_136 rfl rfl ?_
          refine r_get (k := 0) (i := 0) (j := 4) (v := rV 7 0) rfl rfl ho0 rfl hX10 (by decide) rfl fX10_43 dX10_tried_137 (fun _ => rfl) ?_
          refine r_iload_n dX10_tried_140 rfl rfl ?_
          refine r_iconst (v := (4 : Int32)) dX10_tried_141 rfl ?_
          refine r_icmp_ne (tgt := 149) dX10_tried_142 (by decide) (fun c => ?_) (fun c => ?_)
          · have H := H.1 c
            refine r_iconst (v := (0 : Int32)) dX10_tried_149 rfl ?_
            refine r_putI (k := 7) (i := 0) (j := 4) (ty0 := tyX5) rfl rfl ho7 rfl hX5 (by decide) rfl fX10_403 dX10_tried_150 rfl tyX5_ok nmX5 rfl (by decide) (by decide) ?_
            refine r_aload_n dX10_tried_153 rfl rfl ?_
            refine r_get (k := 0) (i := 0) (j := 4) (v := rV 7 0) rfl rfl ho0 rfl hX10 (by decide) rfl fX10_43 dX10_tried_154 (fun _ => rfl) ?_
            refine r_aload_n dX10_tried_157 rfl rfl ?_
            refine r_get (k := 0) (i := 0) (j := 3) (v := rV 6 2) rfl rfl ho0 rfl hX10 (by decide) rfl fX10_37 dX10_tried_158 (fun _ => rfl) ?_
            refine r_iload_n dX10_tried_161 rfl rfl ?_
            refine r_callV (z := 1) (k := 7) (i := 0) (As := [rV 6 2, iV x3]) (st := []) kX5_advance i_X5_advance e_X5_advance lX10_268 dX10_tried_162 rfl rfl ho7 rfl rfl rfl rfl rfl (Nat.le_of_ble_eq_true rfl) ?_
            exact H
          · have H := H.2 c
            refine r_iconst (v := (1 : Int32)) dX10_tried_145 rfl ?_
            refine r_goto (tgt := 150) dX10_tried_146 (by decide) ?_
            refine r_putI (k := 7) (i := 0) (j := 4) (ty0 := tyX5) rfl rfl ho7 rfl hX5 (by decide) rfl fX10_403 dX10_tried_150 rfl tyX5_ok nmX5 rfl (by decide) (by decide) ?_
            refine r_aload_n dX10_tried_153 rfl rfl ?_
            refine r_get (k := 0) (i := 0) (j := 4) (v := rV 7 0) rfl rfl ho0 rfl hX10 (by decide) rfl fX10_43 dX10_tried_154 (fun _ => rfl) ?_
            refine r_aload_n dX10_tried_157 rfl rfl ?_
            refine r_get (k := 0) (i := 0) (j := 3) (v := rV 6 2) rfl rfl ho0 rfl hX10 (by decide) rfl fX10_37 dX10_tried_158 (fun _ => rfl) ?_
            refine r_iload_n dX10_tried_161 rfl rfl ?_
            refine r_callV (z := 1) (k := 7) (i := 0) (As := [rV 6 2, iV x3]) (st := []) kX5_advance i_X5_advance e_X5_advance lX10_268 dX10_tried_162 rfl rfl ho7 rfl rfl rfl rfl rfl (Nat.le_of_ble_eq_true rfl) ?_
            exact H
      · have H := H.2 c
        refine r_iload_n dX10_tried_111 rfl rfl ?_
        refine r_goto (tgt := 116) dX10_tried_112 (by decide) ?_
        refine r_putI (k := 7) (i := 0) (j := 5) (ty0 := tyX5) rfl rfl ho7 rfl hX5 (by decide) rfl fX10_397 dX10_tried_116 rfl tyX5_ok nmX5 rfl rfl rfl ?_
        refine r_aload_n dX10_tried_119 rfl rfl ?_
        refine r_get (k := 0) (i := 0) (j := 4) (v := rV 7 0) rfl rfl ho0 rfl hX10 (by decide) rfl fX10_43 dX10_tried_120 (fun _ => rfl) ?_
        refine r_iload_n dX10_tried_123 rfl rfl ?_
        refine r_iconst (v := (3 : Int32)) dX10_tried_124 rfl ?_
        refine r_icmp_eq (tgt := 132) dX10_tried_125 (by decide) (fun c => ?_) (fun c => ?_)
        · have H := H.1 c
          refine r_iconst (v := (0 : Int32)) dX10_tried_132 rfl ?_
          refine r_putI (k := 7) (i := 0) (j := 3) (ty0 := tyX5) rfl rfl ho7 rfl hX5 (by decide) rfl fX10_400 dX10_tried_133 rfl tyX5_ok nmX5 rfl (by decide) (by decide) ?_
          refine r_aload_n dX10_tried_136 rfl rfl ?_
          refine r_get (k := 0) (i := 0) (j := 4) (v := rV 7 0) rfl rfl ho0 rfl hX10 (by decide) rfl fX10_43 dX10_tried_137 (fun _ => rfl) ?_
          refine r_iload_n dX10_tried_140 rfl rfl ?_
          refine r_iconst (v := (4 : Int32)) dX10_tried_141 rfl ?_
          refine r_icmp_ne (tgt := 149) dX10_tried_142 (by decide) (fun c => ?_) (fun c => ?_)
          · have H := H.1 c
            refine r_iconst (v := (0 : Int32)) dX10_tried_149 rfl ?_
            refine r_putI (k := 7) (i := 0) (j := 4) (ty0 := tyX5) rfl rfl ho7 rfl hX5 (by decide) rfl fX10_403 dX10_tried_150 rfl tyX5_ok nmX5 rfl (by decide) (by decide) ?_
            refine r_aload_n dX10_tried_153 rfl rfl ?_
            refine r_get (k := 0) (i := 0) (j := 4) (v := rV 7 0) rfl rfl ho0 rfl hX10 (by decide) rfl fX10_43 dX10_tried_154 (fun _ => rfl) ?_
            refine r_aload_n dX10_tried_157 rfl rfl ?_
            refine r_get (k := 0) (i := 0) (j := 3) (v := rV 6 2) rfl rfl ho0 rfl hX10 (by decide) rfl fX10_37 dX10_tried_158 (fun _ => rfl) ?_
            refine r_iload_n dX10_tried_161 rfl rfl ?_
            refine r_callV (z := 1) (k := 7) (i := 0) (As := [rV 6 2, iV x3]) (st := []) kX5_advance i_X5_advance e_X5_advance lX10_268 dX10_tried_162 rfl rfl ho7 rfl rfl rfl rfl rfl (Nat.le_of_ble_eq_true rfl) ?_
            exact H
          · have H := H.2 c
            refine r_iconst (v := (1 : Int32)) dX10_tried_145 rfl ?_
            refine r_goto (tgt := 150) dX10_tried_146 (by decide) ?_
            refine r_putI (k := 7) (i := 0) (j := 4) (ty0 := tyX5) rfl rfl ho7 rfl hX5 (by decide) rfl fX10_403 dX10_tried_150 rfl tyX5_ok nmX5 rfl (by decide) (by decide) ?_
            refine r_aload_n dX10_tried_153 rfl rfl ?_
            refine r_get (k := 0) (i := 0) (j := 4) (v := rV 7 0) rfl rfl ho0 rfl hX10 (by decide) rfl fX10_43 dX10_tried_154 (fun _ => rfl) ?_
            refine r_aload_n dX10_tried_157 rfl rfl ?_
            refine r_get (k := 0) (i := 0) (j := 3) (v := rV 6 2) rfl rfl ho0 rfl hX10 (by decide) rfl fX10_37 dX10_tried_158 (fun _ => rfl) ?_
            refine r_iload_n dX10_tried_161 rfl rfl ?_
            refine r_callV (z := 1) (k := 7) (i := 0) (As := [rV 6 2, iV x3]) (st := []) kX5_advance i_X5_advance e_X5_advance lX10_268 dX10_tried_162 rfl rfl ho7 rfl rfl rfl rfl rfl (Nat.le_of_ble_eq_true rfl) ?_
            exact H
        · have H := H.2 c
          refine r_iconst (v := (1 : Int32)) dX10_tried_128 rfl ?_
          refine r_goto (tgt := 133) dX10_tried_129 (by decide) ?_
          refine r_putI (k := 7) (i := 0) (j := 3) (ty0 := tyX5) rfl rfl ho7 rfl hX5 (by decide) rfl fX10_400 dX10_tried_133 rfl tyX5_ok nmX5 rfl (by decide) (by decide) ?_
          refine r_aload_n dX10_tried_136 rfl rfl ?_
          refine r_get (k := 0) (i := 0) (j := 4) (v := rV 7 0) rfl rfl ho0 rfl hX10 (by decide) rfl fX10_43 dX10_tried_137 (fun _ => rfl) ?_
          refine r_iload_n dX10_tried_140 rfl rfl ?_
          refine r_iconst (v := (4 : Int32)) dX10_tried_141 rfl ?_
          refine r_icmp_ne (tgt := 149) dX10_tried_142 (by decide) (fun c => ?_) (fun c => ?_)
          · have H := H.1 c
            refine r_iconst (v := (0 : Int32)) dX10_tried_149 rfl ?_
            refine r_putI (k := 7) (i := 0) (j := 4) (ty0 := tyX5) rfl rfl ho7 rfl hX5 (by decide) rfl fX10_403 dX10_tried_150 rfl tyX5_ok nmX5 rfl (by decide) (by decide) ?_
            refine r_aload_n dX10_tried_153 rfl rfl ?_
            refine r_get (k := 0) (i := 0) (j := 4) (v := rV 7 0) rfl rfl ho0 rfl hX10 (by decide) rfl fX10_43 dX10_tried_154 (fun _ => rfl) ?_
            refine r_aload_n dX10_tried_157 rfl rfl ?_
            refine r_get (k := 0) (i := 0) (j := 3) (v := rV 6 2) rfl rfl ho0 rfl hX10 (by decide) rfl fX10_37 dX10_tried_158 (fun _ => rfl) ?_
            refine r_iload_n dX10_tried_161 rfl rfl ?_
            refine r_callV (z := 1) (k := 7) (i := 0) (As := [rV 6 2, iV x3]) (st := []) kX5_advance i_X5_advance e_X5_advance lX10_268 dX10_tried_162 rfl rfl ho7 rfl rfl rfl rfl rfl (Nat.le_of_ble_eq_true rfl) ?_
            exact H
          · have H := H.2 c
            refine r_iconst (v := (1 : Int32)) dX10_tried_145 rfl ?_
            refine r_goto (tgt := 150) dX10_tried_146 (by decide) ?_
            refine r_putI (k := 7) (i := 0) (j := 4) (ty0 := tyX5) rfl rfl ho7 rfl hX5 (by decide) rfl fX10_403 dX10_tried_150 rfl tyX5_ok nmX5 rfl (by decide) (by decide) ?_
            refine r_aload_n dX10_tried_153 rfl rfl ?_
            refine r_get (k := 0) (i := 0) (j := 4) (v := rV 7 0) rfl rfl ho0 rfl hX10 (by decide) rfl fX10_43 dX10_tried_154 (fun _ => rfl) ?_
            refine r_aload_n dX10_tried_157 rfl rfl ?_
            refine r_get (k := 0) (i := 0) (j := 3) (v := rV 6 2) rfl rfl ho0 rfl hX10 (by decide) rfl fX10_37 dX10_tried_158 (fun _ => rfl) ?_
            refine r_iload_n dX10_tried_161 rfl rfl ?_
            refine r_callV (z := 1) (k := 7) (i := 0) (As := [rV 6 2, iV x3]) (st := []) kX5_advance i_X5_advance e_X5_advance lX10_268 dX10_tried_162 rfl rfl ho7 rfl rfl rfl rfl rfl (Nat.le_of_ble_eq_true rfl) ?_
            exact H
  · have H := H.2 c
    refine r_iconst (v := (1 : Int32)) dX10_tried_77 rfl ?_
    refine r_goto (tgt := 82) dX10_tried_78 (by decide) ?_
    refine r_putI (k := 7) (i := 0) (j := 1) (ty0 := tyX5) rfl rfl ho7 rfl hX5 (by decide) rfl fX10_391 dX10_tried_82 rfl tyX5_ok nmX5 rfl (by decide) (by decide) ?_
    refine r_aload_n dX10_tried_85 rfl rfl ?_
    refine r_get (k := 0) (i := 0) (j := 4) (v := rV 7 0) rfl rfl ho0 rfl hX10 (by decide) rfl fX10_43 dX10_tried_86 (fun _ => rfl) ?_
    refine r_iload_n dX10_tried_89 rfl rfl ?_
    refine r_iconst (v := (1 : Int32)) dX10_tried_90 rfl ?_
    refine r_icmp_eq (tgt := 98) dX10_tried_91 (by decide) (fun c => ?_) (fun c => ?_)
    · have H := H.1 c
      refine r_iconst (v := (0 : Int32)) dX10_tried_98 rfl ?_
      refine r_putI (k := 7) (i := 0) (j := 2) (ty0 := tyX5) rfl rfl ho7 rfl hX5 (by decide) rfl fX10_394 dX10_tried_99 rfl tyX5_ok nmX5 rfl (by decide) (by decide) ?_
      refine r_aload_n dX10_tried_102 rfl rfl ?_
      refine r_get (k := 0) (i := 0) (j := 4) (v := rV 7 0) rfl rfl ho0 rfl hX10 (by decide) rfl fX10_43 dX10_tried_103 (fun _ => rfl) ?_
      refine r_iload_n dX10_tried_106 rfl rfl ?_
      refine r_iconst (v := (2 : Int32)) dX10_tried_107 rfl ?_
      refine r_icmp_ne (tgt := 115) dX10_tried_108 (by decide) (fun c => ?_) (fun c => ?_)
      · have H := H.1 c
        refine r_iconst (v := (-1 : Int32)) dX10_tried_115 rfl ?_
        refine r_putI (k := 7) (i := 0) (j := 5) (ty0 := tyX5) rfl rfl ho7 rfl hX5 (by decide) rfl fX10_397 dX10_tried_116 rfl tyX5_ok nmX5 rfl rfl rfl ?_
        refine r_aload_n dX10_tried_119 rfl rfl ?_
        refine r_get (k := 0) (i := 0) (j := 4) (v := rV 7 0) rfl rfl ho0 rfl hX10 (by decide) rfl fX10_43 dX10_tried_120 (fun _ => rfl) ?_
        refine r_iload_n dX10_tried_123 rfl rfl ?_
        refine r_iconst (v := (3 : Int32)) dX10_tried_124 rfl ?_
        refine r_icmp_eq (tgt := 132) dX10_tried_125 (by decide) (fun c => ?_) (fun c => ?_)
        · have H := H.1 c
          refine r_iconst (v := (0 : Int32)) dX10_tried_132 rfl ?_
          refine r_putI (k := 7) (i := 0) (j := 3) (ty0 := tyX5) rfl rfl ho7 rfl hX5 (by decide) rfl fX10_400 dX10_tried_133 rfl tyX5_ok nmX5 rfl (by decide) (by decide) ?_
          refine r_aload_n dX10_tried_136 rfl rfl ?_
          refine r_get (k := 0) (i := 0) (j := 4) (v := rV 7 0) rfl rfl ho0 rfl hX10 (by decide) rfl fX10_43 dX10_tried_137 (fun _ => rfl) ?_
          refine r_iload_n dX10_tried_140 rfl rfl ?_
          refine r_iconst (v := (4 : Int32)) dX10_tried_141 rfl ?_
          refine r_icmp_ne (tgt := 149) dX10_tried_142 (by decide) (fun c => ?_) (fun c => ?_)
          · have H := H.1 c
            refine r_iconst (v := (0 : Int32)) dX10_tried_149 rfl ?_
            refine r_putI (k := 7) (i := 0) (j := 4) (ty0 := tyX5) rfl rfl ho7 rfl hX5 (by decide) rfl fX10_403 dX10_tried_150 rfl tyX5_ok nmX5 rfl (by decide) (by decide) ?_
            refine r_aload_n dX10_tried_153 rfl rfl ?_
            refine r_get (k := 0) (i := 0) (j := 4) (v := rV 7 0) rfl rfl ho0 rfl hX10 (by decide) rfl fX10_43 dX10_tried_154 (fun _ => rfl) ?_
            refine r_aload_n dX10_tried_157 rfl rfl ?_
            refine r_get (k := 0) (i := 0) (j := 3) (v := rV 6 2) rfl rfl ho0 rfl hX10 (by decide) rfl fX10_37 dX10_tried_158 (fun _ => rfl) ?_
            refine r_iload_n dX10_tried_161 rfl rfl ?_
            refine r_callV (z := 1) (k := 7) (i := 0) (As := [rV 6 2, iV x3]) (st := []) kX5_advance i_X5_advance e_X5_advance lX10_268 dX10_tried_162 rfl rfl ho7 rfl rfl rfl rfl rfl (Nat.le_of_ble_eq_true rfl) ?_
            exact H
          · have H := H.2 c
            refine r_iconst (v := (1 : Int32)) dX10_tried_145 rfl ?_
            refine r_goto (tgt := 150) dX10_tried_146 (by decide) ?_
            refine r_putI (k := 7) (i := 0) (j := 4) (ty0 := tyX5) rfl rfl ho7 rfl hX5 (by decide) rfl fX10_403 dX10_tried_150 rfl tyX5_ok nmX5 rfl (by decide) (by decide) ?_
            refine r_aload_n dX10_tried_153 rfl rfl ?_
            refine r_get (k := 0) (i := 0) (j := 4) (v := rV 7 0) rfl rfl ho0 rfl hX10 (by decide) rfl fX10_43 dX10_tried_154 (fun _ => rfl) ?_
            refine r_aload_n dX10_tried_157 rfl rfl ?_
            refine r_get (k := 0) (i := 0) (j := 3) (v := rV 6 2) rfl rfl ho0 rfl hX10 (by decide) rfl fX10_37 dX10_tried_158 (fun _ => rfl) ?_
            refine r_iload_n dX10_tried_161 rfl rfl ?_
            refine r_callV (z := 1) (k := 7) (i := 0) (As := [rV 6 2, iV x3]) (st := []) kX5_advance i_X5_advance e_X5_advance lX10_268 dX10_tried_162 rfl rfl ho7 rfl rfl rfl rfl rfl (Nat.le_of_ble_eq_true rfl) ?_
            exact H
        · have H := H.2 c
          refine r_iconst (v := (1 : Int32)) dX10_tried_128 rfl ?_
          refine r_goto (tgt := 133) dX10_tried_129 (by decide) ?_
          refine r_putI (k := 7) (i := 0) (j := 3) (ty0 := tyX5) rfl rfl ho7 rfl hX5 (by decide) rfl fX10_400 dX10_tried_133 rfl tyX5_ok nmX5 rfl (by decide) (by decide) ?_
          refine r_aload_n dX10_tried_136 rfl rfl ?_
          refine r_get (k := 0) (i := 0) (j := 4) (v := rV 7 0) rfl rfl ho0 rfl hX10 (by decide) rfl fX10_43 dX10_tried_137 (fun _ => rfl) ?_
          refine r_iload_n dX10_tried_140 rfl rfl ?_
          refine r_iconst (v := (4 : Int32)) dX10_tried_141 rfl ?_
          refine r_icmp_ne (tgt := 149) dX10_tried_142 (by decide) (fun c => ?_) (fun c => ?_)
          · have H := H.1 c
            refine r_iconst (v := (0 : Int32)) dX10_tried_149 rfl ?_
            refine r_putI (k := 7) (i := 0) (j := 4) (ty0 := tyX5) rfl rfl ho7 rfl hX5 (by decide) rfl fX10_403 dX10_tried_150 rfl tyX5_ok nmX5 rfl (by decide) (by decide) ?_
            refine r_aload_n dX10_tried_153 rfl rfl ?_
            refine r_get (k := 0) (i := 0) (j := 4) (v := rV 7 0) rfl rfl ho0 rfl hX10 (by decide) rfl fX10_43 dX10_tried_154 (fun _ => rfl) ?_
            refine r_aload_n dX10_tried_157 rfl rfl ?_
            refine r_get (k := 0) (i := 0) (j := 3) (v := rV 6 2) rfl rfl ho0 rfl hX10 (by decide) rfl fX10_37 dX10_tried_158 (fun _ => rfl) ?_
            refine r_iload_n dX10_tried_161 rfl rfl ?_
            refine r_callV (z := 1) (k := 7) (i := 0) (As := [rV 6 2, iV x3]) (st := []) kX5_advance i_X5_advance e_X5_advance lX10_268 dX10_tried_162 rfl rfl ho7 rfl rfl rfl rfl rfl (Nat.le_of_ble_eq_true rfl) ?_
            exact H
          · have H := H.2 c
            refine r_iconst (v := (1 : Int32)) dX10_tried_145 rfl ?_
            refine r_goto (tgt := 150) dX10_tried_146 (by decide) ?_
            refine r_putI (k := 7) (i := 0) (j := 4) (ty0 := tyX5) rfl rfl ho7 rfl hX5 (by decide) rfl fX10_403 dX10_tried_150 rfl tyX5_ok nmX5 rfl (by decide) (by decide) ?_
            refine r_aload_n dX10_tried_153 rfl rfl ?_
            refine r_get (k := 0) (i := 0) (j := 4) (v := rV 7 0) rfl rfl ho0 rfl hX10 (by decide) rfl fX10_43 dX10_tried_154 (fun _ => rfl) ?_
            refine r_aload_n dX10_tried_157 rfl rfl ?_
            refine r_get (k := 0) (i := 0) (j := 3) (v := rV 6 2) rfl rfl ho0 rfl hX10 (by decide) rfl fX10_37 dX10_tried_158 (fun _ => rfl) ?_
            refine r_iload_n dX10_tried_161 rfl rfl ?_
            refine r_callV (z := 1) (k := 7) (i := 0) (As := [rV 6 2, iV x3]) (st := []) kX5_advance i_X5_advance e_X5_advance lX10_268 dX10_tried_162 rfl rfl ho7 rfl rfl rfl rfl rfl (Nat.le_of_ble_eq_true rfl) ?_
            exact H
      · have H := H.2 c
        refine r_iload_n dX10_tried_111 rfl rfl ?_
        refine r_goto (tgt := 116) dX10_tried_112 (by decide) ?_
        refine r_putI (k := 7) (i := 0) (j := 5) (ty0 := tyX5) rfl rfl ho7 rfl hX5 (by decide) rfl fX10_397 dX10_tried_116 rfl tyX5_ok nmX5 rfl rfl rfl ?_
        refine r_aload_n dX10_tried_119 rfl rfl ?_
        refine r_get (k := 0) (i := 0) (j := 4) (v := rV 7 0) rfl rfl ho0 rfl hX10 (by decide) rfl fX10_43 dX10_tried_120 (fun _ => rfl) ?_
        refine r_iload_n dX10_tried_123 rfl rfl ?_
        refine r_iconst (v := (3 : Int32)) dX10_tried_124 rfl ?_
        refine r_icmp_eq (tgt := 132) dX10_tried_125 (by decide) (fun c => ?_) (fun c => ?_)
        · have H := H.1 c
          refine r_iconst (v := (0 : Int32)) dX10_tried_132 rfl ?_
          refine r_putI (k := 7) (i := 0) (j := 3) (ty0 := tyX5) rfl rfl ho7 rfl hX5 (by decide) rfl fX10_400 dX10_tried_133 rfl tyX5_ok nmX5 rfl (by decide) (by decide) ?_
          refine r_aload_n dX10_tried_136 rfl rfl ?_
          refine r_get (k := 0) (i := 0) (j := 4) (v := rV 7 0) rfl rfl ho0 rfl hX10 (by decide) rfl fX10_43 dX10_tried_137 (fun _ => rfl) ?_
          refine r_iload_n dX10_tried_140 rfl rfl ?_
          refine r_iconst (v := (4 : Int32)) dX10_tried_141 rfl ?_
          refine r_icmp_ne (tgt := 149) dX10_tried_142 (by decide) (fun c => ?_) (fun c => ?_)
          · have H := H.1 c
            refine r_iconst (v := (0 : Int32)) dX10_tried_149 rfl ?_
            refine r_putI (k := 7) (i := 0) (j := 4) (ty0 := tyX5) rfl rfl ho7 rfl hX5 (by decide) rfl fX10_403 dX10_tried_150 rfl tyX5_ok nmX5 rfl (by decide) (by decide) ?_
            refine r_aload_n dX10_tried_153 rfl rfl ?_
            refine r_get (k := 0) (i := 0) (j := 4) (v := rV 7 0) rfl rfl ho0 rfl hX10 (by decide) rfl fX10_43 dX10_tried_154 (fun _ => rfl) ?_
            refine r_aload_n dX10_tried_157 rfl rfl ?_
            refine r_get (k := 0) (i := 0) (j := 3) (v := rV 6 2) rfl rfl ho0 rfl hX10 (by decide) rfl fX10_37 dX10_tried_158 (fun _ => rfl) ?_
            refine r_iload_n dX10_tried_161 rfl rfl ?_
            refine r_callV (z := 1) (k := 7) (i := 0) (As := [rV 6 2, iV x3]) (st := []) kX5_advance i_X5_advance e_X5_advance lX10_268 dX10_tried_162 rfl rfl ho7 rfl rfl rfl rfl rfl (Nat.le_of_ble_eq_true rfl) ?_
            exact H
          · have H := H.2 c
            refine r_iconst (v := (1 : Int32)) dX10_tried_145 rfl ?_
            refine r_goto (tgt := 150) dX10_tried_146 (by decide) ?_
            refine r_putI (k := 7) (i := 0) (j := 4) (ty0 := tyX5) rfl rfl ho7 rfl hX5 (by decide) rfl fX10_403 dX10_tried_150 rfl tyX5_ok nmX5 rfl (by decide) (by decide) ?_
            refine r_aload_n dX10_tried_153 rfl rfl ?_
            refine r_get (k := 0) (i := 0) (j := 4) (v := rV 7 0) rfl rfl ho0 rfl hX10 (by decide) rfl fX10_43 dX10_tried_154 (fun _ => rfl) ?_
            refine r_aload_n dX10_tried_157 rfl rfl ?_
            refine r_get (k := 0) (i := 0) (j := 3) (v := rV 6 2) rfl rfl ho0 rfl hX10 (by decide) rfl fX10_37 dX10_tried_158 (fun _ => rfl) ?_
            refine r_iload_n dX10_tried_161 rfl rfl ?_
            refine r_callV (z := 1) (k := 7) (i := 0) (As := [rV 6 2, iV x3]) (st := []) kX5_advance i_X5_advance e_X5_advance lX10_268 dX10_tried_162 rfl rfl ho7 rfl rfl rfl rfl rfl (Nat.le_of_ble_eq_true rfl) ?_
            exact H
        · have H := H.2 c
          refine r_iconst (v := (1 : Int32)) dX10_tried_128 rfl ?_
          refine r_goto (tgt := 133) dX10_tried_129 (by decide) ?_
          refine r_putI (k := 7) (i := 0) (j := 3) (ty0 := tyX5) rfl rfl ho7 rfl hX5 (by decide) rfl fX10_400 dX10_tried_133 rfl tyX5_ok nmX5 rfl (by decide) (by decide) ?_
          refine r_aload_n dX10_tried_136 rfl rfl ?_
          refine r_get (k := 0) (i := 0) (j := 4) (v := rV 7 0) rfl rfl ho0 rfl hX10 (by decide) rfl fX10_43 dX10_tried_137 (fun _ => rfl) ?_
          refine r_iload_n dX10_tried_140 rfl rfl ?_
          refine r_iconst (v := (4 : Int32)) dX10_tried_141 rfl ?_
          refine r_icmp_ne (tgt := 149) dX10_tried_142 (by decide) (fun c => ?_) (fun c => ?_)
          · have H := H.1 c
            refine r_iconst (v := (0 : Int32)) dX10_tried_149 rfl ?_
            refine r_putI (k := 7) (i := 0) (j := 4) (ty0 := tyX5) rfl rfl ho7 rfl hX5 (by decide) rfl fX10_403 dX10_tried_150 rfl tyX5_ok nmX5 rfl (by decide) (by decide) ?_
            refine r_aload_n dX10_tried_153 rfl rfl ?_
            refine r_get (k := 0) (i := 0) (j := 4) (v := rV 7 0) rfl rfl ho0 rfl hX10 (by decide) rfl fX10_43 dX10_tried_154 (fun _ => rfl) ?_
            refine r_aload_n dX10_tried_157 rfl rfl ?_
            refine r_get (k := 0) (i := 0) (j := 3) (v := rV 6 2) rfl rfl ho0 rfl hX10 (by decide) rfl fX10_37 dX10_tried_158 (fun _ => rfl) ?_
            refine r_iload_n dX10_tried_161 rfl rfl ?_
            refine r_callV (z := 1) (k := 7) (i := 0) (As := [rV 6 2, iV x3]) (st := []) kX5_advance i_X5_advance e_X5_advance lX10_268 dX10_tried_162 rfl rfl ho7 rfl rfl rfl rfl rfl (Nat.le_of_ble_eq_true rfl) ?_
            exact H
          · have H := H.2 c
            refine r_iconst (v := (1 : Int32)) dX10_tried_145 rfl ?_
            refine r_goto (tgt := 150) dX10_tried_146 (by decide) ?_
            refine r_putI (k := 7) (i := 0) (j := 4) (ty0 := tyX5) rfl rfl ho7 rfl hX5 (by decide) rfl fX10_403 dX10_tried_150 rfl tyX5_ok nmX5 rfl (by decide) (by decide) ?_
            refine r_aload_n dX10_tried_153 rfl rfl ?_
            refine r_get (k := 0) (i := 0) (j := 4) (v := rV 7 0) rfl rfl ho0 rfl hX10 (by decide) rfl fX10_43 dX10_tried_154 (fun _ => rfl) ?_
            refine r_aload_n dX10_tried_157 rfl rfl ?_
            refine r_get (k := 0) (i := 0) (j := 3) (v := rV 6 2) rfl rfl ho0 rfl hX10 (by decide) rfl fX10_37 dX10_tried_158 (fun _ => rfl) ?_
            refine r_iload_n dX10_tried_161 rfl rfl ?_
            refine r_callV (z := 1) (k := 7) (i := 0) (As := [rV 6 2, iV x3]) (st := []) kX5_advance i_X5_advance e_X5_advance lX10_268 dX10_tried_162 rfl rfl ho7 rfl rfl rfl rfl rfl (Nat.le_of_ble_eq_true rfl) ?_
            exact H
    · have H := H.2 c
      refine r_iconst (v := (1 : Int32)) dX10_tried_94 rfl ?_
      refine r_goto (tgt := 99) dX10_tried_95 (by decide) ?_
      refine r_putI (k := 7) (i := 0) (j := 2) (ty0 := tyX5) rfl rfl ho7 rfl hX5 (by decide) rfl fX10_394 dX10_tried_99 rfl tyX5_ok nmX5 rfl (by decide) (by decide) ?_
      refine r_aload_n dX10_tried_102 rfl rfl ?_
      refine r_get (k := 0) (i := 0) (j := 4) (v := rV 7 0) rfl rfl ho0 rfl hX10 (by decide) rfl fX10_43 dX10_tried_103 (fun _ => rfl) ?_
      refine r_iload_n dX10_tried_106 rfl rfl ?_
      refine r_iconst (v := (2 : Int32)) dX10_tried_107 rfl ?_
      refine r_icmp_ne (tgt := 115) dX10_tried_108 (by decide) (fun c => ?_) (fun c => ?_)
      · have H := H.1 c
        refine r_iconst (v := (-1 : Int32)) dX10_tried_115 rfl ?_
        refine r_putI (k := 7) (i := 0) (j := 5) (ty0 := tyX5) rfl rfl ho7 rfl hX5 (by decide) rfl fX10_397 dX10_tried_116 rfl tyX5_ok nmX5 rfl rfl rfl ?_
        refine r_aload_n dX10_tried_119 rfl rfl ?_
        refine r_get (k := 0) (i := 0) (j := 4) (v := rV 7 0) rfl rfl ho0 rfl hX10 (by decide) rfl fX10_43 dX10_tried_120 (fun _ => rfl) ?_
        refine r_iload_n dX10_tried_123 rfl rfl ?_
        refine r_iconst (v := (3 : Int32)) dX10_tried_124 rfl ?_
        refine r_icmp_eq (tgt := 132) dX10_tried_125 (by decide) (fun c => ?_) (fun c => ?_)
        · have H := H.1 c
          refine r_iconst (v := (0 : Int32)) dX10_tried_132 rfl ?_
          refine r_putI (k := 7) (i := 0) (j := 3) (ty0 := tyX5) rfl rfl ho7 rfl hX5 (by decide) rfl fX10_400 dX10_tried_133 rfl tyX5_ok nmX5 rfl (by decide) (by decide) ?_
          refine r_aload_n dX10_tried_136 rfl rfl ?_
          refine r_get (k := 0) (i := 0) (j := 4) (v := rV 7 0) rfl rfl ho0 rfl hX10 (by decide) rfl fX10_43 dX10_tried_137 (fun _ => rfl) ?_
          refine r_iload_n dX10_tried_140 rfl rfl ?_
          refine r_iconst (v := (4 : Int32)) dX10_tried_141 rfl ?_
          refine r_icmp_ne (tgt := 149) dX10_tried_142 (by decide) (fun c => ?_) (fun c => ?_)
          · have H := H.1 c
            refine r_iconst (v := (0 : Int32)) dX10_tried_149 rfl ?_
            refine r_putI (k := 7) (i := 0) (j := 4) (ty0 := tyX5) rfl rfl ho7 rfl hX5 (by decide) rfl fX10_403 dX10_tried_150 rfl tyX5_ok nmX5 rfl (by decide) (by decide) ?_
            refine r_aload_n dX10_tried_153 rfl rfl ?_
            refine r_get (k := 0) (i := 0) (j := 4) (v := rV 7 0) rfl rfl ho0 rfl hX10 (by decide) rfl fX10_43 dX10_tried_154 (fun _ => rfl) ?_
            refine r_aload_n dX10_tried_157 rfl rfl ?_
            refine r_get (k := 0) (i := 0) (j := 3) (v := rV 6 2) rfl rfl ho0 rfl hX10 (by decide) rfl fX10_37 dX10_tried_158 (fun _ => rfl) ?_
            refine r_iload_n dX10_tried_161 rfl rfl ?_
            refine r_callV (z := 1) (k := 7) (i := 0) (As := [rV 6 2, iV x3]) (st := []) kX5_advance i_X5_advance e_X5_advance lX10_268 dX10_tried_162 rfl rfl ho7 rfl rfl rfl rfl rfl (Nat.le_of_ble_eq_true rfl) ?_
            exact H
          · have H := H.2 c
            refine r_iconst (v := (1 : Int32)) dX10_tried_145 rfl ?_
            refine r_goto (tgt := 150) dX10_tried_146 (by decide) ?_
            refine r_putI (k := 7) (i := 0) (j := 4) (ty0 := tyX5) rfl rfl ho7 rfl hX5 (by decide) rfl fX10_403 dX10_tried_150 rfl tyX5_ok nmX5 rfl (by decide) (by decide) ?_
            refine r_aload_n dX10_tried_153 rfl rfl ?_
            refine r_get (k := 0) (i := 0) (j := 4) (v := rV 7 0) rfl rfl ho0 rfl hX10 (by decide) rfl fX10_43 dX10_tried_154 (fun _ => rfl) ?_
            refine r_aload_n dX10_tried_157 rfl rfl ?_
            refine r_get (k := 0) (i := 0) (j := 3) (v := rV 6 2) rfl rfl ho0 rfl hX10 (by decide) rfl fX10_37 dX10_tried_158 (fun _ => rfl) ?_
            refine r_iload_n dX10_tried_161 rfl rfl ?_
            refine r_callV (z := 1) (k := 7) (i := 0) (As := [rV 6 2, iV x3]) (st := []) kX5_advance i_X5_advance e_X5_advance lX10_268 dX10_tried_162 rfl rfl ho7 rfl rfl rfl rfl rfl (Nat.le_of_ble_eq_true rfl) ?_
            exact H
        · have H := H.2 c
          refine r_iconst (v := (1 : Int32)) dX10_tried_128 rfl ?_
          refine r_goto (tgt := 133) dX10_tried_129 (by decide) ?_
          refine r_putI (k := 7) (i := 0) (j := 3) (ty0 := tyX5) rfl rfl ho7 rfl hX5 (by decide) rfl fX10_400 dX10_tried_133 rfl tyX5_ok nmX5 rfl (by decide) (by decide) ?_
          refine r_aload_n dX10_tried_136 rfl rfl ?_
          refine r_get (k := 0) (i := 0) (j := 4) (v := rV 7 0) rfl rfl ho0 rfl hX10 (by decide) rfl fX10_43 dX10_tried_137 (fun _ => rfl) ?_
          refine r_iload_n dX10_tried_140 rfl rfl ?_
          refine r_iconst (v := (4 : Int32)) dX10_tried_141 rfl ?_
          refine r_icmp_ne (tgt := 149) dX10_tried_142 (by decide) (fun c => ?_) (fun c => ?_)
          · have H := H.1 c
            refine r_iconst (v := (0 : Int32)) dX10_tried_149 rfl ?_
            refine r_putI (k := 7) (i := 0) (j := 4) (ty0 := tyX5) rfl rfl ho7 rfl hX5 (by decide) rfl fX10_403 dX10_tried_150 rfl tyX5_ok nmX5 rfl (by decide) (by decide) ?_
            refine r_aload_n dX10_tried_153 rfl rfl ?_
            refine r_get (k := 0) (i := 0) (j := 4) (v := rV 7 0) rfl rfl ho0 rfl hX10 (by decide) rfl fX10_43 dX10_tried_154 (fun _ => rfl) ?_
            refine r_aload_n dX10_tried_157 rfl rfl ?_
            refine r_get (k := 0) (i := 0) (j := 3) (v := rV 6 2) rfl rfl ho0 rfl hX10 (by decide) rfl fX10_37 dX10_tried_158 (fun _ => rfl) ?_
            refine r_iload_n dX10_tried_161 rfl rfl ?_
            refine r_callV (z := 1) (k := 7) (i := 0) (As := [rV 6 2, iV x3]) (st := []) kX5_advance i_X5_advance e_X5_advance lX10_268 dX10_tried_162 rfl rfl ho7 rfl rfl rfl rfl rfl (Nat.le_of_ble_eq_true rfl) ?_
            exact H
          · have H := H.2 c
            refine r_iconst (v := (1 : Int32)) dX10_tried_145 rfl ?_
            refine r_goto (tgt := 150) dX10_tried_146 (by decide) ?_
            refine r_putI (k := 7) (i := 0) (j := 4) (ty0 := tyX5) rfl rfl ho7 rfl hX5 (by decide) rfl fX10_403 dX10_tried_150 rfl tyX5_ok nmX5 rfl (by decide) (by decide) ?_
            refine r_aload_n dX10_tried_153 rfl rfl ?_
            refine r_get (k := 0) (i := 0) (j := 4) (v := rV 7 0) rfl rfl ho0 rfl hX10 (by decide) rfl fX10_43 dX10_tried_154 (fun _ => rfl) ?_
            refine r_aload_n dX10_tried_157 rfl rfl ?_
            refine r_get (k := 0) (i := 0) (j := 3) (v := rV 6 2) rfl rfl ho0 rfl hX10 (by decide) rfl fX10_37 dX10_tried_158 (fun _ => rfl) ?_
            refine r_iload_n dX10_tried_161 rfl rfl ?_
            refine r_callV (z := 1) (k := 7) (i := 0) (As := [rV 6 2, iV x3]) (st := []) kX5_advance i_X5_advance e_X5_advance lX10_268 dX10_tried_162 rfl rfl ho7 rfl rfl rfl rfl rfl (Nat.le_of_ble_eq_true rfl) ?_
            exact H
      · have H := H.2 c
        refine r_iload_n dX10_tried_111 rfl rfl ?_
        refine r_goto (tgt := 116) dX10_tried_112 (by decide) ?_
        refine r_putI (k := 7) (i := 0) (j := 5) (ty0 := tyX5) rfl rfl ho7 rfl hX5 (by decide) rfl fX10_397 dX10_tried_116 rfl tyX5_ok nmX5 rfl rfl rfl ?_
        refine r_aload_n dX10_tried_119 rfl rfl ?_
        refine r_get (k := 0) (i := 0) (j := 4) (v := rV 7 0) rfl rfl ho0 rfl hX10 (by decide) rfl fX10_43 dX10_tried_120 (fun _ => rfl) ?_
        refine r_iload_n dX10_tried_123 rfl rfl ?_
        refine r_iconst (v := (3 : Int32)) dX10_tried_124 rfl ?_
        refine r_icmp_eq (tgt := 132) dX10_tried_125 (by decide) (fun c => ?_) (fun c => ?_)
        · have H := H.1 c
          refine r_iconst (v := (0 : Int32)) dX10_tried_132 rfl ?_
          refine r_putI (k := 7) (i := 0) (j := 3) (ty0 := tyX5) rfl rfl ho7 rfl hX5 (by decide) rfl fX10_400 dX10_tried_133 rfl tyX5_ok nmX5 rfl (by decide) (by decide) ?_
          refine r_aload_n dX10_tried_136 rfl rfl ?_
          refine r_get (k := 0) (i := 0) (j := 4) (v := rV 7 0) rfl rfl ho0 rfl hX10 (by decide) rfl fX10_43 dX10_tried_137 (fun _ => rfl) ?_
          refine r_iload_n dX10_tried_140 rfl rfl ?_
          refine r_iconst (v := (4 : Int32)) dX10_tried_141 rfl ?_
          refine r_icmp_ne (tgt := 149) dX10_tried_142 (by decide) (fun c => ?_) (fun c => ?_)
          · have H := H.1 c
            refine r_iconst (v := (0 : Int32)) dX10_tried_149 rfl ?_
            refine r_putI (k := 7) (i := 0) (j := 4) (ty0 := tyX5) rfl rfl ho7 rfl hX5 (by decide) rfl fX10_403 dX10_tried_150 rfl tyX5_ok nmX5 rfl (by decide) (by decide) ?_
            refine r_aload_n dX10_tried_153 rfl rfl ?_
            refine r_get (k := 0) (i := 0) (j := 4) (v := rV 7 0) rfl rfl ho0 rfl hX10 (by decide) rfl fX10_43 dX10_tried_154 (fun _ => rfl) ?_
            refine r_aload_n dX10_tried_157 rfl rfl ?_
            refine r_get (k := 0) (i := 0) (j := 3) (v := rV 6 2) rfl rfl ho0 rfl hX10 (by decide) rfl fX10_37 dX10_tried_158 (fun _ => rfl) ?_
            refine r_iload_n dX10_tried_161 rfl rfl ?_
            refine r_callV (z := 1) (k := 7) (i := 0) (As := [rV 6 2, iV x3]) (st := []) kX5_advance i_X5_advance e_X5_advance lX10_268 dX10_tried_162 rfl rfl ho7 rfl rfl rfl rfl rfl (Nat.le_of_ble_eq_true rfl) ?_
            exact H
          · have H := H.2 c
            refine r_iconst (v := (1 : Int32)) dX10_tried_145 rfl ?_
            refine r_goto (tgt := 150) dX10_tried_146 (by decide) ?_
            refine r_putI (k := 7) (i := 0) (j := 4) (ty0 := tyX5) rfl rfl ho7 rfl hX5 (by decide) rfl fX10_403 dX10_tried_150 rfl tyX5_ok nmX5 rfl (by decide) (by decide) ?_
            refine r_aload_n dX10_tried_153 rfl rfl ?_
            refine r_get (k := 0) (i := 0) (j := 4) (v := rV 7 0) rfl rfl ho0 rfl hX10 (by decide) rfl fX10_43 dX10_tried_154 (fun _ => rfl) ?_
            refine r_aload_n dX10_tried_157 rfl rfl ?_
            refine r_get (k := 0) (i := 0) (j := 3) (v := rV 6 2) rfl rfl ho0 rfl hX10 (by decide) rfl fX10_37 dX10_tried_158 (fun _ => rfl) ?_
            refine r_iload_n dX10_tried_161 rfl rfl ?_
            refine r_callV (z := 1) (k := 7) (i := 0) (As := [rV 6 2, iV x3]) (st := []) kX5_advance i_X5_advance e_X5_advance lX10_268 dX10_tried_162 rfl rfl ho7 rfl rfl rfl rfl rfl (Nat.le_of_ble_eq_true rfl) ?_
            exact H
        · have H := H.2 c
          refine r_iconst (v := (1 : Int32)) dX10_tried_128 rfl ?_
          refine r_goto (tgt := 133) dX10_tried_129 (by decide) ?_
          refine r_putI (k := 7) (i := 0) (j := 3) (ty0 := tyX5) rfl rfl ho7 rfl hX5 (by decide) rfl fX10_400 dX10_tried_133 rfl tyX5_ok nmX5 rfl (by decide) (by decide) ?_
          refine r_aload_n dX10_tried_136 rfl rfl ?_
          refine r_get (k := 0) (i := 0) (j := 4) (v := rV 7 0) rfl rfl ho0 rfl hX10 (by decide) rfl fX10_43 dX10_tried_137 (fun _ => rfl) ?_
          refine r_iload_n dX10_tried_140 rfl rfl ?_
          refine r_iconst (v := (4 : Int32)) dX10_tried_141 rfl ?_
          refine r_icmp_ne (tgt := 149) dX10_tried_142 (by decide) (fun c => ?_) (fun c => ?_)
          · have H := H.1 c
            refine r_iconst (v := (0 : Int32)) dX10_tried_149 rfl ?_
            refine r_putI (k := 7) (i := 0) (j := 4) (ty0 := tyX5) rfl rfl ho7 rfl hX5 (by decide) rfl fX10_403 dX10_tried_150 rfl tyX5_ok nmX5 rfl (by decide) (by decide) ?_
            refine r_aload_n dX10_tried_153 rfl rfl ?_
            refine r_get (k := 0) (i := 0) (j := 4) (v := rV 7 0) rfl rfl ho0 rfl hX10 (by decide) rfl fX10_43 dX10_tried_154 (fun _ => rfl) ?_
            refine r_aload_n dX10_tried_157 rfl rfl ?_
            refine r_get (k := 0) (i := 0) (j := 3) (v := rV 6 2) rfl rfl ho0 rfl hX10 (by decide) rfl fX10_37 dX10_tried_158 (fun _ => rfl) ?_
            refine r_iload_n dX10_tried_161 rfl rfl ?_
            refine r_callV (z := 1) (k := 7) (i := 0) (As := [rV 6 2, iV x3]) (st := []) kX5_advance i_X5_advance e_X5_advance lX10_268 dX10_tried_162 rfl rfl ho7 rfl rfl rfl rfl rfl (Nat.le_of_ble_eq_true rfl) ?_
            exact H
          · have H := H.2 c
            refine r_iconst (v := (1 : Int32)) dX10_tried_145 rfl ?_
            refine r_goto (tgt := 150) dX10_tried_146 (by decide) ?_
            refine r_putI (k := 7) (i := 0) (j := 4) (ty0 := tyX5) rfl rfl ho7 rfl hX5 (by decide) rfl fX10_403 dX10_tried_150 rfl tyX5_ok nmX5 rfl (by decide) (by decide) ?_
            refine r_aload_n dX10_tried_153 rfl rfl ?_
            refine r_get (k := 0) (i := 0) (j := 4) (v := rV 7 0) rfl rfl ho0 rfl hX10 (by decide) rfl fX10_43 dX10_tried_154 (fun _ => rfl) ?_
            refine r_aload_n dX10_tried_157 rfl rfl ?_
            refine r_get (k := 0) (i := 0) (j := 3) (v := rV 6 2) rfl rfl ho0 rfl hX10 (by decide) rfl fX10_37 dX10_tried_158 (fun _ => rfl) ?_
            refine r_iload_n dX10_tried_161 rfl rfl ?_
            refine r_callV (z := 1) (k := 7) (i := 0) (As := [rV 6 2, iV x3]) (st := []) kX5_advance i_X5_advance e_X5_advance lX10_268 dX10_tried_162 rfl rfl ho7 rfl rfl rfl rfl rfl (Nat.le_of_ble_eq_true rfl) ?_
            exact H
set_option maxRecDepth 100000 in
theorem bX10_tried_165 {d : Nat} {Q : Option MV → MS → Prop} {x1 : Int32} {x2 : Int32} {x3 : Int32} {x4 : Int32} {σ : MS}  (H : (R mj_OC d mX8_boatsThatAre (fun r σ' => R mj_OC (d + 1) mX10_tried Q 173 [some (rV 0 0), some (iV x1), some (iV x2), some (iV x3), some (iV x4)] (r.toList ++ []) σ') 0 [some (rV 6 2), some (iV (2 : Int32)), none, none] [] σ)) : R mj_OC (d + 1) mX10_tried Q 165 [some (rV 0 0), some (iV x1), some (iV x2), some (iV x3), some (iV x4)] [] σ := by
  refine r_aload_n dX10_tried_165 rfl rfl ?_
  refine r_get (k := 0) (i := 0) (j := 3) (v := rV 6 2) rfl rfl ho0 rfl hX10 (by decide) rfl fX10_37 dX10_tried_166 (fun _ => rfl) ?_
  refine r_iconst (v := (2 : Int32)) dX10_tried_169 rfl ?_
  refine r_callV (z := 2) (k := 6) (i := 2) (As := [iV (2 : Int32)]) (st := []) kX8_boatsThatAre i_X8_boatsThatAre e_X8_boatsThatAre lX10_275 dX10_tried_170 rfl rfl (ho6 (by decide)) rfl rfl rfl rfl rfl (Nat.le_of_ble_eq_true rfl) ?_
  exact H
set_option maxRecDepth 100000 in
theorem bX10_tried_173 {d : Nat} {Q : Option MV → MS → Prop} {x1 : Int32} {x2 : Int32} {x3 : Int32} {x4 : Int32} {s0 : Int32} {σ : MS}  (H : Q (some (iV s0)) σ) : R mj_OC d mX10_tried Q 173 [some (rV 0 0), some (iV x1), some (iV x2), some (iV x3), some (iV x4)] [iV s0] σ := by
  exact r_iret dX10_tried_173 rfl H
set_option maxRecDepth 100000 in
theorem bX10_undo_0 {d : Nat} {Q : Option MV → MS → Prop}  {σ : MS}  (H : (R mj_OC d mX2_takeBack (fun r σ' => R mj_OC (d + 1) mX10_undo Q 11 [some (rV 0 0)] (r.toList ++ []) σ') 0 [some (rV 10 0), some (rV 6 0), none] [] σ)) : R mj_OC (d + 1) mX10_undo Q 0 [some (rV 0 0)] [] σ := by
  refine r_aload_n dX10_undo_0 rfl rfl ?_
  refine r_get (k := 0) (i := 0) (j := 7) (v := rV 10 0) rfl rfl ho0 rfl hX10 (by decide) rfl fX10_64 dX10_undo_1 (fun _ => rfl) ?_
  refine r_aload_n dX10_undo_4 rfl rfl ?_
  refine r_get (k := 0) (i := 0) (j := 1) (v := rV 6 0) rfl rfl ho0 rfl hX10 (by decide) rfl fX10_30 dX10_undo_5 (fun _ => rfl) ?_
  refine r_callV (z := 1) (k := 10) (i := 0) (As := [rV 6 0]) (st := []) kX2_takeBack i_X2_takeBack e_X2_takeBack lX10_406 dX10_undo_8 rfl rfl ho10 rfl rfl rfl rfl rfl (Nat.le_of_ble_eq_true rfl) ?_
  exact H
set_option maxRecDepth 100000 in
theorem bX10_undo_11 {d : Nat} {Q : Option MV → MS → Prop} {s0 : Int32} {σ : MS}  (H : ((s0 = 0 → Q (some (iV (-1 : Int32))) σ) ∧ (¬ s0 = 0 → Q (some (iV (σ.1 10 0 0))) σ))) : R mj_OC d mX10_undo Q 11 [some (rV 0 0)] [iV s0] σ := by
  refine r_if_eq (tgt := 24) dX10_undo_11 (by decide) (fun c => ?_) (fun c => ?_)
  · have H := H.1 c
    refine r_iconst (v := (-1 : Int32)) dX10_undo_24 rfl ?_
    exact r_iret dX10_undo_25 rfl H
  · have H := H.2 c
    refine r_aload_n dX10_undo_14 rfl rfl ?_
    refine r_get (k := 0) (i := 0) (j := 7) (v := rV 10 0) rfl rfl ho0 rfl hX10 (by decide) rfl fX10_64 dX10_undo_15 (fun _ => rfl) ?_
    refine r_get (k := 10) (i := 0) (j := 0) (v := iV (σ.1 10 0 0)) rfl rfl ho10 rfl hX2 (by decide) rfl fX10_410 dX10_undo_18 (fun _ => rfl) ?_
    refine r_goto (tgt := 25) dX10_undo_21 (by decide) ?_
    exact r_iret dX10_undo_25 rfl H
set_option maxRecDepth 100000 in
theorem bX10_keep_0 {d : Nat} {Q : Option MV → MS → Prop}  {σ : MS}  (H : (R mj_OC d mX8_become (fun r σ' => R mj_OC (d + 1) mX10_keep Q 11 [some (rV 0 0)] (r.toList ++ []) σ') 0 [some (rV 6 1), some (rV 6 0), none] [] σ)) : R mj_OC (d + 1) mX10_keep Q 0 [some (rV 0 0)] [] σ := by
  refine r_aload_n dX10_keep_0 rfl rfl ?_
  refine r_get (k := 0) (i := 0) (j := 2) (v := rV 6 1) rfl rfl ho0 rfl hX10 (by decide) rfl fX10_34 dX10_keep_1 (fun _ => rfl) ?_
  refine r_aload_n dX10_keep_4 rfl rfl ?_
  refine r_get (k := 0) (i := 0) (j := 1) (v := rV 6 0) rfl rfl ho0 rfl hX10 (by decide) rfl fX10_30 dX10_keep_5 (fun _ => rfl) ?_
  refine r_callV (z := 1) (k := 6) (i := 1) (As := [rV 6 0]) (st := []) kX8_become i_X8_become e_X8_become lX10_272 dX10_keep_8 rfl rfl (ho6 (by decide)) rfl rfl rfl rfl rfl (Nat.le_of_ble_eq_true rfl) ?_
  exact H
set_option maxRecDepth 100000 in
theorem bX10_keep_11 {d : Nat} {Q : Option MV → MS → Prop}  {σ : MS}  (H : Q (some (iV (σ.1 6 0 6))) (uI σ 0 0 10 (1 : Int32))) : R mj_OC d mX10_keep Q 11 [some (rV 0 0)] [] σ := by
  refine r_aload_n dX10_keep_11 rfl rfl ?_
  refine r_iconst (v := (1 : Int32)) dX10_keep_12 rfl ?_
  refine r_putI (k := 0) (i := 0) (j := 10) (ty0 := tyX10) rfl rfl ho0 rfl hX10 (by decide) rfl fX10_109 dX10_keep_13 rfl tyX10_ok nmX10 rfl (by decide) (by decide) ?_
  refine r_aload_n dX10_keep_16 rfl rfl ?_
  refine r_get (k := 0) (i := 0) (j := 1) (v := rV 6 0) rfl rfl ho0 rfl hX10 (by decide) rfl fX10_30 dX10_keep_17 (fun _ => rfl) ?_
  refine r_get (k := 6) (i := 0) (j := 6) (v := iV (σ.1 6 0 6)) rfl rfl (ho6 (by decide)) rfl hX8 (by decide) rfl fX10_262 dX10_keep_20 (fun _ => rfl) ?_
  exact r_iret dX10_keep_23 rfl H
set_option maxRecDepth 100000 in
theorem bX10_back_0 {d : Nat} {Q : Option MV → MS → Prop}  {σ : MS}  (H : ((¬ (σ.1 0 0 10) = 0 → (R mj_OC d mX8_become (fun r σ' => R mj_OC (d + 1) mX10_back Q 20 [some (rV 0 0)] (r.toList ++ []) σ') 0 [some (rV 6 0), some (rV 6 1), none] [] σ)) ∧ ((σ.1 0 0 10) = 0 → Q (some (iV (-1 : Int32))) σ))) : R mj_OC (d + 1) mX10_back Q 0 [some (rV 0 0)] [] σ := by
  refine r_aload_n dX10_back_0 rfl rfl ?_
  refine r_get (k := 0) (i := 0) (j := 10) (v := iV (σ.1 0 0 10)) rfl rfl ho0 rfl hX10 (by decide) rfl fX10_109 dX10_back_1 (fun _ => rfl) ?_
  refine r_if_ne (tgt := 9) dX10_back_4 (by decide) (fun c => ?_) (fun c => ?_)
  · have H := H.1 c
    refine r_aload_n dX10_back_9 rfl rfl ?_
    refine r_get (k := 0) (i := 0) (j := 1) (v := rV 6 0) rfl rfl ho0 rfl hX10 (by decide) rfl fX10_30 dX10_back_10 (fun _ => rfl) ?_
    refine r_aload_n dX10_back_13 rfl rfl ?_
    refine r_get (k := 0) (i := 0) (j := 2) (v := rV 6 1) rfl rfl ho0 rfl hX10 (by decide) rfl fX10_34 dX10_back_14 (fun _ => rfl) ?_
    refine r_callV (z := 1) (k := 6) (i := 0) (As := [rV 6 1]) (st := []) kX8_become i_X8_become e_X8_become lX10_272 dX10_back_17 rfl rfl (ho6 (by decide)) rfl rfl rfl rfl rfl (Nat.le_of_ble_eq_true rfl) ?_
    exact H
  · have H := H.2 c
    refine r_iconst (v := (-1 : Int32)) dX10_back_7 rfl ?_
    exact r_iret dX10_back_8 rfl H
set_option maxRecDepth 100000 in
theorem bX10_back_20 {d : Nat} {Q : Option MV → MS → Prop}  {σ : MS}  (H : (R mj_OC d mX2_clear (fun r σ' => R mj_OC (d + 1) mX10_back Q 27 [some (rV 0 0)] (r.toList ++ []) σ') 0 [some (rV 10 0)] [] σ)) : R mj_OC (d + 1) mX10_back Q 20 [some (rV 0 0)] [] σ := by
  refine r_aload_n dX10_back_20 rfl rfl ?_
  refine r_get (k := 0) (i := 0) (j := 7) (v := rV 10 0) rfl rfl ho0 rfl hX10 (by decide) rfl fX10_64 dX10_back_21 (fun _ => rfl) ?_
  refine r_callV (z := 0) (k := 10) (i := 0) (As := []) (st := []) kX2_clear i_X2_clear e_X2_clear lX10_116 dX10_back_24 rfl rfl ho10 rfl rfl rfl rfl rfl (Nat.le_of_ble_eq_true rfl) ?_
  exact H
set_option maxRecDepth 100000 in
theorem bX10_back_27 {d : Nat} {Q : Option MV → MS → Prop}  {σ : MS}  (H : Q (some (iV (σ.1 6 0 6))) σ) : R mj_OC d mX10_back Q 27 [some (rV 0 0)] [] σ := by
  refine r_aload_n dX10_back_27 rfl rfl ?_
  refine r_get (k := 0) (i := 0) (j := 1) (v := rV 6 0) rfl rfl ho0 rfl hX10 (by decide) rfl fX10_30 dX10_back_28 (fun _ => rfl) ?_
  refine r_get (k := 6) (i := 0) (j := 6) (v := iV (σ.1 6 0 6)) rfl rfl (ho6 (by decide)) rfl hX8 (by decide) rfl fX10_262 dX10_back_31 (fun _ => rfl) ?_
  exact r_iret dX10_back_34 rfl H
set_option maxRecDepth 100000 in
theorem bX10_count_0 {d : Nat} {Q : Option MV → MS → Prop} {x1 : Int32} {σ : MS}  (H : ((x1 = 0 → (σ.2.2 0 0 < 2 ∧ Q (some (iV (σ.1 3 (σ.2.2 0 0) 0))) σ)) ∧ (¬ x1 = 0 → ((x1 = 1 → (σ.2.2 0 0 < 2 ∧ Q (some (iV (σ.1 4 (σ.2.2 0 0) 0))) σ)) ∧ (¬ x1 = 1 → ((x1 = 2 → (σ.2.2 0 0 < 2 ∧ Q (some (iV (σ.1 3 (σ.2.2 0 0) 6))) σ)) ∧ (¬ x1 = 2 → ((x1 = 3 → (σ.2.2 0 0 < 2 ∧ Q (some (iV (σ.1 3 (σ.2.2 0 0) 10))) σ)) ∧ (¬ x1 = 3 → ((x1 = 4 → (σ.2.2 0 0 < 2 ∧ Q (some (iV (σ.1 4 (σ.2.2 0 0) 4))) σ)) ∧ (¬ x1 = 4 → ((x1 = 5 → (σ.2.2 0 0 < 2 ∧ Q (some (iV (σ.1 5 (σ.2.2 0 0) 0))) σ)) ∧ (¬ x1 = 5 → ((x1 = 6 → Q (some (iV (σ.1 6 0 6))) σ) ∧ (¬ x1 = 6 → ((x1 = 7 → (σ.2.2 0 0 < 2 ∧ (R mj_OC d mX0_allPonds (fun r σ' => R mj_OC (d + 1) mX10_count Q 156 [some (rV 0 0), some (iV x1)] (r.toList ++ [rV 6 0]) σ') 0 [some (rV 3 (σ.2.2 0 0))] [] σ))) ∧ (¬ x1 = 7 → ((x1 = 8 → (R mj_OC d mX8_boatsThatAre (fun r σ' => R mj_OC (d + 1) mX10_count Q 168 [some (rV 0 0), some (iV x1)] (r.toList ++ []) σ') 0 [some (rV 6 0), some (iV (1 : Int32)), none, none] [] σ)) ∧ (¬ x1 = 8 → ((x1 = 9 → (R mj_OC d mX8_boatsThatAre (fun r σ' => R mj_OC (d + 1) mX10_count Q 177 [some (rV 0 0), some (iV x1)] (r.toList ++ []) σ') 0 [some (rV 6 0), some (iV (2 : Int32)), none, none] [] σ)) ∧ (¬ x1 = 9 → ((x1 = 10 → (R mj_OC d mX8_waitedByAll (fun r σ' => R mj_OC (d + 1) mX10_count Q 185 [some (rV 0 0), some (iV x1)] (r.toList ++ []) σ') 0 [some (rV 6 0), none, none] [] σ)) ∧ (¬ x1 = 10 → ((x1 = 11 → Q (some (iV (σ.1 6 0 5))) σ) ∧ (¬ x1 = 11 → ((x1 = 12 → (R mj_OC d mJ6_bitCount_0f7a4 (fun r σ' => R mj_OC (d + 1) mX10_count Q 204 [some (rV 0 0), some (iV x1)] (r.toList ++ []) σ') 0 [some (iV (σ.1 6 0 2))] [] σ)) ∧ (¬ x1 = 12 → ((x1 = 13 → Q (some (iV (σ.1 9 0 0))) σ) ∧ (¬ x1 = 13 → ((x1 = 14 → (R mj_OC d mX1_knownCount (fun r σ' => R mj_OC (d + 1) mX10_count Q 220 [some (rV 0 0), some (iV x1)] (r.toList ++ []) σ') 0 [some (rV 9 0)] [] σ)) ∧ (¬ x1 = 14 → ((x1 = 15 → Q (some (iV (σ.1 10 0 0))) σ) ∧ (¬ x1 = 15 → Q (some (iV (-1 : Int32))) σ))))))))))))))))))))))))))))))))) : R mj_OC (d + 1) mX10_count Q 0 [some (rV 0 0), some (iV x1)] [] σ := by
  refine r_iload_n dX10_count_0 rfl rfl ?_
  by_cases c0 : x1 = 0
  · have H := H.1 c0
    refine r_tableIn (tgt := 80) (off := 79) dX10_count_1 (by rw [c0]; decide) (by rw [c0]; decide) (by rw [c0]; rfl) (by decide) ?_
    refine r_aload_n dX10_count_80 rfl rfl ?_
    refine r_get (k := 0) (i := 0) (j := 9) (v := rV 3 (σ.2.2 0 0)) rfl rfl ho0 rfl hX10 (by decide) rfl fX10_21 dX10_count_81 (fun _ => rfl) ?_
    obtain ⟨q1, H⟩ := H
    refine r_get (k := 3) (i := (σ.2.2 0 0)) (j := 0) (v := iV (σ.1 3 (σ.2.2 0 0) 0)) rfl rfl (ho3 q1) rfl hX0 (by decide) rfl fX10_293 dX10_count_84 (fun _ => rfl) ?_
    exact r_iret dX10_count_87 rfl H
  replace H := H.2 c0
  by_cases c1 : x1 = 1
  · have H := H.1 c1
    refine r_tableIn (tgt := 88) (off := 87) dX10_count_1 (by rw [c1]; decide) (by rw [c1]; decide) (by rw [c1]; rfl) (by decide) ?_
    refine r_aload_n dX10_count_88 rfl rfl ?_
    refine r_get (k := 0) (i := 0) (j := 9) (v := rV 3 (σ.2.2 0 0)) rfl rfl ho0 rfl hX10 (by decide) rfl fX10_21 dX10_count_89 (fun _ => rfl) ?_
    obtain ⟨q2, H⟩ := H
    refine r_get (k := 3) (i := (σ.2.2 0 0)) (j := 14) (v := rV 4 (σ.2.2 0 0)) rfl rfl (ho3 q2) rfl hX0 (by decide) rfl fX10_147 dX10_count_92 (fun _ => rfl) ?_
    refine r_get (k := 4) (i := (σ.2.2 0 0)) (j := 0) (v := iV (σ.1 4 (σ.2.2 0 0) 0)) rfl rfl (ho4 q2) rfl hX4 (by decide) rfl fX10_411 dX10_count_95 (fun _ => rfl) ?_
    exact r_iret dX10_count_98 rfl H
  replace H := H.2 c1
  by_cases c2 : x1 = 2
  · have H := H.1 c2
    refine r_tableIn (tgt := 99) (off := 98) dX10_count_1 (by rw [c2]; decide) (by rw [c2]; decide) (by rw [c2]; rfl) (by decide) ?_
    refine r_aload_n dX10_count_99 rfl rfl ?_
    refine r_get (k := 0) (i := 0) (j := 9) (v := rV 3 (σ.2.2 0 0)) rfl rfl ho0 rfl hX10 (by decide) rfl fX10_21 dX10_count_100 (fun _ => rfl) ?_
    obtain ⟨q3, H⟩ := H
    refine r_get (k := 3) (i := (σ.2.2 0 0)) (j := 6) (v := iV (σ.1 3 (σ.2.2 0 0) 6)) rfl rfl (ho3 q3) rfl hX0 (by decide) rfl fX10_412 dX10_count_103 (fun _ => rfl) ?_
    exact r_iret dX10_count_106 rfl H
  replace H := H.2 c2
  by_cases c3 : x1 = 3
  · have H := H.1 c3
    refine r_tableIn (tgt := 107) (off := 106) dX10_count_1 (by rw [c3]; decide) (by rw [c3]; decide) (by rw [c3]; rfl) (by decide) ?_
    refine r_aload_n dX10_count_107 rfl rfl ?_
    refine r_get (k := 0) (i := 0) (j := 9) (v := rV 3 (σ.2.2 0 0)) rfl rfl ho0 rfl hX10 (by decide) rfl fX10_21 dX10_count_108 (fun _ => rfl) ?_
    obtain ⟨q4, H⟩ := H
    refine r_get (k := 3) (i := (σ.2.2 0 0)) (j := 10) (v := iV (σ.1 3 (σ.2.2 0 0) 10)) rfl rfl (ho3 q4) rfl hX0 (by decide) rfl fX10_415 dX10_count_111 (fun _ => rfl) ?_
    exact r_iret dX10_count_114 rfl H
  replace H := H.2 c3
  by_cases c4 : x1 = 4
  · have H := H.1 c4
    refine r_tableIn (tgt := 115) (off := 114) dX10_count_1 (by rw [c4]; decide) (by rw [c4]; decide) (by rw [c4]; rfl) (by decide) ?_
    refine r_aload_n dX10_count_115 rfl rfl ?_
    refine r_get (k := 0) (i := 0) (j := 9) (v := rV 3 (σ.2.2 0 0)) rfl rfl ho0 rfl hX10 (by decide) rfl fX10_21 dX10_count_116 (fun _ => rfl) ?_
    obtain ⟨q5, H⟩ := H
    refine r_get (k := 3) (i := (σ.2.2 0 0)) (j := 14) (v := rV 4 (σ.2.2 0 0)) rfl rfl (ho3 q5) rfl hX0 (by decide) rfl fX10_147 dX10_count_119 (fun _ => rfl) ?_
    refine r_get (k := 4) (i := (σ.2.2 0 0)) (j := 4) (v := iV (σ.1 4 (σ.2.2 0 0) 4)) rfl rfl (ho4 q5) rfl hX4 (by decide) rfl fX10_418 dX10_count_122 (fun _ => rfl) ?_
    exact r_iret dX10_count_125 rfl H
  replace H := H.2 c4
  by_cases c5 : x1 = 5
  · have H := H.1 c5
    refine r_tableIn (tgt := 126) (off := 125) dX10_count_1 (by rw [c5]; decide) (by rw [c5]; decide) (by rw [c5]; rfl) (by decide) ?_
    refine r_aload_n dX10_count_126 rfl rfl ?_
    refine r_get (k := 0) (i := 0) (j := 9) (v := rV 3 (σ.2.2 0 0)) rfl rfl ho0 rfl hX10 (by decide) rfl fX10_21 dX10_count_127 (fun _ => rfl) ?_
    obtain ⟨q6, H⟩ := H
    refine r_get (k := 3) (i := (σ.2.2 0 0)) (j := 15) (v := rV 5 (σ.2.2 0 0)) rfl rfl (ho3 q6) rfl hX0 (by decide) rfl fX10_421 dX10_count_130 (fun _ => rfl) ?_
    refine r_get (k := 5) (i := (σ.2.2 0 0)) (j := 0) (v := iV (σ.1 5 (σ.2.2 0 0) 0)) rfl rfl (ho5 q6) rfl hX3 (by decide) rfl fX10_425 dX10_count_133 (fun _ => rfl) ?_
    exact r_iret dX10_count_136 rfl H
  replace H := H.2 c5
  by_cases c6 : x1 = 6
  · have H := H.1 c6
    refine r_tableIn (tgt := 137) (off := 136) dX10_count_1 (by rw [c6]; decide) (by rw [c6]; decide) (by rw [c6]; rfl) (by decide) ?_
    refine r_aload_n dX10_count_137 rfl rfl ?_
    refine r_get (k := 0) (i := 0) (j := 1) (v := rV 6 0) rfl rfl ho0 rfl hX10 (by decide) rfl fX10_30 dX10_count_138 (fun _ => rfl) ?_
    refine r_get (k := 6) (i := 0) (j := 6) (v := iV (σ.1 6 0 6)) rfl rfl (ho6 (by decide)) rfl hX8 (by decide) rfl fX10_262 dX10_count_141 (fun _ => rfl) ?_
    exact r_iret dX10_count_144 rfl H
  replace H := H.2 c6
  by_cases c7 : x1 = 7
  · have H := H.1 c7
    refine r_tableIn (tgt := 145) (off := 144) dX10_count_1 (by rw [c7]; decide) (by rw [c7]; decide) (by rw [c7]; rfl) (by decide) ?_
    refine r_aload_n dX10_count_145 rfl rfl ?_
    refine r_get (k := 0) (i := 0) (j := 1) (v := rV 6 0) rfl rfl ho0 rfl hX10 (by decide) rfl fX10_30 dX10_count_146 (fun _ => rfl) ?_
    refine r_aload_n dX10_count_149 rfl rfl ?_
    refine r_get (k := 0) (i := 0) (j := 9) (v := rV 3 (σ.2.2 0 0)) rfl rfl ho0 rfl hX10 (by decide) rfl fX10_21 dX10_count_150 (fun _ => rfl) ?_
    obtain ⟨q7, H⟩ := H
    refine r_callV (z := 0) (k := 3) (i := (σ.2.2 0 0)) (As := []) (st := [rV 6 0]) kX0_allPonds i_X0_allPonds e_X0_allPonds lX10_430 dX10_count_153 rfl rfl (ho3 q7) rfl rfl rfl rfl rfl (Nat.le_of_ble_eq_true rfl) ?_
    exact H
  replace H := H.2 c7
  by_cases c8 : x1 = 8
  · have H := H.1 c8
    refine r_tableIn (tgt := 160) (off := 159) dX10_count_1 (by rw [c8]; decide) (by rw [c8]; decide) (by rw [c8]; rfl) (by decide) ?_
    refine r_aload_n dX10_count_160 rfl rfl ?_
    refine r_get (k := 0) (i := 0) (j := 1) (v := rV 6 0) rfl rfl ho0 rfl hX10 (by decide) rfl fX10_30 dX10_count_161 (fun _ => rfl) ?_
    refine r_iconst (v := (1 : Int32)) dX10_count_164 rfl ?_
    refine r_callV (z := 2) (k := 6) (i := 0) (As := [iV (1 : Int32)]) (st := []) kX8_boatsThatAre i_X8_boatsThatAre e_X8_boatsThatAre lX10_275 dX10_count_165 rfl rfl (ho6 (by decide)) rfl rfl rfl rfl rfl (Nat.le_of_ble_eq_true rfl) ?_
    exact H
  replace H := H.2 c8
  by_cases c9 : x1 = 9
  · have H := H.1 c9
    refine r_tableIn (tgt := 169) (off := 168) dX10_count_1 (by rw [c9]; decide) (by rw [c9]; decide) (by rw [c9]; rfl) (by decide) ?_
    refine r_aload_n dX10_count_169 rfl rfl ?_
    refine r_get (k := 0) (i := 0) (j := 1) (v := rV 6 0) rfl rfl ho0 rfl hX10 (by decide) rfl fX10_30 dX10_count_170 (fun _ => rfl) ?_
    refine r_iconst (v := (2 : Int32)) dX10_count_173 rfl ?_
    refine r_callV (z := 2) (k := 6) (i := 0) (As := [iV (2 : Int32)]) (st := []) kX8_boatsThatAre i_X8_boatsThatAre e_X8_boatsThatAre lX10_275 dX10_count_174 rfl rfl (ho6 (by decide)) rfl rfl rfl rfl rfl (Nat.le_of_ble_eq_true rfl) ?_
    exact H
  replace H := H.2 c9
  by_cases c10 : x1 = 10
  · have H := H.1 c10
    refine r_tableIn (tgt := 178) (off := 177) dX10_count_1 (by rw [c10]; decide) (by rw [c10]; decide) (by rw [c10]; rfl) (by decide) ?_
    refine r_aload_n dX10_count_178 rfl rfl ?_
    refine r_get (k := 0) (i := 0) (j := 1) (v := rV 6 0) rfl rfl ho0 rfl hX10 (by decide) rfl fX10_30 dX10_count_179 (fun _ => rfl) ?_
    refine r_callV (z := 2) (k := 6) (i := 0) (As := []) (st := []) kX8_waitedByAll i_X8_waitedByAll e_X8_waitedByAll lX10_278 dX10_count_182 rfl rfl (ho6 (by decide)) rfl rfl rfl rfl rfl (Nat.le_of_ble_eq_true rfl) ?_
    exact H
  replace H := H.2 c10
  by_cases c11 : x1 = 11
  · have H := H.1 c11
    refine r_tableIn (tgt := 186) (off := 185) dX10_count_1 (by rw [c11]; decide) (by rw [c11]; decide) (by rw [c11]; rfl) (by decide) ?_
    refine r_aload_n dX10_count_186 rfl rfl ?_
    refine r_get (k := 0) (i := 0) (j := 1) (v := rV 6 0) rfl rfl ho0 rfl hX10 (by decide) rfl fX10_30 dX10_count_187 (fun _ => rfl) ?_
    refine r_get (k := 6) (i := 0) (j := 5) (v := iV (σ.1 6 0 5)) rfl rfl (ho6 (by decide)) rfl hX8 (by decide) rfl fX10_287 dX10_count_190 (fun _ => rfl) ?_
    exact r_iret dX10_count_193 rfl H
  replace H := H.2 c11
  by_cases c12 : x1 = 12
  · have H := H.1 c12
    refine r_tableIn (tgt := 194) (off := 193) dX10_count_1 (by rw [c12]; decide) (by rw [c12]; decide) (by rw [c12]; rfl) (by decide) ?_
    refine r_aload_n dX10_count_194 rfl rfl ?_
    refine r_get (k := 0) (i := 0) (j := 1) (v := rV 6 0) rfl rfl ho0 rfl hX10 (by decide) rfl fX10_30 dX10_count_195 (fun _ => rfl) ?_
    refine r_get (k := 6) (i := 0) (j := 2) (v := iV (σ.1 6 0 2)) rfl rfl (ho6 (by decide)) rfl hX8 (by decide) rfl fX10_193 dX10_count_198 (fun _ => rfl) ?_
    refine r_callS (z := 0) (As := [iV (σ.1 6 0 2)]) (st := []) kJ6_bitCount_0f7a4 s_J6_bitCount_0f7a4 lX10_282 dX10_count_201 rfl rfl rfl rfl (Nat.le_of_ble_eq_true rfl) ?_
    exact H
  replace H := H.2 c12
  by_cases c13 : x1 = 13
  · have H := H.1 c13
    refine r_tableIn (tgt := 205) (off := 204) dX10_count_1 (by rw [c13]; decide) (by rw [c13]; decide) (by rw [c13]; rfl) (by decide) ?_
    refine r_aload_n dX10_count_205 rfl rfl ?_
    refine r_get (k := 0) (i := 0) (j := 6) (v := rV 9 0) rfl rfl ho0 rfl hX10 (by decide) rfl fX10_57 dX10_count_206 (fun _ => rfl) ?_
    refine r_get (k := 9) (i := 0) (j := 0) (v := iV (σ.1 9 0 0)) rfl rfl ho9 rfl hX1 (by decide) rfl fX10_370 dX10_count_209 (fun _ => rfl) ?_
    exact r_iret dX10_count_212 rfl H
  replace H := H.2 c13
  by_cases c14 : x1 = 14
  · have H := H.1 c14
    refine r_tableIn (tgt := 213) (off := 212) dX10_count_1 (by rw [c14]; decide) (by rw [c14]; decide) (by rw [c14]; rfl) (by decide) ?_
    refine r_aload_n dX10_count_213 rfl rfl ?_
    refine r_get (k := 0) (i := 0) (j := 6) (v := rV 9 0) rfl rfl ho0 rfl hX10 (by decide) rfl fX10_57 dX10_count_214 (fun _ => rfl) ?_
    refine r_callV (z := 0) (k := 9) (i := 0) (As := []) (st := []) kX1_knownCount i_X1_knownCount e_X1_knownCount lX10_433 dX10_count_217 rfl rfl ho9 rfl rfl rfl rfl rfl (Nat.le_of_ble_eq_true rfl) ?_
    exact H
  replace H := H.2 c14
  by_cases c15 : x1 = 15
  · have H := H.1 c15
    refine r_tableIn (tgt := 221) (off := 220) dX10_count_1 (by rw [c15]; decide) (by rw [c15]; decide) (by rw [c15]; rfl) (by decide) ?_
    refine r_aload_n dX10_count_221 rfl rfl ?_
    refine r_get (k := 0) (i := 0) (j := 7) (v := rV 10 0) rfl rfl ho0 rfl hX10 (by decide) rfl fX10_64 dX10_count_222 (fun _ => rfl) ?_
    refine r_get (k := 10) (i := 0) (j := 0) (v := iV (σ.1 10 0 0)) rfl rfl ho10 rfl hX2 (by decide) rfl fX10_410 dX10_count_225 (fun _ => rfl) ?_
    exact r_iret dX10_count_228 rfl H
  replace H := H.2 c15
  refine r_tableOut (tgt := 229) dX10_count_1 (by have z0 := lv_neT c0 (show (0 : Int32).toInt = 0 by decide); have z1 := lv_neT c1 (show (1 : Int32).toInt = 1 by decide); have z2 := lv_neT c2 (show (2 : Int32).toInt = 2 by decide); have z3 := lv_neT c3 (show (3 : Int32).toInt = 3 by decide); have z4 := lv_neT c4 (show (4 : Int32).toInt = 4 by decide); have z5 := lv_neT c5 (show (5 : Int32).toInt = 5 by decide); have z6 := lv_neT c6 (show (6 : Int32).toInt = 6 by decide); have z7 := lv_neT c7 (show (7 : Int32).toInt = 7 by decide); have z8 := lv_neT c8 (show (8 : Int32).toInt = 8 by decide); have z9 := lv_neT c9 (show (9 : Int32).toInt = 9 by decide); have z10 := lv_neT c10 (show (10 : Int32).toInt = 10 by decide); have z11 := lv_neT c11 (show (11 : Int32).toInt = 11 by decide); have z12 := lv_neT c12 (show (12 : Int32).toInt = 12 by decide); have z13 := lv_neT c13 (show (13 : Int32).toInt = 13 by decide); have z14 := lv_neT c14 (show (14 : Int32).toInt = 14 by decide); have z15 := lv_neT c15 (show (15 : Int32).toInt = 15 by decide); omega) (by decide) ?_
  refine r_iconst (v := (-1 : Int32)) dX10_count_229 rfl ?_
  exact r_iret dX10_count_230 rfl H
set_option maxRecDepth 100000 in
theorem bX10_count_156 {d : Nat} {Q : Option MV → MS → Prop} {x1 : Int32} {s0 : Int32} {σ : MS}  (H : (R mj_OC d mX8_waterOf (fun r σ' => R mj_OC (d + 1) mX10_count Q 159 [some (rV 0 0), some (iV x1)] (r.toList ++ []) σ') 0 [some (rV 6 0), some (iV s0), none, none] [] σ)) : R mj_OC (d + 1) mX10_count Q 156 [some (rV 0 0), some (iV x1)] [iV s0, rV 6 0] σ := by
  refine r_callV (z := 2) (k := 6) (i := 0) (As := [iV s0]) (st := []) kX8_waterOf i_X8_waterOf e_X8_waterOf lX10_296 dX10_count_156 rfl rfl (ho6 (by decide)) rfl rfl rfl rfl rfl (Nat.le_of_ble_eq_true rfl) ?_
  exact H
set_option maxRecDepth 100000 in
theorem bX10_count_159 {d : Nat} {Q : Option MV → MS → Prop} {x1 : Int32} {s0 : Int32} {σ : MS}  (H : Q (some (iV s0)) σ) : R mj_OC d mX10_count Q 159 [some (rV 0 0), some (iV x1)] [iV s0] σ := by
  exact r_iret dX10_count_159 rfl H
set_option maxRecDepth 100000 in
theorem bX10_count_168 {d : Nat} {Q : Option MV → MS → Prop} {x1 : Int32} {s0 : Int32} {σ : MS}  (H : Q (some (iV s0)) σ) : R mj_OC d mX10_count Q 168 [some (rV 0 0), some (iV x1)] [iV s0] σ := by
  exact r_iret dX10_count_168 rfl H
set_option maxRecDepth 100000 in
theorem bX10_count_177 {d : Nat} {Q : Option MV → MS → Prop} {x1 : Int32} {s0 : Int32} {σ : MS}  (H : Q (some (iV s0)) σ) : R mj_OC d mX10_count Q 177 [some (rV 0 0), some (iV x1)] [iV s0] σ := by
  exact r_iret dX10_count_177 rfl H
set_option maxRecDepth 100000 in
theorem bX10_count_185 {d : Nat} {Q : Option MV → MS → Prop} {x1 : Int32} {s0 : Int32} {σ : MS}  (H : Q (some (iV s0)) σ) : R mj_OC d mX10_count Q 185 [some (rV 0 0), some (iV x1)] [iV s0] σ := by
  exact r_iret dX10_count_185 rfl H
set_option maxRecDepth 100000 in
theorem bX10_count_204 {d : Nat} {Q : Option MV → MS → Prop} {x1 : Int32} {s0 : Int32} {σ : MS}  (H : Q (some (iV s0)) σ) : R mj_OC d mX10_count Q 204 [some (rV 0 0), some (iV x1)] [iV s0] σ := by
  exact r_iret dX10_count_204 rfl H
set_option maxRecDepth 100000 in
theorem bX10_count_220 {d : Nat} {Q : Option MV → MS → Prop} {x1 : Int32} {s0 : Int32} {σ : MS}  (H : Q (some (iV s0)) σ) : R mj_OC d mX10_count Q 220 [some (rV 0 0), some (iV x1)] [iV s0] σ := by
  exact r_iret dX10_count_220 rfl H
set_option maxRecDepth 100000 in
theorem bX10_isPond_0 {d : Nat} {Q : Option MV → MS → Prop} {x1 : Int32} {σ : MS}  (H : ((x1 < 0 → Q (some (iV (0 : Int32))) σ) ∧ (¬ x1 < 0 → (σ.2.2 0 0 < 2 ∧ (((σ.1 3 (σ.2.2 0 0) 0) ≤ x1 → Q (some (iV (0 : Int32))) σ) ∧ (¬ (σ.1 3 (σ.2.2 0 0) 0) ≤ x1 → Q (some (iV (1 : Int32))) σ)))))) : R mj_OC d mX10_isPond Q 0 [some (rV 0 0), some (iV x1)] [] σ := by
  refine r_iload_n dX10_isPond_0 rfl rfl ?_
  refine r_if_lt (tgt := 19) dX10_isPond_1 (by decide) (fun c => ?_) (fun c => ?_)
  · have H := H.1 c
    refine r_iconst (v := (0 : Int32)) dX10_isPond_19 rfl ?_
    exact r_zret dX10_isPond_20 rfl (by decide) H
  · have H := H.2 c
    refine r_iload_n dX10_isPond_4 rfl rfl ?_
    refine r_aload_n dX10_isPond_5 rfl rfl ?_
    refine r_get (k := 0) (i := 0) (j := 9) (v := rV 3 (σ.2.2 0 0)) rfl rfl ho0 rfl hX10 (by decide) rfl fX10_21 dX10_isPond_6 (fun _ => rfl) ?_
    obtain ⟨q1, H⟩ := H
    refine r_get (k := 3) (i := (σ.2.2 0 0)) (j := 0) (v := iV (σ.1 3 (σ.2.2 0 0) 0)) rfl rfl (ho3 q1) rfl hX0 (by decide) rfl fX10_293 dX10_isPond_9 (fun _ => rfl) ?_
    refine r_icmp_ge (tgt := 19) dX10_isPond_12 (by decide) (fun c => ?_) (fun c => ?_)
    · have H := H.1 c
      refine r_iconst (v := (0 : Int32)) dX10_isPond_19 rfl ?_
      exact r_zret dX10_isPond_20 rfl (by decide) H
    · have H := H.2 c
      refine r_iconst (v := (1 : Int32)) dX10_isPond_15 rfl ?_
      refine r_goto (tgt := 20) dX10_isPond_16 (by decide) ?_
      exact r_zret dX10_isPond_20 rfl (by decide) H
set_option maxRecDepth 100000 in
theorem bX10_isPipe_0 {d : Nat} {Q : Option MV → MS → Prop} {x1 : Int32} {σ : MS}  (H : ((x1 < 0 → Q (some (iV (0 : Int32))) σ) ∧ (¬ x1 < 0 → (σ.2.2 0 0 < 2 ∧ (((σ.1 3 (σ.2.2 0 0) 6) ≤ x1 → Q (some (iV (0 : Int32))) σ) ∧ (¬ (σ.1 3 (σ.2.2 0 0) 6) ≤ x1 → Q (some (iV (1 : Int32))) σ)))))) : R mj_OC d mX10_isPipe Q 0 [some (rV 0 0), some (iV x1)] [] σ := by
  refine r_iload_n dX10_isPipe_0 rfl rfl ?_
  refine r_if_lt (tgt := 19) dX10_isPipe_1 (by decide) (fun c => ?_) (fun c => ?_)
  · have H := H.1 c
    refine r_iconst (v := (0 : Int32)) dX10_isPipe_19 rfl ?_
    exact r_zret dX10_isPipe_20 rfl (by decide) H
  · have H := H.2 c
    refine r_iload_n dX10_isPipe_4 rfl rfl ?_
    refine r_aload_n dX10_isPipe_5 rfl rfl ?_
    refine r_get (k := 0) (i := 0) (j := 9) (v := rV 3 (σ.2.2 0 0)) rfl rfl ho0 rfl hX10 (by decide) rfl fX10_21 dX10_isPipe_6 (fun _ => rfl) ?_
    obtain ⟨q1, H⟩ := H
    refine r_get (k := 3) (i := (σ.2.2 0 0)) (j := 6) (v := iV (σ.1 3 (σ.2.2 0 0) 6)) rfl rfl (ho3 q1) rfl hX0 (by decide) rfl fX10_412 dX10_isPipe_9 (fun _ => rfl) ?_
    refine r_icmp_ge (tgt := 19) dX10_isPipe_12 (by decide) (fun c => ?_) (fun c => ?_)
    · have H := H.1 c
      refine r_iconst (v := (0 : Int32)) dX10_isPipe_19 rfl ?_
      exact r_zret dX10_isPipe_20 rfl (by decide) H
    · have H := H.2 c
      refine r_iconst (v := (1 : Int32)) dX10_isPipe_15 rfl ?_
      refine r_goto (tgt := 20) dX10_isPipe_16 (by decide) ?_
      exact r_zret dX10_isPipe_20 rfl (by decide) H
set_option maxRecDepth 100000 in
theorem bX10_isLock_0 {d : Nat} {Q : Option MV → MS → Prop} {x1 : Int32} {σ : MS}  (H : ((x1 < 0 → Q (some (iV (0 : Int32))) σ) ∧ (¬ x1 < 0 → (σ.2.2 0 0 < 2 ∧ (((σ.1 4 (σ.2.2 0 0) 0) ≤ x1 → Q (some (iV (0 : Int32))) σ) ∧ (¬ (σ.1 4 (σ.2.2 0 0) 0) ≤ x1 → Q (some (iV (1 : Int32))) σ)))))) : R mj_OC d mX10_isLock Q 0 [some (rV 0 0), some (iV x1)] [] σ := by
  refine r_iload_n dX10_isLock_0 rfl rfl ?_
  refine r_if_lt (tgt := 22) dX10_isLock_1 (by decide) (fun c => ?_) (fun c => ?_)
  · have H := H.1 c
    refine r_iconst (v := (0 : Int32)) dX10_isLock_22 rfl ?_
    exact r_zret dX10_isLock_23 rfl (by decide) H
  · have H := H.2 c
    refine r_iload_n dX10_isLock_4 rfl rfl ?_
    refine r_aload_n dX10_isLock_5 rfl rfl ?_
    refine r_get (k := 0) (i := 0) (j := 9) (v := rV 3 (σ.2.2 0 0)) rfl rfl ho0 rfl hX10 (by decide) rfl fX10_21 dX10_isLock_6 (fun _ => rfl) ?_
    obtain ⟨q1, H⟩ := H
    refine r_get (k := 3) (i := (σ.2.2 0 0)) (j := 14) (v := rV 4 (σ.2.2 0 0)) rfl rfl (ho3 q1) rfl hX0 (by decide) rfl fX10_147 dX10_isLock_9 (fun _ => rfl) ?_
    refine r_get (k := 4) (i := (σ.2.2 0 0)) (j := 0) (v := iV (σ.1 4 (σ.2.2 0 0) 0)) rfl rfl (ho4 q1) rfl hX4 (by decide) rfl fX10_411 dX10_isLock_12 (fun _ => rfl) ?_
    refine r_icmp_ge (tgt := 22) dX10_isLock_15 (by decide) (fun c => ?_) (fun c => ?_)
    · have H := H.1 c
      refine r_iconst (v := (0 : Int32)) dX10_isLock_22 rfl ?_
      exact r_zret dX10_isLock_23 rfl (by decide) H
    · have H := H.2 c
      refine r_iconst (v := (1 : Int32)) dX10_isLock_18 rfl ?_
      refine r_goto (tgt := 23) dX10_isLock_19 (by decide) ?_
      exact r_zret dX10_isLock_23 rfl (by decide) H
set_option maxRecDepth 100000 in
theorem bX10_isBoat_0 {d : Nat} {Q : Option MV → MS → Prop} {x1 : Int32} {σ : MS}  (H : ((x1 < 0 → Q (some (iV (0 : Int32))) σ) ∧ (¬ x1 < 0 → (σ.2.2 0 0 < 2 ∧ (((σ.1 4 (σ.2.2 0 0) 4) ≤ x1 → Q (some (iV (0 : Int32))) σ) ∧ (¬ (σ.1 4 (σ.2.2 0 0) 4) ≤ x1 → Q (some (iV (1 : Int32))) σ)))))) : R mj_OC d mX10_isBoat Q 0 [some (rV 0 0), some (iV x1)] [] σ := by
  refine r_iload_n dX10_isBoat_0 rfl rfl ?_
  refine r_if_lt (tgt := 22) dX10_isBoat_1 (by decide) (fun c => ?_) (fun c => ?_)
  · have H := H.1 c
    refine r_iconst (v := (0 : Int32)) dX10_isBoat_22 rfl ?_
    exact r_zret dX10_isBoat_23 rfl (by decide) H
  · have H := H.2 c
    refine r_iload_n dX10_isBoat_4 rfl rfl ?_
    refine r_aload_n dX10_isBoat_5 rfl rfl ?_
    refine r_get (k := 0) (i := 0) (j := 9) (v := rV 3 (σ.2.2 0 0)) rfl rfl ho0 rfl hX10 (by decide) rfl fX10_21 dX10_isBoat_6 (fun _ => rfl) ?_
    obtain ⟨q1, H⟩ := H
    refine r_get (k := 3) (i := (σ.2.2 0 0)) (j := 14) (v := rV 4 (σ.2.2 0 0)) rfl rfl (ho3 q1) rfl hX0 (by decide) rfl fX10_147 dX10_isBoat_9 (fun _ => rfl) ?_
    refine r_get (k := 4) (i := (σ.2.2 0 0)) (j := 4) (v := iV (σ.1 4 (σ.2.2 0 0) 4)) rfl rfl (ho4 q1) rfl hX4 (by decide) rfl fX10_418 dX10_isBoat_12 (fun _ => rfl) ?_
    refine r_icmp_ge (tgt := 22) dX10_isBoat_15 (by decide) (fun c => ?_) (fun c => ?_)
    · have H := H.1 c
      refine r_iconst (v := (0 : Int32)) dX10_isBoat_22 rfl ?_
      exact r_zret dX10_isBoat_23 rfl (by decide) H
    · have H := H.2 c
      refine r_iconst (v := (1 : Int32)) dX10_isBoat_18 rfl ?_
      refine r_goto (tgt := 23) dX10_isBoat_19 (by decide) ?_
      exact r_zret dX10_isBoat_23 rfl (by decide) H
set_option maxRecDepth 100000 in
theorem bX10_isHalf_0 {d : Nat} {Q : Option MV → MS → Prop} {x0 : Int32} {σ : MS}  (H : ((x0 = 0 → Q (some (iV (1 : Int32))) σ) ∧ (¬ x0 = 0 → ((¬ x0 = (1 : Int32) → Q (some (iV (0 : Int32))) σ) ∧ (x0 = (1 : Int32) → Q (some (iV (1 : Int32))) σ))))) : R mj_OC d mX10_isHalf Q 0 [some (iV x0)] [] σ := by
  refine r_iload_n dX10_isHalf_0 rfl rfl ?_
  refine r_if_eq (tgt := 9) dX10_isHalf_1 (by decide) (fun c => ?_) (fun c => ?_)
  · have H := H.1 c
    refine r_iconst (v := (1 : Int32)) dX10_isHalf_9 rfl ?_
    refine r_goto (tgt := 14) dX10_isHalf_10 (by decide) ?_
    exact r_zret dX10_isHalf_14 rfl (by decide) H
  · have H := H.2 c
    refine r_iload_n dX10_isHalf_4 rfl rfl ?_
    refine r_iconst (v := (1 : Int32)) dX10_isHalf_5 rfl ?_
    refine r_icmp_ne (tgt := 13) dX10_isHalf_6 (by decide) (fun c => ?_) (fun c => ?_)
    · have H := H.1 c
      refine r_iconst (v := (0 : Int32)) dX10_isHalf_13 rfl ?_
      exact r_zret dX10_isHalf_14 rfl (by decide) H
    · have H := H.2 c
      refine r_iconst (v := (1 : Int32)) dX10_isHalf_9 rfl ?_
      refine r_goto (tgt := 14) dX10_isHalf_10 (by decide) ?_
      exact r_zret dX10_isHalf_14 rfl (by decide) H
set_option maxRecDepth 100000 in
theorem bX10_isHeight_0 {d : Nat} {Q : Option MV → MS → Prop} {x0 : Int32} {σ : MS}  (H : ((x0 < 0 → Q (some (iV (0 : Int32))) σ) ∧ (¬ x0 < 0 → (((999 : Int32) < x0 → Q (some (iV (0 : Int32))) σ) ∧ (¬ (999 : Int32) < x0 → Q (some (iV (1 : Int32))) σ))))) : R mj_OC d mX10_isHeight Q 0 [some (iV x0)] [] σ := by
  refine r_iload_n dX10_isHeight_0 rfl rfl ?_
  refine r_if_lt (tgt := 15) dX10_isHeight_1 (by decide) (fun c => ?_) (fun c => ?_)
  · have H := H.1 c
    refine r_iconst (v := (0 : Int32)) dX10_isHeight_15 rfl ?_
    exact r_zret dX10_isHeight_16 rfl (by decide) H
  · have H := H.2 c
    refine r_iload_n dX10_isHeight_4 rfl rfl ?_
    refine r_sipush (v := (999 : Int32)) dX10_isHeight_5 rfl ?_
    refine r_icmp_gt (tgt := 15) dX10_isHeight_8 (by decide) (fun c => ?_) (fun c => ?_)
    · have H := H.1 c
      refine r_iconst (v := (0 : Int32)) dX10_isHeight_15 rfl ?_
      exact r_zret dX10_isHeight_16 rfl (by decide) H
    · have H := H.2 c
      refine r_iconst (v := (1 : Int32)) dX10_isHeight_11 rfl ?_
      refine r_goto (tgt := 16) dX10_isHeight_12 (by decide) ?_
      exact r_zret dX10_isHeight_16 rfl (by decide) H
set_option maxRecDepth 100000 in
theorem bX10_isBucket_0 {d : Nat} {Q : Option MV → MS → Prop} {x0 : Int32} {σ : MS}  (H : ((x0 < (1 : Int32) → Q (some (iV (0 : Int32))) σ) ∧ (¬ x0 < (1 : Int32) → (((99 : Int32) < x0 → Q (some (iV (0 : Int32))) σ) ∧ (¬ (99 : Int32) < x0 → Q (some (iV (1 : Int32))) σ))))) : R mj_OC d mX10_isBucket Q 0 [some (iV x0)] [] σ := by
  refine r_iload_n dX10_isBucket_0 rfl rfl ?_
  refine r_iconst (v := (1 : Int32)) dX10_isBucket_1 rfl ?_
  refine r_icmp_lt (tgt := 15) dX10_isBucket_2 (by decide) (fun c => ?_) (fun c => ?_)
  · have H := H.1 c
    refine r_iconst (v := (0 : Int32)) dX10_isBucket_15 rfl ?_
    exact r_zret dX10_isBucket_16 rfl (by decide) H
  · have H := H.2 c
    refine r_iload_n dX10_isBucket_5 rfl rfl ?_
    refine r_bipush (v := (99 : Int32)) dX10_isBucket_6 rfl ?_
    refine r_icmp_gt (tgt := 15) dX10_isBucket_8 (by decide) (fun c => ?_) (fun c => ?_)
    · have H := H.1 c
      refine r_iconst (v := (0 : Int32)) dX10_isBucket_15 rfl ?_
      exact r_zret dX10_isBucket_16 rfl (by decide) H
    · have H := H.2 c
      refine r_iconst (v := (1 : Int32)) dX10_isBucket_11 rfl ?_
      refine r_goto (tgt := 16) dX10_isBucket_12 (by decide) ?_
      exact r_zret dX10_isBucket_16 rfl (by decide) H
set_option maxRecDepth 100000 in
theorem bX10_orWithout_0 {d : Nat} {Q : Option MV → MS → Prop} {x0 : Int32} {σ : MS}  (H : ((¬ x0 = (-1 : Int32) → Q (some (iV x0)) σ) ∧ (x0 = (-1 : Int32) → Q (some (iV (-2 : Int32))) σ))) : R mj_OC d mX10_orWithout Q 0 [some (iV x0)] [] σ := by
  refine r_iload_n dX10_orWithout_0 rfl rfl ?_
  refine r_iconst (v := (-1 : Int32)) dX10_orWithout_1 rfl ?_
  refine r_icmp_ne (tgt := 10) dX10_orWithout_2 (by decide) (fun c => ?_) (fun c => ?_)
  · have H := H.1 c
    refine r_iload_n dX10_orWithout_10 rfl rfl ?_
    exact r_iret dX10_orWithout_11 rfl H
  · have H := H.2 c
    refine r_bipush (v := (-2 : Int32)) dX10_orWithout_5 rfl ?_
    refine r_goto (tgt := 11) dX10_orWithout_7 (by decide) ?_
    exact r_iret dX10_orWithout_11 rfl H
set_option maxRecDepth 100000 in
theorem bX10_inLeastTerms_0 {d : Nat} {Q : Option MV → MS → Prop} {x0 : Int64} {x2 : Int64} {x4 : Int32} {σ : MS}  (H : R mj_OC d mX10_inLeastTerms Q 9 [some (lV x0), none, some (lV x2), none, some (iV x4), some (lV x0), none, some (lV x2), none, some (iV (0 : Int32)), none, none] [] σ) : R mj_OC d mX10_inLeastTerms Q 0 [some (lV x0), none, some (lV x2), none, some (iV x4), none, none, none, none, none, none, none] [] σ := by
  refine r_lload_n dX10_inLeastTerms_0 rfl rfl ?_
  refine r_lstore dX10_inLeastTerms_1 (by decide) rfl ?_
  refine r_lload_n dX10_inLeastTerms_3 rfl rfl ?_
  refine r_lstore dX10_inLeastTerms_4 (by decide) rfl ?_
  refine r_iconst (v := (0 : Int32)) dX10_inLeastTerms_6 rfl ?_
  refine r_istore dX10_inLeastTerms_7 (by decide) rfl ?_
  exact H
set_option maxRecDepth 100000 in
theorem bX10_inLeastTerms_9 {d : Nat} {Q : Option MV → MS → Prop} {x0 : Int64} {x2 : Int64} {x4 : Int32} {x5 : Int64} {x7 : Int64} {x9 : Int32} {σ : MS}  (H : (((200 : Int32) ≤ x9 → ((¬ (lg_cmp x5 (0 : Int64)) = 0 → ((¬ x4 = 0 → ((¬ x5 = 0) ∧ Q (some (lV (x2 / x5))) σ)) ∧ (x4 = 0 → ((¬ x5 = 0) ∧ Q (some (lV (x0 / x5))) σ)))) ∧ ((lg_cmp x5 (0 : Int64)) = 0 → Q (some (lV (-1 : Int64))) σ))) ∧ (¬ (200 : Int32) ≤ x9 → (((lg_cmp x7 (0 : Int64)) = 0 → ((¬ (lg_cmp x5 (0 : Int64)) = 0 → ((¬ x4 = 0 → ((¬ x5 = 0) ∧ Q (some (lV (x2 / x5))) σ)) ∧ (x4 = 0 → ((¬ x5 = 0) ∧ Q (some (lV (x0 / x5))) σ)))) ∧ ((lg_cmp x5 (0 : Int64)) = 0 → Q (some (lV (-1 : Int64))) σ))) ∧ (¬ (lg_cmp x7 (0 : Int64)) = 0 → ((¬ x7 = 0) ∧ R mj_OC d mX10_inLeastTerms Q 9 [some (lV x0), none, some (lV x2), none, some (iV x4), some (lV x7), none, some (lV (x5 - x5 / x7 * x7)), none, some (iV (x9 + (1 : Int32))), none, none] [] σ)))))) : R mj_OC d mX10_inLeastTerms Q 9 [some (lV x0), none, some (lV x2), none, some (iV x4), some (lV x5), none, some (lV x7), none, some (iV x9), none, none] [] σ := by
  refine r_iload dX10_inLeastTerms_9 rfl ?_
  refine r_sipush (v := (200 : Int32)) dX10_inLeastTerms_11 rfl ?_
  refine r_icmp_ge (tgt := 45) dX10_inLeastTerms_14 (by decide) (fun c => ?_) (fun c => ?_)
  · have H := H.1 c
    refine r_lload dX10_inLeastTerms_45 rfl ?_
    refine r_lconst (v := (0 : Int64)) dX10_inLeastTerms_47 rfl ?_
    refine r_lcmp dX10_inLeastTerms_48 ?_
    refine r_if_ne (tgt := 56) dX10_inLeastTerms_49 (by decide) (fun c => ?_) (fun c => ?_)
    · have H := H.1 c
      refine r_iload dX10_inLeastTerms_56 rfl ?_
      refine r_if_ne (tgt := 65) dX10_inLeastTerms_58 (by decide) (fun c => ?_) (fun c => ?_)
      · have H := H.1 c
        refine r_lload_n dX10_inLeastTerms_65 rfl rfl ?_
        refine r_lload dX10_inLeastTerms_66 rfl ?_
        obtain ⟨q1, H⟩ := H
        refine r_ldiv dX10_inLeastTerms_68 q1 ?_
        exact r_lret dX10_inLeastTerms_69 rfl H
      · have H := H.2 c
        refine r_lload_n dX10_inLeastTerms_61 rfl rfl ?_
        refine r_goto (tgt := 66) dX10_inLeastTerms_62 (by decide) ?_
        refine r_lload dX10_inLeastTerms_66 rfl ?_
        obtain ⟨q2, H⟩ := H
        refine r_ldiv dX10_inLeastTerms_68 q2 ?_
        exact r_lret dX10_inLeastTerms_69 rfl H
    · have H := H.2 c
      refine r_ldc2 (v := (-1 : Int64)) olX10_356 dX10_inLeastTerms_52 ?_
      exact r_lret dX10_inLeastTerms_55 rfl H
  · have H := H.2 c
    refine r_lload dX10_inLeastTerms_17 rfl ?_
    refine r_lconst (v := (0 : Int64)) dX10_inLeastTerms_19 rfl ?_
    refine r_lcmp dX10_inLeastTerms_20 ?_
    refine r_if_eq (tgt := 45) dX10_inLeastTerms_21 (by decide) (fun c => ?_) (fun c => ?_)
    · have H := H.1 c
      refine r_lload dX10_inLeastTerms_45 rfl ?_
      refine r_lconst (v := (0 : Int64)) dX10_inLeastTerms_47 rfl ?_
      refine r_lcmp dX10_inLeastTerms_48 ?_
      refine r_if_ne (tgt := 56) dX10_inLeastTerms_49 (by decide) (fun c => ?_) (fun c => ?_)
      · have H := H.1 c
        refine r_iload dX10_inLeastTerms_56 rfl ?_
        refine r_if_ne (tgt := 65) dX10_inLeastTerms_58 (by decide) (fun c => ?_) (fun c => ?_)
        · have H := H.1 c
          refine r_lload_n dX10_inLeastTerms_65 rfl rfl ?_
          refine r_lload dX10_inLeastTerms_66 rfl ?_
          obtain ⟨q3, H⟩ := H
          refine r_ldiv dX10_inLeastTerms_68 q3 ?_
          exact r_lret dX10_inLeastTerms_69 rfl H
        · have H := H.2 c
          refine r_lload_n dX10_inLeastTerms_61 rfl rfl ?_
          refine r_goto (tgt := 66) dX10_inLeastTerms_62 (by decide) ?_
          refine r_lload dX10_inLeastTerms_66 rfl ?_
          obtain ⟨q4, H⟩ := H
          refine r_ldiv dX10_inLeastTerms_68 q4 ?_
          exact r_lret dX10_inLeastTerms_69 rfl H
      · have H := H.2 c
        refine r_ldc2 (v := (-1 : Int64)) olX10_356 dX10_inLeastTerms_52 ?_
        exact r_lret dX10_inLeastTerms_55 rfl H
    · have H := H.2 c
      refine r_lload dX10_inLeastTerms_24 rfl ?_
      refine r_lload dX10_inLeastTerms_26 rfl ?_
      obtain ⟨q5, H⟩ := H
      refine r_lrem dX10_inLeastTerms_28 q5 ?_
      refine r_lstore dX10_inLeastTerms_29 (by decide) rfl ?_
      refine r_lload dX10_inLeastTerms_31 rfl ?_
      refine r_lstore dX10_inLeastTerms_33 (by decide) rfl ?_
      refine r_lload dX10_inLeastTerms_35 rfl ?_
      refine r_lstore dX10_inLeastTerms_37 (by decide) rfl ?_
      refine r_iinc (v := x9 + (1 : Int32)) dX10_inLeastTerms_39 rfl rfl (by decide) rfl ?_
      refine r_goto (tgt := 9) dX10_inLeastTerms_42 (by decide) ?_
      exact R.fw (ls' := [some (lV x0), none, some (lV x2), none, some (iV x4), some (lV x7), none, some (lV (x5 - x5 / x7 * x7)), none, some (iV (x9 + (1 : Int32))), none, none]) ⟨rfl, ⟨rfl, ⟨rfl, ⟨rfl, ⟨rfl, ⟨rfl, trivial⟩⟩⟩⟩⟩⟩ H
set_option maxRecDepth 100000 in
theorem bX10_isRest_0 {d : Nat} {Q : Option MV → MS → Prop} {x1 : Int32} {x2 : Int32} {x3 : Int32} {σ : MS}  (H : (vp_in x1 7 ∧ vp_in x2 7 ∧ (R mj_OC d mX10_keeperHas (fun r σ' => R mj_OC (d + 1) mX10_isRest Q 43 [some (rV 0 0), some (iV x1), some (iV x2), some (iV x3), some (iV (x3 / (2 : Int32))), some (iV (x3 - x3 / (2 : Int32) * (2 : Int32))), some (iV (σ.1 35 0 ((x1).toNatClampNeg))), some (iV (σ.1 35 0 ((x2).toNatClampNeg)))] (r.toList ++ []) σ') 0 [some (iV (σ.1 35 0 ((x1).toNatClampNeg))), some (iV (σ.1 35 0 ((x2).toNatClampNeg))), some (iV (x3 / (2 : Int32))), some (iV (x3 - x3 / (2 : Int32) * (2 : Int32)))] [] σ))) : R mj_OC (d + 1) mX10_isRest Q 0 [some (rV 0 0), some (iV x1), some (iV x2), some (iV x3), none, none, none, none] [] σ := by
  refine r_iload_n dX10_isRest_0 rfl rfl ?_
  refine r_iconst (v := (2 : Int32)) dX10_isRest_1 rfl ?_
  refine r_idiv dX10_isRest_2 (by decide) ?_
  refine r_istore dX10_isRest_3 (by decide) rfl ?_
  refine r_iload_n dX10_isRest_5 rfl rfl ?_
  refine r_iconst (v := (2 : Int32)) dX10_isRest_6 rfl ?_
  refine r_irem dX10_isRest_7 (by decide) ?_
  refine r_istore dX10_isRest_8 (by decide) rfl ?_
  refine r_aload_n dX10_isRest_10 rfl rfl ?_
  refine r_get (k := 0) (i := 0) (j := 1) (v := rV 6 0) rfl rfl ho0 rfl hX10 (by decide) rfl fX10_30 dX10_isRest_11 (fun _ => rfl) ?_
  refine r_get (k := 6) (i := 0) (j := 1) (v := rV 35 0) rfl rfl (ho6 (by decide)) rfl hX8 (by decide) rfl fX10_141 dX10_isRest_14 (fun _ => rfl) ?_
  refine r_iload_n dX10_isRest_17 rfl rfl ?_
  obtain ⟨q1, H⟩ := H
  refine r_iald (k := 35) (i := 0) rfl (ho35 (by decide)) q1 dX10_isRest_18 ?_
  refine r_istore dX10_isRest_19 (by decide) rfl ?_
  refine r_aload_n dX10_isRest_21 rfl rfl ?_
  refine r_get (k := 0) (i := 0) (j := 1) (v := rV 6 0) rfl rfl ho0 rfl hX10 (by decide) rfl fX10_30 dX10_isRest_22 (fun _ => rfl) ?_
  refine r_get (k := 6) (i := 0) (j := 1) (v := rV 35 0) rfl rfl (ho6 (by decide)) rfl hX8 (by decide) rfl fX10_141 dX10_isRest_25 (fun _ => rfl) ?_
  refine r_iload_n dX10_isRest_28 rfl rfl ?_
  obtain ⟨q2, H⟩ := H
  refine r_iald (k := 35) (i := 0) rfl (ho35 (by decide)) q2 dX10_isRest_29 ?_
  refine r_istore dX10_isRest_30 (by decide) rfl ?_
  refine r_iload dX10_isRest_32 rfl ?_
  refine r_iload dX10_isRest_34 rfl ?_
  refine r_iload dX10_isRest_36 rfl ?_
  refine r_iload dX10_isRest_38 rfl ?_
  refine r_callS (z := 0) (As := [iV (σ.1 35 0 ((x1).toNatClampNeg)), iV (σ.1 35 0 ((x2).toNatClampNeg)), iV (x3 / (2 : Int32)), iV (x3 - x3 / (2 : Int32) * (2 : Int32))]) (st := []) kX10_keeperHas s_X10_keeperHas lX10_436 dX10_isRest_40 rfl rfl rfl rfl (Nat.le_of_ble_eq_true rfl) ?_
  exact H
set_option maxRecDepth 100000 in
theorem bX10_isRest_43 {d : Nat} {Q : Option MV → MS → Prop} {x1 : Int32} {x2 : Int32} {x3 : Int32} {x4 : Int32} {x5 : Int32} {x6 : Int32} {x7 : Int32} {s0 : Int32} {σ : MS}  (H : (R mj_OC d mX10_keeperHas (fun r σ' => R mj_OC (d + 1) mX10_isRest Q 56 [some (rV 0 0), some (iV x1), some (iV x2), some (iV x3), some (iV x4), some (iV x5), some (iV x6), some (iV x7)] (r.toList ++ [iV s0]) σ') 0 [some (iV x6), some (iV x7), some (iV ((1 : Int32) - x4)), some (iV x5)] [] σ)) : R mj_OC (d + 1) mX10_isRest Q 43 [some (rV 0 0), some (iV x1), some (iV x2), some (iV x3), some (iV x4), some (iV x5), some (iV x6), some (iV x7)] [iV s0] σ := by
  refine r_iload dX10_isRest_43 rfl ?_
  refine r_iload dX10_isRest_45 rfl ?_
  refine r_iconst (v := (1 : Int32)) dX10_isRest_47 rfl ?_
  refine r_iload dX10_isRest_48 rfl ?_
  refine r_isub dX10_isRest_50 ?_
  refine r_iload dX10_isRest_51 rfl ?_
  refine r_callS (z := 0) (As := [iV x6, iV x7, iV ((1 : Int32) - x4), iV x5]) (st := [iV s0]) kX10_keeperHas s_X10_keeperHas lX10_436 dX10_isRest_53 rfl rfl rfl rfl (Nat.le_of_ble_eq_true rfl) ?_
  exact H
set_option maxRecDepth 100000 in
theorem bX10_isRest_56 {d : Nat} {Q : Option MV → MS → Prop} {x1 : Int32} {x2 : Int32} {x3 : Int32} {x4 : Int32} {x5 : Int32} {x6 : Int32} {x7 : Int32} {s0 : Int32} {s1 : Int32} {σ : MS}  (H : ((s1 < s0 → Q (some (iV (0 : Int32))) σ) ∧ (¬ s1 < s0 → (R mj_OC d mX10_keeperHas (fun r σ' => R mj_OC (d + 1) mX10_isRest Q 70 [some (rV 0 0), some (iV x1), some (iV x2), some (iV x3), some (iV x4), some (iV x5), some (iV x6), some (iV x7)] (r.toList ++ []) σ') 0 [some (iV x7), some (iV x6), some (iV x5), some (iV x4)] [] σ)))) : R mj_OC (d + 1) mX10_isRest Q 56 [some (rV 0 0), some (iV x1), some (iV x2), some (iV x3), some (iV x4), some (iV x5), some (iV x6), some (iV x7)] [iV s0, iV s1] σ := by
  refine r_icmp_lt (tgt := 90) dX10_isRest_56 (by decide) (fun c => ?_) (fun c => ?_)
  · have H := H.1 c
    refine r_iconst (v := (0 : Int32)) dX10_isRest_90 rfl ?_
    exact r_zret dX10_isRest_91 rfl (by decide) H
  · have H := H.2 c
    refine r_iload dX10_isRest_59 rfl ?_
    refine r_iload dX10_isRest_61 rfl ?_
    refine r_iload dX10_isRest_63 rfl ?_
    refine r_iload dX10_isRest_65 rfl ?_
    refine r_callS (z := 0) (As := [iV x7, iV x6, iV x5, iV x4]) (st := []) kX10_keeperHas s_X10_keeperHas lX10_436 dX10_isRest_67 rfl rfl rfl rfl (Nat.le_of_ble_eq_true rfl) ?_
    exact H
set_option maxRecDepth 100000 in
theorem bX10_isRest_70 {d : Nat} {Q : Option MV → MS → Prop} {x1 : Int32} {x2 : Int32} {x3 : Int32} {x4 : Int32} {x5 : Int32} {x6 : Int32} {x7 : Int32} {s0 : Int32} {σ : MS}  (H : (R mj_OC d mX10_keeperHas (fun r σ' => R mj_OC (d + 1) mX10_isRest Q 83 [some (rV 0 0), some (iV x1), some (iV x2), some (iV x3), some (iV x4), some (iV x5), some (iV x6), some (iV x7)] (r.toList ++ [iV s0]) σ') 0 [some (iV x7), some (iV x6), some (iV ((1 : Int32) - x5)), some (iV x4)] [] σ)) : R mj_OC (d + 1) mX10_isRest Q 70 [some (rV 0 0), some (iV x1), some (iV x2), some (iV x3), some (iV x4), some (iV x5), some (iV x6), some (iV x7)] [iV s0] σ := by
  refine r_iload dX10_isRest_70 rfl ?_
  refine r_iload dX10_isRest_72 rfl ?_
  refine r_iconst (v := (1 : Int32)) dX10_isRest_74 rfl ?_
  refine r_iload dX10_isRest_75 rfl ?_
  refine r_isub dX10_isRest_77 ?_
  refine r_iload dX10_isRest_78 rfl ?_
  refine r_callS (z := 0) (As := [iV x7, iV x6, iV ((1 : Int32) - x5), iV x4]) (st := [iV s0]) kX10_keeperHas s_X10_keeperHas lX10_436 dX10_isRest_80 rfl rfl rfl rfl (Nat.le_of_ble_eq_true rfl) ?_
  exact H
set_option maxRecDepth 100000 in
theorem bX10_isRest_83 {d : Nat} {Q : Option MV → MS → Prop} {x1 : Int32} {x2 : Int32} {x3 : Int32} {x4 : Int32} {x5 : Int32} {x6 : Int32} {x7 : Int32} {s0 : Int32} {s1 : Int32} {σ : MS}  (H : ((s1 < s0 → Q (some (iV (0 : Int32))) σ) ∧ (¬ s1 < s0 → Q (some (iV (1 : Int32))) σ))) : R mj_OC d mX10_isRest Q 83 [some (rV 0 0), some (iV x1), some (iV x2), some (iV x3), some (iV x4), some (iV x5), some (iV x6), some (iV x7)] [iV s0, iV s1] σ := by
  refine r_icmp_lt (tgt := 90) dX10_isRest_83 (by decide) (fun c => ?_) (fun c => ?_)
  · have H := H.1 c
    refine r_iconst (v := (0 : Int32)) dX10_isRest_90 rfl ?_
    exact r_zret dX10_isRest_91 rfl (by decide) H
  · have H := H.2 c
    refine r_iconst (v := (1 : Int32)) dX10_isRest_86 rfl ?_
    refine r_goto (tgt := 91) dX10_isRest_87 (by decide) ?_
    exact r_zret dX10_isRest_91 rfl (by decide) H
set_option maxRecDepth 100000 in
theorem bX10_keeperHas_0 {d : Nat} {Q : Option MV → MS → Prop} {x0 : Int32} {x1 : Int32} {x2 : Int32} {x3 : Int32} {σ : MS}  (H : ((¬ x2 = 0 → ((¬ x3 = 0 → Q (some (iV (x0 / (20 : Int32)))) σ) ∧ (x3 = 0 → Q (some (iV ((x0 / (10 : Int32)) + (2 : Int32)))) σ))) ∧ (x2 = 0 → ((¬ x3 = 0 → Q (some (iV (1 : Int32))) σ) ∧ (x3 = 0 → Q (some (iV (x1 / (10 : Int32)))) σ))))) : R mj_OC d mX10_keeperHas Q 0 [some (iV x0), some (iV x1), some (iV x2), some (iV x3)] [] σ := by
  refine r_iload_n dX10_keeperHas_0 rfl rfl ?_
  refine r_if_ne (tgt := 17) dX10_keeperHas_1 (by decide) (fun c => ?_) (fun c => ?_)
  · have H := H.1 c
    refine r_iload_n dX10_keeperHas_17 rfl rfl ?_
    refine r_if_ne (tgt := 30) dX10_keeperHas_18 (by decide) (fun c => ?_) (fun c => ?_)
    · have H := H.1 c
      refine r_iload_n dX10_keeperHas_30 rfl rfl ?_
      refine r_bipush (v := (20 : Int32)) dX10_keeperHas_31 rfl ?_
      refine r_idiv dX10_keeperHas_33 (by decide) ?_
      exact r_iret dX10_keeperHas_34 rfl H
    · have H := H.2 c
      refine r_iload_n dX10_keeperHas_21 rfl rfl ?_
      refine r_bipush (v := (10 : Int32)) dX10_keeperHas_22 rfl ?_
      refine r_idiv dX10_keeperHas_24 (by decide) ?_
      refine r_iconst (v := (2 : Int32)) dX10_keeperHas_25 rfl ?_
      refine r_iadd dX10_keeperHas_26 ?_
      refine r_goto (tgt := 34) dX10_keeperHas_27 (by decide) ?_
      exact r_iret dX10_keeperHas_34 rfl H
  · have H := H.2 c
    refine r_iload_n dX10_keeperHas_4 rfl rfl ?_
    refine r_if_ne (tgt := 15) dX10_keeperHas_5 (by decide) (fun c => ?_) (fun c => ?_)
    · have H := H.1 c
      refine r_iconst (v := (1 : Int32)) dX10_keeperHas_15 rfl ?_
      exact r_iret dX10_keeperHas_16 rfl H
    · have H := H.2 c
      refine r_iload_n dX10_keeperHas_8 rfl rfl ?_
      refine r_bipush (v := (10 : Int32)) dX10_keeperHas_9 rfl ?_
      refine r_idiv dX10_keeperHas_11 (by decide) ?_
      refine r_goto (tgt := 16) dX10_keeperHas_12 (by decide) ?_
      exact r_iret dX10_keeperHas_16 rfl H
set_option maxRecDepth 100000 in
theorem bX10_weigh_0 {d : Nat} {Q : Option MV → MS → Prop} {x1 : Int32} {x2 : Int32} {σ : MS}  (H : (R mj_OC d mX5_asItGoes (fun r σ' => R mj_OC (d + 1) mX10_weigh Q 9 [some (rV 0 0), some (iV x1), some (iV x2), some (iV (0 : Int32)), none, none, none] (r.toList ++ []) σ') 0 [some (rV 7 0)] [] σ)) : R mj_OC (d + 1) mX10_weigh Q 0 [some (rV 0 0), some (iV x1), some (iV x2), none, none, none, none] [] σ := by
  refine r_iconst (v := (0 : Int32)) dX10_weigh_0 rfl ?_
  refine r_istore_n dX10_weigh_1 rfl (by decide) rfl ?_
  refine r_aload_n dX10_weigh_2 rfl rfl ?_
  refine r_get (k := 0) (i := 0) (j := 4) (v := rV 7 0) rfl rfl ho0 rfl hX10 (by decide) rfl fX10_43 dX10_weigh_3 (fun _ => rfl) ?_
  refine r_callV (z := 0) (k := 7) (i := 0) (As := []) (st := []) kX5_asItGoes i_X5_asItGoes e_X5_asItGoes lX10_186 dX10_weigh_6 rfl rfl ho7 rfl rfl rfl rfl rfl (Nat.le_of_ble_eq_true rfl) ?_
  exact H
set_option maxRecDepth 100000 in
theorem bX10_weigh_9 {d : Nat} {Q : Option MV → MS → Prop} {x1 : Int32} {x2 : Int32} {x3 : Int32} {σ : MS}  (H : R mj_OC d mX10_weigh Q 20 [some (rV 0 0), some (iV x1), some (iV x2), some (iV x3), some (iV (0 : Int32)), none, none] [] (uI σ 7 0 6 x1)) : R mj_OC d mX10_weigh Q 9 [some (rV 0 0), some (iV x1), some (iV x2), some (iV x3), none, none, none] [] σ := by
  refine r_aload_n dX10_weigh_9 rfl rfl ?_
  refine r_get (k := 0) (i := 0) (j := 4) (v := rV 7 0) rfl rfl ho0 rfl hX10 (by decide) rfl fX10_43 dX10_weigh_10 (fun _ => rfl) ?_
  refine r_iload_n dX10_weigh_13 rfl rfl ?_
  refine r_putI (k := 7) (i := 0) (j := 6) (ty0 := tyX5) rfl rfl ho7 rfl hX5 (by decide) rfl fX10_439 dX10_weigh_14 rfl tyX5_ok nmX5 rfl rfl rfl ?_
  refine r_iconst (v := (0 : Int32)) dX10_weigh_17 rfl ?_
  refine r_istore dX10_weigh_18 (by decide) rfl ?_
  exact H
set_option maxRecDepth 100000 in
theorem bX10_weigh_20 {d : Nat} {Q : Option MV → MS → Prop} {x1 : Int32} {x2 : Int32} {x3 : Int32} {x4 : Int32} {σ : MS}  (H : (((10 : Int32) ≤ x4 → Q (some (iV x3)) σ) ∧ (¬ (10 : Int32) ≤ x4 → (R mj_OC d mX8_begin (fun r σ' => R mj_OC (d + 1) mX10_weigh Q 50 [some (rV 0 0), some (iV x1), some (iV x2), some (iV x3), some (iV x4), some (iV (1 : Int32)), none] (r.toList ++ []) σ') 0 [some (rV 6 2), some (rV 3 (σ.2.2 0 0)), none] [] (uI σ 7 0 7 x4))))) : R mj_OC (d + 1) mX10_weigh Q 20 [some (rV 0 0), some (iV x1), some (iV x2), some (iV x3), some (iV x4), none, none] [] σ := by
  refine r_iload dX10_weigh_20 rfl ?_
  refine r_bipush (v := (10 : Int32)) dX10_weigh_22 rfl ?_
  refine r_icmp_ge (tgt := 149) dX10_weigh_24 (by decide) (fun c => ?_) (fun c => ?_)
  · have H := H.1 c
    refine r_iload_n dX10_weigh_149 rfl rfl ?_
    exact r_iret dX10_weigh_150 rfl H
  · have H := H.2 c
    refine r_iconst (v := (1 : Int32)) dX10_weigh_27 rfl ?_
    refine r_istore dX10_weigh_28 (by decide) rfl ?_
    refine r_aload_n dX10_weigh_30 rfl rfl ?_
    refine r_get (k := 0) (i := 0) (j := 4) (v := rV 7 0) rfl rfl ho0 rfl hX10 (by decide) rfl fX10_43 dX10_weigh_31 (fun _ => rfl) ?_
    refine r_iload dX10_weigh_34 rfl ?_
    refine r_putI (k := 7) (i := 0) (j := 7) (ty0 := tyX5) rfl rfl ho7 rfl hX5 (by decide) rfl fX10_442 dX10_weigh_36 rfl tyX5_ok nmX5 rfl rfl rfl ?_
    refine r_aload_n dX10_weigh_39 rfl rfl ?_
    refine r_get (k := 0) (i := 0) (j := 3) (v := rV 6 2) rfl rfl ho0 rfl hX10 (by decide) rfl fX10_37 dX10_weigh_40 (fun _ => rfl) ?_
    refine r_aload_n dX10_weigh_43 rfl rfl ?_
    refine r_get (k := 0) (i := 0) (j := 9) (v := rV 3 (σ.2.2 0 0)) rfl rfl ho0 rfl hX10 (by decide) rfl fX10_21 dX10_weigh_44 (fun _ => rfl) ?_
    refine r_callV (z := 1) (k := 6) (i := 2) (As := [rV 3 (σ.2.2 0 0)]) (st := []) kX8_begin i_X8_begin e_X8_begin lX10_106 dX10_weigh_47 rfl rfl (ho6 (by decide)) rfl rfl rfl rfl rfl (Nat.le_of_ble_eq_true rfl) ?_
    exact H
set_option maxRecDepth 100000 in
theorem bX10_weigh_50 {d : Nat} {Q : Option MV → MS → Prop} {x1 : Int32} {x2 : Int32} {x3 : Int32} {x4 : Int32} {x5 : Int32} {σ : MS}  (H : R mj_OC d mX10_weigh Q 53 [some (rV 0 0), some (iV x1), some (iV x2), some (iV x3), some (iV x4), some (iV x5), some (iV (1 : Int32))] [] σ) : R mj_OC d mX10_weigh Q 50 [some (rV 0 0), some (iV x1), some (iV x2), some (iV x3), some (iV x4), some (iV x5), none] [] σ := by
  refine r_iconst (v := (1 : Int32)) dX10_weigh_50 rfl ?_
  refine r_istore dX10_weigh_51 (by decide) rfl ?_
  exact H
set_option maxRecDepth 100000 in
theorem bX10_weigh_53 {d : Nat} {Q : Option MV → MS → Prop} {x1 : Int32} {x2 : Int32} {x3 : Int32} {x4 : Int32} {x5 : Int32} {x6 : Int32} {σ : MS}  (H : ((x2 < x6 → ((x5 = 0 → R mj_OC (d + 1) mX10_weigh Q 20 [some (rV 0 0), some (iV x1), some (iV x2), some (iV x3), some (iV (x4 + (1 : Int32))), none, none] [] σ) ∧ (¬ x5 = 0 → R mj_OC (d + 1) mX10_weigh Q 20 [some (rV 0 0), some (iV x1), some (iV x2), some (iV (x3 ||| ((1 : Int32) <<< (x4 &&& 31)))), some (iV (x4 + (1 : Int32))), none, none] [] σ))) ∧ (¬ x2 < x6 → (R mj_OC d mX5_oneMinute (fun r σ' => R mj_OC (d + 1) mX10_weigh Q 70 [some (rV 0 0), some (iV x1), some (iV x2), some (iV x3), some (iV x4), some (iV x5), some (iV x6)] (r.toList ++ []) σ') 0 [some (rV 7 0), some (rV 6 2)] [] σ)))) : R mj_OC (d + 1) mX10_weigh Q 53 [some (rV 0 0), some (iV x1), some (iV x2), some (iV x3), some (iV x4), some (iV x5), some (iV x6)] [] σ := by
  refine r_iload dX10_weigh_53 rfl ?_
  refine r_iload_n dX10_weigh_55 rfl rfl ?_
  refine r_icmp_gt (tgt := 131) dX10_weigh_56 (by decide) (fun c => ?_) (fun c => ?_)
  · have H := H.1 c
    refine r_iload dX10_weigh_131 rfl ?_
    refine r_if_eq (tgt := 143) dX10_weigh_133 (by decide) (fun c => ?_) (fun c => ?_)
    · have H := H.1 c
      refine r_iinc (v := x4 + (1 : Int32)) dX10_weigh_143 rfl rfl (by decide) rfl ?_
      refine r_goto (tgt := 20) dX10_weigh_146 (by decide) ?_
      exact R.fw (ls' := [some (rV 0 0), some (iV x1), some (iV x2), some (iV x3), some (iV (x4 + (1 : Int32))), none, none]) ⟨rfl, ⟨rfl, ⟨rfl, ⟨rfl, ⟨rfl, trivial⟩⟩⟩⟩⟩ H
    · have H := H.2 c
      refine r_iload_n dX10_weigh_136 rfl rfl ?_
      refine r_iconst (v := (1 : Int32)) dX10_weigh_137 rfl ?_
      refine r_iload dX10_weigh_138 rfl ?_
      refine r_ishl dX10_weigh_140 ?_
      refine r_ior dX10_weigh_141 ?_
      refine r_istore_n dX10_weigh_142 rfl (by decide) rfl ?_
      refine r_iinc (v := x4 + (1 : Int32)) dX10_weigh_143 rfl rfl (by decide) rfl ?_
      refine r_goto (tgt := 20) dX10_weigh_146 (by decide) ?_
      exact R.fw (ls' := [some (rV 0 0), some (iV x1), some (iV x2), some (iV (x3 ||| ((1 : Int32) <<< (x4 &&& 31)))), some (iV (x4 + (1 : Int32))), none, none]) ⟨rfl, ⟨rfl, ⟨rfl, ⟨rfl, ⟨rfl, trivial⟩⟩⟩⟩⟩ H
  · have H := H.2 c
    refine r_aload_n dX10_weigh_59 rfl rfl ?_
    refine r_get (k := 0) (i := 0) (j := 4) (v := rV 7 0) rfl rfl ho0 rfl hX10 (by decide) rfl fX10_43 dX10_weigh_60 (fun _ => rfl) ?_
    refine r_aload_n dX10_weigh_63 rfl rfl ?_
    refine r_get (k := 0) (i := 0) (j := 3) (v := rV 6 2) rfl rfl ho0 rfl hX10 (by decide) rfl fX10_37 dX10_weigh_64 (fun _ => rfl) ?_
    refine r_callV (z := 0) (k := 7) (i := 0) (As := [rV 6 2]) (st := []) kX5_oneMinute i_X5_oneMinute e_X5_oneMinute lX10_290 dX10_weigh_67 rfl rfl ho7 rfl rfl rfl rfl rfl (Nat.le_of_ble_eq_true rfl) ?_
    exact H
set_option maxRecDepth 100000 in
theorem bX10_weigh_70 {d : Nat} {Q : Option MV → MS → Prop} {x1 : Int32} {x2 : Int32} {x3 : Int32} {x4 : Int32} {x5 : Int32} {x6 : Int32} {σ : MS}  (H : ((x5 = 0 → (vp_in x1 7 ∧ vp_in (((x4 * (60 : Int32)) + x6) - (1 : Int32)) 600 ∧ R mj_OC (d + 1) mX10_weigh Q 53 [some (rV 0 0), some (iV x1), some (iV x2), some (iV x3), some (iV x4), some (iV (0 : Int32)), some (iV (x6 + (1 : Int32)))] [] (uI σ 11 0 (((((x4 * (60 : Int32)) + x6) - (1 : Int32))).toNatClampNeg) (σ.1 35 2 ((x1).toNatClampNeg))))) ∧ (¬ x5 = 0 → (R mj_OC d mX1_hold (fun r σ' => R mj_OC (d + 1) mX10_weigh Q 91 [some (rV 0 0), some (iV x1), some (iV x2), some (iV x3), some (iV x4), some (iV x5), some (iV x6)] (r.toList ++ []) σ') 0 [some (rV 9 0), some (iV x6), some (rV 35 2), none] [] σ)))) : R mj_OC (d + 1) mX10_weigh Q 70 [some (rV 0 0), some (iV x1), some (iV x2), some (iV x3), some (iV x4), some (iV x5), some (iV x6)] [] σ := by
  refine r_iload dX10_weigh_70 rfl ?_
  refine r_if_eq (tgt := 98) dX10_weigh_72 (by decide) (fun c => ?_) (fun c => ?_)
  · have H := H.1 c
    refine r_iconst (v := (0 : Int32)) dX10_weigh_98 rfl ?_
    refine r_istore dX10_weigh_99 (by decide) rfl ?_
    refine r_aload_n dX10_weigh_101 rfl rfl ?_
    refine r_get (k := 0) (i := 0) (j := 8) (v := rV 11 0) rfl rfl ho0 rfl hX10 (by decide) rfl fX10_68 dX10_weigh_102 (fun _ => rfl) ?_
    refine r_iload dX10_weigh_105 rfl ?_
    refine r_bipush (v := (60 : Int32)) dX10_weigh_107 rfl ?_
    refine r_imul dX10_weigh_109 ?_
    refine r_iload dX10_weigh_110 rfl ?_
    refine r_iadd dX10_weigh_112 ?_
    refine r_iconst (v := (1 : Int32)) dX10_weigh_113 rfl ?_
    refine r_isub dX10_weigh_114 ?_
    refine r_aload_n dX10_weigh_115 rfl rfl ?_
    refine r_get (k := 0) (i := 0) (j := 3) (v := rV 6 2) rfl rfl ho0 rfl hX10 (by decide) rfl fX10_37 dX10_weigh_116 (fun _ => rfl) ?_
    refine r_get (k := 6) (i := 2) (j := 1) (v := rV 35 2) rfl rfl (ho6 (by decide)) rfl hX8 (by decide) rfl fX10_141 dX10_weigh_119 (fun _ => rfl) ?_
    refine r_iload_n dX10_weigh_122 rfl rfl ?_
    obtain ⟨q1, H⟩ := H
    refine r_iald (k := 35) (i := 2) rfl (ho35 (by decide)) q1 dX10_weigh_123 ?_
    obtain ⟨q2, H⟩ := H
    refine r_iast (k := 11) (i := 0) rfl ho11 q2 dX10_weigh_124 ?_
    refine r_iinc (v := x6 + (1 : Int32)) dX10_weigh_125 rfl rfl (by decide) rfl ?_
    refine r_goto (tgt := 53) dX10_weigh_128 (by decide) ?_
    exact H
  · have H := H.2 c
    refine r_aload_n dX10_weigh_75 rfl rfl ?_
    refine r_get (k := 0) (i := 0) (j := 6) (v := rV 9 0) rfl rfl ho0 rfl hX10 (by decide) rfl fX10_57 dX10_weigh_76 (fun _ => rfl) ?_
    refine r_iload dX10_weigh_79 rfl ?_
    refine r_aload_n dX10_weigh_81 rfl rfl ?_
    refine r_get (k := 0) (i := 0) (j := 3) (v := rV 6 2) rfl rfl ho0 rfl hX10 (by decide) rfl fX10_37 dX10_weigh_82 (fun _ => rfl) ?_
    refine r_get (k := 6) (i := 2) (j := 1) (v := rV 35 2) rfl rfl (ho6 (by decide)) rfl hX8 (by decide) rfl fX10_141 dX10_weigh_85 (fun _ => rfl) ?_
    refine r_callV (z := 1) (k := 9) (i := 0) (As := [iV x6, rV 35 2]) (st := []) kX1_hold i_X1_hold e_X1_hold lX10_445 dX10_weigh_88 rfl rfl ho9 rfl rfl rfl rfl rfl (Nat.le_of_ble_eq_true rfl) ?_
    exact H
set_option maxRecDepth 100000 in
theorem bX10_weigh_91 {d : Nat} {Q : Option MV → MS → Prop} {x1 : Int32} {x2 : Int32} {x3 : Int32} {x4 : Int32} {x5 : Int32} {x6 : Int32} {s0 : Int32} {σ : MS}  (H : ((s0 = 0 → (vp_in x1 7 ∧ vp_in (((x4 * (60 : Int32)) + x6) - (1 : Int32)) 600 ∧ R mj_OC d mX10_weigh Q 53 [some (rV 0 0), some (iV x1), some (iV x2), some (iV x3), some (iV x4), some (iV (0 : Int32)), some (iV (x6 + (1 : Int32)))] [] (uI σ 11 0 (((((x4 * (60 : Int32)) + x6) - (1 : Int32))).toNatClampNeg) (σ.1 35 2 ((x1).toNatClampNeg))))) ∧ (¬ s0 = 0 → (vp_in x1 7 ∧ vp_in (((x4 * (60 : Int32)) + x6) - (1 : Int32)) 600 ∧ R mj_OC d mX10_weigh Q 53 [some (rV 0 0), some (iV x1), some (iV x2), some (iV x3), some (iV x4), some (iV (1 : Int32)), some (iV (x6 + (1 : Int32)))] [] (uI σ 11 0 (((((x4 * (60 : Int32)) + x6) - (1 : Int32))).toNatClampNeg) (σ.1 35 2 ((x1).toNatClampNeg))))))) : R mj_OC d mX10_weigh Q 91 [some (rV 0 0), some (iV x1), some (iV x2), some (iV x3), some (iV x4), some (iV x5), some (iV x6)] [iV s0] σ := by
  refine r_if_eq (tgt := 98) dX10_weigh_91 (by decide) (fun c => ?_) (fun c => ?_)
  · have H := H.1 c
    refine r_iconst (v := (0 : Int32)) dX10_weigh_98 rfl ?_
    refine r_istore dX10_weigh_99 (by decide) rfl ?_
    refine r_aload_n dX10_weigh_101 rfl rfl ?_
    refine r_get (k := 0) (i := 0) (j := 8) (v := rV 11 0) rfl rfl ho0 rfl hX10 (by decide) rfl fX10_68 dX10_weigh_102 (fun _ => rfl) ?_
    refine r_iload dX10_weigh_105 rfl ?_
    refine r_bipush (v := (60 : Int32)) dX10_weigh_107 rfl ?_
    refine r_imul dX10_weigh_109 ?_
    refine r_iload dX10_weigh_110 rfl ?_
    refine r_iadd dX10_weigh_112 ?_
    refine r_iconst (v := (1 : Int32)) dX10_weigh_113 rfl ?_
    refine r_isub dX10_weigh_114 ?_
    refine r_aload_n dX10_weigh_115 rfl rfl ?_
    refine r_get (k := 0) (i := 0) (j := 3) (v := rV 6 2) rfl rfl ho0 rfl hX10 (by decide) rfl fX10_37 dX10_weigh_116 (fun _ => rfl) ?_
    refine r_get (k := 6) (i := 2) (j := 1) (v := rV 35 2) rfl rfl (ho6 (by decide)) rfl hX8 (by decide) rfl fX10_141 dX10_weigh_119 (fun _ => rfl) ?_
    refine r_iload_n dX10_weigh_122 rfl rfl ?_
    obtain ⟨q1, H⟩ := H
    refine r_iald (k := 35) (i := 2) rfl (ho35 (by decide)) q1 dX10_weigh_123 ?_
    obtain ⟨q2, H⟩ := H
    refine r_iast (k := 11) (i := 0) rfl ho11 q2 dX10_weigh_124 ?_
    refine r_iinc (v := x6 + (1 : Int32)) dX10_weigh_125 rfl rfl (by decide) rfl ?_
    refine r_goto (tgt := 53) dX10_weigh_128 (by decide) ?_
    exact H
  · have H := H.2 c
    refine r_iconst (v := (1 : Int32)) dX10_weigh_94 rfl ?_
    refine r_goto (tgt := 99) dX10_weigh_95 (by decide) ?_
    refine r_istore dX10_weigh_99 (by decide) rfl ?_
    refine r_aload_n dX10_weigh_101 rfl rfl ?_
    refine r_get (k := 0) (i := 0) (j := 8) (v := rV 11 0) rfl rfl ho0 rfl hX10 (by decide) rfl fX10_68 dX10_weigh_102 (fun _ => rfl) ?_
    refine r_iload dX10_weigh_105 rfl ?_
    refine r_bipush (v := (60 : Int32)) dX10_weigh_107 rfl ?_
    refine r_imul dX10_weigh_109 ?_
    refine r_iload dX10_weigh_110 rfl ?_
    refine r_iadd dX10_weigh_112 ?_
    refine r_iconst (v := (1 : Int32)) dX10_weigh_113 rfl ?_
    refine r_isub dX10_weigh_114 ?_
    refine r_aload_n dX10_weigh_115 rfl rfl ?_
    refine r_get (k := 0) (i := 0) (j := 3) (v := rV 6 2) rfl rfl ho0 rfl hX10 (by decide) rfl fX10_37 dX10_weigh_116 (fun _ => rfl) ?_
    refine r_get (k := 6) (i := 2) (j := 1) (v := rV 35 2) rfl rfl (ho6 (by decide)) rfl hX8 (by decide) rfl fX10_141 dX10_weigh_119 (fun _ => rfl) ?_
    refine r_iload_n dX10_weigh_122 rfl rfl ?_
    obtain ⟨q3, H⟩ := H
    refine r_iald (k := 35) (i := 2) rfl (ho35 (by decide)) q3 dX10_weigh_123 ?_
    obtain ⟨q4, H⟩ := H
    refine r_iast (k := 11) (i := 0) rfl ho11 q4 dX10_weigh_124 ?_
    refine r_iinc (v := x6 + (1 : Int32)) dX10_weigh_125 rfl rfl (by decide) rfl ?_
    refine r_goto (tgt := 53) dX10_weigh_128 (by decide) ?_
    exact H
set_option maxRecDepth 100000 in
theorem bX10_leftAtWorst_0 {d : Nat} {Q : Option MV → MS → Prop} {x1 : Int32} {x2 : Int32} {σ : MS}  (H : R mj_OC d mX10_leftAtWorst Q 5 [some (rV 0 0), some (iV x1), some (iV x2), some (iV (0 : Int32)), some (iV (0 : Int32)), none, none] [] σ) : R mj_OC d mX10_leftAtWorst Q 0 [some (rV 0 0), some (iV x1), some (iV x2), none, none, none, none] [] σ := by
  refine r_iconst (v := (0 : Int32)) dX10_leftAtWorst_0 rfl ?_
  refine r_istore_n dX10_leftAtWorst_1 rfl (by decide) rfl ?_
  refine r_iconst (v := (0 : Int32)) dX10_leftAtWorst_2 rfl ?_
  refine r_istore dX10_leftAtWorst_3 (by decide) rfl ?_
  exact H
set_option maxRecDepth 100000 in
theorem bX10_leftAtWorst_5 {d : Nat} {Q : Option MV → MS → Prop} {x1 : Int32} {x2 : Int32} {x3 : Int32} {x4 : Int32} {σ : MS}  (H : (((10 : Int32) ≤ x4 → Q (some (iV x3)) σ) ∧ (¬ (10 : Int32) ≤ x4 → R mj_OC d mX10_leftAtWorst Q 18 [some (rV 0 0), some (iV x1), some (iV x2), some (iV x3), some (iV x4), some (iV (0 : Int32)), some (iV (0 : Int32))] [] σ))) : R mj_OC d mX10_leftAtWorst Q 5 [some (rV 0 0), some (iV x1), some (iV x2), some (iV x3), some (iV x4), none, none] [] σ := by
  refine r_iload dX10_leftAtWorst_5 rfl ?_
  refine r_bipush (v := (10 : Int32)) dX10_leftAtWorst_7 rfl ?_
  refine r_icmp_ge (tgt := 93) dX10_leftAtWorst_9 (by decide) (fun c => ?_) (fun c => ?_)
  · have H := H.1 c
    refine r_iload_n dX10_leftAtWorst_93 rfl rfl ?_
    exact r_iret dX10_leftAtWorst_94 rfl H
  · have H := H.2 c
    refine r_iconst (v := (0 : Int32)) dX10_leftAtWorst_12 rfl ?_
    refine r_istore dX10_leftAtWorst_13 (by decide) rfl ?_
    refine r_iconst (v := (0 : Int32)) dX10_leftAtWorst_15 rfl ?_
    refine r_istore dX10_leftAtWorst_16 (by decide) rfl ?_
    exact H
set_option maxRecDepth 100000 in
theorem bX10_leftAtWorst_18 {d : Nat} {Q : Option MV → MS → Prop} {x1 : Int32} {x2 : Int32} {x3 : Int32} {x4 : Int32} {x5 : Int32} {x6 : Int32} {σ : MS}  (H : (((10 : Int32) ≤ x6 → R mj_OC (d + 1) mX10_leftAtWorst Q 5 [some (rV 0 0), some (iV x1), some (iV x2), some (iV (if x3 < x5 then x5 else x3)), some (iV (x4 + (1 : Int32))), none, none] [] σ) ∧ (¬ (10 : Int32) ≤ x6 → ((¬ (((x1 >>> (x4 &&& 31)) &&& (x1 >>> (x6 &&& 31))) &&& (1 : Int32)) = (1 : Int32) → R mj_OC (d + 1) mX10_leftAtWorst Q 18 [some (rV 0 0), some (iV x1), some (iV x2), some (iV x3), some (iV x4), some (iV x5), some (iV (x6 + (1 : Int32)))] [] σ) ∧ ((((x1 >>> (x4 &&& 31)) &&& (x1 >>> (x6 &&& 31))) &&& (1 : Int32)) = (1 : Int32) → (vp_in (((x4 * (60 : Int32)) + x2) - (1 : Int32)) 600 ∧ vp_in (((x6 * (60 : Int32)) + x2) - (1 : Int32)) 600 ∧ ((¬ (σ.1 11 0 (((((x4 * (60 : Int32)) + x2) - (1 : Int32))).toNatClampNeg)) = (σ.1 11 0 (((((x6 * (60 : Int32)) + x2) - (1 : Int32))).toNatClampNeg)) → R mj_OC (d + 1) mX10_leftAtWorst Q 18 [some (rV 0 0), some (iV x1), some (iV x2), some (iV x3), some (iV x4), some (iV x5), some (iV (x6 + (1 : Int32)))] [] σ) ∧ ((σ.1 11 0 (((((x4 * (60 : Int32)) + x2) - (1 : Int32))).toNatClampNeg)) = (σ.1 11 0 (((((x6 * (60 : Int32)) + x2) - (1 : Int32))).toNatClampNeg)) → R mj_OC (d + 1) mX10_leftAtWorst Q 18 [some (rV 0 0), some (iV x1), some (iV x2), some (iV x3), some (iV x4), some (iV (x5 + (1 : Int32))), some (iV (x6 + (1 : Int32)))] [] σ)))))))) : R mj_OC (d + 1) mX10_leftAtWorst Q 18 [some (rV 0 0), some (iV x1), some (iV x2), some (iV x3), some (iV x4), some (iV x5), some (iV x6)] [] σ := by
  refine r_iload dX10_leftAtWorst_18 rfl ?_
  refine r_bipush (v := (10 : Int32)) dX10_leftAtWorst_20 rfl ?_
  refine r_icmp_ge (tgt := 80) dX10_leftAtWorst_22 (by decide) (fun c => ?_) (fun c => ?_)
  · have H := H.1 c
    refine r_iload_n dX10_leftAtWorst_80 rfl rfl ?_
    refine r_iload dX10_leftAtWorst_81 rfl ?_
    refine r_mmax lX10_312 dX10_leftAtWorst_83 (Nat.le_of_ble_eq_true rfl) ?_
    refine r_istore_n dX10_leftAtWorst_86 rfl (by decide) rfl ?_
    refine r_iinc (v := x4 + (1 : Int32)) dX10_leftAtWorst_87 rfl rfl (by decide) rfl ?_
    refine r_goto (tgt := 5) dX10_leftAtWorst_90 (by decide) ?_
    exact R.fw (ls' := [some (rV 0 0), some (iV x1), some (iV x2), some (iV (if x3 < x5 then x5 else x3)), some (iV (x4 + (1 : Int32))), none, none]) ⟨rfl, ⟨rfl, ⟨rfl, ⟨rfl, ⟨rfl, trivial⟩⟩⟩⟩⟩ H
  · have H := H.2 c
    refine r_iload_n dX10_leftAtWorst_25 rfl rfl ?_
    refine r_iload dX10_leftAtWorst_26 rfl ?_
    refine r_ishr dX10_leftAtWorst_28 ?_
    refine r_iload_n dX10_leftAtWorst_29 rfl rfl ?_
    refine r_iload dX10_leftAtWorst_30 rfl ?_
    refine r_ishr dX10_leftAtWorst_32 ?_
    refine r_iand dX10_leftAtWorst_33 ?_
    refine r_iconst (v := (1 : Int32)) dX10_leftAtWorst_34 rfl ?_
    refine r_iand dX10_leftAtWorst_35 ?_
    refine r_iconst (v := (1 : Int32)) dX10_leftAtWorst_36 rfl ?_
    refine r_icmp_ne (tgt := 74) dX10_leftAtWorst_37 (by decide) (fun c => ?_) (fun c => ?_)
    · have H := H.1 c
      refine r_iinc (v := x6 + (1 : Int32)) dX10_leftAtWorst_74 rfl rfl (by decide) rfl ?_
      refine r_goto (tgt := 18) dX10_leftAtWorst_77 (by decide) ?_
      exact H
    · have H := H.2 c
      refine r_aload_n dX10_leftAtWorst_40 rfl rfl ?_
      refine r_get (k := 0) (i := 0) (j := 8) (v := rV 11 0) rfl rfl ho0 rfl hX10 (by decide) rfl fX10_68 dX10_leftAtWorst_41 (fun _ => rfl) ?_
      refine r_iload dX10_leftAtWorst_44 rfl ?_
      refine r_bipush (v := (60 : Int32)) dX10_leftAtWorst_46 rfl ?_
      refine r_imul dX10_leftAtWorst_48 ?_
      refine r_iload_n dX10_leftAtWorst_49 rfl rfl ?_
      refine r_iadd dX10_leftAtWorst_50 ?_
      refine r_iconst (v := (1 : Int32)) dX10_leftAtWorst_51 rfl ?_
      refine r_isub dX10_leftAtWorst_52 ?_
      obtain ⟨q1, H⟩ := H
      refine r_iald (k := 11) (i := 0) rfl ho11 q1 dX10_leftAtWorst_53 ?_
      refine r_aload_n dX10_leftAtWorst_54 rfl rfl ?_
      refine r_get (k := 0) (i := 0) (j := 8) (v := rV 11 0) rfl rfl ho0 rfl hX10 (by decide) rfl fX10_68 dX10_leftAtWorst_55 (fun _ => rfl) ?_
      refine r_iload dX10_leftAtWorst_58 rfl ?_
      refine r_bipush (v := (60 : Int32)) dX10_leftAtWorst_60 rfl ?_
      refine r_imul dX10_leftAtWorst_62 ?_
      refine r_iload_n dX10_leftAtWorst_63 rfl rfl ?_
      refine r_iadd dX10_leftAtWorst_64 ?_
      refine r_iconst (v := (1 : Int32)) dX10_leftAtWorst_65 rfl ?_
      refine r_isub dX10_leftAtWorst_66 ?_
      obtain ⟨q2, H⟩ := H
      refine r_iald (k := 11) (i := 0) rfl ho11 q2 dX10_leftAtWorst_67 ?_
      refine r_icmp_ne (tgt := 74) dX10_leftAtWorst_68 (by decide) (fun c => ?_) (fun c => ?_)
      · have H := H.1 c
        refine r_iinc (v := x6 + (1 : Int32)) dX10_leftAtWorst_74 rfl rfl (by decide) rfl ?_
        refine r_goto (tgt := 18) dX10_leftAtWorst_77 (by decide) ?_
        exact H
      · have H := H.2 c
        refine r_iinc (v := x5 + (1 : Int32)) dX10_leftAtWorst_71 rfl rfl (by decide) rfl ?_
        refine r_iinc (v := x6 + (1 : Int32)) dX10_leftAtWorst_74 rfl rfl (by decide) rfl ?_
        refine r_goto (tgt := 18) dX10_leftAtWorst_77 (by decide) ?_
        exact H
