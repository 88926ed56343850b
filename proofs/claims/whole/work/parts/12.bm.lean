set_option maxRecDepth 100000 in
theorem bX11_thrown_0 {d : Nat} {Q : Option MV → MS → Prop}  {σ : MS}  (H : Q (some (iV (σ.1 45 0 0))) σ) : R mj_OM d mX11_thrown Q 0 [some (rV 45 0)] [] σ := by
  refine r_aload_n dX11_thrown_0 rfl rfl ?_
  refine r_get (k := 45) (i := 0) (j := 0) (v := iV (σ.1 45 0 0)) rfl rfl ho45 rfl hX11 (by decide) rfl fX11_151 dX11_thrown_1 (fun _ => rfl) ?_
  exact r_iret dX11_thrown_4 rfl H
set_option maxRecDepth 100000 in
theorem bX11_feed_0 {d : Nat} {Q : Option MV → MS → Prop} {x1 : Int32} {x2 : Int32} {x3 : Int32} {x4 : Int32} {x5 : Int32} {σ : MS}  (H : (((σ.1 45 0 2) ≤ (680 : Int32) → R mj_OM d mX11_feed Q 20 [some (rV 45 0), some (iV x1), some (iV x2), some (iV x3), some (iV x4), some (iV x5), some (iV (0 : Int32)), none] [] (uI σ 45 0 0 (0 : Int32))) ∧ (¬ (σ.1 45 0 2) ≤ (680 : Int32) → Q (some (iV (-1 : Int32))) (uI σ 45 0 0 (0 : Int32))))) : R mj_OM d mX11_feed Q 0 [some (rV 45 0), some (iV x1), some (iV x2), some (iV x3), some (iV x4), some (iV x5), none, none] [] σ := by
  refine r_aload_n dX11_feed_0 rfl rfl ?_
  refine r_iconst (v := (0 : Int32)) dX11_feed_1 rfl ?_
  refine r_putI (k := 45) (i := 0) (j := 0) (ty0 := tyX11) rfl rfl ho45 rfl hX11 (by decide) rfl fX11_151 dX11_feed_2 rfl tyX11_ok nmX11 rfl rfl rfl ?_
  refine r_aload_n dX11_feed_5 rfl rfl ?_
  refine r_get (k := 45) (i := 0) (j := 2) (v := iV (σ.1 45 0 2)) rfl rfl ho45 rfl hX11 (by decide) rfl fX11_154 dX11_feed_6 (fun _ => rfl) ?_
  refine r_sipush (v := (680 : Int32)) dX11_feed_9 rfl ?_
  refine r_icmp_le (tgt := 17) dX11_feed_12 (by decide) (fun c => ?_) (fun c => ?_)
  · have H := H.1 c
    refine r_iconst (v := (0 : Int32)) dX11_feed_17 rfl ?_
    refine r_istore dX11_feed_18 (by decide) rfl ?_
    exact H
  · have H := H.2 c
    refine r_iconst (v := (-1 : Int32)) dX11_feed_15 rfl ?_
    exact r_iret dX11_feed_16 rfl H
set_option maxRecDepth 100000 in
theorem bX11_feed_20 {d : Nat} {Q : Option MV → MS → Prop} {x1 : Int32} {x2 : Int32} {x3 : Int32} {x4 : Int32} {x5 : Int32} {x6 : Int32} {σ : MS}  (H : (((20 : Int32) ≤ x6 → Q (some (iV ((σ.1 45 0 2) + (20 : Int32)))) (uI σ 45 0 2 ((σ.1 45 0 2) + (20 : Int32)))) ∧ (¬ (20 : Int32) ≤ x6 → (((4 : Int32) ≤ x6 → (((8 : Int32) ≤ x6 → (((12 : Int32) ≤ x6 → (((16 : Int32) ≤ x6 → (vp_in ((σ.1 45 0 2) + x6) 700 ∧ R mj_OM d mX11_feed Q 20 [some (rV 45 0), some (iV x1), some (iV x2), some (iV x3), some (iV x4), some (iV x5), some (iV (x6 + (1 : Int32))), none] [] (uI σ 46 0 ((((σ.1 45 0 2) + x6)).toNatClampNeg) ((x5 >>> (((24 : Int32) - ((8 : Int32) * (x6 - x6 / (4 : Int32) * (4 : Int32)))) &&& 31)) &&& (255 : Int32))))) ∧ (¬ (16 : Int32) ≤ x6 → (vp_in ((σ.1 45 0 2) + x6) 700 ∧ R mj_OM d mX11_feed Q 20 [some (rV 45 0), some (iV x1), some (iV x2), some (iV x3), some (iV x4), some (iV x5), some (iV (x6 + (1 : Int32))), none] [] (uI σ 46 0 ((((σ.1 45 0 2) + x6)).toNatClampNeg) ((x4 >>> (((24 : Int32) - ((8 : Int32) * (x6 - x6 / (4 : Int32) * (4 : Int32)))) &&& 31)) &&& (255 : Int32))))))) ∧ (¬ (12 : Int32) ≤ x6 → (vp_in ((σ.1 45 0 2) + x6) 700 ∧ R mj_OM d mX11_feed Q 20 [some (rV 45 0), some (iV x1), some (iV x2), some (iV x3), some (iV x4), some (iV x5), some (iV (x6 + (1 : Int32))), none] [] (uI σ 46 0 ((((σ.1 45 0 2) + x6)).toNatClampNeg) ((x3 >>> (((24 : Int32) - ((8 : Int32) * (x6 - x6 / (4 : Int32) * (4 : Int32)))) &&& 31)) &&& (255 : Int32))))))) ∧ (¬ (8 : Int32) ≤ x6 → (vp_in ((σ.1 45 0 2) + x6) 700 ∧ R mj_OM d mX11_feed Q 20 [some (rV 45 0), some (iV x1), some (iV x2), some (iV x3), some (iV x4), some (iV x5), some (iV (x6 + (1 : Int32))), none] [] (uI σ 46 0 ((((σ.1 45 0 2) + x6)).toNatClampNeg) ((x2 >>> (((24 : Int32) - ((8 : Int32) * (x6 - x6 / (4 : Int32) * (4 : Int32)))) &&& 31)) &&& (255 : Int32))))))) ∧ (¬ (4 : Int32) ≤ x6 → (vp_in ((σ.1 45 0 2) + x6) 700 ∧ R mj_OM d mX11_feed Q 20 [some (rV 45 0), some (iV x1), some (iV x2), some (iV x3), some (iV x4), some (iV x5), some (iV (x6 + (1 : Int32))), none] [] (uI σ 46 0 ((((σ.1 45 0 2) + x6)).toNatClampNeg) ((x1 >>> (((24 : Int32) - ((8 : Int32) * (x6 - x6 / (4 : Int32) * (4 : Int32)))) &&& 31)) &&& (255 : Int32))))))))) : R mj_OM d mX11_feed Q 20 [some (rV 45 0), some (iV x1), some (iV x2), some (iV x3), some (iV x4), some (iV x5), some (iV x6), none] [] σ := by
  refine r_iload dX11_feed_20 rfl ?_
  refine r_bipush (v := (20 : Int32)) dX11_feed_22 rfl ?_
  refine r_icmp_ge (tgt := 110) dX11_feed_24 (by decide) (fun c => ?_) (fun c => ?_)
  · have H := H.1 c
    refine r_aload_n dX11_feed_110 rfl rfl ?_
    refine r_dup_r dX11_feed_111 ?_
    refine r_get (k := 45) (i := 0) (j := 2) (v := iV (σ.1 45 0 2)) rfl rfl ho45 rfl hX11 (by decide) rfl fX11_154 dX11_feed_112 (fun _ => rfl) ?_
    refine r_bipush (v := (20 : Int32)) dX11_feed_115 rfl ?_
    refine r_iadd dX11_feed_117 ?_
    refine r_putI (k := 45) (i := 0) (j := 2) (ty0 := tyX11) rfl rfl ho45 rfl hX11 (by decide) rfl fX11_154 dX11_feed_118 rfl tyX11_ok nmX11 rfl rfl rfl ?_
    refine r_aload_n dX11_feed_121 rfl rfl ?_
    refine r_get (k := 45) (i := 0) (j := 2) (v := iV ((σ.1 45 0 2) + (20 : Int32))) rfl rfl ho45 rfl hX11 (by decide) rfl fX11_154 dX11_feed_122 (fun _ => rfl) ?_
    exact r_iret dX11_feed_125 rfl H
  · have H := H.2 c
    refine r_iload dX11_feed_27 rfl ?_
    refine r_iconst (v := (4 : Int32)) dX11_feed_29 rfl ?_
    refine r_icmp_ge (tgt := 37) dX11_feed_30 (by decide) (fun c => ?_) (fun c => ?_)
    · have H := H.1 c
      refine r_iload dX11_feed_37 rfl ?_
      refine r_bipush (v := (8 : Int32)) dX11_feed_39 rfl ?_
      refine r_icmp_ge (tgt := 48) dX11_feed_41 (by decide) (fun c => ?_) (fun c => ?_)
      · have H := H.1 c
        refine r_iload dX11_feed_48 rfl ?_
        refine r_bipush (v := (12 : Int32)) dX11_feed_50 rfl ?_
        refine r_icmp_ge (tgt := 59) dX11_feed_52 (by decide) (fun c => ?_) (fun c => ?_)
        · have H := H.1 c
          refine r_iload dX11_feed_59 rfl ?_
          refine r_bipush (v := (16 : Int32)) dX11_feed_61 rfl ?_
          refine r_icmp_ge (tgt := 71) dX11_feed_63 (by decide) (fun c => ?_) (fun c => ?_)
          · have H := H.1 c
            refine r_iload dX11_feed_71 rfl ?_
            refine r_istore dX11_feed_73 (by decide) rfl ?_
            refine r_aload_n dX11_feed_75 rfl rfl ?_
            refine r_get (k := 45) (i := 0) (j := 1) (v := rV 46 0) rfl rfl ho45 rfl hX11 (by decide) rfl fX11_7 dX11_feed_76 (fun _ => rfl) ?_
            refine r_aload_n dX11_feed_79 rfl rfl ?_
            refine r_get (k := 45) (i := 0) (j := 2) (v := iV (σ.1 45 0 2)) rfl rfl ho45 rfl hX11 (by decide) rfl fX11_154 dX11_feed_80 (fun _ => rfl) ?_
            refine r_iload dX11_feed_83 rfl ?_
            refine r_iadd dX11_feed_85 ?_
            refine r_iload dX11_feed_86 rfl ?_
            refine r_bipush (v := (24 : Int32)) dX11_feed_88 rfl ?_
            refine r_bipush (v := (8 : Int32)) dX11_feed_90 rfl ?_
            refine r_iload dX11_feed_92 rfl ?_
            refine r_iconst (v := (4 : Int32)) dX11_feed_94 rfl ?_
            refine r_irem dX11_feed_95 (by decide) ?_
            refine r_imul dX11_feed_96 ?_
            refine r_isub dX11_feed_97 ?_
            refine r_ishr dX11_feed_98 ?_
            refine r_sipush (v := (255 : Int32)) dX11_feed_99 rfl ?_
            refine r_iand dX11_feed_102 ?_
            obtain ⟨q1, H⟩ := H
            refine r_iast (k := 46) (i := 0) rfl ho46 q1 dX11_feed_103 ?_
            refine r_iinc (v := x6 + (1 : Int32)) dX11_feed_104 rfl rfl (by decide) rfl ?_
            refine r_goto (tgt := 20) dX11_feed_107 (by decide) ?_
            exact R.fw (ls' := [some (rV 45 0), some (iV x1), some (iV x2), some (iV x3), some (iV x4), some (iV x5), some (iV (x6 + (1 : Int32))), none]) ⟨rfl, ⟨rfl, ⟨rfl, ⟨rfl, ⟨rfl, ⟨rfl, ⟨rfl, trivial⟩⟩⟩⟩⟩⟩⟩ H
          · have H := H.2 c
            refine r_iload dX11_feed_66 rfl ?_
            refine r_goto (tgt := 73) dX11_feed_68 (by decide) ?_
            refine r_istore dX11_feed_73 (by decide) rfl ?_
            refine r_aload_n dX11_feed_75 rfl rfl ?_
            refine r_get (k := 45) (i := 0) (j := 1) (v := rV 46 0) rfl rfl ho45 rfl hX11 (by decide) rfl fX11_7 dX11_feed_76 (fun _ => rfl) ?_
            refine r_aload_n dX11_feed_79 rfl rfl ?_
            refine r_get (k := 45) (i := 0) (j := 2) (v := iV (σ.1 45 0 2)) rfl rfl ho45 rfl hX11 (by decide) rfl fX11_154 dX11_feed_80 (fun _ => rfl) ?_
            refine r_iload dX11_feed_83 rfl ?_
            refine r_iadd dX11_feed_85 ?_
            refine r_iload dX11_feed_86 rfl ?_
            refine r_bipush (v := (24 : Int32)) dX11_feed_88 rfl ?_
            refine r_bipush (v := (8 : Int32)) dX11_feed_90 rfl ?_
            refine r_iload dX11_feed_92 rfl ?_
            refine r_iconst (v := (4 : Int32)) dX11_feed_94 rfl ?_
            refine r_irem dX11_feed_95 (by decide) ?_
            refine r_imul dX11_feed_96 ?_
            refine r_isub dX11_feed_97 ?_
            refine r_ishr dX11_feed_98 ?_
            refine r_sipush (v := (255 : Int32)) dX11_feed_99 rfl ?_
            refine r_iand dX11_feed_102 ?_
            obtain ⟨q2, H⟩ := H
            refine r_iast (k := 46) (i := 0) rfl ho46 q2 dX11_feed_103 ?_
            refine r_iinc (v := x6 + (1 : Int32)) dX11_feed_104 rfl rfl (by decide) rfl ?_
            refine r_goto (tgt := 20) dX11_feed_107 (by decide) ?_
            exact R.fw (ls' := [some (rV 45 0), some (iV x1), some (iV x2), some (iV x3), some (iV x4), some (iV x5), some (iV (x6 + (1 : Int32))), none]) ⟨rfl, ⟨rfl, ⟨rfl, ⟨rfl, ⟨rfl, ⟨rfl, ⟨rfl, trivial⟩⟩⟩⟩⟩⟩⟩ H
        · have H := H.2 c
          refine r_iload_n dX11_feed_55 rfl rfl ?_
          refine r_goto (tgt := 73) dX11_feed_56 (by decide) ?_
          refine r_istore dX11_feed_73 (by decide) rfl ?_
          refine r_aload_n dX11_feed_75 rfl rfl ?_
          refine r_get (k := 45) (i := 0) (j := 1) (v := rV 46 0) rfl rfl ho45 rfl hX11 (by decide) rfl fX11_7 dX11_feed_76 (fun _ => rfl) ?_
          refine r_aload_n dX11_feed_79 rfl rfl ?_
          refine r_get (k := 45) (i := 0) (j := 2) (v := iV (σ.1 45 0 2)) rfl rfl ho45 rfl hX11 (by decide) rfl fX11_154 dX11_feed_80 (fun _ => rfl) ?_
          refine r_iload dX11_feed_83 rfl ?_
          refine r_iadd dX11_feed_85 ?_
          refine r_iload dX11_feed_86 rfl ?_
          refine r_bipush (v := (24 : Int32)) dX11_feed_88 rfl ?_
          refine r_bipush (v := (8 : Int32)) dX11_feed_90 rfl ?_
          refine r_iload dX11_feed_92 rfl ?_
          refine r_iconst (v := (4 : Int32)) dX11_feed_94 rfl ?_
          refine r_irem dX11_feed_95 (by decide) ?_
          refine r_imul dX11_feed_96 ?_
          refine r_isub dX11_feed_97 ?_
          refine r_ishr dX11_feed_98 ?_
          refine r_sipush (v := (255 : Int32)) dX11_feed_99 rfl ?_
          refine r_iand dX11_feed_102 ?_
          obtain ⟨q3, H⟩ := H
          refine r_iast (k := 46) (i := 0) rfl ho46 q3 dX11_feed_103 ?_
          refine r_iinc (v := x6 + (1 : Int32)) dX11_feed_104 rfl rfl (by decide) rfl ?_
          refine r_goto (tgt := 20) dX11_feed_107 (by decide) ?_
          exact R.fw (ls' := [some (rV 45 0), some (iV x1), some (iV x2), some (iV x3), some (iV x4), some (iV x5), some (iV (x6 + (1 : Int32))), none]) ⟨rfl, ⟨rfl, ⟨rfl, ⟨rfl, ⟨rfl, ⟨rfl, ⟨rfl, trivial⟩⟩⟩⟩⟩⟩⟩ H
      · have H := H.2 c
        refine r_iload_n dX11_feed_44 rfl rfl ?_
        refine r_goto (tgt := 73) dX11_feed_45 (by decide) ?_
        refine r_istore dX11_feed_73 (by decide) rfl ?_
        refine r_aload_n dX11_feed_75 rfl rfl ?_
        refine r_get (k := 45) (i := 0) (j := 1) (v := rV 46 0) rfl rfl ho45 rfl hX11 (by decide) rfl fX11_7 dX11_feed_76 (fun _ => rfl) ?_
        refine r_aload_n dX11_feed_79 rfl rfl ?_
        refine r_get (k := 45) (i := 0) (j := 2) (v := iV (σ.1 45 0 2)) rfl rfl ho45 rfl hX11 (by decide) rfl fX11_154 dX11_feed_80 (fun _ => rfl) ?_
        refine r_iload dX11_feed_83 rfl ?_
        refine r_iadd dX11_feed_85 ?_
        refine r_iload dX11_feed_86 rfl ?_
        refine r_bipush (v := (24 : Int32)) dX11_feed_88 rfl ?_
        refine r_bipush (v := (8 : Int32)) dX11_feed_90 rfl ?_
        refine r_iload dX11_feed_92 rfl ?_
        refine r_iconst (v := (4 : Int32)) dX11_feed_94 rfl ?_
        refine r_irem dX11_feed_95 (by decide) ?_
        refine r_imul dX11_feed_96 ?_
        refine r_isub dX11_feed_97 ?_
        refine r_ishr dX11_feed_98 ?_
        refine r_sipush (v := (255 : Int32)) dX11_feed_99 rfl ?_
        refine r_iand dX11_feed_102 ?_
        obtain ⟨q4, H⟩ := H
        refine r_iast (k := 46) (i := 0) rfl ho46 q4 dX11_feed_103 ?_
        refine r_iinc (v := x6 + (1 : Int32)) dX11_feed_104 rfl rfl (by decide) rfl ?_
        refine r_goto (tgt := 20) dX11_feed_107 (by decide) ?_
        exact R.fw (ls' := [some (rV 45 0), some (iV x1), some (iV x2), some (iV x3), some (iV x4), some (iV x5), some (iV (x6 + (1 : Int32))), none]) ⟨rfl, ⟨rfl, ⟨rfl, ⟨rfl, ⟨rfl, ⟨rfl, ⟨rfl, trivial⟩⟩⟩⟩⟩⟩⟩ H
    · have H := H.2 c
      refine r_iload_n dX11_feed_33 rfl rfl ?_
      refine r_goto (tgt := 73) dX11_feed_34 (by decide) ?_
      refine r_istore dX11_feed_73 (by decide) rfl ?_
      refine r_aload_n dX11_feed_75 rfl rfl ?_
      refine r_get (k := 45) (i := 0) (j := 1) (v := rV 46 0) rfl rfl ho45 rfl hX11 (by decide) rfl fX11_7 dX11_feed_76 (fun _ => rfl) ?_
      refine r_aload_n dX11_feed_79 rfl rfl ?_
      refine r_get (k := 45) (i := 0) (j := 2) (v := iV (σ.1 45 0 2)) rfl rfl ho45 rfl hX11 (by decide) rfl fX11_154 dX11_feed_80 (fun _ => rfl) ?_
      refine r_iload dX11_feed_83 rfl ?_
      refine r_iadd dX11_feed_85 ?_
      refine r_iload dX11_feed_86 rfl ?_
      refine r_bipush (v := (24 : Int32)) dX11_feed_88 rfl ?_
      refine r_bipush (v := (8 : Int32)) dX11_feed_90 rfl ?_
      refine r_iload dX11_feed_92 rfl ?_
      refine r_iconst (v := (4 : Int32)) dX11_feed_94 rfl ?_
      refine r_irem dX11_feed_95 (by decide) ?_
      refine r_imul dX11_feed_96 ?_
      refine r_isub dX11_feed_97 ?_
      refine r_ishr dX11_feed_98 ?_
      refine r_sipush (v := (255 : Int32)) dX11_feed_99 rfl ?_
      refine r_iand dX11_feed_102 ?_
      obtain ⟨q5, H⟩ := H
      refine r_iast (k := 46) (i := 0) rfl ho46 q5 dX11_feed_103 ?_
      refine r_iinc (v := x6 + (1 : Int32)) dX11_feed_104 rfl rfl (by decide) rfl ?_
      refine r_goto (tgt := 20) dX11_feed_107 (by decide) ?_
      exact R.fw (ls' := [some (rV 45 0), some (iV x1), some (iV x2), some (iV x3), some (iV x4), some (iV x5), some (iV (x6 + (1 : Int32))), none]) ⟨rfl, ⟨rfl, ⟨rfl, ⟨rfl, ⟨rfl, ⟨rfl, ⟨rfl, trivial⟩⟩⟩⟩⟩⟩⟩ H
set_option maxRecDepth 100000 in
theorem bX11_here_0 {d : Nat} {Q : Option MV → MS → Prop}  {σ : MS}  (H : (((σ.1 45 0 26) ≤ (σ.1 45 0 27) → Q (some (iV (-1 : Int32))) σ) ∧ (¬ (σ.1 45 0 26) ≤ (σ.1 45 0 27) → (vp_in (σ.1 45 0 27) 700 ∧ Q (some (iV (σ.1 46 0 (((σ.1 45 0 27)).toNatClampNeg)))) σ)))) : R mj_OM d mX11_here Q 0 [some (rV 45 0)] [] σ := by
  refine r_aload_n dX11_here_0 rfl rfl ?_
  refine r_get (k := 45) (i := 0) (j := 27) (v := iV (σ.1 45 0 27)) rfl rfl ho45 rfl hX11 (by decide) rfl fX11_157 dX11_here_1 (fun _ => rfl) ?_
  refine r_aload_n dX11_here_4 rfl rfl ?_
  refine r_get (k := 45) (i := 0) (j := 26) (v := iV (σ.1 45 0 26)) rfl rfl ho45 rfl hX11 (by decide) rfl fX11_160 dX11_here_5 (fun _ => rfl) ?_
  refine r_icmp_ge (tgt := 23) dX11_here_8 (by decide) (fun c => ?_) (fun c => ?_)
  · have H := H.1 c
    refine r_iconst (v := (-1 : Int32)) dX11_here_23 rfl ?_
    exact r_iret dX11_here_24 rfl H
  · have H := H.2 c
    refine r_aload_n dX11_here_11 rfl rfl ?_
    refine r_get (k := 45) (i := 0) (j := 1) (v := rV 46 0) rfl rfl ho45 rfl hX11 (by decide) rfl fX11_7 dX11_here_12 (fun _ => rfl) ?_
    refine r_aload_n dX11_here_15 rfl rfl ?_
    refine r_get (k := 45) (i := 0) (j := 27) (v := iV (σ.1 45 0 27)) rfl rfl ho45 rfl hX11 (by decide) rfl fX11_157 dX11_here_16 (fun _ => rfl) ?_
    obtain ⟨q1, H⟩ := H
    refine r_iald (k := 46) (i := 0) rfl ho46 q1 dX11_here_19 ?_
    refine r_goto (tgt := 24) dX11_here_20 (by decide) ?_
    exact r_iret dX11_here_24 rfl H
set_option maxRecDepth 100000 in
theorem bX11_isSmall_0 {d : Nat} {Q : Option MV → MS → Prop} {x0 : Int32} {σ : MS}  (H : ((x0 < (97 : Int32) → Q (some (iV (0 : Int32))) σ) ∧ (¬ x0 < (97 : Int32) → (((122 : Int32) < x0 → Q (some (iV (0 : Int32))) σ) ∧ (¬ (122 : Int32) < x0 → Q (some (iV (1 : Int32))) σ))))) : R mj_OM d mX11_isSmall Q 0 [some (iV x0)] [] σ := by
  refine r_iload_n dX11_isSmall_0 rfl rfl ?_
  refine r_bipush (v := (97 : Int32)) dX11_isSmall_1 rfl ?_
  refine r_icmp_lt (tgt := 16) dX11_isSmall_3 (by decide) (fun c => ?_) (fun c => ?_)
  · have H := H.1 c
    refine r_iconst (v := (0 : Int32)) dX11_isSmall_16 rfl ?_
    exact r_zret dX11_isSmall_17 rfl (by decide) H
  · have H := H.2 c
    refine r_iload_n dX11_isSmall_6 rfl rfl ?_
    refine r_bipush (v := (122 : Int32)) dX11_isSmall_7 rfl ?_
    refine r_icmp_gt (tgt := 16) dX11_isSmall_9 (by decide) (fun c => ?_) (fun c => ?_)
    · have H := H.1 c
      refine r_iconst (v := (0 : Int32)) dX11_isSmall_16 rfl ?_
      exact r_zret dX11_isSmall_17 rfl (by decide) H
    · have H := H.2 c
      refine r_iconst (v := (1 : Int32)) dX11_isSmall_12 rfl ?_
      refine r_goto (tgt := 17) dX11_isSmall_13 (by decide) ?_
      exact r_zret dX11_isSmall_17 rfl (by decide) H
set_option maxRecDepth 100000 in
theorem bX11_isDigit_0 {d : Nat} {Q : Option MV → MS → Prop} {x0 : Int32} {σ : MS}  (H : ((x0 < (48 : Int32) → Q (some (iV (0 : Int32))) σ) ∧ (¬ x0 < (48 : Int32) → (((57 : Int32) < x0 → Q (some (iV (0 : Int32))) σ) ∧ (¬ (57 : Int32) < x0 → Q (some (iV (1 : Int32))) σ))))) : R mj_OM d mX11_isDigit Q 0 [some (iV x0)] [] σ := by
  refine r_iload_n dX11_isDigit_0 rfl rfl ?_
  refine r_bipush (v := (48 : Int32)) dX11_isDigit_1 rfl ?_
  refine r_icmp_lt (tgt := 16) dX11_isDigit_3 (by decide) (fun c => ?_) (fun c => ?_)
  · have H := H.1 c
    refine r_iconst (v := (0 : Int32)) dX11_isDigit_16 rfl ?_
    exact r_zret dX11_isDigit_17 rfl (by decide) H
  · have H := H.2 c
    refine r_iload_n dX11_isDigit_6 rfl rfl ?_
    refine r_bipush (v := (57 : Int32)) dX11_isDigit_7 rfl ?_
    refine r_icmp_gt (tgt := 16) dX11_isDigit_9 (by decide) (fun c => ?_) (fun c => ?_)
    · have H := H.1 c
      refine r_iconst (v := (0 : Int32)) dX11_isDigit_16 rfl ?_
      exact r_zret dX11_isDigit_17 rfl (by decide) H
    · have H := H.2 c
      refine r_iconst (v := (1 : Int32)) dX11_isDigit_12 rfl ?_
      refine r_goto (tgt := 17) dX11_isDigit_13 (by decide) ?_
      exact r_zret dX11_isDigit_17 rfl (by decide) H
set_option maxRecDepth 100000 in
theorem bX11_token_0 {d : Nat} {Q : Option MV → MS → Prop}  {σ : MS}  (H : (R mj_OM d mX11_here (fun r σ' => R mj_OM (d + 1) mX11_token Q 4 [some (rV 45 0), none] (r.toList ++ []) σ') 0 [some (rV 45 0)] [] σ)) : R mj_OM (d + 1) mX11_token Q 0 [some (rV 45 0), none] [] σ := by
  refine r_aload_n dX11_token_0 rfl rfl ?_
  refine r_callV (z := 0) (k := 45) (i := 0) (As := []) (st := []) kX11_here i_X11_here e_X11_here lX11_163 dX11_token_1 rfl rfl ho45 rfl rfl rfl rfl rfl (Nat.le_of_ble_eq_true rfl) ?_
  exact H
set_option maxRecDepth 100000 in
theorem bX11_token_4 {d : Nat} {Q : Option MV → MS → Prop} {s0 : Int32} {σ : MS}  (H : ((s0 = (10 : Int32) → R mj_OM (d + 1) mX11_token Q 0 [some (rV 45 0), none] [] (uI σ 45 0 27 ((σ.1 45 0 27) + (1 : Int32)))) ∧ (¬ s0 = (10 : Int32) → (R mj_OM d mX11_here (fun r σ' => R mj_OM (d + 1) mX11_token Q 13 [some (rV 45 0), none] (r.toList ++ []) σ') 0 [some (rV 45 0)] [] σ)))) : R mj_OM (d + 1) mX11_token Q 4 [some (rV 45 0), none] [iV s0] σ := by
  refine r_bipush (v := (10 : Int32)) dX11_token_4 rfl ?_
  refine r_icmp_eq (tgt := 18) dX11_token_6 (by decide) (fun c => ?_) (fun c => ?_)
  · have H := H.1 c
    refine r_aload_n dX11_token_18 rfl rfl ?_
    refine r_dup_r dX11_token_19 ?_
    refine r_get (k := 45) (i := 0) (j := 27) (v := iV (σ.1 45 0 27)) rfl rfl ho45 rfl hX11 (by decide) rfl fX11_157 dX11_token_20 (fun _ => rfl) ?_
    refine r_iconst (v := (1 : Int32)) dX11_token_23 rfl ?_
    refine r_iadd dX11_token_24 ?_
    refine r_putI (k := 45) (i := 0) (j := 27) (ty0 := tyX11) rfl rfl ho45 rfl hX11 (by decide) rfl fX11_157 dX11_token_25 rfl tyX11_ok nmX11 rfl rfl rfl ?_
    refine r_goto (tgt := 0) dX11_token_28 (by decide) ?_
    exact H
  · have H := H.2 c
    refine r_aload_n dX11_token_9 rfl rfl ?_
    refine r_callV (z := 0) (k := 45) (i := 0) (As := []) (st := []) kX11_here i_X11_here e_X11_here lX11_163 dX11_token_10 rfl rfl ho45 rfl rfl rfl rfl rfl (Nat.le_of_ble_eq_true rfl) ?_
    exact H
set_option maxRecDepth 100000 in
theorem bX11_token_13 {d : Nat} {Q : Option MV → MS → Prop} {s0 : Int32} {σ : MS}  (H : ((¬ s0 = (32 : Int32) → (R mj_OM d mX11_here (fun r σ' => R mj_OM (d + 1) mX11_token Q 43 [some (rV 45 0), none] (r.toList ++ []) σ') 0 [some (rV 45 0)] [] (uI σ 45 0 28 (σ.1 45 0 27)))) ∧ (s0 = (32 : Int32) → R mj_OM (d + 1) mX11_token Q 0 [some (rV 45 0), none] [] (uI σ 45 0 27 ((σ.1 45 0 27) + (1 : Int32)))))) : R mj_OM (d + 1) mX11_token Q 13 [some (rV 45 0), none] [iV s0] σ := by
  refine r_bipush (v := (32 : Int32)) dX11_token_13 rfl ?_
  refine r_icmp_ne (tgt := 31) dX11_token_15 (by decide) (fun c => ?_) (fun c => ?_)
  · have H := H.1 c
    refine r_aload_n dX11_token_31 rfl rfl ?_
    refine r_aload_n dX11_token_32 rfl rfl ?_
    refine r_get (k := 45) (i := 0) (j := 27) (v := iV (σ.1 45 0 27)) rfl rfl ho45 rfl hX11 (by decide) rfl fX11_157 dX11_token_33 (fun _ => rfl) ?_
    refine r_putI (k := 45) (i := 0) (j := 28) (ty0 := tyX11) rfl rfl ho45 rfl hX11 (by decide) rfl fX11_167 dX11_token_36 rfl tyX11_ok nmX11 rfl rfl rfl ?_
    refine r_aload_n dX11_token_39 rfl rfl ?_
    refine r_callV (z := 0) (k := 45) (i := 0) (As := []) (st := []) kX11_here i_X11_here e_X11_here lX11_163 dX11_token_40 rfl rfl ho45 rfl rfl rfl rfl rfl (Nat.le_of_ble_eq_true rfl) ?_
    exact H
  · have H := H.2 c
    refine r_aload_n dX11_token_18 rfl rfl ?_
    refine r_dup_r dX11_token_19 ?_
    refine r_get (k := 45) (i := 0) (j := 27) (v := iV (σ.1 45 0 27)) rfl rfl ho45 rfl hX11 (by decide) rfl fX11_157 dX11_token_20 (fun _ => rfl) ?_
    refine r_iconst (v := (1 : Int32)) dX11_token_23 rfl ?_
    refine r_iadd dX11_token_24 ?_
    refine r_putI (k := 45) (i := 0) (j := 27) (ty0 := tyX11) rfl rfl ho45 rfl hX11 (by decide) rfl fX11_157 dX11_token_25 rfl tyX11_ok nmX11 rfl rfl rfl ?_
    refine r_goto (tgt := 0) dX11_token_28 (by decide) ?_
    exact H
set_option maxRecDepth 100000 in
theorem bX11_token_43 {d : Nat} {Q : Option MV → MS → Prop} {s0 : Int32} {σ : MS}  (H : ((¬ s0 = (-1 : Int32) → (R mj_OM d mX11_isSmall (fun r σ' => R mj_OM (d + 1) mX11_token Q 61 [some (rV 45 0), some (iV s0)] (r.toList ++ []) σ') 0 [some (iV s0)] [] σ)) ∧ (s0 = (-1 : Int32) → Q none (uI σ 45 0 29 (4 : Int32))))) : R mj_OM (d + 1) mX11_token Q 43 [some (rV 45 0), none] [iV s0] σ := by
  refine r_istore_n dX11_token_43 rfl (by decide) rfl ?_
  refine r_iload_n dX11_token_44 rfl rfl ?_
  refine r_iconst (v := (-1 : Int32)) dX11_token_45 rfl ?_
  refine r_icmp_ne (tgt := 57) dX11_token_46 (by decide) (fun c => ?_) (fun c => ?_)
  · have H := H.1 c
    refine r_iload_n dX11_token_57 rfl rfl ?_
    refine r_callS (z := 0) (As := [iV s0]) (st := []) kX11_isSmall s_X11_isSmall lX11_173 dX11_token_58 rfl rfl rfl rfl (Nat.le_of_ble_eq_true rfl) ?_
    exact H
  · have H := H.2 c
    refine r_aload_n dX11_token_49 rfl rfl ?_
    refine r_iconst (v := (4 : Int32)) dX11_token_50 rfl ?_
    refine r_putI (k := 45) (i := 0) (j := 29) (ty0 := tyX11) rfl rfl ho45 rfl hX11 (by decide) rfl fX11_170 dX11_token_51 rfl tyX11_ok nmX11 rfl rfl rfl ?_
    refine r_goto (tgt := 225) dX11_token_54 (by decide) ?_
    exact r_vret dX11_token_225 rfl H
set_option maxRecDepth 100000 in
theorem bX11_token_61 {d : Nat} {Q : Option MV → MS → Prop} {x1 : Int32} {s0 : Int32} {σ : MS}  (H : ((s0 = 0 → (R mj_OM d mX11_isDigit (fun r σ' => R mj_OM (d + 1) mX11_token Q 149 [some (rV 45 0), some (iV x1)] (r.toList ++ []) σ') 0 [some (iV x1)] [] σ)) ∧ (¬ s0 = 0 → R mj_OM (d + 1) mX11_token Q 64 [some (rV 45 0), some (iV x1)] [] σ))) : R mj_OM (d + 1) mX11_token Q 61 [some (rV 45 0), some (iV x1)] [iV s0] σ := by
  refine r_if_eq (tgt := 145) dX11_token_61 (by decide) (fun c => ?_) (fun c => ?_)
  · have H := H.1 c
    refine r_iload_n dX11_token_145 rfl rfl ?_
    refine r_callS (z := 0) (As := [iV x1]) (st := []) kX11_isDigit s_X11_isDigit lX11_186 dX11_token_146 rfl rfl rfl rfl (Nat.le_of_ble_eq_true rfl) ?_
    exact H
  · have H := H.2 c
    exact H
set_option maxRecDepth 100000 in
theorem bX11_token_64 {d : Nat} {Q : Option MV → MS → Prop} {x1 : Int32} {σ : MS}  (H : (R mj_OM d mX11_here (fun r σ' => R mj_OM (d + 1) mX11_token Q 68 [some (rV 45 0), some (iV x1)] (r.toList ++ []) σ') 0 [some (rV 45 0)] [] σ)) : R mj_OM (d + 1) mX11_token Q 64 [some (rV 45 0), some (iV x1)] [] σ := by
  refine r_aload_n dX11_token_64 rfl rfl ?_
  refine r_callV (z := 0) (k := 45) (i := 0) (As := []) (st := []) kX11_here i_X11_here e_X11_here lX11_163 dX11_token_65 rfl rfl ho45 rfl rfl rfl rfl rfl (Nat.le_of_ble_eq_true rfl) ?_
  exact H
set_option maxRecDepth 100000 in
theorem bX11_token_68 {d : Nat} {Q : Option MV → MS → Prop} {x1 : Int32} {s0 : Int32} {σ : MS}  (H : (R mj_OM d mX11_isSmall (fun r σ' => R mj_OM (d + 1) mX11_token Q 71 [some (rV 45 0), some (iV x1)] (r.toList ++ []) σ') 0 [some (iV s0)] [] σ)) : R mj_OM (d + 1) mX11_token Q 68 [some (rV 45 0), some (iV x1)] [iV s0] σ := by
  refine r_callS (z := 0) (As := [iV s0]) (st := []) kX11_isSmall s_X11_isSmall lX11_173 dX11_token_68 rfl rfl rfl rfl (Nat.le_of_ble_eq_true rfl) ?_
  exact H
set_option maxRecDepth 100000 in
theorem bX11_token_71 {d : Nat} {Q : Option MV → MS → Prop} {x1 : Int32} {s0 : Int32} {σ : MS}  (H : ((s0 = 0 → (R mj_OM d mX11_word (fun r σ' => R mj_OM (d + 1) mX11_token Q 92 [some (rV 45 0), some (iV x1)] (r.toList ++ [rV 45 0]) σ') 0 [some (rV 45 0), none, none, none] [] σ)) ∧ (¬ s0 = 0 → R mj_OM (d + 1) mX11_token Q 64 [some (rV 45 0), some (iV x1)] [] (uI σ 45 0 27 ((σ.1 45 0 27) + (1 : Int32)))))) : R mj_OM (d + 1) mX11_token Q 71 [some (rV 45 0), some (iV x1)] [iV s0] σ := by
  refine r_if_eq (tgt := 87) dX11_token_71 (by decide) (fun c => ?_) (fun c => ?_)
  · have H := H.1 c
    refine r_aload_n dX11_token_87 rfl rfl ?_
    refine r_aload_n dX11_token_88 rfl rfl ?_
    refine r_callV (z := 3) (k := 45) (i := 0) (As := []) (st := [rV 45 0]) kX11_word i_X11_word e_X11_word lX11_177 dX11_token_89 rfl rfl ho45 rfl rfl rfl rfl rfl (Nat.le_of_ble_eq_true rfl) ?_
    exact H
  · have H := H.2 c
    refine r_aload_n dX11_token_74 rfl rfl ?_
    refine r_dup_r dX11_token_75 ?_
    refine r_get (k := 45) (i := 0) (j := 27) (v := iV (σ.1 45 0 27)) rfl rfl ho45 rfl hX11 (by decide) rfl fX11_157 dX11_token_76 (fun _ => rfl) ?_
    refine r_iconst (v := (1 : Int32)) dX11_token_79 rfl ?_
    refine r_iadd dX11_token_80 ?_
    refine r_putI (k := 45) (i := 0) (j := 27) (ty0 := tyX11) rfl rfl ho45 rfl hX11 (by decide) rfl fX11_157 dX11_token_81 rfl tyX11_ok nmX11 rfl rfl rfl ?_
    refine r_goto (tgt := 64) dX11_token_84 (by decide) ?_
    exact H
set_option maxRecDepth 100000 in
theorem bX11_token_92 {d : Nat} {Q : Option MV → MS → Prop} {x1 : Int32} {s0 : Int32} {σ : MS}  (H : ((s0 = (-1 : Int32) → ((((σ.1 45 0 27) - (σ.1 45 0 28)) ≤ (6 : Int32) → ((¬ (1 : Int32) = (1 : Int32) → Q none (uI (uI σ 45 0 30 s0) 45 0 29 (1 : Int32))) ∧ ((1 : Int32) = (1 : Int32) → (R mj_OM d mX11_name (fun r σ' => R mj_OM (d + 1) mX11_token Q 142 [some (rV 45 0), some (iV x1)] (r.toList ++ []) σ') 0 [some (rV 45 0), none] [] (uI (uI σ 45 0 30 s0) 45 0 29 (1 : Int32)))))) ∧ (¬ ((σ.1 45 0 27) - (σ.1 45 0 28)) ≤ (6 : Int32) → ((¬ (5 : Int32) = (1 : Int32) → Q none (uI (uI σ 45 0 30 s0) 45 0 29 (5 : Int32))) ∧ ((5 : Int32) = (1 : Int32) → (R mj_OM d mX11_name (fun r σ' => R mj_OM (d + 1) mX11_token Q 142 [some (rV 45 0), some (iV x1)] (r.toList ++ []) σ') 0 [some (rV 45 0), none] [] (uI (uI σ 45 0 30 s0) 45 0 29 (5 : Int32)))))))) ∧ (¬ s0 = (-1 : Int32) → ((¬ (0 : Int32) = (1 : Int32) → Q none (uI (uI σ 45 0 30 s0) 45 0 29 (0 : Int32))) ∧ ((0 : Int32) = (1 : Int32) → (R mj_OM d mX11_name (fun r σ' => R mj_OM (d + 1) mX11_token Q 142 [some (rV 45 0), some (iV x1)] (r.toList ++ []) σ') 0 [some (rV 45 0), none] [] (uI (uI σ 45 0 30 s0) 45 0 29 (0 : Int32)))))))) : R mj_OM (d + 1) mX11_token Q 92 [some (rV 45 0), some (iV x1)] [iV s0, rV 45 0] σ := by
  refine r_putI (k := 45) (i := 0) (j := 30) (ty0 := tyX11) rfl rfl ho45 rfl hX11 (by decide) rfl fX11_180 dX11_token_92 rfl tyX11_ok nmX11 rfl rfl rfl ?_
  refine r_aload_n dX11_token_95 rfl rfl ?_
  refine r_aload_n dX11_token_96 rfl rfl ?_
  refine r_get (k := 45) (i := 0) (j := 30) (v := iV s0) rfl rfl ho45 rfl hX11 (by decide) rfl fX11_180 dX11_token_97 (fun _ => rfl) ?_
  refine r_iconst (v := (-1 : Int32)) dX11_token_100 rfl ?_
  refine r_icmp_eq (tgt := 108) dX11_token_101 (by decide) (fun c => ?_) (fun c => ?_)
  · have H := H.1 c
    refine r_aload_n dX11_token_108 rfl rfl ?_
    refine r_get (k := 45) (i := 0) (j := 27) (v := iV (σ.1 45 0 27)) rfl rfl ho45 rfl hX11 (by decide) rfl fX11_157 dX11_token_109 (fun _ => rfl) ?_
    refine r_aload_n dX11_token_112 rfl rfl ?_
    refine r_get (k := 45) (i := 0) (j := 28) (v := iV (σ.1 45 0 28)) rfl rfl ho45 rfl hX11 (by decide) rfl fX11_167 dX11_token_113 (fun _ => rfl) ?_
    refine r_isub dX11_token_116 ?_
    refine r_bipush (v := (6 : Int32)) dX11_token_117 rfl ?_
    refine r_icmp_le (tgt := 126) dX11_token_119 (by decide) (fun c => ?_) (fun c => ?_)
    · have H := H.1 c
      refine r_iconst (v := (1 : Int32)) dX11_token_126 rfl ?_
      refine r_putI (k := 45) (i := 0) (j := 29) (ty0 := tyX11) rfl rfl ho45 rfl hX11 (by decide) rfl fX11_170 dX11_token_127 rfl tyX11_ok nmX11 rfl rfl rfl ?_
      refine r_aload_n dX11_token_130 rfl rfl ?_
      refine r_get (k := 45) (i := 0) (j := 29) (v := iV (1 : Int32)) rfl rfl ho45 rfl hX11 (by decide) rfl fX11_170 dX11_token_131 (fun _ => rfl) ?_
      refine r_iconst (v := (1 : Int32)) dX11_token_134 rfl ?_
      refine r_icmp_ne (tgt := 225) dX11_token_135 (by decide) (fun c => ?_) (fun c => ?_)
      · have H := H.1 c
        exact r_vret dX11_token_225 rfl H
      · have H := H.2 c
        refine r_aload_n dX11_token_138 rfl rfl ?_
        refine r_callV (z := 1) (k := 45) (i := 0) (As := []) (st := []) kX11_name i_X11_name e_X11_name lX11_183 dX11_token_139 rfl rfl ho45 rfl rfl rfl rfl rfl (Nat.le_of_ble_eq_true rfl) ?_
        exact H
    · have H := H.2 c
      refine r_iconst (v := (5 : Int32)) dX11_token_122 rfl ?_
      refine r_goto (tgt := 127) dX11_token_123 (by decide) ?_
      refine r_putI (k := 45) (i := 0) (j := 29) (ty0 := tyX11) rfl rfl ho45 rfl hX11 (by decide) rfl fX11_170 dX11_token_127 rfl tyX11_ok nmX11 rfl rfl rfl ?_
      refine r_aload_n dX11_token_130 rfl rfl ?_
      refine r_get (k := 45) (i := 0) (j := 29) (v := iV (5 : Int32)) rfl rfl ho45 rfl hX11 (by decide) rfl fX11_170 dX11_token_131 (fun _ => rfl) ?_
      refine r_iconst (v := (1 : Int32)) dX11_token_134 rfl ?_
      refine r_icmp_ne (tgt := 225) dX11_token_135 (by decide) (fun c => ?_) (fun c => ?_)
      · have H := H.1 c
        exact r_vret dX11_token_225 rfl H
      · have H := H.2 c
        refine r_aload_n dX11_token_138 rfl rfl ?_
        refine r_callV (z := 1) (k := 45) (i := 0) (As := []) (st := []) kX11_name i_X11_name e_X11_name lX11_183 dX11_token_139 rfl rfl ho45 rfl rfl rfl rfl rfl (Nat.le_of_ble_eq_true rfl) ?_
        exact H
  · have H := H.2 c
    refine r_iconst (v := (0 : Int32)) dX11_token_104 rfl ?_
    refine r_goto (tgt := 127) dX11_token_105 (by decide) ?_
    refine r_putI (k := 45) (i := 0) (j := 29) (ty0 := tyX11) rfl rfl ho45 rfl hX11 (by decide) rfl fX11_170 dX11_token_127 rfl tyX11_ok nmX11 rfl rfl rfl ?_
    refine r_aload_n dX11_token_130 rfl rfl ?_
    refine r_get (k := 45) (i := 0) (j := 29) (v := iV (0 : Int32)) rfl rfl ho45 rfl hX11 (by decide) rfl fX11_170 dX11_token_131 (fun _ => rfl) ?_
    refine r_iconst (v := (1 : Int32)) dX11_token_134 rfl ?_
    refine r_icmp_ne (tgt := 225) dX11_token_135 (by decide) (fun c => ?_) (fun c => ?_)
    · have H := H.1 c
      exact r_vret dX11_token_225 rfl H
    · have H := H.2 c
      refine r_aload_n dX11_token_138 rfl rfl ?_
      refine r_callV (z := 1) (k := 45) (i := 0) (As := []) (st := []) kX11_name i_X11_name e_X11_name lX11_183 dX11_token_139 rfl rfl ho45 rfl rfl rfl rfl rfl (Nat.le_of_ble_eq_true rfl) ?_
      exact H
set_option maxRecDepth 100000 in
theorem bX11_token_142 {d : Nat} {Q : Option MV → MS → Prop} {x1 : Int32} {σ : MS}  (H : Q none σ) : R mj_OM d mX11_token Q 142 [some (rV 45 0), some (iV x1)] [] σ := by
  refine r_goto (tgt := 225) dX11_token_142 (by decide) ?_
  exact r_vret dX11_token_225 rfl H
set_option maxRecDepth 100000 in
theorem bX11_token_149 {d : Nat} {Q : Option MV → MS → Prop} {x1 : Int32} {s0 : Int32} {σ : MS}  (H : ((s0 = 0 → (R mj_OM d mX11_sign (fun r σ' => R mj_OM (d + 1) mX11_token Q 225 [some (rV 45 0), some (iV x1)] (r.toList ++ []) σ') 0 [some (rV 45 0), some (iV x1)] [] σ)) ∧ (¬ s0 = 0 → R mj_OM (d + 1) mX11_token Q 162 [some (rV 45 0), some (iV x1)] [] (uI (uI σ 45 0 29 (2 : Int32)) 45 0 30 (0 : Int32))))) : R mj_OM (d + 1) mX11_token Q 149 [some (rV 45 0), some (iV x1)] [iV s0] σ := by
  refine r_if_eq (tgt := 220) dX11_token_149 (by decide) (fun c => ?_) (fun c => ?_)
  · have H := H.1 c
    refine r_aload_n dX11_token_220 rfl rfl ?_
    refine r_iload_n dX11_token_221 rfl rfl ?_
    refine r_callV (z := 0) (k := 45) (i := 0) (As := [iV x1]) (st := []) kX11_sign i_X11_sign e_X11_sign lX11_190 dX11_token_222 rfl rfl ho45 rfl rfl rfl rfl rfl (Nat.le_of_ble_eq_true rfl) ?_
    exact H
  · have H := H.2 c
    refine r_aload_n dX11_token_152 rfl rfl ?_
    refine r_iconst (v := (2 : Int32)) dX11_token_153 rfl ?_
    refine r_putI (k := 45) (i := 0) (j := 29) (ty0 := tyX11) rfl rfl ho45 rfl hX11 (by decide) rfl fX11_170 dX11_token_154 rfl tyX11_ok nmX11 rfl rfl rfl ?_
    refine r_aload_n dX11_token_157 rfl rfl ?_
    refine r_iconst (v := (0 : Int32)) dX11_token_158 rfl ?_
    refine r_putI (k := 45) (i := 0) (j := 30) (ty0 := tyX11) rfl rfl ho45 rfl hX11 (by decide) rfl fX11_180 dX11_token_159 rfl tyX11_ok nmX11 rfl rfl rfl ?_
    exact H
set_option maxRecDepth 100000 in
theorem bX11_token_162 {d : Nat} {Q : Option MV → MS → Prop} {x1 : Int32} {σ : MS}  (H : (R mj_OM d mX11_here (fun r σ' => R mj_OM (d + 1) mX11_token Q 166 [some (rV 45 0), some (iV x1)] (r.toList ++ []) σ') 0 [some (rV 45 0)] [] σ)) : R mj_OM (d + 1) mX11_token Q 162 [some (rV 45 0), some (iV x1)] [] σ := by
  refine r_aload_n dX11_token_162 rfl rfl ?_
  refine r_callV (z := 0) (k := 45) (i := 0) (As := []) (st := []) kX11_here i_X11_here e_X11_here lX11_163 dX11_token_163 rfl rfl ho45 rfl rfl rfl rfl rfl (Nat.le_of_ble_eq_true rfl) ?_
  exact H
set_option maxRecDepth 100000 in
theorem bX11_token_166 {d : Nat} {Q : Option MV → MS → Prop} {x1 : Int32} {s0 : Int32} {σ : MS}  (H : (R mj_OM d mX11_isDigit (fun r σ' => R mj_OM (d + 1) mX11_token Q 169 [some (rV 45 0), some (iV x1)] (r.toList ++ []) σ') 0 [some (iV s0)] [] σ)) : R mj_OM (d + 1) mX11_token Q 166 [some (rV 45 0), some (iV x1)] [iV s0] σ := by
  refine r_callS (z := 0) (As := [iV s0]) (st := []) kX11_isDigit s_X11_isDigit lX11_186 dX11_token_166 rfl rfl rfl rfl (Nat.le_of_ble_eq_true rfl) ?_
  exact H
set_option maxRecDepth 100000 in
theorem bX11_token_169 {d : Nat} {Q : Option MV → MS → Prop} {x1 : Int32} {s0 : Int32} {σ : MS}  (H : ((s0 = 0 → Q none σ) ∧ (¬ s0 = 0 → (((σ.1 45 0 30) ≤ (99999 : Int32) → (R mj_OM d mX11_here (fun r σ' => R mj_OM (d + 1) mX11_token Q 200 [some (rV 45 0), some (iV x1)] (r.toList ++ [iV ((10 : Int32) * (σ.1 45 0 30)), rV 45 0]) σ') 0 [some (rV 45 0)] [] σ)) ∧ (¬ (σ.1 45 0 30) ≤ (99999 : Int32) → R mj_OM (d + 1) mX11_token Q 162 [some (rV 45 0), some (iV x1)] [] (uI (uI σ 45 0 30 (σ.1 45 0 30)) 45 0 27 ((σ.1 45 0 27) + (1 : Int32)))))))) : R mj_OM (d + 1) mX11_token Q 169 [some (rV 45 0), some (iV x1)] [iV s0] σ := by
  refine r_if_eq (tgt := 225) dX11_token_169 (by decide) (fun c => ?_) (fun c => ?_)
  · have H := H.1 c
    exact r_vret dX11_token_225 rfl H
  · have H := H.2 c
    refine r_aload_n dX11_token_172 rfl rfl ?_
    refine r_aload_n dX11_token_173 rfl rfl ?_
    refine r_get (k := 45) (i := 0) (j := 30) (v := iV (σ.1 45 0 30)) rfl rfl ho45 rfl hX11 (by decide) rfl fX11_180 dX11_token_174 (fun _ => rfl) ?_
    refine r_ldc (v := (99999 : Int32)) oX11_189 dX11_token_177 ?_
    refine r_icmp_le (tgt := 189) dX11_token_179 (by decide) (fun c => ?_) (fun c => ?_)
    · have H := H.1 c
      refine r_bipush (v := (10 : Int32)) dX11_token_189 rfl ?_
      refine r_aload_n dX11_token_191 rfl rfl ?_
      refine r_get (k := 45) (i := 0) (j := 30) (v := iV (σ.1 45 0 30)) rfl rfl ho45 rfl hX11 (by decide) rfl fX11_180 dX11_token_192 (fun _ => rfl) ?_
      refine r_imul dX11_token_195 ?_
      refine r_aload_n dX11_token_196 rfl rfl ?_
      refine r_callV (z := 0) (k := 45) (i := 0) (As := []) (st := [iV ((10 : Int32) * (σ.1 45 0 30)), rV 45 0]) kX11_here i_X11_here e_X11_here lX11_163 dX11_token_197 rfl rfl ho45 rfl rfl rfl rfl rfl (Nat.le_of_ble_eq_true rfl) ?_
      exact H
    · have H := H.2 c
      refine r_aload_n dX11_token_182 rfl rfl ?_
      refine r_get (k := 45) (i := 0) (j := 30) (v := iV (σ.1 45 0 30)) rfl rfl ho45 rfl hX11 (by decide) rfl fX11_180 dX11_token_183 (fun _ => rfl) ?_
      refine r_goto (tgt := 204) dX11_token_186 (by decide) ?_
      refine r_putI (k := 45) (i := 0) (j := 30) (ty0 := tyX11) rfl rfl ho45 rfl hX11 (by decide) rfl fX11_180 dX11_token_204 rfl tyX11_ok nmX11 rfl rfl rfl ?_
      refine r_aload_n dX11_token_207 rfl rfl ?_
      refine r_dup_r dX11_token_208 ?_
      refine r_get (k := 45) (i := 0) (j := 27) (v := iV (σ.1 45 0 27)) rfl rfl ho45 rfl hX11 (by decide) rfl fX11_157 dX11_token_209 (fun _ => rfl) ?_
      refine r_iconst (v := (1 : Int32)) dX11_token_212 rfl ?_
      refine r_iadd dX11_token_213 ?_
      refine r_putI (k := 45) (i := 0) (j := 27) (ty0 := tyX11) rfl rfl ho45 rfl hX11 (by decide) rfl fX11_157 dX11_token_214 rfl tyX11_ok nmX11 rfl rfl rfl ?_
      refine r_goto (tgt := 162) dX11_token_217 (by decide) ?_
      exact H
set_option maxRecDepth 100000 in
theorem bX11_token_200 {d : Nat} {Q : Option MV → MS → Prop} {x1 : Int32} {s0 : Int32} {s1 : Int32} {σ : MS}  (H : R mj_OM d mX11_token Q 162 [some (rV 45 0), some (iV x1)] [] (uI (uI σ 45 0 30 ((s1 + s0) - (48 : Int32))) 45 0 27 ((σ.1 45 0 27) + (1 : Int32)))) : R mj_OM d mX11_token Q 200 [some (rV 45 0), some (iV x1)] [iV s0, iV s1, rV 45 0] σ := by
  refine r_iadd dX11_token_200 ?_
  refine r_bipush (v := (48 : Int32)) dX11_token_201 rfl ?_
  refine r_isub dX11_token_203 ?_
  refine r_putI (k := 45) (i := 0) (j := 30) (ty0 := tyX11) rfl rfl ho45 rfl hX11 (by decide) rfl fX11_180 dX11_token_204 rfl tyX11_ok nmX11 rfl rfl rfl ?_
  refine r_aload_n dX11_token_207 rfl rfl ?_
  refine r_dup_r dX11_token_208 ?_
  refine r_get (k := 45) (i := 0) (j := 27) (v := iV (σ.1 45 0 27)) rfl rfl ho45 rfl hX11 (by decide) rfl fX11_157 dX11_token_209 (fun _ => rfl) ?_
  refine r_iconst (v := (1 : Int32)) dX11_token_212 rfl ?_
  refine r_iadd dX11_token_213 ?_
  refine r_putI (k := 45) (i := 0) (j := 27) (ty0 := tyX11) rfl rfl ho45 rfl hX11 (by decide) rfl fX11_157 dX11_token_214 rfl tyX11_ok nmX11 rfl rfl rfl ?_
  refine r_goto (tgt := 162) dX11_token_217 (by decide) ?_
  exact H
set_option maxRecDepth 100000 in
theorem bX11_token_225 {d : Nat} {Q : Option MV → MS → Prop} {x1 : Int32} {σ : MS}  (H : Q none σ) : R mj_OM d mX11_token Q 225 [some (rV 45 0), some (iV x1)] [] σ := by
  exact r_vret dX11_token_225 rfl H
set_option maxRecDepth 100000 in
theorem bX11_sign_0 {d : Nat} {Q : Option MV → MS → Prop} {x1 : Int32} {σ : MS}  (H : ((x1 = (59 : Int32) → ((¬ x1 = (60 : Int32) → R mj_OM (d + 1) mX11_sign Q 106 [some (rV 45 0), some (iV x1)] [] (uI (uI (uI σ 45 0 27 ((σ.1 45 0 27) + (1 : Int32))) 45 0 29 (3 : Int32)) 45 0 30 x1)) ∧ (x1 = (60 : Int32) → (R mj_OM d mX11_here (fun r σ' => R mj_OM (d + 1) mX11_sign Q 94 [some (rV 45 0), some (iV x1)] (r.toList ++ []) σ') 0 [some (rV 45 0)] [] (uI (uI (uI σ 45 0 27 ((σ.1 45 0 27) + (1 : Int32))) 45 0 29 (3 : Int32)) 45 0 30 x1))))) ∧ (¬ x1 = (59 : Int32) → ((x1 = (40 : Int32) → ((¬ x1 = (60 : Int32) → R mj_OM (d + 1) mX11_sign Q 106 [some (rV 45 0), some (iV x1)] [] (uI (uI (uI σ 45 0 27 ((σ.1 45 0 27) + (1 : Int32))) 45 0 29 (3 : Int32)) 45 0 30 x1)) ∧ (x1 = (60 : Int32) → (R mj_OM d mX11_here (fun r σ' => R mj_OM (d + 1) mX11_sign Q 94 [some (rV 45 0), some (iV x1)] (r.toList ++ []) σ') 0 [some (rV 45 0)] [] (uI (uI (uI σ 45 0 27 ((σ.1 45 0 27) + (1 : Int32))) 45 0 29 (3 : Int32)) 45 0 30 x1))))) ∧ (¬ x1 = (40 : Int32) → ((x1 = (41 : Int32) → ((¬ x1 = (60 : Int32) → R mj_OM (d + 1) mX11_sign Q 106 [some (rV 45 0), some (iV x1)] [] (uI (uI (uI σ 45 0 27 ((σ.1 45 0 27) + (1 : Int32))) 45 0 29 (3 : Int32)) 45 0 30 x1)) ∧ (x1 = (60 : Int32) → (R mj_OM d mX11_here (fun r σ' => R mj_OM (d + 1) mX11_sign Q 94 [some (rV 45 0), some (iV x1)] (r.toList ++ []) σ') 0 [some (rV 45 0)] [] (uI (uI (uI σ 45 0 27 ((σ.1 45 0 27) + (1 : Int32))) 45 0 29 (3 : Int32)) 45 0 30 x1))))) ∧ (¬ x1 = (41 : Int32) → ((x1 = (43 : Int32) → ((¬ x1 = (60 : Int32) → R mj_OM (d + 1) mX11_sign Q 106 [some (rV 45 0), some (iV x1)] [] (uI (uI (uI σ 45 0 27 ((σ.1 45 0 27) + (1 : Int32))) 45 0 29 (3 : Int32)) 45 0 30 x1)) ∧ (x1 = (60 : Int32) → (R mj_OM d mX11_here (fun r σ' => R mj_OM (d + 1) mX11_sign Q 94 [some (rV 45 0), some (iV x1)] (r.toList ++ []) σ') 0 [some (rV 45 0)] [] (uI (uI (uI σ 45 0 27 ((σ.1 45 0 27) + (1 : Int32))) 45 0 29 (3 : Int32)) 45 0 30 x1))))) ∧ (¬ x1 = (43 : Int32) → ((x1 = (45 : Int32) → ((¬ x1 = (60 : Int32) → R mj_OM (d + 1) mX11_sign Q 106 [some (rV 45 0), some (iV x1)] [] (uI (uI (uI σ 45 0 27 ((σ.1 45 0 27) + (1 : Int32))) 45 0 29 (3 : Int32)) 45 0 30 x1)) ∧ (x1 = (60 : Int32) → (R mj_OM d mX11_here (fun r σ' => R mj_OM (d + 1) mX11_sign Q 94 [some (rV 45 0), some (iV x1)] (r.toList ++ []) σ') 0 [some (rV 45 0)] [] (uI (uI (uI σ 45 0 27 ((σ.1 45 0 27) + (1 : Int32))) 45 0 29 (3 : Int32)) 45 0 30 x1))))) ∧ (¬ x1 = (45 : Int32) → ((x1 = (42 : Int32) → ((¬ x1 = (60 : Int32) → R mj_OM (d + 1) mX11_sign Q 106 [some (rV 45 0), some (iV x1)] [] (uI (uI (uI σ 45 0 27 ((σ.1 45 0 27) + (1 : Int32))) 45 0 29 (3 : Int32)) 45 0 30 x1)) ∧ (x1 = (60 : Int32) → (R mj_OM d mX11_here (fun r σ' => R mj_OM (d + 1) mX11_sign Q 94 [some (rV 45 0), some (iV x1)] (r.toList ++ []) σ') 0 [some (rV 45 0)] [] (uI (uI (uI σ 45 0 27 ((σ.1 45 0 27) + (1 : Int32))) 45 0 29 (3 : Int32)) 45 0 30 x1))))) ∧ (¬ x1 = (42 : Int32) → ((x1 = (47 : Int32) → ((¬ x1 = (60 : Int32) → R mj_OM (d + 1) mX11_sign Q 106 [some (rV 45 0), some (iV x1)] [] (uI (uI (uI σ 45 0 27 ((σ.1 45 0 27) + (1 : Int32))) 45 0 29 (3 : Int32)) 45 0 30 x1)) ∧ (x1 = (60 : Int32) → (R mj_OM d mX11_here (fun r σ' => R mj_OM (d + 1) mX11_sign Q 94 [some (rV 45 0), some (iV x1)] (r.toList ++ []) σ') 0 [some (rV 45 0)] [] (uI (uI (uI σ 45 0 27 ((σ.1 45 0 27) + (1 : Int32))) 45 0 29 (3 : Int32)) 45 0 30 x1))))) ∧ (¬ x1 = (47 : Int32) → ((x1 = (60 : Int32) → ((¬ x1 = (60 : Int32) → R mj_OM (d + 1) mX11_sign Q 106 [some (rV 45 0), some (iV x1)] [] (uI (uI (uI σ 45 0 27 ((σ.1 45 0 27) + (1 : Int32))) 45 0 29 (3 : Int32)) 45 0 30 x1)) ∧ (x1 = (60 : Int32) → (R mj_OM d mX11_here (fun r σ' => R mj_OM (d + 1) mX11_sign Q 94 [some (rV 45 0), some (iV x1)] (r.toList ++ []) σ') 0 [some (rV 45 0)] [] (uI (uI (uI σ 45 0 27 ((σ.1 45 0 27) + (1 : Int32))) 45 0 29 (3 : Int32)) 45 0 30 x1))))) ∧ (¬ x1 = (60 : Int32) → ((x1 = (61 : Int32) → ((¬ x1 = (60 : Int32) → R mj_OM (d + 1) mX11_sign Q 106 [some (rV 45 0), some (iV x1)] [] (uI (uI (uI σ 45 0 27 ((σ.1 45 0 27) + (1 : Int32))) 45 0 29 (3 : Int32)) 45 0 30 x1)) ∧ (x1 = (60 : Int32) → (R mj_OM d mX11_here (fun r σ' => R mj_OM (d + 1) mX11_sign Q 94 [some (rV 45 0), some (iV x1)] (r.toList ++ []) σ') 0 [some (rV 45 0)] [] (uI (uI (uI σ 45 0 27 ((σ.1 45 0 27) + (1 : Int32))) 45 0 29 (3 : Int32)) 45 0 30 x1))))) ∧ (¬ x1 = (61 : Int32) → ((¬ x1 = (62 : Int32) → ((¬ x1 = (60 : Int32) → R mj_OM (d + 1) mX11_sign Q 106 [some (rV 45 0), some (iV x1)] [] (uI (uI (uI σ 45 0 27 ((σ.1 45 0 27) + (1 : Int32))) 45 0 29 (5 : Int32)) 45 0 30 x1)) ∧ (x1 = (60 : Int32) → (R mj_OM d mX11_here (fun r σ' => R mj_OM (d + 1) mX11_sign Q 94 [some (rV 45 0), some (iV x1)] (r.toList ++ []) σ') 0 [some (rV 45 0)] [] (uI (uI (uI σ 45 0 27 ((σ.1 45 0 27) + (1 : Int32))) 45 0 29 (5 : Int32)) 45 0 30 x1))))) ∧ (x1 = (62 : Int32) → ((¬ x1 = (60 : Int32) → R mj_OM (d + 1) mX11_sign Q 106 [some (rV 45 0), some (iV x1)] [] (uI (uI (uI σ 45 0 27 ((σ.1 45 0 27) + (1 : Int32))) 45 0 29 (3 : Int32)) 45 0 30 x1)) ∧ (x1 = (60 : Int32) → (R mj_OM d mX11_here (fun r σ' => R mj_OM (d + 1) mX11_sign Q 94 [some (rV 45 0), some (iV x1)] (r.toList ++ []) σ') 0 [some (rV 45 0)] [] (uI (uI (uI σ 45 0 27 ((σ.1 45 0 27) + (1 : Int32))) 45 0 29 (3 : Int32)) 45 0 30 x1))))))))))))))))))))))))) : R mj_OM (d + 1) mX11_sign Q 0 [some (rV 45 0), some (iV x1)] [] σ := by
  refine r_aload_n dX11_sign_0 rfl rfl ?_
  refine r_dup_r dX11_sign_1 ?_
  refine r_get (k := 45) (i := 0) (j := 27) (v := iV (σ.1 45 0 27)) rfl rfl ho45 rfl hX11 (by decide) rfl fX11_157 dX11_sign_2 (fun _ => rfl) ?_
  refine r_iconst (v := (1 : Int32)) dX11_sign_5 rfl ?_
  refine r_iadd dX11_sign_6 ?_
  refine r_putI (k := 45) (i := 0) (j := 27) (ty0 := tyX11) rfl rfl ho45 rfl hX11 (by decide) rfl fX11_157 dX11_sign_7 rfl tyX11_ok nmX11 rfl rfl rfl ?_
  refine r_aload_n dX11_sign_10 rfl rfl ?_
  refine r_iload_n dX11_sign_11 rfl rfl ?_
  refine r_bipush (v := (59 : Int32)) dX11_sign_12 rfl ?_
  refine r_icmp_eq (tgt := 71) dX11_sign_14 (by decide) (fun c => ?_) (fun c => ?_)
  · have H := H.1 c
    refine r_iconst (v := (3 : Int32)) dX11_sign_71 rfl ?_
    refine r_goto (tgt := 76) dX11_sign_72 (by decide) ?_
    refine r_putI (k := 45) (i := 0) (j := 29) (ty0 := tyX11) rfl rfl ho45 rfl hX11 (by decide) rfl fX11_170 dX11_sign_76 rfl tyX11_ok nmX11 rfl rfl rfl ?_
    refine r_aload_n dX11_sign_79 rfl rfl ?_
    refine r_iload_n dX11_sign_80 rfl rfl ?_
    refine r_putI (k := 45) (i := 0) (j := 30) (ty0 := tyX11) rfl rfl ho45 rfl hX11 (by decide) rfl fX11_180 dX11_sign_81 rfl tyX11_ok nmX11 rfl rfl rfl ?_
    refine r_iload_n dX11_sign_84 rfl rfl ?_
    refine r_bipush (v := (60 : Int32)) dX11_sign_85 rfl ?_
    refine r_icmp_ne (tgt := 106) dX11_sign_87 (by decide) (fun c => ?_) (fun c => ?_)
    · have H := H.1 c
      exact H
    · have H := H.2 c
      refine r_aload_n dX11_sign_90 rfl rfl ?_
      refine r_callV (z := 0) (k := 45) (i := 0) (As := []) (st := []) kX11_here i_X11_here e_X11_here lX11_163 dX11_sign_91 rfl rfl ho45 rfl rfl rfl rfl rfl (Nat.le_of_ble_eq_true rfl) ?_
      exact H
  · have H := H.2 c
    refine r_iload_n dX11_sign_17 rfl rfl ?_
    refine r_bipush (v := (40 : Int32)) dX11_sign_18 rfl ?_
    refine r_icmp_eq (tgt := 71) dX11_sign_20 (by decide) (fun c => ?_) (fun c => ?_)
    · have H := H.1 c
      refine r_iconst (v := (3 : Int32)) dX11_sign_71 rfl ?_
      refine r_goto (tgt := 76) dX11_sign_72 (by decide) ?_
      refine r_putI (k := 45) (i := 0) (j := 29) (ty0 := tyX11) rfl rfl ho45 rfl hX11 (by decide) rfl fX11_170 dX11_sign_76 rfl tyX11_ok nmX11 rfl rfl rfl ?_
      refine r_aload_n dX11_sign_79 rfl rfl ?_
      refine r_iload_n dX11_sign_80 rfl rfl ?_
      refine r_putI (k := 45) (i := 0) (j := 30) (ty0 := tyX11) rfl rfl ho45 rfl hX11 (by decide) rfl fX11_180 dX11_sign_81 rfl tyX11_ok nmX11 rfl rfl rfl ?_
      refine r_iload_n dX11_sign_84 rfl rfl ?_
      refine r_bipush (v := (60 : Int32)) dX11_sign_85 rfl ?_
      refine r_icmp_ne (tgt := 106) dX11_sign_87 (by decide) (fun c => ?_) (fun c => ?_)
      · have H := H.1 c
        exact H
      · have H := H.2 c
        refine r_aload_n dX11_sign_90 rfl rfl ?_
        refine r_callV (z := 0) (k := 45) (i := 0) (As := []) (st := []) kX11_here i_X11_here e_X11_here lX11_163 dX11_sign_91 rfl rfl ho45 rfl rfl rfl rfl rfl (Nat.le_of_ble_eq_true rfl) ?_
        exact H
    · have H := H.2 c
      refine r_iload_n dX11_sign_23 rfl rfl ?_
      refine r_bipush (v := (41 : Int32)) dX11_sign_24 rfl ?_
      refine r_icmp_eq (tgt := 71) dX11_sign_26 (by decide) (fun c => ?_) (fun c => ?_)
      · have H := H.1 c
        refine r_iconst (v := (3 : Int32)) dX11_sign_71 rfl ?_
        refine r_goto (tgt := 76) dX11_sign_72 (by decide) ?_
        refine r_putI (k := 45) (i := 0) (j := 29) (ty0 := tyX11) rfl rfl ho45 rfl hX11 (by decide) rfl fX11_170 dX11_sign_76 rfl tyX11_ok nmX11 rfl rfl rfl ?_
        refine r_aload_n dX11_sign_79 rfl rfl ?_
        refine r_iload_n dX11_sign_80 rfl rfl ?_
        refine r_putI (k := 45) (i := 0) (j := 30) (ty0 := tyX11) rfl rfl ho45 rfl hX11 (by decide) rfl fX11_180 dX11_sign_81 rfl tyX11_ok nmX11 rfl rfl rfl ?_
        refine r_iload_n dX11_sign_84 rfl rfl ?_
        refine r_bipush (v := (60 : Int32)) dX11_sign_85 rfl ?_
        refine r_icmp_ne (tgt := 106) dX11_sign_87 (by decide) (fun c => ?_) (fun c => ?_)
        · have H := H.1 c
          exact H
        · have H := H.2 c
          refine r_aload_n dX11_sign_90 rfl rfl ?_
          refine r_callV (z := 0) (k := 45) (i := 0) (As := []) (st := []) kX11_here i_X11_here e_X11_here lX11_163 dX11_sign_91 rfl rfl ho45 rfl rfl rfl rfl rfl (Nat.le_of_ble_eq_true rfl) ?_
          exact H
      · have H := H.2 c
        refine r_iload_n dX11_sign_29 rfl rfl ?_
        refine r_bipush (v := (43 : Int32)) dX11_sign_30 rfl ?_
        refine r_icmp_eq (tgt := 71) dX11_sign_32 (by decide) (fun c => ?_) (fun c => ?_)
        · have H := H.1 c
          refine r_iconst (v := (3 : Int32)) dX11_sign_71 rfl ?_
          refine r_goto (tgt := 76) dX11_sign_72 (by decide) ?_
          refine r_putI (k := 45) (i := 0) (j := 29) (ty0 := tyX11) rfl rfl ho45 rfl hX11 (by decide) rfl fX11_170 dX11_sign_76 rfl tyX11_ok nmX11 rfl rfl rfl ?_
          refine r_aload_n dX11_sign_79 rfl rfl ?_
          refine r_iload_n dX11_sign_80 rfl rfl ?_
          refine r_putI (k := 45) (i := 0) (j := 30) (ty0 := tyX11) rfl rfl ho45 rfl hX11 (by decide) rfl fX11_180 dX11_sign_81 rfl tyX11_ok nmX11 rfl rfl rfl ?_
          refine r_iload_n dX11_sign_84 rfl rfl ?_
          refine r_bipush (v := (60 : Int32)) dX11_sign_85 rfl ?_
          refine r_icmp_ne (tgt := 106) dX11_sign_87 (by decide) (fun c => ?_) (fun c => ?_)
          · have H := H.1 c
            exact H
          · have H := H.2 c
            refine r_aload_n dX11_sign_90 rfl rfl ?_
            refine r_callV (z := 0) (k := 45) (i := 0) (As := []) (st := []) kX11_here i_X11_here e_X11_here lX11_163 dX11_sign_91 rfl rfl ho45 rfl rfl rfl rfl rfl (Nat.le_of_ble_eq_true rfl) ?_
            exact H
        · have H := H.2 c
          refine r_iload_n dX11_sign_35 rfl rfl ?_
          refine r_bipush (v := (45 : Int32)) dX11_sign_36 rfl ?_
          refine r_icmp_eq (tgt := 71) dX11_sign_38 (by decide) (fun c => ?_) (fun c => ?_)
          · have H := H.1 c
            refine r_iconst (v := (3 : Int32)) dX11_sign_71 rfl ?_
            refine r_goto (tgt := 76) dX11_sign_72 (by decide) ?_
            refine r_putI (k := 45) (i := 0) (j := 29) (ty0 := tyX11) rfl rfl ho45 rfl hX11 (by decide) rfl fX11_170 dX11_sign_76 rfl tyX11_ok nmX11 rfl rfl rfl ?_
            refine r_aload_n dX11_sign_79 rfl rfl ?_
            refine r_iload_n dX11_sign_80 rfl rfl ?_
            refine r_putI (k := 45) (i := 0) (j := 30) (ty0 := tyX11) rfl rfl ho45 rfl hX11 (by decide) rfl fX11_180 dX11_sign_81 rfl tyX11_ok nmX11 rfl rfl rfl ?_
            refine r_iload_n dX11_sign_84 rfl rfl ?_
            refine r_bipush (v := (60 : Int32)) dX11_sign_85 rfl ?_
            refine r_icmp_ne (tgt := 106) dX11_sign_87 (by decide) (fun c => ?_) (fun c => ?_)
            · have H := H.1 c
              exact H
            · have H := H.2 c
              refine r_aload_n dX11_sign_90 rfl rfl ?_
              refine r_callV (z := 0) (k := 45) (i := 0) (As := []) (st := []) kX11_here i_X11_here e_X11_here lX11_163 dX11_sign_91 rfl rfl ho45 rfl rfl rfl rfl rfl (Nat.le_of_ble_eq_true rfl) ?_
              exact H
          · have H := H.2 c
            refine r_iload_n dX11_sign_41 rfl rfl ?_
            refine r_bipush (v := (42 : Int32)) dX11_sign_42 rfl ?_
            refine r_icmp_eq (tgt := 71) dX11_sign_44 (by decide) (fun c => ?_) (fun c => ?_)
            · have H := H.1 c
              refine r_iconst (v := (3 : Int32)) dX11_sign_71 rfl ?_
              refine r_goto (tgt := 76) dX11_sign_72 (by decide) ?_
              refine r_putI (k := 45) (i := 0) (j := 29) (ty0 := tyX11) rfl rfl ho45 rfl hX11 (by decide) rfl fX11_170 dX11_sign_76 rfl tyX11_ok nmX11 rfl rfl rfl ?_
              refine r_aload_n dX11_sign_79 rfl rfl ?_
              refine r_iload_n dX11_sign_80 rfl rfl ?_
              refine r_putI (k := 45) (i := 0) (j := 30) (ty0 := tyX11) rfl rfl ho45 rfl hX11 (by decide) rfl fX11_180 dX11_sign_81 rfl tyX11_ok nmX11 rfl rfl rfl ?_
              refine r_iload_n dX11_sign_84 rfl rfl ?_
              refine r_bipush (v := (60 : Int32)) dX11_sign_85 rfl ?_
              refine r_icmp_ne (tgt := 106) dX11_sign_87 (by decide) (fun c => ?_) (fun c => ?_)
              · have H := H.1 c
                exact H
              · have H := H.2 c
                refine r_aload_n dX11_sign_90 rfl rfl ?_
                refine r_callV (z := 0) (k := 45) (i := 0) (As := []) (st := []) kX11_here i_X11_here e_X11_here lX11_163 dX11_sign_91 rfl rfl ho45 rfl rfl rfl rfl rfl (Nat.le_of_ble_eq_true rfl) ?_
                exact H
            · have H := H.2 c
              refine r_iload_n dX11_sign_47 rfl rfl ?_
              refine r_bipush (v := (47 : Int32)) dX11_sign_48 rfl ?_
              refine r_icmp_eq (tgt := 71) dX11_sign_50 (by decide) (fun c => ?_) (fun c => ?_)
              · have H := H.1 c
                refine r_iconst (v := (3 : Int32)) dX11_sign_71 rfl ?_
                refine r_goto (tgt := 76) dX11_sign_72 (by decide) ?_
                refine r_putI (k := 45) (i := 0) (j := 29) (ty0 := tyX11) rfl rfl ho45 rfl hX11 (by decide) rfl fX11_170 dX11_sign_76 rfl tyX11_ok nmX11 rfl rfl rfl ?_
                refine r_aload_n dX11_sign_79 rfl rfl ?_
                refine r_iload_n dX11_sign_80 rfl rfl ?_
                refine r_putI (k := 45) (i := 0) (j := 30) (ty0 := tyX11) rfl rfl ho45 rfl hX11 (by decide) rfl fX11_180 dX11_sign_81 rfl tyX11_ok nmX11 rfl rfl rfl ?_
                refine r_iload_n dX11_sign_84 rfl rfl ?_
                refine r_bipush (v := (60 : Int32)) dX11_sign_85 rfl ?_
                refine r_icmp_ne (tgt := 106) dX11_sign_87 (by decide) (fun c => ?_) (fun c => ?_)
                · have H := H.1 c
                  exact H
                · have H := H.2 c
                  refine r_aload_n dX11_sign_90 rfl rfl ?_
                  refine r_callV (z := 0) (k := 45) (i := 0) (As := []) (st := []) kX11_here i_X11_here e_X11_here lX11_163 dX11_sign_91 rfl rfl ho45 rfl rfl rfl rfl rfl (Nat.le_of_ble_eq_true rfl) ?_
                  exact H
              · have H := H.2 c
                refine r_iload_n dX11_sign_53 rfl rfl ?_
                refine r_bipush (v := (60 : Int32)) dX11_sign_54 rfl ?_
                refine r_icmp_eq (tgt := 71) dX11_sign_56 (by decide) (fun c => ?_) (fun c => ?_)
                · have H := H.1 c
                  refine r_iconst (v := (3 : Int32)) dX11_sign_71 rfl ?_
                  refine r_goto (tgt := 76) dX11_sign_72 (by decide) ?_
                  refine r_putI (k := 45) (i := 0) (j := 29) (ty0 := tyX11) rfl rfl ho45 rfl hX11 (by decide) rfl fX11_170 dX11_sign_76 rfl tyX11_ok nmX11 rfl rfl rfl ?_
                  refine r_aload_n dX11_sign_79 rfl rfl ?_
                  refine r_iload_n dX11_sign_80 rfl rfl ?_
                  refine r_putI (k := 45) (i := 0) (j := 30) (ty0 := tyX11) rfl rfl ho45 rfl hX11 (by decide) rfl fX11_180 dX11_sign_81 rfl tyX11_ok nmX11 rfl rfl rfl ?_
                  refine r_iload_n dX11_sign_84 rfl rfl ?_
                  refine r_bipush (v := (60 : Int32)) dX11_sign_85 rfl ?_
                  refine r_icmp_ne (tgt := 106) dX11_sign_87 (by decide) (fun c => ?_) (fun c => ?_)
                  · have H := H.1 c
                    exact H
                  · have H := H.2 c
                    refine r_aload_n dX11_sign_90 rfl rfl ?_
                    refine r_callV (z := 0) (k := 45) (i := 0) (As := []) (st := []) kX11_here i_X11_here e_X11_here lX11_163 dX11_sign_91 rfl rfl ho45 rfl rfl rfl rfl rfl (Nat.le_of_ble_eq_true rfl) ?_
                    exact H
                · have H := H.2 c
                  refine r_iload_n dX11_sign_59 rfl rfl ?_
                  refine r_bipush (v := (61 : Int32)) dX11_sign_60 rfl ?_
                  refine r_icmp_eq (tgt := 71) dX11_sign_62 (by decide) (fun c => ?_) (fun c => ?_)
                  · have H := H.1 c
                    refine r_iconst (v := (3 : Int32)) dX11_sign_71 rfl ?_
                    refine r_goto (tgt := 76) dX11_sign_72 (by decide) ?_
                    refine r_putI (k := 45) (i := 0) (j := 29) (ty0 := tyX11) rfl rfl ho45 rfl hX11 (by decide) rfl fX11_170 dX11_sign_76 rfl tyX11_ok nmX11 rfl rfl rfl ?_
                    refine r_aload_n dX11_sign_79 rfl rfl ?_
                    refine r_iload_n dX11_sign_80 rfl rfl ?_
                    refine r_putI (k := 45) (i := 0) (j := 30) (ty0 := tyX11) rfl rfl ho45 rfl hX11 (by decide) rfl fX11_180 dX11_sign_81 rfl tyX11_ok nmX11 rfl rfl rfl ?_
                    refine r_iload_n dX11_sign_84 rfl rfl ?_
                    refine r_bipush (v := (60 : Int32)) dX11_sign_85 rfl ?_
                    refine r_icmp_ne (tgt := 106) dX11_sign_87 (by decide) (fun c => ?_) (fun c => ?_)
                    · have H := H.1 c
                      exact H
                    · have H := H.2 c
                      refine r_aload_n dX11_sign_90 rfl rfl ?_
                      refine r_callV (z := 0) (k := 45) (i := 0) (As := []) (st := []) kX11_here i_X11_here e_X11_here lX11_163 dX11_sign_91 rfl rfl ho45 rfl rfl rfl rfl rfl (Nat.le_of_ble_eq_true rfl) ?_
                      exact H
                  · have H := H.2 c
                    refine r_iload_n dX11_sign_65 rfl rfl ?_
                    refine r_bipush (v := (62 : Int32)) dX11_sign_66 rfl ?_
                    refine r_icmp_ne (tgt := 75) dX11_sign_68 (by decide) (fun c => ?_) (fun c => ?_)
                    · have H := H.1 c
                      refine r_iconst (v := (5 : Int32)) dX11_sign_75 rfl ?_
                      refine r_putI (k := 45) (i := 0) (j := 29) (ty0 := tyX11) rfl rfl ho45 rfl hX11 (by decide) rfl fX11_170 dX11_sign_76 rfl tyX11_ok nmX11 rfl rfl rfl ?_
                      refine r_aload_n dX11_sign_79 rfl rfl ?_
                      refine r_iload_n dX11_sign_80 rfl rfl ?_
                      refine r_putI (k := 45) (i := 0) (j := 30) (ty0 := tyX11) rfl rfl ho45 rfl hX11 (by decide) rfl fX11_180 dX11_sign_81 rfl tyX11_ok nmX11 rfl rfl rfl ?_
                      refine r_iload_n dX11_sign_84 rfl rfl ?_
                      refine r_bipush (v := (60 : Int32)) dX11_sign_85 rfl ?_
                      refine r_icmp_ne (tgt := 106) dX11_sign_87 (by decide) (fun c => ?_) (fun c => ?_)
                      · have H := H.1 c
                        exact H
                      · have H := H.2 c
                        refine r_aload_n dX11_sign_90 rfl rfl ?_
                        refine r_callV (z := 0) (k := 45) (i := 0) (As := []) (st := []) kX11_here i_X11_here e_X11_here lX11_163 dX11_sign_91 rfl rfl ho45 rfl rfl rfl rfl rfl (Nat.le_of_ble_eq_true rfl) ?_
                        exact H
                    · have H := H.2 c
                      refine r_iconst (v := (3 : Int32)) dX11_sign_71 rfl ?_
                      refine r_goto (tgt := 76) dX11_sign_72 (by decide) ?_
                      refine r_putI (k := 45) (i := 0) (j := 29) (ty0 := tyX11) rfl rfl ho45 rfl hX11 (by decide) rfl fX11_170 dX11_sign_76 rfl tyX11_ok nmX11 rfl rfl rfl ?_
                      refine r_aload_n dX11_sign_79 rfl rfl ?_
                      refine r_iload_n dX11_sign_80 rfl rfl ?_
                      refine r_putI (k := 45) (i := 0) (j := 30) (ty0 := tyX11) rfl rfl ho45 rfl hX11 (by decide) rfl fX11_180 dX11_sign_81 rfl tyX11_ok nmX11 rfl rfl rfl ?_
                      refine r_iload_n dX11_sign_84 rfl rfl ?_
                      refine r_bipush (v := (60 : Int32)) dX11_sign_85 rfl ?_
                      refine r_icmp_ne (tgt := 106) dX11_sign_87 (by decide) (fun c => ?_) (fun c => ?_)
                      · have H := H.1 c
                        exact H
                      · have H := H.2 c
                        refine r_aload_n dX11_sign_90 rfl rfl ?_
                        refine r_callV (z := 0) (k := 45) (i := 0) (As := []) (st := []) kX11_here i_X11_here e_X11_here lX11_163 dX11_sign_91 rfl rfl ho45 rfl rfl rfl rfl rfl (Nat.le_of_ble_eq_true rfl) ?_
                        exact H
set_option maxRecDepth 100000 in
theorem bX11_sign_94 {d : Nat} {Q : Option MV → MS → Prop} {x1 : Int32} {s0 : Int32} {σ : MS}  (H : ((¬ s0 = (61 : Int32) → R mj_OM d mX11_sign Q 106 [some (rV 45 0), some (iV x1)] [] σ) ∧ (s0 = (61 : Int32) → R mj_OM d mX11_sign Q 106 [some (rV 45 0), some (iV x1)] [] (uI σ 45 0 30 (256 : Int32))))) : R mj_OM d mX11_sign Q 94 [some (rV 45 0), some (iV x1)] [iV s0] σ := by
  refine r_bipush (v := (61 : Int32)) dX11_sign_94 rfl ?_
  refine r_icmp_ne (tgt := 106) dX11_sign_96 (by decide) (fun c => ?_) (fun c => ?_)
  · have H := H.1 c
    exact H
  · have H := H.2 c
    refine r_aload_n dX11_sign_99 rfl rfl ?_
    refine r_sipush (v := (256 : Int32)) dX11_sign_100 rfl ?_
    refine r_putI (k := 45) (i := 0) (j := 30) (ty0 := tyX11) rfl rfl ho45 rfl hX11 (by decide) rfl fX11_180 dX11_sign_103 rfl tyX11_ok nmX11 rfl rfl rfl ?_
    exact H
set_option maxRecDepth 100000 in
theorem bX11_sign_106 {d : Nat} {Q : Option MV → MS → Prop} {x1 : Int32} {σ : MS}  (H : ((¬ x1 = (60 : Int32) → R mj_OM (d + 1) mX11_sign Q 128 [some (rV 45 0), some (iV x1)] [] σ) ∧ (x1 = (60 : Int32) → (R mj_OM d mX11_here (fun r σ' => R mj_OM (d + 1) mX11_sign Q 116 [some (rV 45 0), some (iV x1)] (r.toList ++ []) σ') 0 [some (rV 45 0)] [] σ)))) : R mj_OM (d + 1) mX11_sign Q 106 [some (rV 45 0), some (iV x1)] [] σ := by
  refine r_iload_n dX11_sign_106 rfl rfl ?_
  refine r_bipush (v := (60 : Int32)) dX11_sign_107 rfl ?_
  refine r_icmp_ne (tgt := 128) dX11_sign_109 (by decide) (fun c => ?_) (fun c => ?_)
  · have H := H.1 c
    exact H
  · have H := H.2 c
    refine r_aload_n dX11_sign_112 rfl rfl ?_
    refine r_callV (z := 0) (k := 45) (i := 0) (As := []) (st := []) kX11_here i_X11_here e_X11_here lX11_163 dX11_sign_113 rfl rfl ho45 rfl rfl rfl rfl rfl (Nat.le_of_ble_eq_true rfl) ?_
    exact H
set_option maxRecDepth 100000 in
theorem bX11_sign_116 {d : Nat} {Q : Option MV → MS → Prop} {x1 : Int32} {s0 : Int32} {σ : MS}  (H : ((¬ s0 = (62 : Int32) → R mj_OM d mX11_sign Q 128 [some (rV 45 0), some (iV x1)] [] σ) ∧ (s0 = (62 : Int32) → R mj_OM d mX11_sign Q 128 [some (rV 45 0), some (iV x1)] [] (uI σ 45 0 30 (257 : Int32))))) : R mj_OM d mX11_sign Q 116 [some (rV 45 0), some (iV x1)] [iV s0] σ := by
  refine r_bipush (v := (62 : Int32)) dX11_sign_116 rfl ?_
  refine r_icmp_ne (tgt := 128) dX11_sign_118 (by decide) (fun c => ?_) (fun c => ?_)
  · have H := H.1 c
    exact H
  · have H := H.2 c
    refine r_aload_n dX11_sign_121 rfl rfl ?_
    refine r_sipush (v := (257 : Int32)) dX11_sign_122 rfl ?_
    refine r_putI (k := 45) (i := 0) (j := 30) (ty0 := tyX11) rfl rfl ho45 rfl hX11 (by decide) rfl fX11_180 dX11_sign_125 rfl tyX11_ok nmX11 rfl rfl rfl ?_
    exact H
set_option maxRecDepth 100000 in
theorem bX11_sign_128 {d : Nat} {Q : Option MV → MS → Prop} {x1 : Int32} {σ : MS}  (H : ((¬ x1 = (62 : Int32) → R mj_OM (d + 1) mX11_sign Q 150 [some (rV 45 0), some (iV x1)] [] σ) ∧ (x1 = (62 : Int32) → (R mj_OM d mX11_here (fun r σ' => R mj_OM (d + 1) mX11_sign Q 138 [some (rV 45 0), some (iV x1)] (r.toList ++ []) σ') 0 [some (rV 45 0)] [] σ)))) : R mj_OM (d + 1) mX11_sign Q 128 [some (rV 45 0), some (iV x1)] [] σ := by
  refine r_iload_n dX11_sign_128 rfl rfl ?_
  refine r_bipush (v := (62 : Int32)) dX11_sign_129 rfl ?_
  refine r_icmp_ne (tgt := 150) dX11_sign_131 (by decide) (fun c => ?_) (fun c => ?_)
  · have H := H.1 c
    exact H
  · have H := H.2 c
    refine r_aload_n dX11_sign_134 rfl rfl ?_
    refine r_callV (z := 0) (k := 45) (i := 0) (As := []) (st := []) kX11_here i_X11_here e_X11_here lX11_163 dX11_sign_135 rfl rfl ho45 rfl rfl rfl rfl rfl (Nat.le_of_ble_eq_true rfl) ?_
    exact H
set_option maxRecDepth 100000 in
theorem bX11_sign_138 {d : Nat} {Q : Option MV → MS → Prop} {x1 : Int32} {s0 : Int32} {σ : MS}  (H : ((¬ s0 = (61 : Int32) → R mj_OM d mX11_sign Q 150 [some (rV 45 0), some (iV x1)] [] σ) ∧ (s0 = (61 : Int32) → R mj_OM d mX11_sign Q 150 [some (rV 45 0), some (iV x1)] [] (uI σ 45 0 30 (258 : Int32))))) : R mj_OM d mX11_sign Q 138 [some (rV 45 0), some (iV x1)] [iV s0] σ := by
  refine r_bipush (v := (61 : Int32)) dX11_sign_138 rfl ?_
  refine r_icmp_ne (tgt := 150) dX11_sign_140 (by decide) (fun c => ?_) (fun c => ?_)
  · have H := H.1 c
    exact H
  · have H := H.2 c
    refine r_aload_n dX11_sign_143 rfl rfl ?_
    refine r_sipush (v := (258 : Int32)) dX11_sign_144 rfl ?_
    refine r_putI (k := 45) (i := 0) (j := 30) (ty0 := tyX11) rfl rfl ho45 rfl hX11 (by decide) rfl fX11_180 dX11_sign_147 rfl tyX11_ok nmX11 rfl rfl rfl ?_
    exact H
set_option maxRecDepth 100000 in
theorem bX11_sign_150 {d : Nat} {Q : Option MV → MS → Prop} {x1 : Int32} {σ : MS}  (H : (((σ.1 45 0 30) < (256 : Int32) → R mj_OM d mX11_sign Q 170 [some (rV 45 0), some (iV x1)] [] σ) ∧ (¬ (σ.1 45 0 30) < (256 : Int32) → R mj_OM d mX11_sign Q 170 [some (rV 45 0), some (iV x1)] [] (uI σ 45 0 27 ((σ.1 45 0 27) + (1 : Int32)))))) : R mj_OM d mX11_sign Q 150 [some (rV 45 0), some (iV x1)] [] σ := by
  refine r_aload_n dX11_sign_150 rfl rfl ?_
  refine r_get (k := 45) (i := 0) (j := 30) (v := iV (σ.1 45 0 30)) rfl rfl ho45 rfl hX11 (by decide) rfl fX11_180 dX11_sign_151 (fun _ => rfl) ?_
  refine r_sipush (v := (256 : Int32)) dX11_sign_154 rfl ?_
  refine r_icmp_lt (tgt := 170) dX11_sign_157 (by decide) (fun c => ?_) (fun c => ?_)
  · have H := H.1 c
    exact H
  · have H := H.2 c
    refine r_aload_n dX11_sign_160 rfl rfl ?_
    refine r_dup_r dX11_sign_161 ?_
    refine r_get (k := 45) (i := 0) (j := 27) (v := iV (σ.1 45 0 27)) rfl rfl ho45 rfl hX11 (by decide) rfl fX11_157 dX11_sign_162 (fun _ => rfl) ?_
    refine r_iconst (v := (1 : Int32)) dX11_sign_165 rfl ?_
    refine r_iadd dX11_sign_166 ?_
    refine r_putI (k := 45) (i := 0) (j := 27) (ty0 := tyX11) rfl rfl ho45 rfl hX11 (by decide) rfl fX11_157 dX11_sign_167 rfl tyX11_ok nmX11 rfl rfl rfl ?_
    exact H
set_option maxRecDepth 100000 in
theorem bX11_sign_170 {d : Nat} {Q : Option MV → MS → Prop} {x1 : Int32} {σ : MS}  (H : Q none σ) : R mj_OM d mX11_sign Q 170 [some (rV 45 0), some (iV x1)] [] σ := by
  exact r_vret dX11_sign_170 rfl H
set_option maxRecDepth 100000 in
theorem bX11_word_0 {d : Nat} {Q : Option MV → MS → Prop}  {σ : MS}  (H : R mj_OM d mX11_word Q 4 [some (rV 45 0), some (iV (0 : Int32)), some (iV (0 : Int32)), none] [] σ) : R mj_OM d mX11_word Q 0 [some (rV 45 0), none, none, none] [] σ := by
  refine r_iconst (v := (0 : Int32)) dX11_word_0 rfl ?_
  refine r_istore_n dX11_word_1 rfl (by decide) rfl ?_
  refine r_iconst (v := (0 : Int32)) dX11_word_2 rfl ?_
  refine r_istore_n dX11_word_3 rfl (by decide) rfl ?_
  exact H
set_option maxRecDepth 100000 in
theorem bX11_word_4 {d : Nat} {Q : Option MV → MS → Prop} {x1 : Int32} {x2 : Int32} {σ : MS}  (H : (R mj_OM d mJ0_length_8abf5 (fun r σ' => R mj_OM (d + 1) mX11_word Q 10 [some (rV 45 0), some (iV x1), some (iV x2), none] (r.toList ++ [iV x2]) σ') 0 [some (rV 200 2)] [] σ)) : R mj_OM (d + 1) mX11_word Q 4 [some (rV 45 0), some (iV x1), some (iV x2), none] [] σ := by
  refine r_iload_n dX11_word_4 rfl rfl ?_
  refine r_ldcS (i := 2) rfl dX11_word_5 ?_
  refine r_callT (z := 0) (i := 2) (As := []) (st := [iV x2]) (by decide) rfl kJ0_length_8abf5 i_J0_length_8abf5 e_J0_length_8abf5 lX11_196 dX11_word_7 rfl rfl rfl rfl (Nat.le_of_ble_eq_true rfl) ?_
  exact H
set_option maxRecDepth 100000 in
theorem bX11_word_10 {d : Nat} {Q : Option MV → MS → Prop} {x1 : Int32} {x2 : Int32} {s0 : Int32} {s1 : Int32} {σ : MS}  (H : ((s0 ≤ s1 → Q (some (iV (-1 : Int32))) σ) ∧ (¬ s0 ≤ s1 → R mj_OM d mX11_word Q 15 [some (rV 45 0), some (iV x1), some (iV x2), some (iV (0 : Int32))] [] σ))) : R mj_OM d mX11_word Q 10 [some (rV 45 0), some (iV x1), some (iV x2), none] [iV s0, iV s1] σ := by
  refine r_icmp_ge (tgt := 123) dX11_word_10 (by decide) (fun c => ?_) (fun c => ?_)
  · have H := H.1 c
    refine r_iconst (v := (-1 : Int32)) dX11_word_123 rfl ?_
    exact r_iret dX11_word_124 rfl H
  · have H := H.2 c
    refine r_iconst (v := (0 : Int32)) dX11_word_13 rfl ?_
    refine r_istore_n dX11_word_14 rfl (by decide) rfl ?_
    exact H
set_option maxRecDepth 100000 in
theorem bX11_word_15 {d : Nat} {Q : Option MV → MS → Prop} {x1 : Int32} {x2 : Int32} {x3 : Int32} {σ : MS}  (H : (R mj_OM d mJ0_charAt_5068e (fun r σ' => R mj_OM (d + 1) mX11_word Q 23 [some (rV 45 0), some (iV x1), some (iV x2), some (iV x3)] (r.toList ++ []) σ') 0 [some (rV 200 2), some (iV (x2 + x3))] [] σ)) : R mj_OM (d + 1) mX11_word Q 15 [some (rV 45 0), some (iV x1), some (iV x2), some (iV x3)] [] σ := by
  refine r_ldcS (i := 2) rfl dX11_word_15 ?_
  refine r_iload_n dX11_word_17 rfl rfl ?_
  refine r_iload_n dX11_word_18 rfl rfl ?_
  refine r_iadd dX11_word_19 ?_
  refine r_callT (z := 0) (i := 2) (As := [iV (x2 + x3)]) (st := []) (by decide) rfl kJ0_charAt_5068e i_J0_charAt_5068e e_J0_charAt_5068e lX11_201 dX11_word_20 rfl rfl rfl rfl (Nat.le_of_ble_eq_true rfl) ?_
  exact H
set_option maxRecDepth 100000 in
theorem bX11_word_23 {d : Nat} {Q : Option MV → MS → Prop} {x1 : Int32} {x2 : Int32} {x3 : Int32} {s0 : Int32} {σ : MS}  (H : ((s0 = (32 : Int32) → (R mj_OM d mJ0_charAt_5068e (fun r σ' => R mj_OM (d + 1) mX11_word Q 77 [some (rV 45 0), some (iV x1), some (iV x2), some (iV x3)] (r.toList ++ []) σ') 0 [some (rV 200 2), some (iV (x2 + x3))] [] σ)) ∧ (¬ s0 = (32 : Int32) → (((σ.1 45 0 27) ≤ ((σ.1 45 0 28) + x3) → (R mj_OM d mJ0_charAt_5068e (fun r σ' => R mj_OM (d + 1) mX11_word Q 77 [some (rV 45 0), some (iV x1), some (iV x2), some (iV x3)] (r.toList ++ []) σ') 0 [some (rV 200 2), some (iV (x2 + x3))] [] σ)) ∧ (¬ (σ.1 45 0 27) ≤ ((σ.1 45 0 28) + x3) → (vp_in ((σ.1 45 0 28) + x3) 700 ∧ (R mj_OM d mJ0_charAt_5068e (fun r σ' => R mj_OM (d + 1) mX11_word Q 60 [some (rV 45 0), some (iV x1), some (iV x2), some (iV x3)] (r.toList ++ [iV (σ.1 46 0 ((((σ.1 45 0 28) + x3)).toNatClampNeg))]) σ') 0 [some (rV 200 2), some (iV (x2 + x3))] [] σ))))))) : R mj_OM (d + 1) mX11_word Q 23 [some (rV 45 0), some (iV x1), some (iV x2), some (iV x3)] [iV s0] σ := by
  refine r_bipush (v := (32 : Int32)) dX11_word_23 rfl ?_
  refine r_icmp_eq (tgt := 69) dX11_word_25 (by decide) (fun c => ?_) (fun c => ?_)
  · have H := H.1 c
    refine r_ldcS (i := 2) rfl dX11_word_69 ?_
    refine r_iload_n dX11_word_71 rfl rfl ?_
    refine r_iload_n dX11_word_72 rfl rfl ?_
    refine r_iadd dX11_word_73 ?_
    refine r_callT (z := 0) (i := 2) (As := [iV (x2 + x3)]) (st := []) (by decide) rfl kJ0_charAt_5068e i_J0_charAt_5068e e_J0_charAt_5068e lX11_201 dX11_word_74 rfl rfl rfl rfl (Nat.le_of_ble_eq_true rfl) ?_
    exact H
  · have H := H.2 c
    refine r_aload_n dX11_word_28 rfl rfl ?_
    refine r_get (k := 45) (i := 0) (j := 28) (v := iV (σ.1 45 0 28)) rfl rfl ho45 rfl hX11 (by decide) rfl fX11_167 dX11_word_29 (fun _ => rfl) ?_
    refine r_iload_n dX11_word_32 rfl rfl ?_
    refine r_iadd dX11_word_33 ?_
    refine r_aload_n dX11_word_34 rfl rfl ?_
    refine r_get (k := 45) (i := 0) (j := 27) (v := iV (σ.1 45 0 27)) rfl rfl ho45 rfl hX11 (by decide) rfl fX11_157 dX11_word_35 (fun _ => rfl) ?_
    refine r_icmp_ge (tgt := 69) dX11_word_38 (by decide) (fun c => ?_) (fun c => ?_)
    · have H := H.1 c
      refine r_ldcS (i := 2) rfl dX11_word_69 ?_
      refine r_iload_n dX11_word_71 rfl rfl ?_
      refine r_iload_n dX11_word_72 rfl rfl ?_
      refine r_iadd dX11_word_73 ?_
      refine r_callT (z := 0) (i := 2) (As := [iV (x2 + x3)]) (st := []) (by decide) rfl kJ0_charAt_5068e i_J0_charAt_5068e e_J0_charAt_5068e lX11_201 dX11_word_74 rfl rfl rfl rfl (Nat.le_of_ble_eq_true rfl) ?_
      exact H
    · have H := H.2 c
      refine r_aload_n dX11_word_41 rfl rfl ?_
      refine r_get (k := 45) (i := 0) (j := 1) (v := rV 46 0) rfl rfl ho45 rfl hX11 (by decide) rfl fX11_7 dX11_word_42 (fun _ => rfl) ?_
      refine r_aload_n dX11_word_45 rfl rfl ?_
      refine r_get (k := 45) (i := 0) (j := 28) (v := iV (σ.1 45 0 28)) rfl rfl ho45 rfl hX11 (by decide) rfl fX11_167 dX11_word_46 (fun _ => rfl) ?_
      refine r_iload_n dX11_word_49 rfl rfl ?_
      refine r_iadd dX11_word_50 ?_
      obtain ⟨q1, H⟩ := H
      refine r_iald (k := 46) (i := 0) rfl ho46 q1 dX11_word_51 ?_
      refine r_ldcS (i := 2) rfl dX11_word_52 ?_
      refine r_iload_n dX11_word_54 rfl rfl ?_
      refine r_iload_n dX11_word_55 rfl rfl ?_
      refine r_iadd dX11_word_56 ?_
      refine r_callT (z := 0) (i := 2) (As := [iV (x2 + x3)]) (st := [iV (σ.1 46 0 ((((σ.1 45 0 28) + x3)).toNatClampNeg))]) (by decide) rfl kJ0_charAt_5068e i_J0_charAt_5068e e_J0_charAt_5068e lX11_201 dX11_word_57 rfl rfl rfl rfl (Nat.le_of_ble_eq_true rfl) ?_
      exact H
set_option maxRecDepth 100000 in
theorem bX11_word_60 {d : Nat} {Q : Option MV → MS → Prop} {x1 : Int32} {x2 : Int32} {x3 : Int32} {s0 : Int32} {s1 : Int32} {σ : MS}  (H : ((¬ s1 = s0 → (R mj_OM d mJ0_charAt_5068e (fun r σ' => R mj_OM (d + 1) mX11_word Q 77 [some (rV 45 0), some (iV x1), some (iV x2), some (iV x3)] (r.toList ++ []) σ') 0 [some (rV 200 2), some (iV (x2 + x3))] [] σ)) ∧ (s1 = s0 → R mj_OM (d + 1) mX11_word Q 15 [some (rV 45 0), some (iV x1), some (iV x2), some (iV (x3 + (1 : Int32)))] [] σ))) : R mj_OM (d + 1) mX11_word Q 60 [some (rV 45 0), some (iV x1), some (iV x2), some (iV x3)] [iV s0, iV s1] σ := by
  refine r_icmp_ne (tgt := 69) dX11_word_60 (by decide) (fun c => ?_) (fun c => ?_)
  · have H := H.1 c
    refine r_ldcS (i := 2) rfl dX11_word_69 ?_
    refine r_iload_n dX11_word_71 rfl rfl ?_
    refine r_iload_n dX11_word_72 rfl rfl ?_
    refine r_iadd dX11_word_73 ?_
    refine r_callT (z := 0) (i := 2) (As := [iV (x2 + x3)]) (st := []) (by decide) rfl kJ0_charAt_5068e i_J0_charAt_5068e e_J0_charAt_5068e lX11_201 dX11_word_74 rfl rfl rfl rfl (Nat.le_of_ble_eq_true rfl) ?_
    exact H
  · have H := H.2 c
    refine r_iinc (v := x3 + (1 : Int32)) dX11_word_63 rfl rfl (by decide) rfl ?_
    refine r_goto (tgt := 15) dX11_word_66 (by decide) ?_
    exact H
set_option maxRecDepth 100000 in
theorem bX11_word_77 {d : Nat} {Q : Option MV → MS → Prop} {x1 : Int32} {x2 : Int32} {x3 : Int32} {s0 : Int32} {σ : MS}  (H : ((¬ s0 = (32 : Int32) → R mj_OM d mX11_word Q 97 [some (rV 45 0), some (iV x1), some (iV x2), some (iV x3)] [] σ) ∧ (s0 = (32 : Int32) → ((¬ ((σ.1 45 0 28) + x3) = (σ.1 45 0 27) → R mj_OM d mX11_word Q 97 [some (rV 45 0), some (iV x1), some (iV x2), some (iV x3)] [] σ) ∧ (((σ.1 45 0 28) + x3) = (σ.1 45 0 27) → Q (some (iV x1)) σ))))) : R mj_OM d mX11_word Q 77 [some (rV 45 0), some (iV x1), some (iV x2), some (iV x3)] [iV s0] σ := by
  refine r_bipush (v := (32 : Int32)) dX11_word_77 rfl ?_
  refine r_icmp_ne (tgt := 97) dX11_word_79 (by decide) (fun c => ?_) (fun c => ?_)
  · have H := H.1 c
    exact H
  · have H := H.2 c
    refine r_aload_n dX11_word_82 rfl rfl ?_
    refine r_get (k := 45) (i := 0) (j := 28) (v := iV (σ.1 45 0 28)) rfl rfl ho45 rfl hX11 (by decide) rfl fX11_167 dX11_word_83 (fun _ => rfl) ?_
    refine r_iload_n dX11_word_86 rfl rfl ?_
    refine r_iadd dX11_word_87 ?_
    refine r_aload_n dX11_word_88 rfl rfl ?_
    refine r_get (k := 45) (i := 0) (j := 27) (v := iV (σ.1 45 0 27)) rfl rfl ho45 rfl hX11 (by decide) rfl fX11_157 dX11_word_89 (fun _ => rfl) ?_
    refine r_icmp_ne (tgt := 97) dX11_word_92 (by decide) (fun c => ?_) (fun c => ?_)
    · have H := H.1 c
      exact H
    · have H := H.2 c
      refine r_iload_n dX11_word_95 rfl rfl ?_
      exact r_iret dX11_word_96 rfl H
set_option maxRecDepth 100000 in
theorem bX11_word_97 {d : Nat} {Q : Option MV → MS → Prop} {x1 : Int32} {x2 : Int32} {x3 : Int32} {σ : MS}  (H : (R mj_OM d mJ0_charAt_5068e (fun r σ' => R mj_OM (d + 1) mX11_word Q 103 [some (rV 45 0), some (iV x1), some (iV x2), some (iV x3)] (r.toList ++ []) σ') 0 [some (rV 200 2), some (iV x2)] [] σ)) : R mj_OM (d + 1) mX11_word Q 97 [some (rV 45 0), some (iV x1), some (iV x2), some (iV x3)] [] σ := by
  refine r_ldcS (i := 2) rfl dX11_word_97 ?_
  refine r_iload_n dX11_word_99 rfl rfl ?_
  refine r_callT (z := 0) (i := 2) (As := [iV x2]) (st := []) (by decide) rfl kJ0_charAt_5068e i_J0_charAt_5068e e_J0_charAt_5068e lX11_201 dX11_word_100 rfl rfl rfl rfl (Nat.le_of_ble_eq_true rfl) ?_
  exact H
set_option maxRecDepth 100000 in
theorem bX11_word_103 {d : Nat} {Q : Option MV → MS → Prop} {x1 : Int32} {x2 : Int32} {x3 : Int32} {s0 : Int32} {σ : MS}  (H : ((s0 = (32 : Int32) → R mj_OM d mX11_word Q 4 [some (rV 45 0), some (iV (x1 + (1 : Int32))), some (iV (x2 + (1 : Int32))), none] [] σ) ∧ (¬ s0 = (32 : Int32) → R mj_OM d mX11_word Q 97 [some (rV 45 0), some (iV x1), some (iV (x2 + (1 : Int32))), some (iV x3)] [] σ))) : R mj_OM d mX11_word Q 103 [some (rV 45 0), some (iV x1), some (iV x2), some (iV x3)] [iV s0] σ := by
  refine r_bipush (v := (32 : Int32)) dX11_word_103 rfl ?_
  refine r_icmp_eq (tgt := 114) dX11_word_105 (by decide) (fun c => ?_) (fun c => ?_)
  · have H := H.1 c
    refine r_iinc (v := x2 + (1 : Int32)) dX11_word_114 rfl rfl (by decide) rfl ?_
    refine r_iinc (v := x1 + (1 : Int32)) dX11_word_117 rfl rfl (by decide) rfl ?_
    refine r_goto (tgt := 4) dX11_word_120 (by decide) ?_
    exact R.fw (ls' := [some (rV 45 0), some (iV (x1 + (1 : Int32))), some (iV (x2 + (1 : Int32))), none]) ⟨rfl, ⟨rfl, ⟨rfl, trivial⟩⟩⟩ H
  · have H := H.2 c
    refine r_iinc (v := x2 + (1 : Int32)) dX11_word_108 rfl rfl (by decide) rfl ?_
    refine r_goto (tgt := 97) dX11_word_111 (by decide) ?_
    exact H
set_option maxRecDepth 100000 in
theorem bX11_name_0 {d : Nat} {Q : Option MV → MS → Prop}  {σ : MS}  (H : R mj_OM d mX11_name Q 7 [some (rV 45 0), some (iV (0 : Int32))] [] (uI σ 45 0 30 (0 : Int32))) : R mj_OM d mX11_name Q 0 [some (rV 45 0), none] [] σ := by
  refine r_aload_n dX11_name_0 rfl rfl ?_
  refine r_iconst (v := (0 : Int32)) dX11_name_1 rfl ?_
  refine r_putI (k := 45) (i := 0) (j := 30) (ty0 := tyX11) rfl rfl ho45 rfl hX11 (by decide) rfl fX11_180 dX11_name_2 rfl tyX11_ok nmX11 rfl rfl rfl ?_
  refine r_iconst (v := (0 : Int32)) dX11_name_5 rfl ?_
  refine r_istore_n dX11_name_6 rfl (by decide) rfl ?_
  exact H
set_option maxRecDepth 100000 in
theorem bX11_name_7 {d : Nat} {Q : Option MV → MS → Prop} {x1 : Int32} {σ : MS}  (H : (((6 : Int32) ≤ x1 → Q none σ) ∧ (¬ (6 : Int32) ≤ x1 → (((σ.1 45 0 27) ≤ ((σ.1 45 0 28) + x1) → R mj_OM d mX11_name Q 7 [some (rV 45 0), some (iV (x1 + (1 : Int32)))] [] (uI σ 45 0 30 (((σ.1 45 0 30) <<< ((5 : Int32) &&& 31)) ||| (0 : Int32)))) ∧ (¬ (σ.1 45 0 27) ≤ ((σ.1 45 0 28) + x1) → (vp_in ((σ.1 45 0 28) + x1) 700 ∧ R mj_OM d mX11_name Q 7 [some (rV 45 0), some (iV (x1 + (1 : Int32)))] [] (uI σ 45 0 30 (((σ.1 45 0 30) <<< ((5 : Int32) &&& 31)) ||| (((σ.1 46 0 ((((σ.1 45 0 28) + x1)).toNatClampNeg)) - (97 : Int32)) + (1 : Int32)))))))))) : R mj_OM d mX11_name Q 7 [some (rV 45 0), some (iV x1)] [] σ := by
  refine r_iload_n dX11_name_7 rfl rfl ?_
  refine r_bipush (v := (6 : Int32)) dX11_name_8 rfl ?_
  refine r_icmp_ge (tgt := 63) dX11_name_10 (by decide) (fun c => ?_) (fun c => ?_)
  · have H := H.1 c
    exact r_vret dX11_name_63 rfl H
  · have H := H.2 c
    refine r_aload_n dX11_name_13 rfl rfl ?_
    refine r_aload_n dX11_name_14 rfl rfl ?_
    refine r_get (k := 45) (i := 0) (j := 30) (v := iV (σ.1 45 0 30)) rfl rfl ho45 rfl hX11 (by decide) rfl fX11_180 dX11_name_15 (fun _ => rfl) ?_
    refine r_iconst (v := (5 : Int32)) dX11_name_18 rfl ?_
    refine r_ishl dX11_name_19 ?_
    refine r_aload_n dX11_name_20 rfl rfl ?_
    refine r_get (k := 45) (i := 0) (j := 28) (v := iV (σ.1 45 0 28)) rfl rfl ho45 rfl hX11 (by decide) rfl fX11_167 dX11_name_21 (fun _ => rfl) ?_
    refine r_iload_n dX11_name_24 rfl rfl ?_
    refine r_iadd dX11_name_25 ?_
    refine r_aload_n dX11_name_26 rfl rfl ?_
    refine r_get (k := 45) (i := 0) (j := 27) (v := iV (σ.1 45 0 27)) rfl rfl ho45 rfl hX11 (by decide) rfl fX11_157 dX11_name_27 (fun _ => rfl) ?_
    refine r_icmp_ge (tgt := 52) dX11_name_30 (by decide) (fun c => ?_) (fun c => ?_)
    · have H := H.1 c
      refine r_iconst (v := (0 : Int32)) dX11_name_52 rfl ?_
      refine r_ior dX11_name_53 ?_
      refine r_putI (k := 45) (i := 0) (j := 30) (ty0 := tyX11) rfl rfl ho45 rfl hX11 (by decide) rfl fX11_180 dX11_name_54 rfl tyX11_ok nmX11 rfl rfl rfl ?_
      refine r_iinc (v := x1 + (1 : Int32)) dX11_name_57 rfl rfl (by decide) rfl ?_
      refine r_goto (tgt := 7) dX11_name_60 (by decide) ?_
      exact H
    · have H := H.2 c
      refine r_aload_n dX11_name_33 rfl rfl ?_
      refine r_get (k := 45) (i := 0) (j := 1) (v := rV 46 0) rfl rfl ho45 rfl hX11 (by decide) rfl fX11_7 dX11_name_34 (fun _ => rfl) ?_
      refine r_aload_n dX11_name_37 rfl rfl ?_
      refine r_get (k := 45) (i := 0) (j := 28) (v := iV (σ.1 45 0 28)) rfl rfl ho45 rfl hX11 (by decide) rfl fX11_167 dX11_name_38 (fun _ => rfl) ?_
      refine r_iload_n dX11_name_41 rfl rfl ?_
      refine r_iadd dX11_name_42 ?_
      obtain ⟨q1, H⟩ := H
      refine r_iald (k := 46) (i := 0) rfl ho46 q1 dX11_name_43 ?_
      refine r_bipush (v := (97 : Int32)) dX11_name_44 rfl ?_
      refine r_isub dX11_name_46 ?_
      refine r_iconst (v := (1 : Int32)) dX11_name_47 rfl ?_
      refine r_iadd dX11_name_48 ?_
      refine r_goto (tgt := 53) dX11_name_49 (by decide) ?_
      refine r_ior dX11_name_53 ?_
      refine r_putI (k := 45) (i := 0) (j := 30) (ty0 := tyX11) rfl rfl ho45 rfl hX11 (by decide) rfl fX11_180 dX11_name_54 rfl tyX11_ok nmX11 rfl rfl rfl ?_
      refine r_iinc (v := x1 + (1 : Int32)) dX11_name_57 rfl rfl (by decide) rfl ?_
      refine r_goto (tgt := 7) dX11_name_60 (by decide) ?_
      exact H
set_option maxRecDepth 100000 in
theorem bX11_wrong_0 {d : Nat} {Q : Option MV → MS → Prop} {x1 : Int32} {σ : MS}  (H : (((σ.1 45 0 31) = 0 → Q none (uI (uI σ 45 0 31 x1) 45 0 32 (σ.1 45 0 28))) ∧ (¬ (σ.1 45 0 31) = 0 → Q none σ))) : R mj_OM d mX11_wrong Q 0 [some (rV 45 0), some (iV x1)] [] σ := by
  refine r_aload_n dX11_wrong_0 rfl rfl ?_
  refine r_get (k := 45) (i := 0) (j := 31) (v := iV (σ.1 45 0 31)) rfl rfl ho45 rfl hX11 (by decide) rfl fX11_205 dX11_wrong_1 (fun _ => rfl) ?_
  refine r_if_eq (tgt := 8) dX11_wrong_4 (by decide) (fun c => ?_) (fun c => ?_)
  · have H := H.1 c
    refine r_aload_n dX11_wrong_8 rfl rfl ?_
    refine r_iload_n dX11_wrong_9 rfl rfl ?_
    refine r_putI (k := 45) (i := 0) (j := 31) (ty0 := tyX11) rfl rfl ho45 rfl hX11 (by decide) rfl fX11_205 dX11_wrong_10 rfl tyX11_ok nmX11 rfl rfl rfl ?_
    refine r_aload_n dX11_wrong_13 rfl rfl ?_
    refine r_aload_n dX11_wrong_14 rfl rfl ?_
    refine r_get (k := 45) (i := 0) (j := 28) (v := iV (σ.1 45 0 28)) rfl rfl ho45 rfl hX11 (by decide) rfl fX11_167 dX11_wrong_15 (fun _ => rfl) ?_
    refine r_putI (k := 45) (i := 0) (j := 32) (ty0 := tyX11) rfl rfl ho45 rfl hX11 (by decide) rfl fX11_208 dX11_wrong_18 rfl tyX11_ok nmX11 rfl rfl rfl ?_
    exact r_vret dX11_wrong_21 rfl H
  · have H := H.2 c
    exact r_vret dX11_wrong_7 rfl H
set_option maxRecDepth 100000 in
theorem bX11_isWord_0 {d : Nat} {Q : Option MV → MS → Prop} {x1 : Int32} {σ : MS}  (H : ((¬ (σ.1 45 0 31) = 0 → Q (some (iV (0 : Int32))) σ) ∧ ((σ.1 45 0 31) = 0 → ((¬ (σ.1 45 0 29) = 0 → Q (some (iV (0 : Int32))) σ) ∧ ((σ.1 45 0 29) = 0 → ((¬ (σ.1 45 0 30) = x1 → Q (some (iV (0 : Int32))) σ) ∧ ((σ.1 45 0 30) = x1 → Q (some (iV (1 : Int32))) σ))))))) : R mj_OM d mX11_isWord Q 0 [some (rV 45 0), some (iV x1)] [] σ := by
  refine r_aload_n dX11_isWord_0 rfl rfl ?_
  refine r_get (k := 45) (i := 0) (j := 31) (v := iV (σ.1 45 0 31)) rfl rfl ho45 rfl hX11 (by decide) rfl fX11_205 dX11_isWord_1 (fun _ => rfl) ?_
  refine r_if_ne (tgt := 26) dX11_isWord_4 (by decide) (fun c => ?_) (fun c => ?_)
  · have H := H.1 c
    refine r_iconst (v := (0 : Int32)) dX11_isWord_26 rfl ?_
    exact r_zret dX11_isWord_27 rfl (by decide) H
  · have H := H.2 c
    refine r_aload_n dX11_isWord_7 rfl rfl ?_
    refine r_get (k := 45) (i := 0) (j := 29) (v := iV (σ.1 45 0 29)) rfl rfl ho45 rfl hX11 (by decide) rfl fX11_170 dX11_isWord_8 (fun _ => rfl) ?_
    refine r_if_ne (tgt := 26) dX11_isWord_11 (by decide) (fun c => ?_) (fun c => ?_)
    · have H := H.1 c
      refine r_iconst (v := (0 : Int32)) dX11_isWord_26 rfl ?_
      exact r_zret dX11_isWord_27 rfl (by decide) H
    · have H := H.2 c
      refine r_aload_n dX11_isWord_14 rfl rfl ?_
      refine r_get (k := 45) (i := 0) (j := 30) (v := iV (σ.1 45 0 30)) rfl rfl ho45 rfl hX11 (by decide) rfl fX11_180 dX11_isWord_15 (fun _ => rfl) ?_
      refine r_iload_n dX11_isWord_18 rfl rfl ?_
      refine r_icmp_ne (tgt := 26) dX11_isWord_19 (by decide) (fun c => ?_) (fun c => ?_)
      · have H := H.1 c
        refine r_iconst (v := (0 : Int32)) dX11_isWord_26 rfl ?_
        exact r_zret dX11_isWord_27 rfl (by decide) H
      · have H := H.2 c
        refine r_iconst (v := (1 : Int32)) dX11_isWord_22 rfl ?_
        refine r_goto (tgt := 27) dX11_isWord_23 (by decide) ?_
        exact r_zret dX11_isWord_27 rfl (by decide) H
set_option maxRecDepth 100000 in
theorem bX11_isSign_0 {d : Nat} {Q : Option MV → MS → Prop} {x1 : Int32} {σ : MS}  (H : ((¬ (σ.1 45 0 31) = 0 → Q (some (iV (0 : Int32))) σ) ∧ ((σ.1 45 0 31) = 0 → ((¬ (σ.1 45 0 29) = (3 : Int32) → Q (some (iV (0 : Int32))) σ) ∧ ((σ.1 45 0 29) = (3 : Int32) → ((¬ (σ.1 45 0 30) = x1 → Q (some (iV (0 : Int32))) σ) ∧ ((σ.1 45 0 30) = x1 → Q (some (iV (1 : Int32))) σ))))))) : R mj_OM d mX11_isSign Q 0 [some (rV 45 0), some (iV x1)] [] σ := by
  refine r_aload_n dX11_isSign_0 rfl rfl ?_
  refine r_get (k := 45) (i := 0) (j := 31) (v := iV (σ.1 45 0 31)) rfl rfl ho45 rfl hX11 (by decide) rfl fX11_205 dX11_isSign_1 (fun _ => rfl) ?_
  refine r_if_ne (tgt := 27) dX11_isSign_4 (by decide) (fun c => ?_) (fun c => ?_)
  · have H := H.1 c
    refine r_iconst (v := (0 : Int32)) dX11_isSign_27 rfl ?_
    exact r_zret dX11_isSign_28 rfl (by decide) H
  · have H := H.2 c
    refine r_aload_n dX11_isSign_7 rfl rfl ?_
    refine r_get (k := 45) (i := 0) (j := 29) (v := iV (σ.1 45 0 29)) rfl rfl ho45 rfl hX11 (by decide) rfl fX11_170 dX11_isSign_8 (fun _ => rfl) ?_
    refine r_iconst (v := (3 : Int32)) dX11_isSign_11 rfl ?_
    refine r_icmp_ne (tgt := 27) dX11_isSign_12 (by decide) (fun c => ?_) (fun c => ?_)
    · have H := H.1 c
      refine r_iconst (v := (0 : Int32)) dX11_isSign_27 rfl ?_
      exact r_zret dX11_isSign_28 rfl (by decide) H
    · have H := H.2 c
      refine r_aload_n dX11_isSign_15 rfl rfl ?_
      refine r_get (k := 45) (i := 0) (j := 30) (v := iV (σ.1 45 0 30)) rfl rfl ho45 rfl hX11 (by decide) rfl fX11_180 dX11_isSign_16 (fun _ => rfl) ?_
      refine r_iload_n dX11_isSign_19 rfl rfl ?_
      refine r_icmp_ne (tgt := 27) dX11_isSign_20 (by decide) (fun c => ?_) (fun c => ?_)
      · have H := H.1 c
        refine r_iconst (v := (0 : Int32)) dX11_isSign_27 rfl ?_
        exact r_zret dX11_isSign_28 rfl (by decide) H
      · have H := H.2 c
        refine r_iconst (v := (1 : Int32)) dX11_isSign_23 rfl ?_
        refine r_goto (tgt := 28) dX11_isSign_24 (by decide) ?_
        exact r_zret dX11_isSign_28 rfl (by decide) H
set_option maxRecDepth 100000 in
theorem bX11_goOn_0 {d : Nat} {Q : Option MV → MS → Prop}  {σ : MS}  (H : ((¬ (σ.1 45 0 31) = 0 → Q none σ) ∧ ((σ.1 45 0 31) = 0 → (R mj_OM d mX11_token (fun r σ' => R mj_OM (d + 1) mX11_goOn Q 11 [some (rV 45 0)] (r.toList ++ []) σ') 0 [some (rV 45 0), none] [] σ)))) : R mj_OM (d + 1) mX11_goOn Q 0 [some (rV 45 0)] [] σ := by
  refine r_aload_n dX11_goOn_0 rfl rfl ?_
  refine r_get (k := 45) (i := 0) (j := 31) (v := iV (σ.1 45 0 31)) rfl rfl ho45 rfl hX11 (by decide) rfl fX11_205 dX11_goOn_1 (fun _ => rfl) ?_
  refine r_if_ne (tgt := 11) dX11_goOn_4 (by decide) (fun c => ?_) (fun c => ?_)
  · have H := H.1 c
    exact r_vret dX11_goOn_11 rfl H
  · have H := H.2 c
    refine r_aload_n dX11_goOn_7 rfl rfl ?_
    refine r_callV (z := 1) (k := 45) (i := 0) (As := []) (st := []) kX11_token i_X11_token e_X11_token lX11_211 dX11_goOn_8 rfl rfl ho45 rfl rfl rfl rfl rfl (Nat.le_of_ble_eq_true rfl) ?_
    exact H
set_option maxRecDepth 100000 in
theorem bX11_goOn_11 {d : Nat} {Q : Option MV → MS → Prop}  {σ : MS}  (H : Q none σ) : R mj_OM d mX11_goOn Q 11 [some (rV 45 0)] [] σ := by
  exact r_vret dX11_goOn_11 rfl H
set_option maxRecDepth 100000 in
theorem bX11_numeral_0 {d : Nat} {Q : Option MV → MS → Prop} {x1 : Int32} {x2 : Int32} {σ : MS}  (H : (((σ.1 45 0 31) = 0 → (((σ.1 45 0 29) = (2 : Int32) → (((σ.1 45 0 30) < x1 → (R mj_OM d mX11_wrong (fun r σ' => R mj_OM (d + 1) mX11_numeral Q 46 [some (rV 45 0), some (iV x1), some (iV x2), none] (r.toList ++ []) σ') 0 [some (rV 45 0), some (iV (2 : Int32))] [] σ)) ∧ (¬ (σ.1 45 0 30) < x1 → (((σ.1 45 0 30) ≤ x2 → (((σ.1 45 0 31) = 0 → (R mj_OM d mX11_token (fun r σ' => R mj_OM (d + 1) mX11_numeral Q 64 [some (rV 45 0), some (iV x1), some (iV x2), some (iV (σ.1 45 0 30))] (r.toList ++ []) σ') 0 [some (rV 45 0), none] [] σ)) ∧ (¬ (σ.1 45 0 31) = 0 → Q (some (iV x1)) σ))) ∧ (¬ (σ.1 45 0 30) ≤ x2 → (R mj_OM d mX11_wrong (fun r σ' => R mj_OM (d + 1) mX11_numeral Q 46 [some (rV 45 0), some (iV x1), some (iV x2), none] (r.toList ++ []) σ') 0 [some (rV 45 0), some (iV (2 : Int32))] [] σ)))))) ∧ (¬ (σ.1 45 0 29) = (2 : Int32) → (R mj_OM d mX11_wrong (fun r σ' => R mj_OM (d + 1) mX11_numeral Q 22 [some (rV 45 0), some (iV x1), some (iV x2), none] (r.toList ++ []) σ') 0 [some (rV 45 0), some (iV (1 : Int32))] [] σ)))) ∧ (¬ (σ.1 45 0 31) = 0 → Q (some (iV x1)) σ))) : R mj_OM (d + 1) mX11_numeral Q 0 [some (rV 45 0), some (iV x1), some (iV x2), none] [] σ := by
  refine r_aload_n dX11_numeral_0 rfl rfl ?_
  refine r_get (k := 45) (i := 0) (j := 31) (v := iV (σ.1 45 0 31)) rfl rfl ho45 rfl hX11 (by decide) rfl fX11_205 dX11_numeral_1 (fun _ => rfl) ?_
  refine r_if_eq (tgt := 9) dX11_numeral_4 (by decide) (fun c => ?_) (fun c => ?_)
  · have H := H.1 c
    refine r_aload_n dX11_numeral_9 rfl rfl ?_
    refine r_get (k := 45) (i := 0) (j := 29) (v := iV (σ.1 45 0 29)) rfl rfl ho45 rfl hX11 (by decide) rfl fX11_170 dX11_numeral_10 (fun _ => rfl) ?_
    refine r_iconst (v := (2 : Int32)) dX11_numeral_13 rfl ?_
    refine r_icmp_eq (tgt := 25) dX11_numeral_14 (by decide) (fun c => ?_) (fun c => ?_)
    · have H := H.1 c
      refine r_aload_n dX11_numeral_25 rfl rfl ?_
      refine r_get (k := 45) (i := 0) (j := 30) (v := iV (σ.1 45 0 30)) rfl rfl ho45 rfl hX11 (by decide) rfl fX11_180 dX11_numeral_26 (fun _ => rfl) ?_
      refine r_iload_n dX11_numeral_29 rfl rfl ?_
      refine r_icmp_lt (tgt := 41) dX11_numeral_30 (by decide) (fun c => ?_) (fun c => ?_)
      · have H := H.1 c
        refine r_aload_n dX11_numeral_41 rfl rfl ?_
        refine r_iconst (v := (2 : Int32)) dX11_numeral_42 rfl ?_
        refine r_callV (z := 0) (k := 45) (i := 0) (As := [iV (2 : Int32)]) (st := []) kX11_wrong i_X11_wrong e_X11_wrong lX11_214 dX11_numeral_43 rfl rfl ho45 rfl rfl rfl rfl rfl (Nat.le_of_ble_eq_true rfl) ?_
        exact H
      · have H := H.2 c
        refine r_aload_n dX11_numeral_33 rfl rfl ?_
        refine r_get (k := 45) (i := 0) (j := 30) (v := iV (σ.1 45 0 30)) rfl rfl ho45 rfl hX11 (by decide) rfl fX11_180 dX11_numeral_34 (fun _ => rfl) ?_
        refine r_iload_n dX11_numeral_37 rfl rfl ?_
        refine r_icmp_le (tgt := 46) dX11_numeral_38 (by decide) (fun c => ?_) (fun c => ?_)
        · have H := H.1 c
          refine r_aload_n dX11_numeral_46 rfl rfl ?_
          refine r_get (k := 45) (i := 0) (j := 31) (v := iV (σ.1 45 0 31)) rfl rfl ho45 rfl hX11 (by decide) rfl fX11_205 dX11_numeral_47 (fun _ => rfl) ?_
          refine r_if_eq (tgt := 55) dX11_numeral_50 (by decide) (fun c => ?_) (fun c => ?_)
          · have H := H.1 c
            refine r_aload_n dX11_numeral_55 rfl rfl ?_
            refine r_get (k := 45) (i := 0) (j := 30) (v := iV (σ.1 45 0 30)) rfl rfl ho45 rfl hX11 (by decide) rfl fX11_180 dX11_numeral_56 (fun _ => rfl) ?_
            refine r_istore_n dX11_numeral_59 rfl (by decide) rfl ?_
            refine r_aload_n dX11_numeral_60 rfl rfl ?_
            refine r_callV (z := 1) (k := 45) (i := 0) (As := []) (st := []) kX11_token i_X11_token e_X11_token lX11_211 dX11_numeral_61 rfl rfl ho45 rfl rfl rfl rfl rfl (Nat.le_of_ble_eq_true rfl) ?_
            exact H
          · have H := H.2 c
            refine r_iload_n dX11_numeral_53 rfl rfl ?_
            exact r_iret dX11_numeral_54 rfl H
        · have H := H.2 c
          refine r_aload_n dX11_numeral_41 rfl rfl ?_
          refine r_iconst (v := (2 : Int32)) dX11_numeral_42 rfl ?_
          refine r_callV (z := 0) (k := 45) (i := 0) (As := [iV (2 : Int32)]) (st := []) kX11_wrong i_X11_wrong e_X11_wrong lX11_214 dX11_numeral_43 rfl rfl ho45 rfl rfl rfl rfl rfl (Nat.le_of_ble_eq_true rfl) ?_
          exact H
    · have H := H.2 c
      refine r_aload_n dX11_numeral_17 rfl rfl ?_
      refine r_iconst (v := (1 : Int32)) dX11_numeral_18 rfl ?_
      refine r_callV (z := 0) (k := 45) (i := 0) (As := [iV (1 : Int32)]) (st := []) kX11_wrong i_X11_wrong e_X11_wrong lX11_214 dX11_numeral_19 rfl rfl ho45 rfl rfl rfl rfl rfl (Nat.le_of_ble_eq_true rfl) ?_
      exact H
  · have H := H.2 c
    refine r_iload_n dX11_numeral_7 rfl rfl ?_
    exact r_iret dX11_numeral_8 rfl H
set_option maxRecDepth 100000 in
theorem bX11_numeral_22 {d : Nat} {Q : Option MV → MS → Prop} {x1 : Int32} {x2 : Int32} {σ : MS}  (H : (((σ.1 45 0 31) = 0 → (R mj_OM d mX11_token (fun r σ' => R mj_OM (d + 1) mX11_numeral Q 64 [some (rV 45 0), some (iV x1), some (iV x2), some (iV (σ.1 45 0 30))] (r.toList ++ []) σ') 0 [some (rV 45 0), none] [] σ)) ∧ (¬ (σ.1 45 0 31) = 0 → Q (some (iV x1)) σ))) : R mj_OM (d + 1) mX11_numeral Q 22 [some (rV 45 0), some (iV x1), some (iV x2), none] [] σ := by
  refine r_goto (tgt := 46) dX11_numeral_22 (by decide) ?_
  refine r_aload_n dX11_numeral_46 rfl rfl ?_
  refine r_get (k := 45) (i := 0) (j := 31) (v := iV (σ.1 45 0 31)) rfl rfl ho45 rfl hX11 (by decide) rfl fX11_205 dX11_numeral_47 (fun _ => rfl) ?_
  refine r_if_eq (tgt := 55) dX11_numeral_50 (by decide) (fun c => ?_) (fun c => ?_)
  · have H := H.1 c
    refine r_aload_n dX11_numeral_55 rfl rfl ?_
    refine r_get (k := 45) (i := 0) (j := 30) (v := iV (σ.1 45 0 30)) rfl rfl ho45 rfl hX11 (by decide) rfl fX11_180 dX11_numeral_56 (fun _ => rfl) ?_
    refine r_istore_n dX11_numeral_59 rfl (by decide) rfl ?_
    refine r_aload_n dX11_numeral_60 rfl rfl ?_
    refine r_callV (z := 1) (k := 45) (i := 0) (As := []) (st := []) kX11_token i_X11_token e_X11_token lX11_211 dX11_numeral_61 rfl rfl ho45 rfl rfl rfl rfl rfl (Nat.le_of_ble_eq_true rfl) ?_
    exact H
  · have H := H.2 c
    refine r_iload_n dX11_numeral_53 rfl rfl ?_
    exact r_iret dX11_numeral_54 rfl H
set_option maxRecDepth 100000 in
theorem bX11_numeral_46 {d : Nat} {Q : Option MV → MS → Prop} {x1 : Int32} {x2 : Int32} {σ : MS}  (H : (((σ.1 45 0 31) = 0 → (R mj_OM d mX11_token (fun r σ' => R mj_OM (d + 1) mX11_numeral Q 64 [some (rV 45 0), some (iV x1), some (iV x2), some (iV (σ.1 45 0 30))] (r.toList ++ []) σ') 0 [some (rV 45 0), none] [] σ)) ∧ (¬ (σ.1 45 0 31) = 0 → Q (some (iV x1)) σ))) : R mj_OM (d + 1) mX11_numeral Q 46 [some (rV 45 0), some (iV x1), some (iV x2), none] [] σ := by
  refine r_aload_n dX11_numeral_46 rfl rfl ?_
  refine r_get (k := 45) (i := 0) (j := 31) (v := iV (σ.1 45 0 31)) rfl rfl ho45 rfl hX11 (by decide) rfl fX11_205 dX11_numeral_47 (fun _ => rfl) ?_
  refine r_if_eq (tgt := 55) dX11_numeral_50 (by decide) (fun c => ?_) (fun c => ?_)
  · have H := H.1 c
    refine r_aload_n dX11_numeral_55 rfl rfl ?_
    refine r_get (k := 45) (i := 0) (j := 30) (v := iV (σ.1 45 0 30)) rfl rfl ho45 rfl hX11 (by decide) rfl fX11_180 dX11_numeral_56 (fun _ => rfl) ?_
    refine r_istore_n dX11_numeral_59 rfl (by decide) rfl ?_
    refine r_aload_n dX11_numeral_60 rfl rfl ?_
    refine r_callV (z := 1) (k := 45) (i := 0) (As := []) (st := []) kX11_token i_X11_token e_X11_token lX11_211 dX11_numeral_61 rfl rfl ho45 rfl rfl rfl rfl rfl (Nat.le_of_ble_eq_true rfl) ?_
    exact H
  · have H := H.2 c
    refine r_iload_n dX11_numeral_53 rfl rfl ?_
    exact r_iret dX11_numeral_54 rfl H
set_option maxRecDepth 100000 in
theorem bX11_numeral_64 {d : Nat} {Q : Option MV → MS → Prop} {x1 : Int32} {x2 : Int32} {x3 : Int32} {σ : MS}  (H : Q (some (iV x3)) σ) : R mj_OM d mX11_numeral Q 64 [some (rV 45 0), some (iV x1), some (iV x2), some (iV x3)] [] σ := by
  refine r_iload_n dX11_numeral_64 rfl rfl ?_
  exact r_iret dX11_numeral_65 rfl H
set_option maxRecDepth 100000 in
theorem bX11_found_0 {d : Nat} {Q : Option MV → MS → Prop} {k0 : Nat} {n0 : Nat} {u0 : Nat} {x1 : Int32} {x2 : Int32} {x3 : Int32} {σ : MS} (hk0 : mj_sch k0 = .inr (0, n0)) (gk0 : (k0, u0) ∈ mj_OM) (H : R mj_OM d mX11_found Q 3 [some (rV k0 u0), some (iV x1), some (iV x2), some (iV x3), some (iV (0 : Int32))] [] σ) : R mj_OM d mX11_found Q 0 [some (rV k0 u0), some (iV x1), some (iV x2), some (iV x3), none] [] σ := by
  refine r_iconst (v := (0 : Int32)) dX11_found_0 rfl ?_
  refine r_istore dX11_found_1 (by decide) rfl ?_
  exact H
set_option maxRecDepth 100000 in
theorem bX11_found_3 {d : Nat} {Q : Option MV → MS → Prop} {k0 : Nat} {n0 : Nat} {u0 : Nat} {x1 : Int32} {x2 : Int32} {x3 : Int32} {x4 : Int32} {σ : MS} (hk0 : mj_sch k0 = .inr (0, n0)) (gk0 : (k0, u0) ∈ mj_OM) (H : ((x2 ≤ x4 → Q (some (iV (-1 : Int32))) σ) ∧ (¬ x2 ≤ x4 → (vp_in (x1 + x4) n0 ∧ ((¬ (σ.1 k0 u0 (((x1 + x4)).toNatClampNeg)) = x3 → R mj_OM d mX11_found Q 3 [some (rV k0 u0), some (iV x1), some (iV x2), some (iV x3), some (iV (x4 + (1 : Int32)))] [] σ) ∧ ((σ.1 k0 u0 (((x1 + x4)).toNatClampNeg)) = x3 → Q (some (iV x4)) σ)))))) : R mj_OM d mX11_found Q 3 [some (rV k0 u0), some (iV x1), some (iV x2), some (iV x3), some (iV x4)] [] σ := by
  refine r_iload dX11_found_3 rfl ?_
  refine r_iload_n dX11_found_5 rfl rfl ?_
  refine r_icmp_ge (tgt := 28) dX11_found_6 (by decide) (fun c => ?_) (fun c => ?_)
  · have H := H.1 c
    refine r_iconst (v := (-1 : Int32)) dX11_found_28 rfl ?_
    exact r_iret dX11_found_29 rfl H
  · have H := H.2 c
    refine r_aload_n dX11_found_9 rfl rfl ?_
    refine r_iload_n dX11_found_10 rfl rfl ?_
    refine r_iload dX11_found_11 rfl ?_
    refine r_iadd dX11_found_13 ?_
    obtain ⟨q1, H⟩ := H
    refine r_iald (k := k0) (i := u0) hk0 gk0 q1 dX11_found_14 ?_
    refine r_iload_n dX11_found_15 rfl rfl ?_
    refine r_icmp_ne (tgt := 22) dX11_found_16 (by decide) (fun c => ?_) (fun c => ?_)
    · have H := H.1 c
      refine r_iinc (v := x4 + (1 : Int32)) dX11_found_22 rfl rfl (by decide) rfl ?_
      refine r_goto (tgt := 3) dX11_found_25 (by decide) ?_
      exact H
    · have H := H.2 c
      refine r_iload dX11_found_19 rfl ?_
      exact r_iret dX11_found_21 rfl H
set_option maxRecDepth 100000 in
theorem bX11_fresh_0 {d : Nat} {Q : Option MV → MS → Prop} {k1 : Nat} {n1 : Nat} {u1 : Nat} {x2 : Int32} {x3 : Int32} {σ : MS} (hk1 : mj_sch k1 = .inr (0, n1)) (gk1 : (k1, u1) ∈ mj_OM) (H : (((σ.1 45 0 31) = 0 → (((σ.1 45 0 29) = (1 : Int32) → (R mj_OM d mX11_found (fun r σ' => R mj_OM (d + 1) mX11_fresh Q 35 [some (rV 45 0), some (rV k1 u1), some (iV x2), some (iV x3), none] (r.toList ++ []) σ') 0 [some (rV k1 u1), some (iV x2), some (iV x3), some (iV (σ.1 45 0 30)), none] [] σ)) ∧ (¬ (σ.1 45 0 29) = (1 : Int32) → (R mj_OM d mX11_wrong (fun r σ' => R mj_OM (d + 1) mX11_fresh Q 22 [some (rV 45 0), some (rV k1 u1), some (iV x2), some (iV x3), none] (r.toList ++ []) σ') 0 [some (rV 45 0), some (iV (1 : Int32))] [] σ)))) ∧ (¬ (σ.1 45 0 31) = 0 → Q (some (iV (0 : Int32))) σ))) : R mj_OM (d + 1) mX11_fresh Q 0 [some (rV 45 0), some (rV k1 u1), some (iV x2), some (iV x3), none] [] σ := by
  refine r_aload_n dX11_fresh_0 rfl rfl ?_
  refine r_get (k := 45) (i := 0) (j := 31) (v := iV (σ.1 45 0 31)) rfl rfl ho45 rfl hX11 (by decide) rfl fX11_205 dX11_fresh_1 (fun _ => rfl) ?_
  refine r_if_eq (tgt := 9) dX11_fresh_4 (by decide) (fun c => ?_) (fun c => ?_)
  · have H := H.1 c
    refine r_aload_n dX11_fresh_9 rfl rfl ?_
    refine r_get (k := 45) (i := 0) (j := 29) (v := iV (σ.1 45 0 29)) rfl rfl ho45 rfl hX11 (by decide) rfl fX11_170 dX11_fresh_10 (fun _ => rfl) ?_
    refine r_iconst (v := (1 : Int32)) dX11_fresh_13 rfl ?_
    refine r_icmp_eq (tgt := 25) dX11_fresh_14 (by decide) (fun c => ?_) (fun c => ?_)
    · have H := H.1 c
      refine r_aload_n dX11_fresh_25 rfl rfl ?_
      refine r_iload_n dX11_fresh_26 rfl rfl ?_
      refine r_iload_n dX11_fresh_27 rfl rfl ?_
      refine r_aload_n dX11_fresh_28 rfl rfl ?_
      refine r_get (k := 45) (i := 0) (j := 30) (v := iV (σ.1 45 0 30)) rfl rfl ho45 rfl hX11 (by decide) rfl fX11_180 dX11_fresh_29 (fun _ => rfl) ?_
      refine r_callS (z := 1) (As := [rV k1 u1, iV x2, iV x3, iV (σ.1 45 0 30)]) (st := []) kX11_found s_X11_found lX11_217 dX11_fresh_32 rfl rfl rfl rfl (Nat.le_of_ble_eq_true rfl) ?_
      exact H
    · have H := H.2 c
      refine r_aload_n dX11_fresh_17 rfl rfl ?_
      refine r_iconst (v := (1 : Int32)) dX11_fresh_18 rfl ?_
      refine r_callV (z := 0) (k := 45) (i := 0) (As := [iV (1 : Int32)]) (st := []) kX11_wrong i_X11_wrong e_X11_wrong lX11_214 dX11_fresh_19 rfl rfl ho45 rfl rfl rfl rfl rfl (Nat.le_of_ble_eq_true rfl) ?_
      exact H
  · have H := H.2 c
    refine r_iconst (v := (0 : Int32)) dX11_fresh_7 rfl ?_
    exact r_iret dX11_fresh_8 rfl H
set_option maxRecDepth 100000 in
theorem bX11_fresh_22 {d : Nat} {Q : Option MV → MS → Prop} {k1 : Nat} {n1 : Nat} {u1 : Nat} {x2 : Int32} {x3 : Int32} {σ : MS} (hk1 : mj_sch k1 = .inr (0, n1)) (gk1 : (k1, u1) ∈ mj_OM) (H : (((σ.1 45 0 31) = 0 → (R mj_OM d mX11_token (fun r σ' => R mj_OM (d + 1) mX11_fresh Q 63 [some (rV 45 0), some (rV k1 u1), some (iV x2), some (iV x3), some (iV (σ.1 45 0 30))] (r.toList ++ []) σ') 0 [some (rV 45 0), none] [] σ)) ∧ (¬ (σ.1 45 0 31) = 0 → Q (some (iV (0 : Int32))) σ))) : R mj_OM (d + 1) mX11_fresh Q 22 [some (rV 45 0), some (rV k1 u1), some (iV x2), some (iV x3), none] [] σ := by
  refine r_goto (tgt := 44) dX11_fresh_22 (by decide) ?_
  refine r_aload_n dX11_fresh_44 rfl rfl ?_
  refine r_get (k := 45) (i := 0) (j := 31) (v := iV (σ.1 45 0 31)) rfl rfl ho45 rfl hX11 (by decide) rfl fX11_205 dX11_fresh_45 (fun _ => rfl) ?_
  refine r_if_eq (tgt := 53) dX11_fresh_48 (by decide) (fun c => ?_) (fun c => ?_)
  · have H := H.1 c
    refine r_aload_n dX11_fresh_53 rfl rfl ?_
    refine r_get (k := 45) (i := 0) (j := 30) (v := iV (σ.1 45 0 30)) rfl rfl ho45 rfl hX11 (by decide) rfl fX11_180 dX11_fresh_54 (fun _ => rfl) ?_
    refine r_istore dX11_fresh_57 (by decide) rfl ?_
    refine r_aload_n dX11_fresh_59 rfl rfl ?_
    refine r_callV (z := 1) (k := 45) (i := 0) (As := []) (st := []) kX11_token i_X11_token e_X11_token lX11_211 dX11_fresh_60 rfl rfl ho45 rfl rfl rfl rfl rfl (Nat.le_of_ble_eq_true rfl) ?_
    exact H
  · have H := H.2 c
    refine r_iconst (v := (0 : Int32)) dX11_fresh_51 rfl ?_
    exact r_iret dX11_fresh_52 rfl H
set_option maxRecDepth 100000 in
theorem bX11_fresh_35 {d : Nat} {Q : Option MV → MS → Prop} {k1 : Nat} {n1 : Nat} {u1 : Nat} {x2 : Int32} {x3 : Int32} {s0 : Int32} {σ : MS} (hk1 : mj_sch k1 = .inr (0, n1)) (gk1 : (k1, u1) ∈ mj_OM) (H : ((s0 = (-1 : Int32) → (((σ.1 45 0 31) = 0 → (R mj_OM d mX11_token (fun r σ' => R mj_OM (d + 1) mX11_fresh Q 63 [some (rV 45 0), some (rV k1 u1), some (iV x2), some (iV x3), some (iV (σ.1 45 0 30))] (r.toList ++ []) σ') 0 [some (rV 45 0), none] [] σ)) ∧ (¬ (σ.1 45 0 31) = 0 → Q (some (iV (0 : Int32))) σ))) ∧ (¬ s0 = (-1 : Int32) → (R mj_OM d mX11_wrong (fun r σ' => R mj_OM (d + 1) mX11_fresh Q 44 [some (rV 45 0), some (rV k1 u1), some (iV x2), some (iV x3), none] (r.toList ++ []) σ') 0 [some (rV 45 0), some (iV (3 : Int32))] [] σ)))) : R mj_OM (d + 1) mX11_fresh Q 35 [some (rV 45 0), some (rV k1 u1), some (iV x2), some (iV x3), none] [iV s0] σ := by
  refine r_iconst (v := (-1 : Int32)) dX11_fresh_35 rfl ?_
  refine r_icmp_eq (tgt := 44) dX11_fresh_36 (by decide) (fun c => ?_) (fun c => ?_)
  · have H := H.1 c
    refine r_aload_n dX11_fresh_44 rfl rfl ?_
    refine r_get (k := 45) (i := 0) (j := 31) (v := iV (σ.1 45 0 31)) rfl rfl ho45 rfl hX11 (by decide) rfl fX11_205 dX11_fresh_45 (fun _ => rfl) ?_
    refine r_if_eq (tgt := 53) dX11_fresh_48 (by decide) (fun c => ?_) (fun c => ?_)
    · have H := H.1 c
      refine r_aload_n dX11_fresh_53 rfl rfl ?_
      refine r_get (k := 45) (i := 0) (j := 30) (v := iV (σ.1 45 0 30)) rfl rfl ho45 rfl hX11 (by decide) rfl fX11_180 dX11_fresh_54 (fun _ => rfl) ?_
      refine r_istore dX11_fresh_57 (by decide) rfl ?_
      refine r_aload_n dX11_fresh_59 rfl rfl ?_
      refine r_callV (z := 1) (k := 45) (i := 0) (As := []) (st := []) kX11_token i_X11_token e_X11_token lX11_211 dX11_fresh_60 rfl rfl ho45 rfl rfl rfl rfl rfl (Nat.le_of_ble_eq_true rfl) ?_
      exact H
    · have H := H.2 c
      refine r_iconst (v := (0 : Int32)) dX11_fresh_51 rfl ?_
      exact r_iret dX11_fresh_52 rfl H
  · have H := H.2 c
    refine r_aload_n dX11_fresh_39 rfl rfl ?_
    refine r_iconst (v := (3 : Int32)) dX11_fresh_40 rfl ?_
    refine r_callV (z := 0) (k := 45) (i := 0) (As := [iV (3 : Int32)]) (st := []) kX11_wrong i_X11_wrong e_X11_wrong lX11_214 dX11_fresh_41 rfl rfl ho45 rfl rfl rfl rfl rfl (Nat.le_of_ble_eq_true rfl) ?_
    exact H
set_option maxRecDepth 100000 in
theorem bX11_fresh_44 {d : Nat} {Q : Option MV → MS → Prop} {k1 : Nat} {n1 : Nat} {u1 : Nat} {x2 : Int32} {x3 : Int32} {σ : MS} (hk1 : mj_sch k1 = .inr (0, n1)) (gk1 : (k1, u1) ∈ mj_OM) (H : (((σ.1 45 0 31) = 0 → (R mj_OM d mX11_token (fun r σ' => R mj_OM (d + 1) mX11_fresh Q 63 [some (rV 45 0), some (rV k1 u1), some (iV x2), some (iV x3), some (iV (σ.1 45 0 30))] (r.toList ++ []) σ') 0 [some (rV 45 0), none] [] σ)) ∧ (¬ (σ.1 45 0 31) = 0 → Q (some (iV (0 : Int32))) σ))) : R mj_OM (d + 1) mX11_fresh Q 44 [some (rV 45 0), some (rV k1 u1), some (iV x2), some (iV x3), none] [] σ := by
  refine r_aload_n dX11_fresh_44 rfl rfl ?_
  refine r_get (k := 45) (i := 0) (j := 31) (v := iV (σ.1 45 0 31)) rfl rfl ho45 rfl hX11 (by decide) rfl fX11_205 dX11_fresh_45 (fun _ => rfl) ?_
  refine r_if_eq (tgt := 53) dX11_fresh_48 (by decide) (fun c => ?_) (fun c => ?_)
  · have H := H.1 c
    refine r_aload_n dX11_fresh_53 rfl rfl ?_
    refine r_get (k := 45) (i := 0) (j := 30) (v := iV (σ.1 45 0 30)) rfl rfl ho45 rfl hX11 (by decide) rfl fX11_180 dX11_fresh_54 (fun _ => rfl) ?_
    refine r_istore dX11_fresh_57 (by decide) rfl ?_
    refine r_aload_n dX11_fresh_59 rfl rfl ?_
    refine r_callV (z := 1) (k := 45) (i := 0) (As := []) (st := []) kX11_token i_X11_token e_X11_token lX11_211 dX11_fresh_60 rfl rfl ho45 rfl rfl rfl rfl rfl (Nat.le_of_ble_eq_true rfl) ?_
    exact H
  · have H := H.2 c
    refine r_iconst (v := (0 : Int32)) dX11_fresh_51 rfl ?_
    exact r_iret dX11_fresh_52 rfl H
set_option maxRecDepth 100000 in
theorem bX11_fresh_63 {d : Nat} {Q : Option MV → MS → Prop} {k1 : Nat} {n1 : Nat} {u1 : Nat} {x2 : Int32} {x3 : Int32} {x4 : Int32} {σ : MS} (hk1 : mj_sch k1 = .inr (0, n1)) (gk1 : (k1, u1) ∈ mj_OM) (H : Q (some (iV x4)) σ) : R mj_OM d mX11_fresh Q 63 [some (rV 45 0), some (rV k1 u1), some (iV x2), some (iV x3), some (iV x4)] [] σ := by
  refine r_iload dX11_fresh_63 rfl ?_
  exact r_iret dX11_fresh_65 rfl H
set_option maxRecDepth 100000 in
theorem bX11_fresher_0 {d : Nat} {Q : Option MV → MS → Prop} {x1 : Int32} {σ : MS}  (H : (vp_in ((9 : Int32) + x1) 18 ∧ Q (some (iV (σ.1 47 0 ((((9 : Int32) + x1)).toNatClampNeg)))) σ)) : R mj_OM d mX11_fresher Q 0 [some (rV 45 0), some (iV x1)] [] σ := by
  refine r_aload_n dX11_fresher_0 rfl rfl ?_
  refine r_get (k := 45) (i := 0) (j := 3) (v := rV 47 0) rfl rfl ho45 rfl hX11 (by decide) rfl fX11_13 dX11_fresher_1 (fun _ => rfl) ?_
  refine r_bipush (v := (9 : Int32)) dX11_fresher_4 rfl ?_
  refine r_iload_n dX11_fresher_6 rfl rfl ?_
  refine r_iadd dX11_fresher_7 ?_
  obtain ⟨q1, H⟩ := H
  refine r_iald (k := 47) (i := 0) rfl ho47 q1 dX11_fresher_8 ?_
  exact r_iret dX11_fresher_9 rfl H
set_option maxRecDepth 100000 in
theorem bX11_reads_0 {d : Nat} {Q : Option MV → MS → Prop} {x1 : Int32} {x2 : Int32} {σ : MS}  (H : (vp_in ((9 : Int32) + x1) 18 ∧ Q none (uI σ 47 0 ((((9 : Int32) + x1)).toNatClampNeg) x2))) : R mj_OM d mX11_reads Q 0 [some (rV 45 0), some (iV x1), some (iV x2)] [] σ := by
  refine r_aload_n dX11_reads_0 rfl rfl ?_
  refine r_get (k := 45) (i := 0) (j := 3) (v := rV 47 0) rfl rfl ho45 rfl hX11 (by decide) rfl fX11_13 dX11_reads_1 (fun _ => rfl) ?_
  refine r_bipush (v := (9 : Int32)) dX11_reads_4 rfl ?_
  refine r_iload_n dX11_reads_6 rfl rfl ?_
  refine r_iadd dX11_reads_7 ?_
  refine r_iload_n dX11_reads_8 rfl rfl ?_
  obtain ⟨q1, H⟩ := H
  refine r_iast (k := 47) (i := 0) rfl ho47 q1 dX11_reads_9 ?_
  exact r_vret dX11_reads_10 rfl H
set_option maxRecDepth 100000 in
theorem bX11_pondAtHand_0 {d : Nat} {Q : Option MV → MS → Prop}  {σ : MS}  (H : (((σ.1 45 0 31) = 0 → (((σ.1 45 0 29) = (1 : Int32) → ((¬ (σ.1 45 0 31) = 0 → ((¬ (σ.1 45 0 31) = 0 → (((σ.1 45 0 31) = 0 → Q (some (iV (0 : Int32))) σ) ∧ (¬ (σ.1 45 0 31) = 0 → Q (some (iV (0 : Int32))) σ))) ∧ ((σ.1 45 0 31) = 0 → ((¬ (0 : Int32) = (-1 : Int32) → (((σ.1 45 0 31) = 0 → Q (some (iV (0 : Int32))) σ) ∧ (¬ (σ.1 45 0 31) = 0 → Q (some (iV (0 : Int32))) σ))) ∧ ((0 : Int32) = (-1 : Int32) → (R mj_OM d mX11_wrong (fun r σ' => R mj_OM (d + 1) mX11_pondAtHand Q 69 [some (rV 45 0), some (iV (0 : Int32))] (r.toList ++ []) σ') 0 [some (rV 45 0), some (iV (4 : Int32))] [] σ)))))) ∧ ((σ.1 45 0 31) = 0 → (R mj_OM d mX11_fresher (fun r σ' => R mj_OM (d + 1) mX11_pondAtHand Q 40 [some (rV 45 0), none] (r.toList ++ [iV (7 : Int32), rV 48 0]) σ') 0 [some (rV 45 0), some (iV (0 : Int32))] [] σ)))) ∧ (¬ (σ.1 45 0 29) = (1 : Int32) → (R mj_OM d mX11_wrong (fun r σ' => R mj_OM (d + 1) mX11_pondAtHand Q 22 [some (rV 45 0), none] (r.toList ++ []) σ') 0 [some (rV 45 0), some (iV (1 : Int32))] [] σ)))) ∧ (¬ (σ.1 45 0 31) = 0 → Q (some (iV (0 : Int32))) σ))) : R mj_OM (d + 1) mX11_pondAtHand Q 0 [some (rV 45 0), none] [] σ := by
  refine r_aload_n dX11_pondAtHand_0 rfl rfl ?_
  refine r_get (k := 45) (i := 0) (j := 31) (v := iV (σ.1 45 0 31)) rfl rfl ho45 rfl hX11 (by decide) rfl fX11_205 dX11_pondAtHand_1 (fun _ => rfl) ?_
  refine r_if_eq (tgt := 9) dX11_pondAtHand_4 (by decide) (fun c => ?_) (fun c => ?_)
  · have H := H.1 c
    refine r_aload_n dX11_pondAtHand_9 rfl rfl ?_
    refine r_get (k := 45) (i := 0) (j := 29) (v := iV (σ.1 45 0 29)) rfl rfl ho45 rfl hX11 (by decide) rfl fX11_170 dX11_pondAtHand_10 (fun _ => rfl) ?_
    refine r_iconst (v := (1 : Int32)) dX11_pondAtHand_13 rfl ?_
    refine r_icmp_eq (tgt := 22) dX11_pondAtHand_14 (by decide) (fun c => ?_) (fun c => ?_)
    · have H := H.1 c
      refine r_aload_n dX11_pondAtHand_22 rfl rfl ?_
      refine r_get (k := 45) (i := 0) (j := 31) (v := iV (σ.1 45 0 31)) rfl rfl ho45 rfl hX11 (by decide) rfl fX11_205 dX11_pondAtHand_23 (fun _ => rfl) ?_
      refine r_if_ne (tgt := 50) dX11_pondAtHand_26 (by decide) (fun c => ?_) (fun c => ?_)
      · have H := H.1 c
        refine r_iconst (v := (0 : Int32)) dX11_pondAtHand_50 rfl ?_
        refine r_istore_n dX11_pondAtHand_51 rfl (by decide) rfl ?_
        refine r_aload_n dX11_pondAtHand_52 rfl rfl ?_
        refine r_get (k := 45) (i := 0) (j := 31) (v := iV (σ.1 45 0 31)) rfl rfl ho45 rfl hX11 (by decide) rfl fX11_205 dX11_pondAtHand_53 (fun _ => rfl) ?_
        refine r_if_ne (tgt := 69) dX11_pondAtHand_56 (by decide) (fun c => ?_) (fun c => ?_)
        · have H := H.1 c
          refine r_aload_n dX11_pondAtHand_69 rfl rfl ?_
          refine r_get (k := 45) (i := 0) (j := 31) (v := iV (σ.1 45 0 31)) rfl rfl ho45 rfl hX11 (by decide) rfl fX11_205 dX11_pondAtHand_70 (fun _ => rfl) ?_
          refine r_if_eq (tgt := 80) dX11_pondAtHand_73 (by decide) (fun c => ?_) (fun c => ?_)
          · have H := H.1 c
            refine r_iload_n dX11_pondAtHand_80 rfl rfl ?_
            exact r_iret dX11_pondAtHand_81 rfl H
          · have H := H.2 c
            refine r_iconst (v := (0 : Int32)) dX11_pondAtHand_76 rfl ?_
            refine r_goto (tgt := 81) dX11_pondAtHand_77 (by decide) ?_
            exact r_iret dX11_pondAtHand_81 rfl H
        · have H := H.2 c
          refine r_iload_n dX11_pondAtHand_59 rfl rfl ?_
          refine r_iconst (v := (-1 : Int32)) dX11_pondAtHand_60 rfl ?_
          refine r_icmp_ne (tgt := 69) dX11_pondAtHand_61 (by decide) (fun c => ?_) (fun c => ?_)
          · have H := H.1 c
            refine r_aload_n dX11_pondAtHand_69 rfl rfl ?_
            refine r_get (k := 45) (i := 0) (j := 31) (v := iV (σ.1 45 0 31)) rfl rfl ho45 rfl hX11 (by decide) rfl fX11_205 dX11_pondAtHand_70 (fun _ => rfl) ?_
            refine r_if_eq (tgt := 80) dX11_pondAtHand_73 (by decide) (fun c => ?_) (fun c => ?_)
            · have H := H.1 c
              refine r_iload_n dX11_pondAtHand_80 rfl rfl ?_
              exact r_iret dX11_pondAtHand_81 rfl H
            · have H := H.2 c
              refine r_iconst (v := (0 : Int32)) dX11_pondAtHand_76 rfl ?_
              refine r_goto (tgt := 81) dX11_pondAtHand_77 (by decide) ?_
              exact r_iret dX11_pondAtHand_81 rfl H
          · have H := H.2 c
            refine r_aload_n dX11_pondAtHand_64 rfl rfl ?_
            refine r_iconst (v := (4 : Int32)) dX11_pondAtHand_65 rfl ?_
            refine r_callV (z := 0) (k := 45) (i := 0) (As := [iV (4 : Int32)]) (st := []) kX11_wrong i_X11_wrong e_X11_wrong lX11_214 dX11_pondAtHand_66 rfl rfl ho45 rfl rfl rfl rfl rfl (Nat.le_of_ble_eq_true rfl) ?_
            exact H
      · have H := H.2 c
        refine r_aload_n dX11_pondAtHand_29 rfl rfl ?_
        refine r_get (k := 45) (i := 0) (j := 4) (v := rV 48 0) rfl rfl ho45 rfl hX11 (by decide) rfl fX11_16 dX11_pondAtHand_30 (fun _ => rfl) ?_
        refine r_bipush (v := (7 : Int32)) dX11_pondAtHand_33 rfl ?_
        refine r_aload_n dX11_pondAtHand_35 rfl rfl ?_
        refine r_iconst (v := (0 : Int32)) dX11_pondAtHand_36 rfl ?_
        refine r_callV (z := 0) (k := 45) (i := 0) (As := [iV (0 : Int32)]) (st := [iV (7 : Int32), rV 48 0]) kX11_fresher i_X11_fresher e_X11_fresher lX11_221 dX11_pondAtHand_37 rfl rfl ho45 rfl rfl rfl rfl rfl (Nat.le_of_ble_eq_true rfl) ?_
        exact H
    · have H := H.2 c
      refine r_aload_n dX11_pondAtHand_17 rfl rfl ?_
      refine r_iconst (v := (1 : Int32)) dX11_pondAtHand_18 rfl ?_
      refine r_callV (z := 0) (k := 45) (i := 0) (As := [iV (1 : Int32)]) (st := []) kX11_wrong i_X11_wrong e_X11_wrong lX11_214 dX11_pondAtHand_19 rfl rfl ho45 rfl rfl rfl rfl rfl (Nat.le_of_ble_eq_true rfl) ?_
      exact H
  · have H := H.2 c
    refine r_iconst (v := (0 : Int32)) dX11_pondAtHand_7 rfl ?_
    exact r_iret dX11_pondAtHand_8 rfl H
set_option maxRecDepth 100000 in
theorem bX11_pondAtHand_22 {d : Nat} {Q : Option MV → MS → Prop}  {σ : MS}  (H : ((¬ (σ.1 45 0 31) = 0 → ((¬ (σ.1 45 0 31) = 0 → (((σ.1 45 0 31) = 0 → Q (some (iV (0 : Int32))) σ) ∧ (¬ (σ.1 45 0 31) = 0 → Q (some (iV (0 : Int32))) σ))) ∧ ((σ.1 45 0 31) = 0 → ((¬ (0 : Int32) = (-1 : Int32) → (((σ.1 45 0 31) = 0 → Q (some (iV (0 : Int32))) σ) ∧ (¬ (σ.1 45 0 31) = 0 → Q (some (iV (0 : Int32))) σ))) ∧ ((0 : Int32) = (-1 : Int32) → (R mj_OM d mX11_wrong (fun r σ' => R mj_OM (d + 1) mX11_pondAtHand Q 69 [some (rV 45 0), some (iV (0 : Int32))] (r.toList ++ []) σ') 0 [some (rV 45 0), some (iV (4 : Int32))] [] σ)))))) ∧ ((σ.1 45 0 31) = 0 → (R mj_OM d mX11_fresher (fun r σ' => R mj_OM (d + 1) mX11_pondAtHand Q 40 [some (rV 45 0), none] (r.toList ++ [iV (7 : Int32), rV 48 0]) σ') 0 [some (rV 45 0), some (iV (0 : Int32))] [] σ)))) : R mj_OM (d + 1) mX11_pondAtHand Q 22 [some (rV 45 0), none] [] σ := by
  refine r_aload_n dX11_pondAtHand_22 rfl rfl ?_
  refine r_get (k := 45) (i := 0) (j := 31) (v := iV (σ.1 45 0 31)) rfl rfl ho45 rfl hX11 (by decide) rfl fX11_205 dX11_pondAtHand_23 (fun _ => rfl) ?_
  refine r_if_ne (tgt := 50) dX11_pondAtHand_26 (by decide) (fun c => ?_) (fun c => ?_)
  · have H := H.1 c
    refine r_iconst (v := (0 : Int32)) dX11_pondAtHand_50 rfl ?_
    refine r_istore_n dX11_pondAtHand_51 rfl (by decide) rfl ?_
    refine r_aload_n dX11_pondAtHand_52 rfl rfl ?_
    refine r_get (k := 45) (i := 0) (j := 31) (v := iV (σ.1 45 0 31)) rfl rfl ho45 rfl hX11 (by decide) rfl fX11_205 dX11_pondAtHand_53 (fun _ => rfl) ?_
    refine r_if_ne (tgt := 69) dX11_pondAtHand_56 (by decide) (fun c => ?_) (fun c => ?_)
    · have H := H.1 c
      refine r_aload_n dX11_pondAtHand_69 rfl rfl ?_
      refine r_get (k := 45) (i := 0) (j := 31) (v := iV (σ.1 45 0 31)) rfl rfl ho45 rfl hX11 (by decide) rfl fX11_205 dX11_pondAtHand_70 (fun _ => rfl) ?_
      refine r_if_eq (tgt := 80) dX11_pondAtHand_73 (by decide) (fun c => ?_) (fun c => ?_)
      · have H := H.1 c
        refine r_iload_n dX11_pondAtHand_80 rfl rfl ?_
        exact r_iret dX11_pondAtHand_81 rfl H
      · have H := H.2 c
        refine r_iconst (v := (0 : Int32)) dX11_pondAtHand_76 rfl ?_
        refine r_goto (tgt := 81) dX11_pondAtHand_77 (by decide) ?_
        exact r_iret dX11_pondAtHand_81 rfl H
    · have H := H.2 c
      refine r_iload_n dX11_pondAtHand_59 rfl rfl ?_
      refine r_iconst (v := (-1 : Int32)) dX11_pondAtHand_60 rfl ?_
      refine r_icmp_ne (tgt := 69) dX11_pondAtHand_61 (by decide) (fun c => ?_) (fun c => ?_)
      · have H := H.1 c
        refine r_aload_n dX11_pondAtHand_69 rfl rfl ?_
        refine r_get (k := 45) (i := 0) (j := 31) (v := iV (σ.1 45 0 31)) rfl rfl ho45 rfl hX11 (by decide) rfl fX11_205 dX11_pondAtHand_70 (fun _ => rfl) ?_
        refine r_if_eq (tgt := 80) dX11_pondAtHand_73 (by decide) (fun c => ?_) (fun c => ?_)
        · have H := H.1 c
          refine r_iload_n dX11_pondAtHand_80 rfl rfl ?_
          exact r_iret dX11_pondAtHand_81 rfl H
        · have H := H.2 c
          refine r_iconst (v := (0 : Int32)) dX11_pondAtHand_76 rfl ?_
          refine r_goto (tgt := 81) dX11_pondAtHand_77 (by decide) ?_
          exact r_iret dX11_pondAtHand_81 rfl H
      · have H := H.2 c
        refine r_aload_n dX11_pondAtHand_64 rfl rfl ?_
        refine r_iconst (v := (4 : Int32)) dX11_pondAtHand_65 rfl ?_
        refine r_callV (z := 0) (k := 45) (i := 0) (As := [iV (4 : Int32)]) (st := []) kX11_wrong i_X11_wrong e_X11_wrong lX11_214 dX11_pondAtHand_66 rfl rfl ho45 rfl rfl rfl rfl rfl (Nat.le_of_ble_eq_true rfl) ?_
        exact H
  · have H := H.2 c
    refine r_aload_n dX11_pondAtHand_29 rfl rfl ?_
    refine r_get (k := 45) (i := 0) (j := 4) (v := rV 48 0) rfl rfl ho45 rfl hX11 (by decide) rfl fX11_16 dX11_pondAtHand_30 (fun _ => rfl) ?_
    refine r_bipush (v := (7 : Int32)) dX11_pondAtHand_33 rfl ?_
    refine r_aload_n dX11_pondAtHand_35 rfl rfl ?_
    refine r_iconst (v := (0 : Int32)) dX11_pondAtHand_36 rfl ?_
    refine r_callV (z := 0) (k := 45) (i := 0) (As := [iV (0 : Int32)]) (st := [iV (7 : Int32), rV 48 0]) kX11_fresher i_X11_fresher e_X11_fresher lX11_221 dX11_pondAtHand_37 rfl rfl ho45 rfl rfl rfl rfl rfl (Nat.le_of_ble_eq_true rfl) ?_
    exact H
set_option maxRecDepth 100000 in
theorem bX11_pondAtHand_40 {d : Nat} {Q : Option MV → MS → Prop} {s0 : Int32} {s1 : Int32} {σ : MS}  (H : (R mj_OM d mX11_found (fun r σ' => R mj_OM (d + 1) mX11_pondAtHand Q 47 [some (rV 45 0), none] (r.toList ++ []) σ') 0 [some (rV 48 0), some (iV s1), some (iV s0), some (iV (σ.1 45 0 30)), none] [] σ)) : R mj_OM (d + 1) mX11_pondAtHand Q 40 [some (rV 45 0), none] [iV s0, iV s1, rV 48 0] σ := by
  refine r_aload_n dX11_pondAtHand_40 rfl rfl ?_
  refine r_get (k := 45) (i := 0) (j := 30) (v := iV (σ.1 45 0 30)) rfl rfl ho45 rfl hX11 (by decide) rfl fX11_180 dX11_pondAtHand_41 (fun _ => rfl) ?_
  refine r_callS (z := 1) (As := [rV 48 0, iV s1, iV s0, iV (σ.1 45 0 30)]) (st := []) kX11_found s_X11_found lX11_217 dX11_pondAtHand_44 rfl rfl rfl rfl (Nat.le_of_ble_eq_true rfl) ?_
  exact H
set_option maxRecDepth 100000 in
theorem bX11_pondAtHand_47 {d : Nat} {Q : Option MV → MS → Prop} {s0 : Int32} {σ : MS}  (H : ((¬ (σ.1 45 0 31) = 0 → (((σ.1 45 0 31) = 0 → Q (some (iV s0)) σ) ∧ (¬ (σ.1 45 0 31) = 0 → Q (some (iV (0 : Int32))) σ))) ∧ ((σ.1 45 0 31) = 0 → ((¬ s0 = (-1 : Int32) → (((σ.1 45 0 31) = 0 → Q (some (iV s0)) σ) ∧ (¬ (σ.1 45 0 31) = 0 → Q (some (iV (0 : Int32))) σ))) ∧ (s0 = (-1 : Int32) → (R mj_OM d mX11_wrong (fun r σ' => R mj_OM (d + 1) mX11_pondAtHand Q 69 [some (rV 45 0), some (iV s0)] (r.toList ++ []) σ') 0 [some (rV 45 0), some (iV (4 : Int32))] [] σ)))))) : R mj_OM (d + 1) mX11_pondAtHand Q 47 [some (rV 45 0), none] [iV s0] σ := by
  refine r_goto (tgt := 51) dX11_pondAtHand_47 (by decide) ?_
  refine r_istore_n dX11_pondAtHand_51 rfl (by decide) rfl ?_
  refine r_aload_n dX11_pondAtHand_52 rfl rfl ?_
  refine r_get (k := 45) (i := 0) (j := 31) (v := iV (σ.1 45 0 31)) rfl rfl ho45 rfl hX11 (by decide) rfl fX11_205 dX11_pondAtHand_53 (fun _ => rfl) ?_
  refine r_if_ne (tgt := 69) dX11_pondAtHand_56 (by decide) (fun c => ?_) (fun c => ?_)
  · have H := H.1 c
    refine r_aload_n dX11_pondAtHand_69 rfl rfl ?_
    refine r_get (k := 45) (i := 0) (j := 31) (v := iV (σ.1 45 0 31)) rfl rfl ho45 rfl hX11 (by decide) rfl fX11_205 dX11_pondAtHand_70 (fun _ => rfl) ?_
    refine r_if_eq (tgt := 80) dX11_pondAtHand_73 (by decide) (fun c => ?_) (fun c => ?_)
    · have H := H.1 c
      refine r_iload_n dX11_pondAtHand_80 rfl rfl ?_
      exact r_iret dX11_pondAtHand_81 rfl H
    · have H := H.2 c
      refine r_iconst (v := (0 : Int32)) dX11_pondAtHand_76 rfl ?_
      refine r_goto (tgt := 81) dX11_pondAtHand_77 (by decide) ?_
      exact r_iret dX11_pondAtHand_81 rfl H
  · have H := H.2 c
    refine r_iload_n dX11_pondAtHand_59 rfl rfl ?_
    refine r_iconst (v := (-1 : Int32)) dX11_pondAtHand_60 rfl ?_
    refine r_icmp_ne (tgt := 69) dX11_pondAtHand_61 (by decide) (fun c => ?_) (fun c => ?_)
    · have H := H.1 c
      refine r_aload_n dX11_pondAtHand_69 rfl rfl ?_
      refine r_get (k := 45) (i := 0) (j := 31) (v := iV (σ.1 45 0 31)) rfl rfl ho45 rfl hX11 (by decide) rfl fX11_205 dX11_pondAtHand_70 (fun _ => rfl) ?_
      refine r_if_eq (tgt := 80) dX11_pondAtHand_73 (by decide) (fun c => ?_) (fun c => ?_)
      · have H := H.1 c
        refine r_iload_n dX11_pondAtHand_80 rfl rfl ?_
        exact r_iret dX11_pondAtHand_81 rfl H
      · have H := H.2 c
        refine r_iconst (v := (0 : Int32)) dX11_pondAtHand_76 rfl ?_
        refine r_goto (tgt := 81) dX11_pondAtHand_77 (by decide) ?_
        exact r_iret dX11_pondAtHand_81 rfl H
    · have H := H.2 c
      refine r_aload_n dX11_pondAtHand_64 rfl rfl ?_
      refine r_iconst (v := (4 : Int32)) dX11_pondAtHand_65 rfl ?_
      refine r_callV (z := 0) (k := 45) (i := 0) (As := [iV (4 : Int32)]) (st := []) kX11_wrong i_X11_wrong e_X11_wrong lX11_214 dX11_pondAtHand_66 rfl rfl ho45 rfl rfl rfl rfl rfl (Nat.le_of_ble_eq_true rfl) ?_
      exact H
set_option maxRecDepth 100000 in
theorem bX11_pondAtHand_69 {d : Nat} {Q : Option MV → MS → Prop} {x1 : Int32} {σ : MS}  (H : (((σ.1 45 0 31) = 0 → Q (some (iV x1)) σ) ∧ (¬ (σ.1 45 0 31) = 0 → Q (some (iV (0 : Int32))) σ))) : R mj_OM d mX11_pondAtHand Q 69 [some (rV 45 0), some (iV x1)] [] σ := by
  refine r_aload_n dX11_pondAtHand_69 rfl rfl ?_
  refine r_get (k := 45) (i := 0) (j := 31) (v := iV (σ.1 45 0 31)) rfl rfl ho45 rfl hX11 (by decide) rfl fX11_205 dX11_pondAtHand_70 (fun _ => rfl) ?_
  refine r_if_eq (tgt := 80) dX11_pondAtHand_73 (by decide) (fun c => ?_) (fun c => ?_)
  · have H := H.1 c
    refine r_iload_n dX11_pondAtHand_80 rfl rfl ?_
    exact r_iret dX11_pondAtHand_81 rfl H
  · have H := H.2 c
    refine r_iconst (v := (0 : Int32)) dX11_pondAtHand_76 rfl ?_
    refine r_goto (tgt := 81) dX11_pondAtHand_77 (by decide) ?_
    exact r_iret dX11_pondAtHand_81 rfl H
set_option maxRecDepth 100000 in
theorem bX11_lockWith_0 {d : Nat} {Q : Option MV → MS → Prop} {x1 : Int32} {σ : MS}  (H : R mj_OM d mX11_lockWith Q 2 [some (rV 45 0), some (iV x1), some (iV (0 : Int32))] [] σ) : R mj_OM d mX11_lockWith Q 0 [some (rV 45 0), some (iV x1), none] [] σ := by
  refine r_iconst (v := (0 : Int32)) dX11_lockWith_0 rfl ?_
  refine r_istore_n dX11_lockWith_1 rfl (by decide) rfl ?_
  exact H
set_option maxRecDepth 100000 in
theorem bX11_lockWith_2 {d : Nat} {Q : Option MV → MS → Prop} {x1 : Int32} {x2 : Int32} {σ : MS}  (H : (R mj_OM d mX11_fresher (fun r σ' => R mj_OM (d + 1) mX11_lockWith Q 8 [some (rV 45 0), some (iV x1), some (iV x2)] (r.toList ++ [iV x2]) σ') 0 [some (rV 45 0), some (iV (1 : Int32))] [] σ)) : R mj_OM (d + 1) mX11_lockWith Q 2 [some (rV 45 0), some (iV x1), some (iV x2)] [] σ := by
  refine r_iload_n dX11_lockWith_2 rfl rfl ?_
  refine r_aload_n dX11_lockWith_3 rfl rfl ?_
  refine r_iconst (v := (1 : Int32)) dX11_lockWith_4 rfl ?_
  refine r_callV (z := 0) (k := 45) (i := 0) (As := [iV (1 : Int32)]) (st := [iV x2]) kX11_fresher i_X11_fresher e_X11_fresher lX11_221 dX11_lockWith_5 rfl rfl ho45 rfl rfl rfl rfl rfl (Nat.le_of_ble_eq_true rfl) ?_
  exact H
set_option maxRecDepth 100000 in
theorem bX11_lockWith_8 {d : Nat} {Q : Option MV → MS → Prop} {x1 : Int32} {x2 : Int32} {s0 : Int32} {s1 : Int32} {σ : MS}  (H : ((s0 ≤ s1 → Q (some (iV (-1 : Int32))) σ) ∧ (¬ s0 ≤ s1 → (vp_in ((3 : Int32) + x2) 6 ∧ ((¬ (σ.1 53 0 ((((3 : Int32) + x2)).toNatClampNeg)) = x1 → R mj_OM d mX11_lockWith Q 2 [some (rV 45 0), some (iV x1), some (iV (x2 + (1 : Int32)))] [] σ) ∧ ((σ.1 53 0 ((((3 : Int32) + x2)).toNatClampNeg)) = x1 → Q (some (iV x2)) σ)))))) : R mj_OM d mX11_lockWith Q 8 [some (rV 45 0), some (iV x1), some (iV x2)] [iV s0, iV s1] σ := by
  refine r_icmp_ge (tgt := 31) dX11_lockWith_8 (by decide) (fun c => ?_) (fun c => ?_)
  · have H := H.1 c
    refine r_iconst (v := (-1 : Int32)) dX11_lockWith_31 rfl ?_
    exact r_iret dX11_lockWith_32 rfl H
  · have H := H.2 c
    refine r_aload_n dX11_lockWith_11 rfl rfl ?_
    refine r_get (k := 45) (i := 0) (j := 9) (v := rV 53 0) rfl rfl ho45 rfl hX11 (by decide) rfl fX11_31 dX11_lockWith_12 (fun _ => rfl) ?_
    refine r_iconst (v := (3 : Int32)) dX11_lockWith_15 rfl ?_
    refine r_iload_n dX11_lockWith_16 rfl rfl ?_
    refine r_iadd dX11_lockWith_17 ?_
    obtain ⟨q1, H⟩ := H
    refine r_iald (k := 53) (i := 0) rfl ho53 q1 dX11_lockWith_18 ?_
    refine r_iload_n dX11_lockWith_19 rfl rfl ?_
    refine r_icmp_ne (tgt := 25) dX11_lockWith_20 (by decide) (fun c => ?_) (fun c => ?_)
    · have H := H.1 c
      refine r_iinc (v := x2 + (1 : Int32)) dX11_lockWith_25 rfl rfl (by decide) rfl ?_
      refine r_goto (tgt := 2) dX11_lockWith_28 (by decide) ?_
      exact H
    · have H := H.2 c
      refine r_iload_n dX11_lockWith_23 rfl rfl ?_
      exact r_iret dX11_lockWith_24 rfl H
set_option maxRecDepth 100000 in
theorem bX11_isFull_0 {d : Nat} {Q : Option MV → MS → Prop} {x1 : Int32} {σ : MS}  (H : ((x1 = 0 → (R mj_OM d mX11_fresher (fun r σ' => R mj_OM (d + 1) mX11_isFull Q 41 [some (rV 45 0), some (iV x1)] (r.toList ++ []) σ') 0 [some (rV 45 0), some (iV (0 : Int32))] [] σ)) ∧ (¬ x1 = 0 → ((x1 = 1 → (R mj_OM d mX11_fresher (fun r σ' => R mj_OM (d + 1) mX11_isFull Q 57 [some (rV 45 0), some (iV x1)] (r.toList ++ []) σ') 0 [some (rV 45 0), some (iV (1 : Int32))] [] σ)) ∧ (¬ x1 = 1 → ((x1 = 2 → (R mj_OM d mX11_fresher (fun r σ' => R mj_OM (d + 1) mX11_isFull Q 72 [some (rV 45 0), some (iV x1)] (r.toList ++ []) σ') 0 [some (rV 45 0), some (iV (2 : Int32))] [] σ)) ∧ (¬ x1 = 2 → ((x1 = 3 → (R mj_OM d mX11_fresher (fun r σ' => R mj_OM (d + 1) mX11_isFull Q 88 [some (rV 45 0), some (iV x1)] (r.toList ++ []) σ') 0 [some (rV 45 0), some (iV (3 : Int32))] [] σ)) ∧ (¬ x1 = 3 → ((x1 = 4 → (R mj_OM d mX11_fresher (fun r σ' => R mj_OM (d + 1) mX11_isFull Q 104 [some (rV 45 0), some (iV x1)] (r.toList ++ []) σ') 0 [some (rV 45 0), some (iV (4 : Int32))] [] σ)) ∧ (¬ x1 = 4 → Q (some (iV (0 : Int32))) σ))))))))))) : R mj_OM (d + 1) mX11_isFull Q 0 [some (rV 45 0), some (iV x1)] [] σ := by
  refine r_iload_n dX11_isFull_0 rfl rfl ?_
  by_cases c0 : x1 = 0
  · have H := H.1 c0
    refine r_tableIn (tgt := 36) (off := 35) dX11_isFull_1 (by rw [c0]; decide) (by rw [c0]; decide) (by rw [c0]; rfl) (by decide) ?_
    refine r_aload_n dX11_isFull_36 rfl rfl ?_
    refine r_iconst (v := (0 : Int32)) dX11_isFull_37 rfl ?_
    refine r_callV (z := 0) (k := 45) (i := 0) (As := [iV (0 : Int32)]) (st := []) kX11_fresher i_X11_fresher e_X11_fresher lX11_221 dX11_isFull_38 rfl rfl ho45 rfl rfl rfl rfl rfl (Nat.le_of_ble_eq_true rfl) ?_
    exact H
  replace H := H.2 c0
  by_cases c1 : x1 = 1
  · have H := H.1 c1
    refine r_tableIn (tgt := 52) (off := 51) dX11_isFull_1 (by rw [c1]; decide) (by rw [c1]; decide) (by rw [c1]; rfl) (by decide) ?_
    refine r_aload_n dX11_isFull_52 rfl rfl ?_
    refine r_iconst (v := (1 : Int32)) dX11_isFull_53 rfl ?_
    refine r_callV (z := 0) (k := 45) (i := 0) (As := [iV (1 : Int32)]) (st := []) kX11_fresher i_X11_fresher e_X11_fresher lX11_221 dX11_isFull_54 rfl rfl ho45 rfl rfl rfl rfl rfl (Nat.le_of_ble_eq_true rfl) ?_
    exact H
  replace H := H.2 c1
  by_cases c2 : x1 = 2
  · have H := H.1 c2
    refine r_tableIn (tgt := 67) (off := 66) dX11_isFull_1 (by rw [c2]; decide) (by rw [c2]; decide) (by rw [c2]; rfl) (by decide) ?_
    refine r_aload_n dX11_isFull_67 rfl rfl ?_
    refine r_iconst (v := (2 : Int32)) dX11_isFull_68 rfl ?_
    refine r_callV (z := 0) (k := 45) (i := 0) (As := [iV (2 : Int32)]) (st := []) kX11_fresher i_X11_fresher e_X11_fresher lX11_221 dX11_isFull_69 rfl rfl ho45 rfl rfl rfl rfl rfl (Nat.le_of_ble_eq_true rfl) ?_
    exact H
  replace H := H.2 c2
  by_cases c3 : x1 = 3
  · have H := H.1 c3
    refine r_tableIn (tgt := 83) (off := 82) dX11_isFull_1 (by rw [c3]; decide) (by rw [c3]; decide) (by rw [c3]; rfl) (by decide) ?_
    refine r_aload_n dX11_isFull_83 rfl rfl ?_
    refine r_iconst (v := (3 : Int32)) dX11_isFull_84 rfl ?_
    refine r_callV (z := 0) (k := 45) (i := 0) (As := [iV (3 : Int32)]) (st := []) kX11_fresher i_X11_fresher e_X11_fresher lX11_221 dX11_isFull_85 rfl rfl ho45 rfl rfl rfl rfl rfl (Nat.le_of_ble_eq_true rfl) ?_
    exact H
  replace H := H.2 c3
  by_cases c4 : x1 = 4
  · have H := H.1 c4
    refine r_tableIn (tgt := 99) (off := 98) dX11_isFull_1 (by rw [c4]; decide) (by rw [c4]; decide) (by rw [c4]; rfl) (by decide) ?_
    refine r_aload_n dX11_isFull_99 rfl rfl ?_
    refine r_iconst (v := (4 : Int32)) dX11_isFull_100 rfl ?_
    refine r_callV (z := 0) (k := 45) (i := 0) (As := [iV (4 : Int32)]) (st := []) kX11_fresher i_X11_fresher e_X11_fresher lX11_221 dX11_isFull_101 rfl rfl ho45 rfl rfl rfl rfl rfl (Nat.le_of_ble_eq_true rfl) ?_
    exact H
  replace H := H.2 c4
  refine r_tableOut (tgt := 115) dX11_isFull_1 (by have z0 := lv_neT c0 (show (0 : Int32).toInt = 0 by decide); have z1 := lv_neT c1 (show (1 : Int32).toInt = 1 by decide); have z2 := lv_neT c2 (show (2 : Int32).toInt = 2 by decide); have z3 := lv_neT c3 (show (3 : Int32).toInt = 3 by decide); have z4 := lv_neT c4 (show (4 : Int32).toInt = 4 by decide); omega) (by decide) ?_
  refine r_iconst (v := (0 : Int32)) dX11_isFull_115 rfl ?_
  exact r_zret dX11_isFull_116 rfl (by decide) H
set_option maxRecDepth 100000 in
theorem bX11_isFull_41 {d : Nat} {Q : Option MV → MS → Prop} {x1 : Int32} {s0 : Int32} {σ : MS}  (H : ((¬ s0 = (7 : Int32) → Q (some (iV (0 : Int32))) σ) ∧ (s0 = (7 : Int32) → Q (some (iV (1 : Int32))) σ))) : R mj_OM d mX11_isFull Q 41 [some (rV 45 0), some (iV x1)] [iV s0] σ := by
  refine r_bipush (v := (7 : Int32)) dX11_isFull_41 rfl ?_
  refine r_icmp_ne (tgt := 50) dX11_isFull_43 (by decide) (fun c => ?_) (fun c => ?_)
  · have H := H.1 c
    refine r_iconst (v := (0 : Int32)) dX11_isFull_50 rfl ?_
    exact r_zret dX11_isFull_51 rfl (by decide) H
  · have H := H.2 c
    refine r_iconst (v := (1 : Int32)) dX11_isFull_46 rfl ?_
    refine r_goto (tgt := 51) dX11_isFull_47 (by decide) ?_
    exact r_zret dX11_isFull_51 rfl (by decide) H
set_option maxRecDepth 100000 in
theorem bX11_isFull_57 {d : Nat} {Q : Option MV → MS → Prop} {x1 : Int32} {s0 : Int32} {σ : MS}  (H : ((¬ s0 = (3 : Int32) → Q (some (iV (0 : Int32))) σ) ∧ (s0 = (3 : Int32) → Q (some (iV (1 : Int32))) σ))) : R mj_OM d mX11_isFull Q 57 [some (rV 45 0), some (iV x1)] [iV s0] σ := by
  refine r_iconst (v := (3 : Int32)) dX11_isFull_57 rfl ?_
  refine r_icmp_ne (tgt := 65) dX11_isFull_58 (by decide) (fun c => ?_) (fun c => ?_)
  · have H := H.1 c
    refine r_iconst (v := (0 : Int32)) dX11_isFull_65 rfl ?_
    exact r_zret dX11_isFull_66 rfl (by decide) H
  · have H := H.2 c
    refine r_iconst (v := (1 : Int32)) dX11_isFull_61 rfl ?_
    refine r_goto (tgt := 66) dX11_isFull_62 (by decide) ?_
    exact r_zret dX11_isFull_66 rfl (by decide) H
set_option maxRecDepth 100000 in
theorem bX11_isFull_72 {d : Nat} {Q : Option MV → MS → Prop} {x1 : Int32} {s0 : Int32} {σ : MS}  (H : ((¬ s0 = (10 : Int32) → Q (some (iV (0 : Int32))) σ) ∧ (s0 = (10 : Int32) → Q (some (iV (1 : Int32))) σ))) : R mj_OM d mX11_isFull Q 72 [some (rV 45 0), some (iV x1)] [iV s0] σ := by
  refine r_bipush (v := (10 : Int32)) dX11_isFull_72 rfl ?_
  refine r_icmp_ne (tgt := 81) dX11_isFull_74 (by decide) (fun c => ?_) (fun c => ?_)
  · have H := H.1 c
    refine r_iconst (v := (0 : Int32)) dX11_isFull_81 rfl ?_
    exact r_zret dX11_isFull_82 rfl (by decide) H
  · have H := H.2 c
    refine r_iconst (v := (1 : Int32)) dX11_isFull_77 rfl ?_
    refine r_goto (tgt := 82) dX11_isFull_78 (by decide) ?_
    exact r_zret dX11_isFull_82 rfl (by decide) H
set_option maxRecDepth 100000 in
theorem bX11_isFull_88 {d : Nat} {Q : Option MV → MS → Prop} {x1 : Int32} {s0 : Int32} {σ : MS}  (H : ((¬ s0 = (12 : Int32) → Q (some (iV (0 : Int32))) σ) ∧ (s0 = (12 : Int32) → Q (some (iV (1 : Int32))) σ))) : R mj_OM d mX11_isFull Q 88 [some (rV 45 0), some (iV x1)] [iV s0] σ := by
  refine r_bipush (v := (12 : Int32)) dX11_isFull_88 rfl ?_
  refine r_icmp_ne (tgt := 97) dX11_isFull_90 (by decide) (fun c => ?_) (fun c => ?_)
  · have H := H.1 c
    refine r_iconst (v := (0 : Int32)) dX11_isFull_97 rfl ?_
    exact r_zret dX11_isFull_98 rfl (by decide) H
  · have H := H.2 c
    refine r_iconst (v := (1 : Int32)) dX11_isFull_93 rfl ?_
    refine r_goto (tgt := 98) dX11_isFull_94 (by decide) ?_
    exact r_zret dX11_isFull_98 rfl (by decide) H
set_option maxRecDepth 100000 in
theorem bX11_isFull_104 {d : Nat} {Q : Option MV → MS → Prop} {x1 : Int32} {s0 : Int32} {σ : MS}  (H : ((¬ s0 = (8 : Int32) → Q (some (iV (0 : Int32))) σ) ∧ (s0 = (8 : Int32) → Q (some (iV (1 : Int32))) σ))) : R mj_OM d mX11_isFull Q 104 [some (rV 45 0), some (iV x1)] [iV s0] σ := by
  refine r_bipush (v := (8 : Int32)) dX11_isFull_104 rfl ?_
  refine r_icmp_ne (tgt := 113) dX11_isFull_106 (by decide) (fun c => ?_) (fun c => ?_)
  · have H := H.1 c
    refine r_iconst (v := (0 : Int32)) dX11_isFull_113 rfl ?_
    exact r_zret dX11_isFull_114 rfl (by decide) H
  · have H := H.2 c
    refine r_iconst (v := (1 : Int32)) dX11_isFull_109 rfl ?_
    refine r_goto (tgt := 114) dX11_isFull_110 (by decide) ?_
    exact r_zret dX11_isFull_114 rfl (by decide) H
set_option maxRecDepth 100000 in
theorem bX11_line_0 {d : Nat} {Q : Option MV → MS → Prop}  {σ : MS}  (H : ((¬ (σ.1 45 0 29) = 0 → (R mj_OM d mX11_wrong (fun r σ' => R mj_OM (d + 1) mX11_line Q 21 [some (rV 45 0), none, none, none, none] (r.toList ++ []) σ') 0 [some (rV 45 0), some (iV (1 : Int32))] [] σ)) ∧ ((σ.1 45 0 29) = 0 → (((σ.1 45 0 30) ≤ (8 : Int32) → (R mj_OM d mX11_isFull (fun r σ' => R mj_OM (d + 1) mX11_line Q 32 [some (rV 45 0), some (iV (σ.1 45 0 30)), none, none, none] (r.toList ++ []) σ') 0 [some (rV 45 0), some (iV (σ.1 45 0 30))] [] σ)) ∧ (¬ (σ.1 45 0 30) ≤ (8 : Int32) → (R mj_OM d mX11_wrong (fun r σ' => R mj_OM (d + 1) mX11_line Q 21 [some (rV 45 0), none, none, none, none] (r.toList ++ []) σ') 0 [some (rV 45 0), some (iV (1 : Int32))] [] σ)))))) : R mj_OM (d + 1) mX11_line Q 0 [some (rV 45 0), none, none, none, none] [] σ := by
  refine r_aload_n dX11_line_0 rfl rfl ?_
  refine r_get (k := 45) (i := 0) (j := 29) (v := iV (σ.1 45 0 29)) rfl rfl ho45 rfl hX11 (by decide) rfl fX11_170 dX11_line_1 (fun _ => rfl) ?_
  refine r_if_ne (tgt := 16) dX11_line_4 (by decide) (fun c => ?_) (fun c => ?_)
  · have H := H.1 c
    refine r_aload_n dX11_line_16 rfl rfl ?_
    refine r_iconst (v := (1 : Int32)) dX11_line_17 rfl ?_
    refine r_callV (z := 0) (k := 45) (i := 0) (As := [iV (1 : Int32)]) (st := []) kX11_wrong i_X11_wrong e_X11_wrong lX11_214 dX11_line_18 rfl rfl ho45 rfl rfl rfl rfl rfl (Nat.le_of_ble_eq_true rfl) ?_
    exact H
  · have H := H.2 c
    refine r_aload_n dX11_line_7 rfl rfl ?_
    refine r_get (k := 45) (i := 0) (j := 30) (v := iV (σ.1 45 0 30)) rfl rfl ho45 rfl hX11 (by decide) rfl fX11_180 dX11_line_8 (fun _ => rfl) ?_
    refine r_bipush (v := (8 : Int32)) dX11_line_11 rfl ?_
    refine r_icmp_le (tgt := 22) dX11_line_13 (by decide) (fun c => ?_) (fun c => ?_)
    · have H := H.1 c
      refine r_aload_n dX11_line_22 rfl rfl ?_
      refine r_get (k := 45) (i := 0) (j := 30) (v := iV (σ.1 45 0 30)) rfl rfl ho45 rfl hX11 (by decide) rfl fX11_180 dX11_line_23 (fun _ => rfl) ?_
      refine r_istore_n dX11_line_26 rfl (by decide) rfl ?_
      refine r_aload_n dX11_line_27 rfl rfl ?_
      refine r_iload_n dX11_line_28 rfl rfl ?_
      refine r_callV (z := 0) (k := 45) (i := 0) (As := [iV (σ.1 45 0 30)]) (st := []) kX11_isFull i_X11_isFull e_X11_isFull lX11_225 dX11_line_29 rfl rfl ho45 rfl rfl rfl rfl rfl (Nat.le_of_ble_eq_true rfl) ?_
      exact H
    · have H := H.2 c
      refine r_aload_n dX11_line_16 rfl rfl ?_
      refine r_iconst (v := (1 : Int32)) dX11_line_17 rfl ?_
      refine r_callV (z := 0) (k := 45) (i := 0) (As := [iV (1 : Int32)]) (st := []) kX11_wrong i_X11_wrong e_X11_wrong lX11_214 dX11_line_18 rfl rfl ho45 rfl rfl rfl rfl rfl (Nat.le_of_ble_eq_true rfl) ?_
      exact H
set_option maxRecDepth 100000 in
theorem bX11_line_21 {d : Nat} {Q : Option MV → MS → Prop}  {σ : MS}  (H : Q none σ) : R mj_OM d mX11_line Q 21 [some (rV 45 0), none, none, none, none] [] σ := by
  exact r_vret dX11_line_21 rfl H
set_option maxRecDepth 100000 in
theorem bX11_line_32 {d : Nat} {Q : Option MV → MS → Prop} {x1 : Int32} {s0 : Int32} {σ : MS}  (H : ((s0 = 0 → ((x1 = (6 : Int32) → ((¬ (((σ.1 45 0 24) >>> (x1 &&& 31)) &&& (1 : Int32)) = (1 : Int32) → (((σ.1 45 0 31) = 0 → (R mj_OM d mX11_token (fun r σ' => R mj_OM (d + 1) mX11_line Q 96 [some (rV 45 0), some (iV x1), none, none, none] (r.toList ++ []) σ') 0 [some (rV 45 0), none] [] (uI σ 45 0 24 ((σ.1 45 0 24) ||| ((1 : Int32) <<< (x1 &&& 31)))))) ∧ (¬ (σ.1 45 0 31) = 0 → Q none σ))) ∧ ((((σ.1 45 0 24) >>> (x1 &&& 31)) &&& (1 : Int32)) = (1 : Int32) → (R mj_OM d mX11_wrong (fun r σ' => R mj_OM (d + 1) mX11_line Q 72 [some (rV 45 0), some (iV x1), none, none, none] (r.toList ++ []) σ') 0 [some (rV 45 0), some (iV (3 : Int32))] [] σ)))) ∧ (¬ x1 = (6 : Int32) → ((¬ x1 = (7 : Int32) → (((σ.1 45 0 31) = 0 → (R mj_OM d mX11_token (fun r σ' => R mj_OM (d + 1) mX11_line Q 96 [some (rV 45 0), some (iV x1), none, none, none] (r.toList ++ []) σ') 0 [some (rV 45 0), none] [] (uI σ 45 0 24 ((σ.1 45 0 24) ||| ((1 : Int32) <<< (x1 &&& 31)))))) ∧ (¬ (σ.1 45 0 31) = 0 → Q none σ))) ∧ (x1 = (7 : Int32) → ((¬ (((σ.1 45 0 24) >>> (x1 &&& 31)) &&& (1 : Int32)) = (1 : Int32) → (((σ.1 45 0 31) = 0 → (R mj_OM d mX11_token (fun r σ' => R mj_OM (d + 1) mX11_line Q 96 [some (rV 45 0), some (iV x1), none, none, none] (r.toList ++ []) σ') 0 [some (rV 45 0), none] [] (uI σ 45 0 24 ((σ.1 45 0 24) ||| ((1 : Int32) <<< (x1 &&& 31)))))) ∧ (¬ (σ.1 45 0 31) = 0 → Q none σ))) ∧ ((((σ.1 45 0 24) >>> (x1 &&& 31)) &&& (1 : Int32)) = (1 : Int32) → (R mj_OM d mX11_wrong (fun r σ' => R mj_OM (d + 1) mX11_line Q 72 [some (rV 45 0), some (iV x1), none, none, none] (r.toList ++ []) σ') 0 [some (rV 45 0), some (iV (3 : Int32))] [] σ)))))))) ∧ (¬ s0 = 0 → (R mj_OM d mX11_wrong (fun r σ' => R mj_OM (d + 1) mX11_line Q 40 [some (rV 45 0), some (iV x1), none, none, none] (r.toList ++ []) σ') 0 [some (rV 45 0), some (iV (2 : Int32))] [] σ)))) : R mj_OM (d + 1) mX11_line Q 32 [some (rV 45 0), some (iV x1), none, none, none] [iV s0] σ := by
  refine r_if_eq (tgt := 43) dX11_line_32 (by decide) (fun c => ?_) (fun c => ?_)
  · have H := H.1 c
    refine r_iload_n dX11_line_43 rfl rfl ?_
    refine r_bipush (v := (6 : Int32)) dX11_line_44 rfl ?_
    refine r_icmp_eq (tgt := 55) dX11_line_46 (by decide) (fun c => ?_) (fun c => ?_)
    · have H := H.1 c
      refine r_aload_n dX11_line_55 rfl rfl ?_
      refine r_get (k := 45) (i := 0) (j := 24) (v := iV (σ.1 45 0 24)) rfl rfl ho45 rfl hX11 (by decide) rfl fX11_228 dX11_line_56 (fun _ => rfl) ?_
      refine r_iload_n dX11_line_59 rfl rfl ?_
      refine r_ishr dX11_line_60 ?_
      refine r_iconst (v := (1 : Int32)) dX11_line_61 rfl ?_
      refine r_iand dX11_line_62 ?_
      refine r_iconst (v := (1 : Int32)) dX11_line_63 rfl ?_
      refine r_icmp_ne (tgt := 72) dX11_line_64 (by decide) (fun c => ?_) (fun c => ?_)
      · have H := H.1 c
        refine r_aload_n dX11_line_72 rfl rfl ?_
        refine r_get (k := 45) (i := 0) (j := 31) (v := iV (σ.1 45 0 31)) rfl rfl ho45 rfl hX11 (by decide) rfl fX11_205 dX11_line_73 (fun _ => rfl) ?_
        refine r_if_eq (tgt := 80) dX11_line_76 (by decide) (fun c => ?_) (fun c => ?_)
        · have H := H.1 c
          refine r_aload_n dX11_line_80 rfl rfl ?_
          refine r_dup_r dX11_line_81 ?_
          refine r_get (k := 45) (i := 0) (j := 24) (v := iV (σ.1 45 0 24)) rfl rfl ho45 rfl hX11 (by decide) rfl fX11_228 dX11_line_82 (fun _ => rfl) ?_
          refine r_iconst (v := (1 : Int32)) dX11_line_85 rfl ?_
          refine r_iload_n dX11_line_86 rfl rfl ?_
          refine r_ishl dX11_line_87 ?_
          refine r_ior dX11_line_88 ?_
          refine r_putI (k := 45) (i := 0) (j := 24) (ty0 := tyX11) rfl rfl ho45 rfl hX11 (by decide) rfl fX11_228 dX11_line_89 rfl tyX11_ok nmX11 rfl rfl rfl ?_
          refine r_aload_n dX11_line_92 rfl rfl ?_
          refine r_callV (z := 1) (k := 45) (i := 0) (As := []) (st := []) kX11_token i_X11_token e_X11_token lX11_211 dX11_line_93 rfl rfl ho45 rfl rfl rfl rfl rfl (Nat.le_of_ble_eq_true rfl) ?_
          exact H
        · have H := H.2 c
          exact r_vret dX11_line_79 rfl H
      · have H := H.2 c
        refine r_aload_n dX11_line_67 rfl rfl ?_
        refine r_iconst (v := (3 : Int32)) dX11_line_68 rfl ?_
        refine r_callV (z := 0) (k := 45) (i := 0) (As := [iV (3 : Int32)]) (st := []) kX11_wrong i_X11_wrong e_X11_wrong lX11_214 dX11_line_69 rfl rfl ho45 rfl rfl rfl rfl rfl (Nat.le_of_ble_eq_true rfl) ?_
        exact H
    · have H := H.2 c
      refine r_iload_n dX11_line_49 rfl rfl ?_
      refine r_bipush (v := (7 : Int32)) dX11_line_50 rfl ?_
      refine r_icmp_ne (tgt := 72) dX11_line_52 (by decide) (fun c => ?_) (fun c => ?_)
      · have H := H.1 c
        refine r_aload_n dX11_line_72 rfl rfl ?_
        refine r_get (k := 45) (i := 0) (j := 31) (v := iV (σ.1 45 0 31)) rfl rfl ho45 rfl hX11 (by decide) rfl fX11_205 dX11_line_73 (fun _ => rfl) ?_
        refine r_if_eq (tgt := 80) dX11_line_76 (by decide) (fun c => ?_) (fun c => ?_)
        · have H := H.1 c
          refine r_aload_n dX11_line_80 rfl rfl ?_
          refine r_dup_r dX11_line_81 ?_
          refine r_get (k := 45) (i := 0) (j := 24) (v := iV (σ.1 45 0 24)) rfl rfl ho45 rfl hX11 (by decide) rfl fX11_228 dX11_line_82 (fun _ => rfl) ?_
          refine r_iconst (v := (1 : Int32)) dX11_line_85 rfl ?_
          refine r_iload_n dX11_line_86 rfl rfl ?_
          refine r_ishl dX11_line_87 ?_
          refine r_ior dX11_line_88 ?_
          refine r_putI (k := 45) (i := 0) (j := 24) (ty0 := tyX11) rfl rfl ho45 rfl hX11 (by decide) rfl fX11_228 dX11_line_89 rfl tyX11_ok nmX11 rfl rfl rfl ?_
          refine r_aload_n dX11_line_92 rfl rfl ?_
          refine r_callV (z := 1) (k := 45) (i := 0) (As := []) (st := []) kX11_token i_X11_token e_X11_token lX11_211 dX11_line_93 rfl rfl ho45 rfl rfl rfl rfl rfl (Nat.le_of_ble_eq_true rfl) ?_
          exact H
        · have H := H.2 c
          exact r_vret dX11_line_79 rfl H
      · have H := H.2 c
        refine r_aload_n dX11_line_55 rfl rfl ?_
        refine r_get (k := 45) (i := 0) (j := 24) (v := iV (σ.1 45 0 24)) rfl rfl ho45 rfl hX11 (by decide) rfl fX11_228 dX11_line_56 (fun _ => rfl) ?_
        refine r_iload_n dX11_line_59 rfl rfl ?_
        refine r_ishr dX11_line_60 ?_
        refine r_iconst (v := (1 : Int32)) dX11_line_61 rfl ?_
        refine r_iand dX11_line_62 ?_
        refine r_iconst (v := (1 : Int32)) dX11_line_63 rfl ?_
        refine r_icmp_ne (tgt := 72) dX11_line_64 (by decide) (fun c => ?_) (fun c => ?_)
        · have H := H.1 c
          refine r_aload_n dX11_line_72 rfl rfl ?_
          refine r_get (k := 45) (i := 0) (j := 31) (v := iV (σ.1 45 0 31)) rfl rfl ho45 rfl hX11 (by decide) rfl fX11_205 dX11_line_73 (fun _ => rfl) ?_
          refine r_if_eq (tgt := 80) dX11_line_76 (by decide) (fun c => ?_) (fun c => ?_)
          · have H := H.1 c
            refine r_aload_n dX11_line_80 rfl rfl ?_
            refine r_dup_r dX11_line_81 ?_
            refine r_get (k := 45) (i := 0) (j := 24) (v := iV (σ.1 45 0 24)) rfl rfl ho45 rfl hX11 (by decide) rfl fX11_228 dX11_line_82 (fun _ => rfl) ?_
            refine r_iconst (v := (1 : Int32)) dX11_line_85 rfl ?_
            refine r_iload_n dX11_line_86 rfl rfl ?_
            refine r_ishl dX11_line_87 ?_
            refine r_ior dX11_line_88 ?_
            refine r_putI (k := 45) (i := 0) (j := 24) (ty0 := tyX11) rfl rfl ho45 rfl hX11 (by decide) rfl fX11_228 dX11_line_89 rfl tyX11_ok nmX11 rfl rfl rfl ?_
            refine r_aload_n dX11_line_92 rfl rfl ?_
            refine r_callV (z := 1) (k := 45) (i := 0) (As := []) (st := []) kX11_token i_X11_token e_X11_token lX11_211 dX11_line_93 rfl rfl ho45 rfl rfl rfl rfl rfl (Nat.le_of_ble_eq_true rfl) ?_
            exact H
          · have H := H.2 c
            exact r_vret dX11_line_79 rfl H
        · have H := H.2 c
          refine r_aload_n dX11_line_67 rfl rfl ?_
          refine r_iconst (v := (3 : Int32)) dX11_line_68 rfl ?_
          refine r_callV (z := 0) (k := 45) (i := 0) (As := [iV (3 : Int32)]) (st := []) kX11_wrong i_X11_wrong e_X11_wrong lX11_214 dX11_line_69 rfl rfl ho45 rfl rfl rfl rfl rfl (Nat.le_of_ble_eq_true rfl) ?_
          exact H
  · have H := H.2 c
    refine r_aload_n dX11_line_35 rfl rfl ?_
    refine r_iconst (v := (2 : Int32)) dX11_line_36 rfl ?_
    refine r_callV (z := 0) (k := 45) (i := 0) (As := [iV (2 : Int32)]) (st := []) kX11_wrong i_X11_wrong e_X11_wrong lX11_214 dX11_line_37 rfl rfl ho45 rfl rfl rfl rfl rfl (Nat.le_of_ble_eq_true rfl) ?_
    exact H
set_option maxRecDepth 100000 in
theorem bX11_line_40 {d : Nat} {Q : Option MV → MS → Prop} {x1 : Int32} {σ : MS}  (H : (((σ.1 45 0 31) = 0 → (R mj_OM d mX11_token (fun r σ' => R mj_OM (d + 1) mX11_line Q 96 [some (rV 45 0), some (iV x1), none, none, none] (r.toList ++ []) σ') 0 [some (rV 45 0), none] [] (uI σ 45 0 24 ((σ.1 45 0 24) ||| ((1 : Int32) <<< (x1 &&& 31)))))) ∧ (¬ (σ.1 45 0 31) = 0 → Q none σ))) : R mj_OM (d + 1) mX11_line Q 40 [some (rV 45 0), some (iV x1), none, none, none] [] σ := by
  refine r_goto (tgt := 72) dX11_line_40 (by decide) ?_
  refine r_aload_n dX11_line_72 rfl rfl ?_
  refine r_get (k := 45) (i := 0) (j := 31) (v := iV (σ.1 45 0 31)) rfl rfl ho45 rfl hX11 (by decide) rfl fX11_205 dX11_line_73 (fun _ => rfl) ?_
  refine r_if_eq (tgt := 80) dX11_line_76 (by decide) (fun c => ?_) (fun c => ?_)
  · have H := H.1 c
    refine r_aload_n dX11_line_80 rfl rfl ?_
    refine r_dup_r dX11_line_81 ?_
    refine r_get (k := 45) (i := 0) (j := 24) (v := iV (σ.1 45 0 24)) rfl rfl ho45 rfl hX11 (by decide) rfl fX11_228 dX11_line_82 (fun _ => rfl) ?_
    refine r_iconst (v := (1 : Int32)) dX11_line_85 rfl ?_
    refine r_iload_n dX11_line_86 rfl rfl ?_
    refine r_ishl dX11_line_87 ?_
    refine r_ior dX11_line_88 ?_
    refine r_putI (k := 45) (i := 0) (j := 24) (ty0 := tyX11) rfl rfl ho45 rfl hX11 (by decide) rfl fX11_228 dX11_line_89 rfl tyX11_ok nmX11 rfl rfl rfl ?_
    refine r_aload_n dX11_line_92 rfl rfl ?_
    refine r_callV (z := 1) (k := 45) (i := 0) (As := []) (st := []) kX11_token i_X11_token e_X11_token lX11_211 dX11_line_93 rfl rfl ho45 rfl rfl rfl rfl rfl (Nat.le_of_ble_eq_true rfl) ?_
    exact H
  · have H := H.2 c
    exact r_vret dX11_line_79 rfl H
set_option maxRecDepth 100000 in
theorem bX11_line_72 {d : Nat} {Q : Option MV → MS → Prop} {x1 : Int32} {σ : MS}  (H : (((σ.1 45 0 31) = 0 → (R mj_OM d mX11_token (fun r σ' => R mj_OM (d + 1) mX11_line Q 96 [some (rV 45 0), some (iV x1), none, none, none] (r.toList ++ []) σ') 0 [some (rV 45 0), none] [] (uI σ 45 0 24 ((σ.1 45 0 24) ||| ((1 : Int32) <<< (x1 &&& 31)))))) ∧ (¬ (σ.1 45 0 31) = 0 → Q none σ))) : R mj_OM (d + 1) mX11_line Q 72 [some (rV 45 0), some (iV x1), none, none, none] [] σ := by
  refine r_aload_n dX11_line_72 rfl rfl ?_
  refine r_get (k := 45) (i := 0) (j := 31) (v := iV (σ.1 45 0 31)) rfl rfl ho45 rfl hX11 (by decide) rfl fX11_205 dX11_line_73 (fun _ => rfl) ?_
  refine r_if_eq (tgt := 80) dX11_line_76 (by decide) (fun c => ?_) (fun c => ?_)
  · have H := H.1 c
    refine r_aload_n dX11_line_80 rfl rfl ?_
    refine r_dup_r dX11_line_81 ?_
    refine r_get (k := 45) (i := 0) (j := 24) (v := iV (σ.1 45 0 24)) rfl rfl ho45 rfl hX11 (by decide) rfl fX11_228 dX11_line_82 (fun _ => rfl) ?_
    refine r_iconst (v := (1 : Int32)) dX11_line_85 rfl ?_
    refine r_iload_n dX11_line_86 rfl rfl ?_
    refine r_ishl dX11_line_87 ?_
    refine r_ior dX11_line_88 ?_
    refine r_putI (k := 45) (i := 0) (j := 24) (ty0 := tyX11) rfl rfl ho45 rfl hX11 (by decide) rfl fX11_228 dX11_line_89 rfl tyX11_ok nmX11 rfl rfl rfl ?_
    refine r_aload_n dX11_line_92 rfl rfl ?_
    refine r_callV (z := 1) (k := 45) (i := 0) (As := []) (st := []) kX11_token i_X11_token e_X11_token lX11_211 dX11_line_93 rfl rfl ho45 rfl rfl rfl rfl rfl (Nat.le_of_ble_eq_true rfl) ?_
    exact H
  · have H := H.2 c
    exact r_vret dX11_line_79 rfl H
set_option maxRecDepth 100000 in
theorem bX11_line_96 {d : Nat} {Q : Option MV → MS → Prop} {x1 : Int32} {σ : MS}  (H : ((x1 = 0 → (R mj_OM d mX11_fresher (fun r σ' => R mj_OM (d + 1) mX11_line Q 151 [some (rV 45 0), some (iV x1), none, none, none] (r.toList ++ [iV (7 : Int32)]) σ') 0 [some (rV 45 0), some (iV (0 : Int32))] [] σ)) ∧ (¬ x1 = 0 → ((x1 = 1 → (R mj_OM d mX11_lockLine (fun r σ' => R mj_OM (d + 1) mX11_line Q 240 [some (rV 45 0), some (iV x1), none, none, none] (r.toList ++ []) σ') 0 [some (rV 45 0), none] [] σ)) ∧ (¬ x1 = 1 → ((x1 = 2 → (R mj_OM d mX11_pipeLine (fun r σ' => R mj_OM (d + 1) mX11_line Q 247 [some (rV 45 0), some (iV x1), none, none, none] (r.toList ++ []) σ') 0 [some (rV 45 0), none, none] [] σ)) ∧ (¬ x1 = 2 → ((x1 = 3 → (R mj_OM d mX11_turnLine (fun r σ' => R mj_OM (d + 1) mX11_line Q 254 [some (rV 45 0), some (iV x1), none, none, none] (r.toList ++ []) σ') 0 [some (rV 45 0), none] [] σ)) ∧ (¬ x1 = 3 → ((x1 = 4 → (R mj_OM d mX11_fresher (fun r σ' => R mj_OM (d + 1) mX11_line Q 264 [some (rV 45 0), some (iV x1), none, none, none] (r.toList ++ [iV (8 : Int32)]) σ') 0 [some (rV 45 0), some (iV (4 : Int32))] [] σ)) ∧ (¬ x1 = 4 → ((x1 = 5 → (R mj_OM d mX11_pondAtHand (fun r σ' => R mj_OM (d + 1) mX11_line Q 338 [some (rV 45 0), some (iV x1), none, none, none] (r.toList ++ []) σ') 0 [some (rV 45 0), none] [] σ)) ∧ (¬ x1 = 5 → ((x1 = 6 → (R mj_OM d mX11_numeral (fun r σ' => R mj_OM (d + 1) mX11_line Q 415 [some (rV 45 0), some (iV x1), none, none, none] (r.toList ++ [iV (6 : Int32), rV 45 0]) σ') 0 [some (rV 45 0), some (iV (0 : Int32)), some (iV (100 : Int32)), none] [] σ)) ∧ (¬ x1 = 6 → ((x1 = 7 → (R mj_OM d mX11_numeral (fun r σ' => R mj_OM (d + 1) mX11_line Q 431 [some (rV 45 0), some (iV x1), none, none, none] (r.toList ++ [iV (7 : Int32), rV 45 0]) σ') 0 [some (rV 45 0), some (iV (0 : Int32)), some (iV (99999 : Int32)), none] [] σ)) ∧ (¬ x1 = 7 → (R mj_OM d mX11_lawLine (fun r σ' => R mj_OM (d + 1) mX11_line Q 441 [some (rV 45 0), some (iV x1), none, none, none] (r.toList ++ []) σ') 0 [some (rV 45 0), none] [] σ)))))))))))))))))) : R mj_OM (d + 1) mX11_line Q 96 [some (rV 45 0), some (iV x1), none, none, none] [] σ := by
  refine r_iload_n dX11_line_96 rfl rfl ?_
  by_cases c0 : x1 = 0
  · have H := H.1 c0
    refine r_tableIn (tgt := 144) (off := 47) dX11_line_97 (by rw [c0]; decide) (by rw [c0]; decide) (by rw [c0]; rfl) (by decide) ?_
    refine r_bipush (v := (7 : Int32)) dX11_line_144 rfl ?_
    refine r_aload_n dX11_line_146 rfl rfl ?_
    refine r_iconst (v := (0 : Int32)) dX11_line_147 rfl ?_
    refine r_callV (z := 0) (k := 45) (i := 0) (As := [iV (0 : Int32)]) (st := [iV (7 : Int32)]) kX11_fresher i_X11_fresher e_X11_fresher lX11_221 dX11_line_148 rfl rfl ho45 rfl rfl rfl rfl rfl (Nat.le_of_ble_eq_true rfl) ?_
    exact H
  replace H := H.2 c0
  by_cases c1 : x1 = 1
  · have H := H.1 c1
    refine r_tableIn (tgt := 236) (off := 139) dX11_line_97 (by rw [c1]; decide) (by rw [c1]; decide) (by rw [c1]; rfl) (by decide) ?_
    refine r_aload_n dX11_line_236 rfl rfl ?_
    refine r_callV (z := 1) (k := 45) (i := 0) (As := []) (st := []) kX11_lockLine i_X11_lockLine e_X11_lockLine lX11_243 dX11_line_237 rfl rfl ho45 rfl rfl rfl rfl rfl (Nat.le_of_ble_eq_true rfl) ?_
    exact H
  replace H := H.2 c1
  by_cases c2 : x1 = 2
  · have H := H.1 c2
    refine r_tableIn (tgt := 243) (off := 146) dX11_line_97 (by rw [c2]; decide) (by rw [c2]; decide) (by rw [c2]; rfl) (by decide) ?_
    refine r_aload_n dX11_line_243 rfl rfl ?_
    refine r_callV (z := 2) (k := 45) (i := 0) (As := []) (st := []) kX11_pipeLine i_X11_pipeLine e_X11_pipeLine lX11_246 dX11_line_244 rfl rfl ho45 rfl rfl rfl rfl rfl (Nat.le_of_ble_eq_true rfl) ?_
    exact H
  replace H := H.2 c2
  by_cases c3 : x1 = 3
  · have H := H.1 c3
    refine r_tableIn (tgt := 250) (off := 153) dX11_line_97 (by rw [c3]; decide) (by rw [c3]; decide) (by rw [c3]; rfl) (by decide) ?_
    refine r_aload_n dX11_line_250 rfl rfl ?_
    refine r_callV (z := 1) (k := 45) (i := 0) (As := []) (st := []) kX11_turnLine i_X11_turnLine e_X11_turnLine lX11_249 dX11_line_251 rfl rfl ho45 rfl rfl rfl rfl rfl (Nat.le_of_ble_eq_true rfl) ?_
    exact H
  replace H := H.2 c3
  by_cases c4 : x1 = 4
  · have H := H.1 c4
    refine r_tableIn (tgt := 257) (off := 160) dX11_line_97 (by rw [c4]; decide) (by rw [c4]; decide) (by rw [c4]; rfl) (by decide) ?_
    refine r_bipush (v := (8 : Int32)) dX11_line_257 rfl ?_
    refine r_aload_n dX11_line_259 rfl rfl ?_
    refine r_iconst (v := (4 : Int32)) dX11_line_260 rfl ?_
    refine r_callV (z := 0) (k := 45) (i := 0) (As := [iV (4 : Int32)]) (st := [iV (8 : Int32)]) kX11_fresher i_X11_fresher e_X11_fresher lX11_221 dX11_line_261 rfl rfl ho45 rfl rfl rfl rfl rfl (Nat.le_of_ble_eq_true rfl) ?_
    exact H
  replace H := H.2 c4
  by_cases c5 : x1 = 5
  · have H := H.1 c5
    refine r_tableIn (tgt := 334) (off := 237) dX11_line_97 (by rw [c5]; decide) (by rw [c5]; decide) (by rw [c5]; rfl) (by decide) ?_
    refine r_aload_n dX11_line_334 rfl rfl ?_
    refine r_callV (z := 1) (k := 45) (i := 0) (As := []) (st := []) kX11_pondAtHand i_X11_pondAtHand e_X11_pondAtHand lX11_252 dX11_line_335 rfl rfl ho45 rfl rfl rfl rfl rfl (Nat.le_of_ble_eq_true rfl) ?_
    exact H
  replace H := H.2 c5
  by_cases c6 : x1 = 6
  · have H := H.1 c6
    refine r_tableIn (tgt := 405) (off := 308) dX11_line_97 (by rw [c6]; decide) (by rw [c6]; decide) (by rw [c6]; rfl) (by decide) ?_
    refine r_aload_n dX11_line_405 rfl rfl ?_
    refine r_bipush (v := (6 : Int32)) dX11_line_406 rfl ?_
    refine r_aload_n dX11_line_408 rfl rfl ?_
    refine r_iconst (v := (0 : Int32)) dX11_line_409 rfl ?_
    refine r_bipush (v := (100 : Int32)) dX11_line_410 rfl ?_
    refine r_callV (z := 1) (k := 45) (i := 0) (As := [iV (0 : Int32), iV (100 : Int32)]) (st := [iV (6 : Int32), rV 45 0]) kX11_numeral i_X11_numeral e_X11_numeral lX11_235 dX11_line_412 rfl rfl ho45 rfl rfl rfl rfl rfl (Nat.le_of_ble_eq_true rfl) ?_
    exact H
  replace H := H.2 c6
  by_cases c7 : x1 = 7
  · have H := H.1 c7
    refine r_tableIn (tgt := 421) (off := 324) dX11_line_97 (by rw [c7]; decide) (by rw [c7]; decide) (by rw [c7]; rfl) (by decide) ?_
    refine r_aload_n dX11_line_421 rfl rfl ?_
    refine r_bipush (v := (7 : Int32)) dX11_line_422 rfl ?_
    refine r_aload_n dX11_line_424 rfl rfl ?_
    refine r_iconst (v := (0 : Int32)) dX11_line_425 rfl ?_
    refine r_ldc (v := (99999 : Int32)) oX11_189 dX11_line_426 ?_
    refine r_callV (z := 1) (k := 45) (i := 0) (As := [iV (0 : Int32), iV (99999 : Int32)]) (st := [iV (7 : Int32), rV 45 0]) kX11_numeral i_X11_numeral e_X11_numeral lX11_235 dX11_line_428 rfl rfl ho45 rfl rfl rfl rfl rfl (Nat.le_of_ble_eq_true rfl) ?_
    exact H
  replace H := H.2 c7
  refine r_tableOut (tgt := 437) dX11_line_97 (by have z0 := lv_neT c0 (show (0 : Int32).toInt = 0 by decide); have z1 := lv_neT c1 (show (1 : Int32).toInt = 1 by decide); have z2 := lv_neT c2 (show (2 : Int32).toInt = 2 by decide); have z3 := lv_neT c3 (show (3 : Int32).toInt = 3 by decide); have z4 := lv_neT c4 (show (4 : Int32).toInt = 4 by decide); have z5 := lv_neT c5 (show (5 : Int32).toInt = 5 by decide); have z6 := lv_neT c6 (show (6 : Int32).toInt = 6 by decide); have z7 := lv_neT c7 (show (7 : Int32).toInt = 7 by decide); omega) (by decide) ?_
  refine r_aload_n dX11_line_437 rfl rfl ?_
  refine r_callV (z := 1) (k := 45) (i := 0) (As := []) (st := []) kX11_lawLine i_X11_lawLine e_X11_lawLine lX11_261 dX11_line_438 rfl rfl ho45 rfl rfl rfl rfl rfl (Nat.le_of_ble_eq_true rfl) ?_
  exact H
set_option maxRecDepth 100000 in
theorem bX11_line_151 {d : Nat} {Q : Option MV → MS → Prop} {x1 : Int32} {s0 : Int32} {s1 : Int32} {σ : MS}  (H : (R mj_OM d mX11_fresher (fun r σ' => R mj_OM (d + 1) mX11_line Q 170 [some (rV 45 0), some (iV x1), some (iV (s1 + s0)), none, none] (r.toList ++ [iV (7 : Int32), rV 48 0, rV 45 0, iV (s1 + s0), rV 48 0]) σ') 0 [some (rV 45 0), some (iV (0 : Int32))] [] σ)) : R mj_OM (d + 1) mX11_line Q 151 [some (rV 45 0), some (iV x1), none, none, none] [iV s0, iV s1] σ := by
  refine r_iadd dX11_line_151 ?_
  refine r_istore_n dX11_line_152 rfl (by decide) rfl ?_
  refine r_aload_n dX11_line_153 rfl rfl ?_
  refine r_get (k := 45) (i := 0) (j := 4) (v := rV 48 0) rfl rfl ho45 rfl hX11 (by decide) rfl fX11_16 dX11_line_154 (fun _ => rfl) ?_
  refine r_iload_n dX11_line_157 rfl rfl ?_
  refine r_aload_n dX11_line_158 rfl rfl ?_
  refine r_aload_n dX11_line_159 rfl rfl ?_
  refine r_get (k := 45) (i := 0) (j := 4) (v := rV 48 0) rfl rfl ho45 rfl hX11 (by decide) rfl fX11_16 dX11_line_160 (fun _ => rfl) ?_
  refine r_bipush (v := (7 : Int32)) dX11_line_163 rfl ?_
  refine r_aload_n dX11_line_165 rfl rfl ?_
  refine r_iconst (v := (0 : Int32)) dX11_line_166 rfl ?_
  refine r_callV (z := 0) (k := 45) (i := 0) (As := [iV (0 : Int32)]) (st := [iV (7 : Int32), rV 48 0, rV 45 0, iV (s1 + s0), rV 48 0]) kX11_fresher i_X11_fresher e_X11_fresher lX11_221 dX11_line_167 rfl rfl ho45 rfl rfl rfl rfl rfl (Nat.le_of_ble_eq_true rfl) ?_
  exact H
set_option maxRecDepth 100000 in
theorem bX11_line_170 {d : Nat} {Q : Option MV → MS → Prop} {x1 : Int32} {x2 : Int32} {s0 : Int32} {s1 : Int32} {s4 : Int32} {σ : MS}  (H : (R mj_OM d mX11_fresh (fun r σ' => R mj_OM (d + 1) mX11_line Q 173 [some (rV 45 0), some (iV x1), some (iV x2), none, none] (r.toList ++ [iV s4, rV 48 0]) σ') 0 [some (rV 45 0), some (rV 48 0), some (iV s1), some (iV s0), none] [] σ)) : R mj_OM (d + 1) mX11_line Q 170 [some (rV 45 0), some (iV x1), some (iV x2), none, none] [iV s0, iV s1, rV 48 0, rV 45 0, iV s4, rV 48 0] σ := by
  refine r_callV (z := 1) (k := 45) (i := 0) (As := [rV 48 0, iV s1, iV s0]) (st := [iV s4, rV 48 0]) kX11_fresh i_X11_fresh e_X11_fresh lX11_231 dX11_line_170 rfl rfl ho45 rfl rfl rfl rfl rfl (Nat.le_of_ble_eq_true rfl) ?_
  exact H
set_option maxRecDepth 100000 in
theorem bX11_line_173 {d : Nat} {Q : Option MV → MS → Prop} {x1 : Int32} {x2 : Int32} {s0 : Int32} {s1 : Int32} {σ : MS}  (H : (vp_in s1 14 ∧ (R mj_OM d mX11_numeral (fun r σ' => R mj_OM (d + 1) mX11_line Q 186 [some (rV 45 0), some (iV x1), some (iV x2), none, none] (r.toList ++ [iV x2, rV 49 0]) σ') 0 [some (rV 45 0), some (iV (1 : Int32)), some (iV (20 : Int32)), none] [] (uI σ 48 0 ((s1).toNatClampNeg) s0)))) : R mj_OM (d + 1) mX11_line Q 173 [some (rV 45 0), some (iV x1), some (iV x2), none, none] [iV s0, iV s1, rV 48 0] σ := by
  obtain ⟨q1, H⟩ := H
  refine r_iast (k := 48) (i := 0) rfl ho48 q1 dX11_line_173 ?_
  refine r_aload_n dX11_line_174 rfl rfl ?_
  refine r_get (k := 45) (i := 0) (j := 5) (v := rV 49 0) rfl rfl ho45 rfl hX11 (by decide) rfl fX11_19 dX11_line_175 (fun _ => rfl) ?_
  refine r_iload_n dX11_line_178 rfl rfl ?_
  refine r_aload_n dX11_line_179 rfl rfl ?_
  refine r_iconst (v := (1 : Int32)) dX11_line_180 rfl ?_
  refine r_bipush (v := (20 : Int32)) dX11_line_181 rfl ?_
  refine r_callV (z := 1) (k := 45) (i := 0) (As := [iV (1 : Int32), iV (20 : Int32)]) (st := [iV x2, rV 49 0]) kX11_numeral i_X11_numeral e_X11_numeral lX11_235 dX11_line_183 rfl rfl ho45 rfl rfl rfl rfl rfl (Nat.le_of_ble_eq_true rfl) ?_
  exact H
set_option maxRecDepth 100000 in
theorem bX11_line_186 {d : Nat} {Q : Option MV → MS → Prop} {x1 : Int32} {x2 : Int32} {s0 : Int32} {s1 : Int32} {σ : MS}  (H : (vp_in s1 14 ∧ (R mj_OM d mX11_numeral (fun r σ' => R mj_OM (d + 1) mX11_line Q 199 [some (rV 45 0), some (iV x1), some (iV x2), none, none] (r.toList ++ [iV x2, rV 50 0]) σ') 0 [some (rV 45 0), some (iV (0 : Int32)), some (iV (99 : Int32)), none] [] (uI σ 49 0 ((s1).toNatClampNeg) s0)))) : R mj_OM (d + 1) mX11_line Q 186 [some (rV 45 0), some (iV x1), some (iV x2), none, none] [iV s0, iV s1, rV 49 0] σ := by
  obtain ⟨q1, H⟩ := H
  refine r_iast (k := 49) (i := 0) rfl ho49 q1 dX11_line_186 ?_
  refine r_aload_n dX11_line_187 rfl rfl ?_
  refine r_get (k := 45) (i := 0) (j := 6) (v := rV 50 0) rfl rfl ho45 rfl hX11 (by decide) rfl fX11_22 dX11_line_188 (fun _ => rfl) ?_
  refine r_iload_n dX11_line_191 rfl rfl ?_
  refine r_aload_n dX11_line_192 rfl rfl ?_
  refine r_iconst (v := (0 : Int32)) dX11_line_193 rfl ?_
  refine r_bipush (v := (99 : Int32)) dX11_line_194 rfl ?_
  refine r_callV (z := 1) (k := 45) (i := 0) (As := [iV (0 : Int32), iV (99 : Int32)]) (st := [iV x2, rV 50 0]) kX11_numeral i_X11_numeral e_X11_numeral lX11_235 dX11_line_196 rfl rfl ho45 rfl rfl rfl rfl rfl (Nat.le_of_ble_eq_true rfl) ?_
  exact H
set_option maxRecDepth 100000 in
theorem bX11_line_199 {d : Nat} {Q : Option MV → MS → Prop} {x1 : Int32} {x2 : Int32} {s0 : Int32} {s1 : Int32} {σ : MS}  (H : (vp_in s1 14 ∧ (R mj_OM d mX11_numeral (fun r σ' => R mj_OM (d + 1) mX11_line Q 213 [some (rV 45 0), some (iV x1), some (iV x2), none, none] (r.toList ++ [iV x2, rV 51 0]) σ') 0 [some (rV 45 0), some (iV (0 : Int32)), some (iV (999 : Int32)), none] [] (uI σ 50 0 ((s1).toNatClampNeg) s0)))) : R mj_OM (d + 1) mX11_line Q 199 [some (rV 45 0), some (iV x1), some (iV x2), none, none] [iV s0, iV s1, rV 50 0] σ := by
  obtain ⟨q1, H⟩ := H
  refine r_iast (k := 50) (i := 0) rfl ho50 q1 dX11_line_199 ?_
  refine r_aload_n dX11_line_200 rfl rfl ?_
  refine r_get (k := 45) (i := 0) (j := 7) (v := rV 51 0) rfl rfl ho45 rfl hX11 (by decide) rfl fX11_25 dX11_line_201 (fun _ => rfl) ?_
  refine r_iload_n dX11_line_204 rfl rfl ?_
  refine r_aload_n dX11_line_205 rfl rfl ?_
  refine r_iconst (v := (0 : Int32)) dX11_line_206 rfl ?_
  refine r_sipush (v := (999 : Int32)) dX11_line_207 rfl ?_
  refine r_callV (z := 1) (k := 45) (i := 0) (As := [iV (0 : Int32), iV (999 : Int32)]) (st := [iV x2, rV 51 0]) kX11_numeral i_X11_numeral e_X11_numeral lX11_235 dX11_line_210 rfl rfl ho45 rfl rfl rfl rfl rfl (Nat.le_of_ble_eq_true rfl) ?_
  exact H
set_option maxRecDepth 100000 in
theorem bX11_line_213 {d : Nat} {Q : Option MV → MS → Prop} {x1 : Int32} {x2 : Int32} {s0 : Int32} {s1 : Int32} {σ : MS}  (H : (vp_in s1 14 ∧ vp_in x2 14 ∧ (R mj_OM d mX11_fresher (fun r σ' => R mj_OM (d + 1) mX11_line Q 228 [some (rV 45 0), some (iV x1), some (iV x2), none, none] (r.toList ++ [iV (0 : Int32), rV 45 0]) σ') 0 [some (rV 45 0), some (iV (0 : Int32))] [] (uI (uI σ 51 0 ((s1).toNatClampNeg) s0) 52 0 ((x2).toNatClampNeg) (0 : Int32))))) : R mj_OM (d + 1) mX11_line Q 213 [some (rV 45 0), some (iV x1), some (iV x2), none, none] [iV s0, iV s1, rV 51 0] σ := by
  obtain ⟨q1, H⟩ := H
  refine r_iast (k := 51) (i := 0) rfl ho51 q1 dX11_line_213 ?_
  refine r_aload_n dX11_line_214 rfl rfl ?_
  refine r_get (k := 45) (i := 0) (j := 8) (v := rV 52 0) rfl rfl ho45 rfl hX11 (by decide) rfl fX11_28 dX11_line_215 (fun _ => rfl) ?_
  refine r_iload_n dX11_line_218 rfl rfl ?_
  refine r_iconst (v := (0 : Int32)) dX11_line_219 rfl ?_
  obtain ⟨q2, H⟩ := H
  refine r_iast (k := 52) (i := 0) rfl ho52 q2 dX11_line_220 ?_
  refine r_aload_n dX11_line_221 rfl rfl ?_
  refine r_iconst (v := (0 : Int32)) dX11_line_222 rfl ?_
  refine r_aload_n dX11_line_223 rfl rfl ?_
  refine r_iconst (v := (0 : Int32)) dX11_line_224 rfl ?_
  refine r_callV (z := 0) (k := 45) (i := 0) (As := [iV (0 : Int32)]) (st := [iV (0 : Int32), rV 45 0]) kX11_fresher i_X11_fresher e_X11_fresher lX11_221 dX11_line_225 rfl rfl ho45 rfl rfl rfl rfl rfl (Nat.le_of_ble_eq_true rfl) ?_
  exact H
set_option maxRecDepth 100000 in
theorem bX11_line_228 {d : Nat} {Q : Option MV → MS → Prop} {x1 : Int32} {x2 : Int32} {s0 : Int32} {s1 : Int32} {σ : MS}  (H : (R mj_OM d mX11_reads (fun r σ' => R mj_OM (d + 1) mX11_line Q 233 [some (rV 45 0), some (iV x1), some (iV x2), none, none] (r.toList ++ []) σ') 0 [some (rV 45 0), some (iV s1), some (iV (s0 + (1 : Int32)))] [] σ)) : R mj_OM (d + 1) mX11_line Q 228 [some (rV 45 0), some (iV x1), some (iV x2), none, none] [iV s0, iV s1, rV 45 0] σ := by
  refine r_iconst (v := (1 : Int32)) dX11_line_228 rfl ?_
  refine r_iadd dX11_line_229 ?_
  refine r_callV (z := 0) (k := 45) (i := 0) (As := [iV s1, iV (s0 + (1 : Int32))]) (st := []) kX11_reads i_X11_reads e_X11_reads lX11_239 dX11_line_230 rfl rfl ho45 rfl rfl rfl rfl rfl (Nat.le_of_ble_eq_true rfl) ?_
  exact H
set_option maxRecDepth 100000 in
theorem bX11_line_233 {d : Nat} {Q : Option MV → MS → Prop} {x1 : Int32} {x2 : Int32} {σ : MS}  (H : (((σ.1 45 0 31) = 0 → (R mj_OM d mX11_isSign (fun r σ' => R mj_OM (d + 1) mX11_line Q 455 [some (rV 45 0), some (iV x1), none, none, none] (r.toList ++ []) σ') 0 [some (rV 45 0), some (iV (59 : Int32))] [] σ)) ∧ (¬ (σ.1 45 0 31) = 0 → Q none σ))) : R mj_OM (d + 1) mX11_line Q 233 [some (rV 45 0), some (iV x1), some (iV x2), none, none] [] σ := by
  refine r_goto (tgt := 441) dX11_line_233 (by decide) ?_
  refine r_aload_n dX11_line_441 rfl rfl ?_
  refine r_get (k := 45) (i := 0) (j := 31) (v := iV (σ.1 45 0 31)) rfl rfl ho45 rfl hX11 (by decide) rfl fX11_205 dX11_line_442 (fun _ => rfl) ?_
  refine r_if_eq (tgt := 449) dX11_line_445 (by decide) (fun c => ?_) (fun c => ?_)
  · have H := H.1 c
    refine r_aload_n dX11_line_449 rfl rfl ?_
    refine r_bipush (v := (59 : Int32)) dX11_line_450 rfl ?_
    refine R.fw (ls' := [some (rV 45 0), some (iV x1), none, none, none]) ⟨rfl, ⟨rfl, trivial⟩⟩ ?_
    refine r_callV (z := 0) (k := 45) (i := 0) (As := [iV (59 : Int32)]) (st := []) kX11_isSign i_X11_isSign e_X11_isSign lX11_264 dX11_line_452 rfl rfl ho45 rfl rfl rfl rfl rfl (Nat.le_of_ble_eq_true rfl) ?_
    exact H
  · have H := H.2 c
    exact r_vret dX11_line_448 rfl H
set_option maxRecDepth 100000 in
theorem bX11_line_240 {d : Nat} {Q : Option MV → MS → Prop} {x1 : Int32} {σ : MS}  (H : (((σ.1 45 0 31) = 0 → (R mj_OM d mX11_isSign (fun r σ' => R mj_OM (d + 1) mX11_line Q 455 [some (rV 45 0), some (iV x1), none, none, none] (r.toList ++ []) σ') 0 [some (rV 45 0), some (iV (59 : Int32))] [] σ)) ∧ (¬ (σ.1 45 0 31) = 0 → Q none σ))) : R mj_OM (d + 1) mX11_line Q 240 [some (rV 45 0), some (iV x1), none, none, none] [] σ := by
  refine r_goto (tgt := 441) dX11_line_240 (by decide) ?_
  refine r_aload_n dX11_line_441 rfl rfl ?_
  refine r_get (k := 45) (i := 0) (j := 31) (v := iV (σ.1 45 0 31)) rfl rfl ho45 rfl hX11 (by decide) rfl fX11_205 dX11_line_442 (fun _ => rfl) ?_
  refine r_if_eq (tgt := 449) dX11_line_445 (by decide) (fun c => ?_) (fun c => ?_)
  · have H := H.1 c
    refine r_aload_n dX11_line_449 rfl rfl ?_
    refine r_bipush (v := (59 : Int32)) dX11_line_450 rfl ?_
    refine r_callV (z := 0) (k := 45) (i := 0) (As := [iV (59 : Int32)]) (st := []) kX11_isSign i_X11_isSign e_X11_isSign lX11_264 dX11_line_452 rfl rfl ho45 rfl rfl rfl rfl rfl (Nat.le_of_ble_eq_true rfl) ?_
    exact H
  · have H := H.2 c
    exact r_vret dX11_line_448 rfl H
set_option maxRecDepth 100000 in
theorem bX11_line_247 {d : Nat} {Q : Option MV → MS → Prop} {x1 : Int32} {σ : MS}  (H : (((σ.1 45 0 31) = 0 → (R mj_OM d mX11_isSign (fun r σ' => R mj_OM (d + 1) mX11_line Q 455 [some (rV 45 0), some (iV x1), none, none, none] (r.toList ++ []) σ') 0 [some (rV 45 0), some (iV (59 : Int32))] [] σ)) ∧ (¬ (σ.1 45 0 31) = 0 → Q none σ))) : R mj_OM (d + 1) mX11_line Q 247 [some (rV 45 0), some (iV x1), none, none, none] [] σ := by
  refine r_goto (tgt := 441) dX11_line_247 (by decide) ?_
  refine r_aload_n dX11_line_441 rfl rfl ?_
  refine r_get (k := 45) (i := 0) (j := 31) (v := iV (σ.1 45 0 31)) rfl rfl ho45 rfl hX11 (by decide) rfl fX11_205 dX11_line_442 (fun _ => rfl) ?_
  refine r_if_eq (tgt := 449) dX11_line_445 (by decide) (fun c => ?_) (fun c => ?_)
  · have H := H.1 c
    refine r_aload_n dX11_line_449 rfl rfl ?_
    refine r_bipush (v := (59 : Int32)) dX11_line_450 rfl ?_
    refine r_callV (z := 0) (k := 45) (i := 0) (As := [iV (59 : Int32)]) (st := []) kX11_isSign i_X11_isSign e_X11_isSign lX11_264 dX11_line_452 rfl rfl ho45 rfl rfl rfl rfl rfl (Nat.le_of_ble_eq_true rfl) ?_
    exact H
  · have H := H.2 c
    exact r_vret dX11_line_448 rfl H
set_option maxRecDepth 100000 in
theorem bX11_line_254 {d : Nat} {Q : Option MV → MS → Prop} {x1 : Int32} {σ : MS}  (H : (((σ.1 45 0 31) = 0 → (R mj_OM d mX11_isSign (fun r σ' => R mj_OM (d + 1) mX11_line Q 455 [some (rV 45 0), some (iV x1), none, none, none] (r.toList ++ []) σ') 0 [some (rV 45 0), some (iV (59 : Int32))] [] σ)) ∧ (¬ (σ.1 45 0 31) = 0 → Q none σ))) : R mj_OM (d + 1) mX11_line Q 254 [some (rV 45 0), some (iV x1), none, none, none] [] σ := by
  refine r_goto (tgt := 441) dX11_line_254 (by decide) ?_
  refine r_aload_n dX11_line_441 rfl rfl ?_
  refine r_get (k := 45) (i := 0) (j := 31) (v := iV (σ.1 45 0 31)) rfl rfl ho45 rfl hX11 (by decide) rfl fX11_205 dX11_line_442 (fun _ => rfl) ?_
  refine r_if_eq (tgt := 449) dX11_line_445 (by decide) (fun c => ?_) (fun c => ?_)
  · have H := H.1 c
    refine r_aload_n dX11_line_449 rfl rfl ?_
    refine r_bipush (v := (59 : Int32)) dX11_line_450 rfl ?_
    refine r_callV (z := 0) (k := 45) (i := 0) (As := [iV (59 : Int32)]) (st := []) kX11_isSign i_X11_isSign e_X11_isSign lX11_264 dX11_line_452 rfl rfl ho45 rfl rfl rfl rfl rfl (Nat.le_of_ble_eq_true rfl) ?_
    exact H
  · have H := H.2 c
    exact r_vret dX11_line_448 rfl H
set_option maxRecDepth 100000 in
theorem bX11_line_264 {d : Nat} {Q : Option MV → MS → Prop} {x1 : Int32} {s0 : Int32} {s1 : Int32} {σ : MS}  (H : (R mj_OM d mX11_pondAtHand (fun r σ' => R mj_OM (d + 1) mX11_line Q 276 [some (rV 45 0), some (iV x1), none, some (iV (s1 + s0)), none] (r.toList ++ [rV 45 0, iV (s1 + s0), rV 62 0]) σ') 0 [some (rV 45 0), none] [] σ)) : R mj_OM (d + 1) mX11_line Q 264 [some (rV 45 0), some (iV x1), none, none, none] [iV s0, iV s1] σ := by
  refine r_iadd dX11_line_264 ?_
  refine r_istore_n dX11_line_265 rfl (by decide) rfl ?_
  refine r_aload_n dX11_line_266 rfl rfl ?_
  refine r_get (k := 45) (i := 0) (j := 18) (v := rV 62 0) rfl rfl ho45 rfl hX11 (by decide) rfl fX11_58 dX11_line_267 (fun _ => rfl) ?_
  refine r_iload_n dX11_line_270 rfl rfl ?_
  refine r_aload_n dX11_line_271 rfl rfl ?_
  refine r_aload_n dX11_line_272 rfl rfl ?_
  refine r_callV (z := 1) (k := 45) (i := 0) (As := []) (st := [rV 45 0, iV (s1 + s0), rV 62 0]) kX11_pondAtHand i_X11_pondAtHand e_X11_pondAtHand lX11_252 dX11_line_273 rfl rfl ho45 rfl rfl rfl rfl rfl (Nat.le_of_ble_eq_true rfl) ?_
  exact H
set_option maxRecDepth 100000 in
theorem bX11_line_276 {d : Nat} {Q : Option MV → MS → Prop} {x1 : Int32} {x3 : Int32} {s0 : Int32} {s2 : Int32} {σ : MS}  (H : (R mj_OM d mX11_lockWith (fun r σ' => R mj_OM (d + 1) mX11_line Q 279 [some (rV 45 0), some (iV x1), none, some (iV x3), none] (r.toList ++ [iV s2, rV 62 0]) σ') 0 [some (rV 45 0), some (iV s0), none] [] σ)) : R mj_OM (d + 1) mX11_line Q 276 [some (rV 45 0), some (iV x1), none, some (iV x3), none] [iV s0, rV 45 0, iV s2, rV 62 0] σ := by
  refine r_callV (z := 1) (k := 45) (i := 0) (As := [iV s0]) (st := [iV s2, rV 62 0]) kX11_lockWith i_X11_lockWith e_X11_lockWith lX11_255 dX11_line_276 rfl rfl ho45 rfl rfl rfl rfl rfl (Nat.le_of_ble_eq_true rfl) ?_
  exact H
set_option maxRecDepth 100000 in
theorem bX11_line_279 {d : Nat} {Q : Option MV → MS → Prop} {x1 : Int32} {x3 : Int32} {s0 : Int32} {s1 : Int32} {σ : MS}  (H : (vp_in s1 16 ∧ ((¬ (σ.1 45 0 31) = 0 → (R mj_OM d mX11_goOn (fun r σ' => R mj_OM (d + 1) mX11_line Q 306 [some (rV 45 0), some (iV x1), none, some (iV x3), none] (r.toList ++ []) σ') 0 [some (rV 45 0)] [] (uI σ 62 0 ((s1).toNatClampNeg) s0))) ∧ ((σ.1 45 0 31) = 0 → (vp_in x3 16 ∧ ((¬ ((uI σ 62 0 ((s1).toNatClampNeg) s0).1 62 0 ((x3).toNatClampNeg)) = (-1 : Int32) → (R mj_OM d mX11_goOn (fun r σ' => R mj_OM (d + 1) mX11_line Q 306 [some (rV 45 0), some (iV x1), none, some (iV x3), none] (r.toList ++ []) σ') 0 [some (rV 45 0)] [] (uI σ 62 0 ((s1).toNatClampNeg) s0))) ∧ (((uI σ 62 0 ((s1).toNatClampNeg) s0).1 62 0 ((x3).toNatClampNeg)) = (-1 : Int32) → (R mj_OM d mX11_wrong (fun r σ' => R mj_OM (d + 1) mX11_line Q 302 [some (rV 45 0), some (iV x1), none, some (iV x3), none] (r.toList ++ []) σ') 0 [some (rV 45 0), some (iV (4 : Int32))] [] (uI σ 62 0 ((s1).toNatClampNeg) s0))))))))) : R mj_OM (d + 1) mX11_line Q 279 [some (rV 45 0), some (iV x1), none, some (iV x3), none] [iV s0, iV s1, rV 62 0] σ := by
  obtain ⟨q1, H⟩ := H
  refine r_iast (k := 62) (i := 0) rfl ho62 q1 dX11_line_279 ?_
  refine r_aload_n dX11_line_280 rfl rfl ?_
  refine r_get (k := 45) (i := 0) (j := 31) (v := iV (σ.1 45 0 31)) rfl rfl ho45 rfl hX11 (by decide) rfl fX11_205 dX11_line_281 (fun _ => rfl) ?_
  refine r_if_ne (tgt := 302) dX11_line_284 (by decide) (fun c => ?_) (fun c => ?_)
  · have H := H.1 c
    refine r_aload_n dX11_line_302 rfl rfl ?_
    refine r_callV (z := 0) (k := 45) (i := 0) (As := []) (st := []) kX11_goOn i_X11_goOn e_X11_goOn lX11_258 dX11_line_303 rfl rfl ho45 rfl rfl rfl rfl rfl (Nat.le_of_ble_eq_true rfl) ?_
    exact H
  · have H := H.2 c
    refine r_aload_n dX11_line_287 rfl rfl ?_
    refine r_get (k := 45) (i := 0) (j := 18) (v := rV 62 0) rfl rfl ho45 rfl hX11 (by decide) rfl fX11_58 dX11_line_288 (fun _ => rfl) ?_
    refine r_iload_n dX11_line_291 rfl rfl ?_
    obtain ⟨q2, H⟩ := H
    refine r_iald (k := 62) (i := 0) rfl ho62 q2 dX11_line_292 ?_
    refine r_iconst (v := (-1 : Int32)) dX11_line_293 rfl ?_
    refine r_icmp_ne (tgt := 302) dX11_line_294 (by decide) (fun c => ?_) (fun c => ?_)
    · have H := H.1 c
      refine r_aload_n dX11_line_302 rfl rfl ?_
      refine r_callV (z := 0) (k := 45) (i := 0) (As := []) (st := []) kX11_goOn i_X11_goOn e_X11_goOn lX11_258 dX11_line_303 rfl rfl ho45 rfl rfl rfl rfl rfl (Nat.le_of_ble_eq_true rfl) ?_
      exact H
    · have H := H.2 c
      refine r_aload_n dX11_line_297 rfl rfl ?_
      refine r_iconst (v := (4 : Int32)) dX11_line_298 rfl ?_
      refine r_callV (z := 0) (k := 45) (i := 0) (As := [iV (4 : Int32)]) (st := []) kX11_wrong i_X11_wrong e_X11_wrong lX11_214 dX11_line_299 rfl rfl ho45 rfl rfl rfl rfl rfl (Nat.le_of_ble_eq_true rfl) ?_
      exact H
set_option maxRecDepth 100000 in
theorem bX11_line_302 {d : Nat} {Q : Option MV → MS → Prop} {x1 : Int32} {x3 : Int32} {σ : MS}  (H : (R mj_OM d mX11_goOn (fun r σ' => R mj_OM (d + 1) mX11_line Q 306 [some (rV 45 0), some (iV x1), none, some (iV x3), none] (r.toList ++ []) σ') 0 [some (rV 45 0)] [] σ)) : R mj_OM (d + 1) mX11_line Q 302 [some (rV 45 0), some (iV x1), none, some (iV x3), none] [] σ := by
  refine r_aload_n dX11_line_302 rfl rfl ?_
  refine r_callV (z := 0) (k := 45) (i := 0) (As := []) (st := []) kX11_goOn i_X11_goOn e_X11_goOn lX11_258 dX11_line_303 rfl rfl ho45 rfl rfl rfl rfl rfl (Nat.le_of_ble_eq_true rfl) ?_
  exact H
set_option maxRecDepth 100000 in
theorem bX11_line_306 {d : Nat} {Q : Option MV → MS → Prop} {x1 : Int32} {x3 : Int32} {σ : MS}  (H : (R mj_OM d mX11_numeral (fun r σ' => R mj_OM (d + 1) mX11_line Q 318 [some (rV 45 0), some (iV x1), none, some (iV x3), none] (r.toList ++ [iV x3, rV 63 0]) σ') 0 [some (rV 45 0), some (iV (0 : Int32)), some (iV (99 : Int32)), none] [] σ)) : R mj_OM (d + 1) mX11_line Q 306 [some (rV 45 0), some (iV x1), none, some (iV x3), none] [] σ := by
  refine r_aload_n dX11_line_306 rfl rfl ?_
  refine r_get (k := 45) (i := 0) (j := 19) (v := rV 63 0) rfl rfl ho45 rfl hX11 (by decide) rfl fX11_61 dX11_line_307 (fun _ => rfl) ?_
  refine r_iload_n dX11_line_310 rfl rfl ?_
  refine r_aload_n dX11_line_311 rfl rfl ?_
  refine r_iconst (v := (0 : Int32)) dX11_line_312 rfl ?_
  refine r_bipush (v := (99 : Int32)) dX11_line_313 rfl ?_
  refine r_callV (z := 1) (k := 45) (i := 0) (As := [iV (0 : Int32), iV (99 : Int32)]) (st := [iV x3, rV 63 0]) kX11_numeral i_X11_numeral e_X11_numeral lX11_235 dX11_line_315 rfl rfl ho45 rfl rfl rfl rfl rfl (Nat.le_of_ble_eq_true rfl) ?_
  exact H
set_option maxRecDepth 100000 in
theorem bX11_line_318 {d : Nat} {Q : Option MV → MS → Prop} {x1 : Int32} {x3 : Int32} {s0 : Int32} {s1 : Int32} {σ : MS}  (H : (vp_in s1 16 ∧ (R mj_OM d mX11_fresher (fun r σ' => R mj_OM (d + 1) mX11_line Q 326 [some (rV 45 0), some (iV x1), none, some (iV x3), none] (r.toList ++ [iV (4 : Int32), rV 45 0]) σ') 0 [some (rV 45 0), some (iV (4 : Int32))] [] (uI σ 63 0 ((s1).toNatClampNeg) s0)))) : R mj_OM (d + 1) mX11_line Q 318 [some (rV 45 0), some (iV x1), none, some (iV x3), none] [iV s0, iV s1, rV 63 0] σ := by
  obtain ⟨q1, H⟩ := H
  refine r_iast (k := 63) (i := 0) rfl ho63 q1 dX11_line_318 ?_
  refine r_aload_n dX11_line_319 rfl rfl ?_
  refine r_iconst (v := (4 : Int32)) dX11_line_320 rfl ?_
  refine r_aload_n dX11_line_321 rfl rfl ?_
  refine r_iconst (v := (4 : Int32)) dX11_line_322 rfl ?_
  refine r_callV (z := 0) (k := 45) (i := 0) (As := [iV (4 : Int32)]) (st := [iV (4 : Int32), rV 45 0]) kX11_fresher i_X11_fresher e_X11_fresher lX11_221 dX11_line_323 rfl rfl ho45 rfl rfl rfl rfl rfl (Nat.le_of_ble_eq_true rfl) ?_
  exact H
set_option maxRecDepth 100000 in
theorem bX11_line_326 {d : Nat} {Q : Option MV → MS → Prop} {x1 : Int32} {x3 : Int32} {s0 : Int32} {s1 : Int32} {σ : MS}  (H : (R mj_OM d mX11_reads (fun r σ' => R mj_OM (d + 1) mX11_line Q 331 [some (rV 45 0), some (iV x1), none, some (iV x3), none] (r.toList ++ []) σ') 0 [some (rV 45 0), some (iV s1), some (iV (s0 + (1 : Int32)))] [] σ)) : R mj_OM (d + 1) mX11_line Q 326 [some (rV 45 0), some (iV x1), none, some (iV x3), none] [iV s0, iV s1, rV 45 0] σ := by
  refine r_iconst (v := (1 : Int32)) dX11_line_326 rfl ?_
  refine r_iadd dX11_line_327 ?_
  refine r_callV (z := 0) (k := 45) (i := 0) (As := [iV s1, iV (s0 + (1 : Int32))]) (st := []) kX11_reads i_X11_reads e_X11_reads lX11_239 dX11_line_328 rfl rfl ho45 rfl rfl rfl rfl rfl (Nat.le_of_ble_eq_true rfl) ?_
  exact H
set_option maxRecDepth 100000 in
theorem bX11_line_331 {d : Nat} {Q : Option MV → MS → Prop} {x1 : Int32} {x3 : Int32} {σ : MS}  (H : (((σ.1 45 0 31) = 0 → (R mj_OM d mX11_isSign (fun r σ' => R mj_OM (d + 1) mX11_line Q 455 [some (rV 45 0), some (iV x1), none, none, none] (r.toList ++ []) σ') 0 [some (rV 45 0), some (iV (59 : Int32))] [] σ)) ∧ (¬ (σ.1 45 0 31) = 0 → Q none σ))) : R mj_OM (d + 1) mX11_line Q 331 [some (rV 45 0), some (iV x1), none, some (iV x3), none] [] σ := by
  refine r_goto (tgt := 441) dX11_line_331 (by decide) ?_
  refine r_aload_n dX11_line_441 rfl rfl ?_
  refine r_get (k := 45) (i := 0) (j := 31) (v := iV (σ.1 45 0 31)) rfl rfl ho45 rfl hX11 (by decide) rfl fX11_205 dX11_line_442 (fun _ => rfl) ?_
  refine r_if_eq (tgt := 449) dX11_line_445 (by decide) (fun c => ?_) (fun c => ?_)
  · have H := H.1 c
    refine r_aload_n dX11_line_449 rfl rfl ?_
    refine r_bipush (v := (59 : Int32)) dX11_line_450 rfl ?_
    refine R.fw (ls' := [some (rV 45 0), some (iV x1), none, none, none]) ⟨rfl, ⟨rfl, trivial⟩⟩ ?_
    refine r_callV (z := 0) (k := 45) (i := 0) (As := [iV (59 : Int32)]) (st := []) kX11_isSign i_X11_isSign e_X11_isSign lX11_264 dX11_line_452 rfl rfl ho45 rfl rfl rfl rfl rfl (Nat.le_of_ble_eq_true rfl) ?_
    exact H
  · have H := H.2 c
    exact r_vret dX11_line_448 rfl H
set_option maxRecDepth 100000 in
theorem bX11_line_338 {d : Nat} {Q : Option MV → MS → Prop} {x1 : Int32} {s0 : Int32} {σ : MS}  (H : ((¬ (σ.1 45 0 31) = 0 → (R mj_OM d mX11_goOn (fun r σ' => R mj_OM (d + 1) mX11_line Q 370 [some (rV 45 0), some (iV x1), none, none, some (iV s0)] (r.toList ++ []) σ') 0 [some (rV 45 0)] [] σ)) ∧ ((σ.1 45 0 31) = 0 → (R mj_OM d mX11_fresher (fun r σ' => R mj_OM (d + 1) mX11_line Q 352 [some (rV 45 0), some (iV x1), none, none, some (iV s0)] (r.toList ++ []) σ') 0 [some (rV 45 0), some (iV (5 : Int32))] [] σ)))) : R mj_OM (d + 1) mX11_line Q 338 [some (rV 45 0), some (iV x1), none, none, none] [iV s0] σ := by
  refine r_istore dX11_line_338 (by decide) rfl ?_
  refine r_aload_n dX11_line_340 rfl rfl ?_
  refine r_get (k := 45) (i := 0) (j := 31) (v := iV (σ.1 45 0 31)) rfl rfl ho45 rfl hX11 (by decide) rfl fX11_205 dX11_line_341 (fun _ => rfl) ?_
  refine r_if_ne (tgt := 366) dX11_line_344 (by decide) (fun c => ?_) (fun c => ?_)
  · have H := H.1 c
    refine r_aload_n dX11_line_366 rfl rfl ?_
    refine r_callV (z := 0) (k := 45) (i := 0) (As := []) (st := []) kX11_goOn i_X11_goOn e_X11_goOn lX11_258 dX11_line_367 rfl rfl ho45 rfl rfl rfl rfl rfl (Nat.le_of_ble_eq_true rfl) ?_
    exact H
  · have H := H.2 c
    refine r_aload_n dX11_line_347 rfl rfl ?_
    refine r_iconst (v := (5 : Int32)) dX11_line_348 rfl ?_
    refine r_callV (z := 0) (k := 45) (i := 0) (As := [iV (5 : Int32)]) (st := []) kX11_fresher i_X11_fresher e_X11_fresher lX11_221 dX11_line_349 rfl rfl ho45 rfl rfl rfl rfl rfl (Nat.le_of_ble_eq_true rfl) ?_
    exact H
set_option maxRecDepth 100000 in
theorem bX11_line_352 {d : Nat} {Q : Option MV → MS → Prop} {x1 : Int32} {x4 : Int32} {s0 : Int32} {σ : MS}  (H : ((¬ ((s0 >>> (x4 &&& 31)) &&& (1 : Int32)) = (1 : Int32) → (R mj_OM d mX11_goOn (fun r σ' => R mj_OM (d + 1) mX11_line Q 370 [some (rV 45 0), some (iV x1), none, none, some (iV x4)] (r.toList ++ []) σ') 0 [some (rV 45 0)] [] σ)) ∧ (((s0 >>> (x4 &&& 31)) &&& (1 : Int32)) = (1 : Int32) → (R mj_OM d mX11_wrong (fun r σ' => R mj_OM (d + 1) mX11_line Q 366 [some (rV 45 0), some (iV x1), none, none, some (iV x4)] (r.toList ++ []) σ') 0 [some (rV 45 0), some (iV (3 : Int32))] [] σ)))) : R mj_OM (d + 1) mX11_line Q 352 [some (rV 45 0), some (iV x1), none, none, some (iV x4)] [iV s0] σ := by
  refine r_iload dX11_line_352 rfl ?_
  refine r_ishr dX11_line_354 ?_
  refine r_iconst (v := (1 : Int32)) dX11_line_355 rfl ?_
  refine r_iand dX11_line_356 ?_
  refine r_iconst (v := (1 : Int32)) dX11_line_357 rfl ?_
  refine r_icmp_ne (tgt := 366) dX11_line_358 (by decide) (fun c => ?_) (fun c => ?_)
  · have H := H.1 c
    refine r_aload_n dX11_line_366 rfl rfl ?_
    refine r_callV (z := 0) (k := 45) (i := 0) (As := []) (st := []) kX11_goOn i_X11_goOn e_X11_goOn lX11_258 dX11_line_367 rfl rfl ho45 rfl rfl rfl rfl rfl (Nat.le_of_ble_eq_true rfl) ?_
    exact H
  · have H := H.2 c
    refine r_aload_n dX11_line_361 rfl rfl ?_
    refine r_iconst (v := (3 : Int32)) dX11_line_362 rfl ?_
    refine r_callV (z := 0) (k := 45) (i := 0) (As := [iV (3 : Int32)]) (st := []) kX11_wrong i_X11_wrong e_X11_wrong lX11_214 dX11_line_363 rfl rfl ho45 rfl rfl rfl rfl rfl (Nat.le_of_ble_eq_true rfl) ?_
    exact H
set_option maxRecDepth 100000 in
theorem bX11_line_366 {d : Nat} {Q : Option MV → MS → Prop} {x1 : Int32} {x4 : Int32} {σ : MS}  (H : (R mj_OM d mX11_goOn (fun r σ' => R mj_OM (d + 1) mX11_line Q 370 [some (rV 45 0), some (iV x1), none, none, some (iV x4)] (r.toList ++ []) σ') 0 [some (rV 45 0)] [] σ)) : R mj_OM (d + 1) mX11_line Q 366 [some (rV 45 0), some (iV x1), none, none, some (iV x4)] [] σ := by
  refine r_aload_n dX11_line_366 rfl rfl ?_
  refine r_callV (z := 0) (k := 45) (i := 0) (As := []) (st := []) kX11_goOn i_X11_goOn e_X11_goOn lX11_258 dX11_line_367 rfl rfl ho45 rfl rfl rfl rfl rfl (Nat.le_of_ble_eq_true rfl) ?_
  exact H
set_option maxRecDepth 100000 in
theorem bX11_line_370 {d : Nat} {Q : Option MV → MS → Prop} {x1 : Int32} {x4 : Int32} {σ : MS}  (H : (R mj_OM d mX11_numeral (fun r σ' => R mj_OM (d + 1) mX11_line Q 386 [some (rV 45 0), some (iV x1), none, none, some (iV x4)] (r.toList ++ [iV ((7 : Int32) + x4), rV 52 0]) σ') 0 [some (rV 45 0), some (iV (0 : Int32)), some (iV (9 : Int32)), none] [] σ)) : R mj_OM (d + 1) mX11_line Q 370 [some (rV 45 0), some (iV x1), none, none, some (iV x4)] [] σ := by
  refine r_aload_n dX11_line_370 rfl rfl ?_
  refine r_get (k := 45) (i := 0) (j := 8) (v := rV 52 0) rfl rfl ho45 rfl hX11 (by decide) rfl fX11_28 dX11_line_371 (fun _ => rfl) ?_
  refine r_bipush (v := (7 : Int32)) dX11_line_374 rfl ?_
  refine r_iload dX11_line_376 rfl ?_
  refine r_iadd dX11_line_378 ?_
  refine r_aload_n dX11_line_379 rfl rfl ?_
  refine r_iconst (v := (0 : Int32)) dX11_line_380 rfl ?_
  refine r_bipush (v := (9 : Int32)) dX11_line_381 rfl ?_
  refine r_callV (z := 1) (k := 45) (i := 0) (As := [iV (0 : Int32), iV (9 : Int32)]) (st := [iV ((7 : Int32) + x4), rV 52 0]) kX11_numeral i_X11_numeral e_X11_numeral lX11_235 dX11_line_383 rfl rfl ho45 rfl rfl rfl rfl rfl (Nat.le_of_ble_eq_true rfl) ?_
  exact H
set_option maxRecDepth 100000 in
theorem bX11_line_386 {d : Nat} {Q : Option MV → MS → Prop} {x1 : Int32} {x4 : Int32} {s0 : Int32} {s1 : Int32} {σ : MS}  (H : (vp_in s1 14 ∧ (R mj_OM d mX11_fresher (fun r σ' => R mj_OM (d + 1) mX11_line Q 394 [some (rV 45 0), some (iV x1), none, none, some (iV x4)] (r.toList ++ [iV (5 : Int32), rV 45 0]) σ') 0 [some (rV 45 0), some (iV (5 : Int32))] [] (uI σ 52 0 ((s1).toNatClampNeg) s0)))) : R mj_OM (d + 1) mX11_line Q 386 [some (rV 45 0), some (iV x1), none, none, some (iV x4)] [iV s0, iV s1, rV 52 0] σ := by
  obtain ⟨q1, H⟩ := H
  refine r_iast (k := 52) (i := 0) rfl ho52 q1 dX11_line_386 ?_
  refine r_aload_n dX11_line_387 rfl rfl ?_
  refine r_iconst (v := (5 : Int32)) dX11_line_388 rfl ?_
  refine r_aload_n dX11_line_389 rfl rfl ?_
  refine r_iconst (v := (5 : Int32)) dX11_line_390 rfl ?_
  refine r_callV (z := 0) (k := 45) (i := 0) (As := [iV (5 : Int32)]) (st := [iV (5 : Int32), rV 45 0]) kX11_fresher i_X11_fresher e_X11_fresher lX11_221 dX11_line_391 rfl rfl ho45 rfl rfl rfl rfl rfl (Nat.le_of_ble_eq_true rfl) ?_
  exact H
set_option maxRecDepth 100000 in
theorem bX11_line_394 {d : Nat} {Q : Option MV → MS → Prop} {x1 : Int32} {x4 : Int32} {s0 : Int32} {s1 : Int32} {σ : MS}  (H : (R mj_OM d mX11_reads (fun r σ' => R mj_OM (d + 1) mX11_line Q 402 [some (rV 45 0), some (iV x1), none, none, some (iV x4)] (r.toList ++ []) σ') 0 [some (rV 45 0), some (iV s1), some (iV (s0 ||| ((1 : Int32) <<< (x4 &&& 31))))] [] σ)) : R mj_OM (d + 1) mX11_line Q 394 [some (rV 45 0), some (iV x1), none, none, some (iV x4)] [iV s0, iV s1, rV 45 0] σ := by
  refine r_iconst (v := (1 : Int32)) dX11_line_394 rfl ?_
  refine r_iload dX11_line_395 rfl ?_
  refine r_ishl dX11_line_397 ?_
  refine r_ior dX11_line_398 ?_
  refine r_callV (z := 0) (k := 45) (i := 0) (As := [iV s1, iV (s0 ||| ((1 : Int32) <<< (x4 &&& 31)))]) (st := []) kX11_reads i_X11_reads e_X11_reads lX11_239 dX11_line_399 rfl rfl ho45 rfl rfl rfl rfl rfl (Nat.le_of_ble_eq_true rfl) ?_
  exact H
set_option maxRecDepth 100000 in
theorem bX11_line_402 {d : Nat} {Q : Option MV → MS → Prop} {x1 : Int32} {x4 : Int32} {σ : MS}  (H : (((σ.1 45 0 31) = 0 → (R mj_OM d mX11_isSign (fun r σ' => R mj_OM (d + 1) mX11_line Q 455 [some (rV 45 0), some (iV x1), none, none, none] (r.toList ++ []) σ') 0 [some (rV 45 0), some (iV (59 : Int32))] [] σ)) ∧ (¬ (σ.1 45 0 31) = 0 → Q none σ))) : R mj_OM (d + 1) mX11_line Q 402 [some (rV 45 0), some (iV x1), none, none, some (iV x4)] [] σ := by
  refine r_goto (tgt := 441) dX11_line_402 (by decide) ?_
  refine r_aload_n dX11_line_441 rfl rfl ?_
  refine r_get (k := 45) (i := 0) (j := 31) (v := iV (σ.1 45 0 31)) rfl rfl ho45 rfl hX11 (by decide) rfl fX11_205 dX11_line_442 (fun _ => rfl) ?_
  refine r_if_eq (tgt := 449) dX11_line_445 (by decide) (fun c => ?_) (fun c => ?_)
  · have H := H.1 c
    refine r_aload_n dX11_line_449 rfl rfl ?_
    refine r_bipush (v := (59 : Int32)) dX11_line_450 rfl ?_
    refine R.fw (ls' := [some (rV 45 0), some (iV x1), none, none, none]) ⟨rfl, ⟨rfl, trivial⟩⟩ ?_
    refine r_callV (z := 0) (k := 45) (i := 0) (As := [iV (59 : Int32)]) (st := []) kX11_isSign i_X11_isSign e_X11_isSign lX11_264 dX11_line_452 rfl rfl ho45 rfl rfl rfl rfl rfl (Nat.le_of_ble_eq_true rfl) ?_
    exact H
  · have H := H.2 c
    exact r_vret dX11_line_448 rfl H
set_option maxRecDepth 100000 in
theorem bX11_line_415 {d : Nat} {Q : Option MV → MS → Prop} {x1 : Int32} {s0 : Int32} {s1 : Int32} {σ : MS}  (H : (R mj_OM d mX11_reads (fun r σ' => R mj_OM (d + 1) mX11_line Q 418 [some (rV 45 0), some (iV x1), none, none, none] (r.toList ++ []) σ') 0 [some (rV 45 0), some (iV s1), some (iV s0)] [] σ)) : R mj_OM (d + 1) mX11_line Q 415 [some (rV 45 0), some (iV x1), none, none, none] [iV s0, iV s1, rV 45 0] σ := by
  refine r_callV (z := 0) (k := 45) (i := 0) (As := [iV s1, iV s0]) (st := []) kX11_reads i_X11_reads e_X11_reads lX11_239 dX11_line_415 rfl rfl ho45 rfl rfl rfl rfl rfl (Nat.le_of_ble_eq_true rfl) ?_
  exact H
set_option maxRecDepth 100000 in
theorem bX11_line_418 {d : Nat} {Q : Option MV → MS → Prop} {x1 : Int32} {σ : MS}  (H : (((σ.1 45 0 31) = 0 → (R mj_OM d mX11_isSign (fun r σ' => R mj_OM (d + 1) mX11_line Q 455 [some (rV 45 0), some (iV x1), none, none, none] (r.toList ++ []) σ') 0 [some (rV 45 0), some (iV (59 : Int32))] [] σ)) ∧ (¬ (σ.1 45 0 31) = 0 → Q none σ))) : R mj_OM (d + 1) mX11_line Q 418 [some (rV 45 0), some (iV x1), none, none, none] [] σ := by
  refine r_goto (tgt := 441) dX11_line_418 (by decide) ?_
  refine r_aload_n dX11_line_441 rfl rfl ?_
  refine r_get (k := 45) (i := 0) (j := 31) (v := iV (σ.1 45 0 31)) rfl rfl ho45 rfl hX11 (by decide) rfl fX11_205 dX11_line_442 (fun _ => rfl) ?_
  refine r_if_eq (tgt := 449) dX11_line_445 (by decide) (fun c => ?_) (fun c => ?_)
  · have H := H.1 c
    refine r_aload_n dX11_line_449 rfl rfl ?_
    refine r_bipush (v := (59 : Int32)) dX11_line_450 rfl ?_
    refine r_callV (z := 0) (k := 45) (i := 0) (As := [iV (59 : Int32)]) (st := []) kX11_isSign i_X11_isSign e_X11_isSign lX11_264 dX11_line_452 rfl rfl ho45 rfl rfl rfl rfl rfl (Nat.le_of_ble_eq_true rfl) ?_
    exact H
  · have H := H.2 c
    exact r_vret dX11_line_448 rfl H
set_option maxRecDepth 100000 in
theorem bX11_line_431 {d : Nat} {Q : Option MV → MS → Prop} {x1 : Int32} {s0 : Int32} {s1 : Int32} {σ : MS}  (H : (R mj_OM d mX11_reads (fun r σ' => R mj_OM (d + 1) mX11_line Q 434 [some (rV 45 0), some (iV x1), none, none, none] (r.toList ++ []) σ') 0 [some (rV 45 0), some (iV s1), some (iV s0)] [] σ)) : R mj_OM (d + 1) mX11_line Q 431 [some (rV 45 0), some (iV x1), none, none, none] [iV s0, iV s1, rV 45 0] σ := by
  refine r_callV (z := 0) (k := 45) (i := 0) (As := [iV s1, iV s0]) (st := []) kX11_reads i_X11_reads e_X11_reads lX11_239 dX11_line_431 rfl rfl ho45 rfl rfl rfl rfl rfl (Nat.le_of_ble_eq_true rfl) ?_
  exact H
set_option maxRecDepth 100000 in
theorem bX11_line_434 {d : Nat} {Q : Option MV → MS → Prop} {x1 : Int32} {σ : MS}  (H : (((σ.1 45 0 31) = 0 → (R mj_OM d mX11_isSign (fun r σ' => R mj_OM (d + 1) mX11_line Q 455 [some (rV 45 0), some (iV x1), none, none, none] (r.toList ++ []) σ') 0 [some (rV 45 0), some (iV (59 : Int32))] [] σ)) ∧ (¬ (σ.1 45 0 31) = 0 → Q none σ))) : R mj_OM (d + 1) mX11_line Q 434 [some (rV 45 0), some (iV x1), none, none, none] [] σ := by
  refine r_goto (tgt := 441) dX11_line_434 (by decide) ?_
  refine r_aload_n dX11_line_441 rfl rfl ?_
  refine r_get (k := 45) (i := 0) (j := 31) (v := iV (σ.1 45 0 31)) rfl rfl ho45 rfl hX11 (by decide) rfl fX11_205 dX11_line_442 (fun _ => rfl) ?_
  refine r_if_eq (tgt := 449) dX11_line_445 (by decide) (fun c => ?_) (fun c => ?_)
  · have H := H.1 c
    refine r_aload_n dX11_line_449 rfl rfl ?_
    refine r_bipush (v := (59 : Int32)) dX11_line_450 rfl ?_
    refine r_callV (z := 0) (k := 45) (i := 0) (As := [iV (59 : Int32)]) (st := []) kX11_isSign i_X11_isSign e_X11_isSign lX11_264 dX11_line_452 rfl rfl ho45 rfl rfl rfl rfl rfl (Nat.le_of_ble_eq_true rfl) ?_
    exact H
  · have H := H.2 c
    exact r_vret dX11_line_448 rfl H
set_option maxRecDepth 100000 in
theorem bX11_line_441 {d : Nat} {Q : Option MV → MS → Prop} {x1 : Int32} {σ : MS}  (H : (((σ.1 45 0 31) = 0 → (R mj_OM d mX11_isSign (fun r σ' => R mj_OM (d + 1) mX11_line Q 455 [some (rV 45 0), some (iV x1), none, none, none] (r.toList ++ []) σ') 0 [some (rV 45 0), some (iV (59 : Int32))] [] σ)) ∧ (¬ (σ.1 45 0 31) = 0 → Q none σ))) : R mj_OM (d + 1) mX11_line Q 441 [some (rV 45 0), some (iV x1), none, none, none] [] σ := by
  refine r_aload_n dX11_line_441 rfl rfl ?_
  refine r_get (k := 45) (i := 0) (j := 31) (v := iV (σ.1 45 0 31)) rfl rfl ho45 rfl hX11 (by decide) rfl fX11_205 dX11_line_442 (fun _ => rfl) ?_
  refine r_if_eq (tgt := 449) dX11_line_445 (by decide) (fun c => ?_) (fun c => ?_)
  · have H := H.1 c
    refine r_aload_n dX11_line_449 rfl rfl ?_
    refine r_bipush (v := (59 : Int32)) dX11_line_450 rfl ?_
    refine r_callV (z := 0) (k := 45) (i := 0) (As := [iV (59 : Int32)]) (st := []) kX11_isSign i_X11_isSign e_X11_isSign lX11_264 dX11_line_452 rfl rfl ho45 rfl rfl rfl rfl rfl (Nat.le_of_ble_eq_true rfl) ?_
    exact H
  · have H := H.2 c
    exact r_vret dX11_line_448 rfl H
set_option maxRecDepth 100000 in
theorem bX11_line_455 {d : Nat} {Q : Option MV → MS → Prop} {x1 : Int32} {s0 : Int32} {σ : MS}  (H : ((¬ s0 = 0 → (R mj_OM d mX11_token (fun r σ' => R mj_OM (d + 1) mX11_line Q 470 [some (rV 45 0), some (iV x1), none, none, none] (r.toList ++ []) σ') 0 [some (rV 45 0), none] [] σ)) ∧ (s0 = 0 → (R mj_OM d mX11_wrong (fun r σ' => R mj_OM (d + 1) mX11_line Q 463 [some (rV 45 0), some (iV x1), none, none, none] (r.toList ++ []) σ') 0 [some (rV 45 0), some (iV (1 : Int32))] [] σ)))) : R mj_OM (d + 1) mX11_line Q 455 [some (rV 45 0), some (iV x1), none, none, none] [iV s0] σ := by
  refine r_if_ne (tgt := 466) dX11_line_455 (by decide) (fun c => ?_) (fun c => ?_)
  · have H := H.1 c
    refine r_aload_n dX11_line_466 rfl rfl ?_
    refine r_callV (z := 1) (k := 45) (i := 0) (As := []) (st := []) kX11_token i_X11_token e_X11_token lX11_211 dX11_line_467 rfl rfl ho45 rfl rfl rfl rfl rfl (Nat.le_of_ble_eq_true rfl) ?_
    exact H
  · have H := H.2 c
    refine r_aload_n dX11_line_458 rfl rfl ?_
    refine r_iconst (v := (1 : Int32)) dX11_line_459 rfl ?_
    refine r_callV (z := 0) (k := 45) (i := 0) (As := [iV (1 : Int32)]) (st := []) kX11_wrong i_X11_wrong e_X11_wrong lX11_214 dX11_line_460 rfl rfl ho45 rfl rfl rfl rfl rfl (Nat.le_of_ble_eq_true rfl) ?_
    exact H
set_option maxRecDepth 100000 in
theorem bX11_line_463 {d : Nat} {Q : Option MV → MS → Prop} {x1 : Int32} {σ : MS}  (H : Q none (uI σ 45 0 25 ((σ.1 45 0 25) + (1 : Int32)))) : R mj_OM d mX11_line Q 463 [some (rV 45 0), some (iV x1), none, none, none] [] σ := by
  refine r_goto (tgt := 470) dX11_line_463 (by decide) ?_
  refine r_aload_n dX11_line_470 rfl rfl ?_
  refine r_dup_r dX11_line_471 ?_
  refine r_get (k := 45) (i := 0) (j := 25) (v := iV (σ.1 45 0 25)) rfl rfl ho45 rfl hX11 (by decide) rfl fX11_267 dX11_line_472 (fun _ => rfl) ?_
  refine r_iconst (v := (1 : Int32)) dX11_line_475 rfl ?_
  refine r_iadd dX11_line_476 ?_
  refine r_putI (k := 45) (i := 0) (j := 25) (ty0 := tyX11) rfl rfl ho45 rfl hX11 (by decide) rfl fX11_267 dX11_line_477 rfl tyX11_ok nmX11 rfl rfl rfl ?_
  exact r_vret dX11_line_480 rfl H
set_option maxRecDepth 100000 in
theorem bX11_line_470 {d : Nat} {Q : Option MV → MS → Prop} {x1 : Int32} {σ : MS}  (H : Q none (uI σ 45 0 25 ((σ.1 45 0 25) + (1 : Int32)))) : R mj_OM d mX11_line Q 470 [some (rV 45 0), some (iV x1), none, none, none] [] σ := by
  refine r_aload_n dX11_line_470 rfl rfl ?_
  refine r_dup_r dX11_line_471 ?_
  refine r_get (k := 45) (i := 0) (j := 25) (v := iV (σ.1 45 0 25)) rfl rfl ho45 rfl hX11 (by decide) rfl fX11_267 dX11_line_472 (fun _ => rfl) ?_
  refine r_iconst (v := (1 : Int32)) dX11_line_475 rfl ?_
  refine r_iadd dX11_line_476 ?_
  refine r_putI (k := 45) (i := 0) (j := 25) (ty0 := tyX11) rfl rfl ho45 rfl hX11 (by decide) rfl fX11_267 dX11_line_477 rfl tyX11_ok nmX11 rfl rfl rfl ?_
  exact r_vret dX11_line_480 rfl H
set_option maxRecDepth 100000 in
theorem bX11_lockLine_0 {d : Nat} {Q : Option MV → MS → Prop}  {σ : MS}  (H : (R mj_OM d mX11_fresher (fun r σ' => R mj_OM (d + 1) mX11_lockLine Q 6 [some (rV 45 0), none] (r.toList ++ [iV (3 : Int32)]) σ') 0 [some (rV 45 0), some (iV (1 : Int32))] [] σ)) : R mj_OM (d + 1) mX11_lockLine Q 0 [some (rV 45 0), none] [] σ := by
  refine r_iconst (v := (3 : Int32)) dX11_lockLine_0 rfl ?_
  refine r_aload_n dX11_lockLine_1 rfl rfl ?_
  refine r_iconst (v := (1 : Int32)) dX11_lockLine_2 rfl ?_
  refine r_callV (z := 0) (k := 45) (i := 0) (As := [iV (1 : Int32)]) (st := [iV (3 : Int32)]) kX11_fresher i_X11_fresher e_X11_fresher lX11_221 dX11_lockLine_3 rfl rfl ho45 rfl rfl rfl rfl rfl (Nat.le_of_ble_eq_true rfl) ?_
  exact H
set_option maxRecDepth 100000 in
theorem bX11_lockLine_6 {d : Nat} {Q : Option MV → MS → Prop} {s0 : Int32} {s1 : Int32} {σ : MS}  (H : (R mj_OM d mX11_pondAtHand (fun r σ' => R mj_OM (d + 1) mX11_lockLine Q 17 [some (rV 45 0), some (iV (s1 + s0))] (r.toList ++ [iV (s1 + s0), rV 53 0]) σ') 0 [some (rV 45 0), none] [] σ)) : R mj_OM (d + 1) mX11_lockLine Q 6 [some (rV 45 0), none] [iV s0, iV s1] σ := by
  refine r_iadd dX11_lockLine_6 ?_
  refine r_istore_n dX11_lockLine_7 rfl (by decide) rfl ?_
  refine r_aload_n dX11_lockLine_8 rfl rfl ?_
  refine r_get (k := 45) (i := 0) (j := 9) (v := rV 53 0) rfl rfl ho45 rfl hX11 (by decide) rfl fX11_31 dX11_lockLine_9 (fun _ => rfl) ?_
  refine r_iload_n dX11_lockLine_12 rfl rfl ?_
  refine r_aload_n dX11_lockLine_13 rfl rfl ?_
  refine r_callV (z := 1) (k := 45) (i := 0) (As := []) (st := [iV (s1 + s0), rV 53 0]) kX11_pondAtHand i_X11_pondAtHand e_X11_pondAtHand lX11_252 dX11_lockLine_14 rfl rfl ho45 rfl rfl rfl rfl rfl (Nat.le_of_ble_eq_true rfl) ?_
  exact H
set_option maxRecDepth 100000 in
theorem bX11_lockLine_17 {d : Nat} {Q : Option MV → MS → Prop} {x1 : Int32} {s0 : Int32} {s1 : Int32} {σ : MS}  (H : (vp_in s1 6 ∧ ((¬ (σ.1 45 0 31) = 0 → (R mj_OM d mX11_goOn (fun r σ' => R mj_OM (d + 1) mX11_lockLine Q 48 [some (rV 45 0), some (iV x1)] (r.toList ++ []) σ') 0 [some (rV 45 0)] [] (uI σ 53 0 ((s1).toNatClampNeg) s0))) ∧ ((σ.1 45 0 31) = 0 → (vp_in x1 6 ∧ (R mj_OM d mX11_lockWith (fun r σ' => R mj_OM (d + 1) mX11_lockLine Q 35 [some (rV 45 0), some (iV x1)] (r.toList ++ []) σ') 0 [some (rV 45 0), some (iV ((uI σ 53 0 ((s1).toNatClampNeg) s0).1 53 0 ((x1).toNatClampNeg))), none] [] (uI σ 53 0 ((s1).toNatClampNeg) s0))))))) : R mj_OM (d + 1) mX11_lockLine Q 17 [some (rV 45 0), some (iV x1)] [iV s0, iV s1, rV 53 0] σ := by
  obtain ⟨q1, H⟩ := H
  refine r_iast (k := 53) (i := 0) rfl ho53 q1 dX11_lockLine_17 ?_
  refine r_aload_n dX11_lockLine_18 rfl rfl ?_
  refine r_get (k := 45) (i := 0) (j := 31) (v := iV (σ.1 45 0 31)) rfl rfl ho45 rfl hX11 (by decide) rfl fX11_205 dX11_lockLine_19 (fun _ => rfl) ?_
  refine r_if_ne (tgt := 44) dX11_lockLine_22 (by decide) (fun c => ?_) (fun c => ?_)
  · have H := H.1 c
    refine r_aload_n dX11_lockLine_44 rfl rfl ?_
    refine r_callV (z := 0) (k := 45) (i := 0) (As := []) (st := []) kX11_goOn i_X11_goOn e_X11_goOn lX11_258 dX11_lockLine_45 rfl rfl ho45 rfl rfl rfl rfl rfl (Nat.le_of_ble_eq_true rfl) ?_
    exact H
  · have H := H.2 c
    refine r_aload_n dX11_lockLine_25 rfl rfl ?_
    refine r_aload_n dX11_lockLine_26 rfl rfl ?_
    refine r_get (k := 45) (i := 0) (j := 9) (v := rV 53 0) rfl rfl ho45 rfl hX11 (by decide) rfl fX11_31 dX11_lockLine_27 (fun _ => rfl) ?_
    refine r_iload_n dX11_lockLine_30 rfl rfl ?_
    obtain ⟨q2, H⟩ := H
    refine r_iald (k := 53) (i := 0) rfl ho53 q2 dX11_lockLine_31 ?_
    refine r_callV (z := 1) (k := 45) (i := 0) (As := [iV ((uI σ 53 0 ((s1).toNatClampNeg) s0).1 53 0 ((x1).toNatClampNeg))]) (st := []) kX11_lockWith i_X11_lockWith e_X11_lockWith lX11_255 dX11_lockLine_32 rfl rfl ho45 rfl rfl rfl rfl rfl (Nat.le_of_ble_eq_true rfl) ?_
    exact H
set_option maxRecDepth 100000 in
theorem bX11_lockLine_35 {d : Nat} {Q : Option MV → MS → Prop} {x1 : Int32} {s0 : Int32} {σ : MS}  (H : ((s0 = (-1 : Int32) → (R mj_OM d mX11_goOn (fun r σ' => R mj_OM (d + 1) mX11_lockLine Q 48 [some (rV 45 0), some (iV x1)] (r.toList ++ []) σ') 0 [some (rV 45 0)] [] σ)) ∧ (¬ s0 = (-1 : Int32) → (R mj_OM d mX11_wrong (fun r σ' => R mj_OM (d + 1) mX11_lockLine Q 44 [some (rV 45 0), some (iV x1)] (r.toList ++ []) σ') 0 [some (rV 45 0), some (iV (3 : Int32))] [] σ)))) : R mj_OM (d + 1) mX11_lockLine Q 35 [some (rV 45 0), some (iV x1)] [iV s0] σ := by
  refine r_iconst (v := (-1 : Int32)) dX11_lockLine_35 rfl ?_
  refine r_icmp_eq (tgt := 44) dX11_lockLine_36 (by decide) (fun c => ?_) (fun c => ?_)
  · have H := H.1 c
    refine r_aload_n dX11_lockLine_44 rfl rfl ?_
    refine r_callV (z := 0) (k := 45) (i := 0) (As := []) (st := []) kX11_goOn i_X11_goOn e_X11_goOn lX11_258 dX11_lockLine_45 rfl rfl ho45 rfl rfl rfl rfl rfl (Nat.le_of_ble_eq_true rfl) ?_
    exact H
  · have H := H.2 c
    refine r_aload_n dX11_lockLine_39 rfl rfl ?_
    refine r_iconst (v := (3 : Int32)) dX11_lockLine_40 rfl ?_
    refine r_callV (z := 0) (k := 45) (i := 0) (As := [iV (3 : Int32)]) (st := []) kX11_wrong i_X11_wrong e_X11_wrong lX11_214 dX11_lockLine_41 rfl rfl ho45 rfl rfl rfl rfl rfl (Nat.le_of_ble_eq_true rfl) ?_
    exact H
set_option maxRecDepth 100000 in
theorem bX11_lockLine_44 {d : Nat} {Q : Option MV → MS → Prop} {x1 : Int32} {σ : MS}  (H : (R mj_OM d mX11_goOn (fun r σ' => R mj_OM (d + 1) mX11_lockLine Q 48 [some (rV 45 0), some (iV x1)] (r.toList ++ []) σ') 0 [some (rV 45 0)] [] σ)) : R mj_OM (d + 1) mX11_lockLine Q 44 [some (rV 45 0), some (iV x1)] [] σ := by
  refine r_aload_n dX11_lockLine_44 rfl rfl ?_
  refine r_callV (z := 0) (k := 45) (i := 0) (As := []) (st := []) kX11_goOn i_X11_goOn e_X11_goOn lX11_258 dX11_lockLine_45 rfl rfl ho45 rfl rfl rfl rfl rfl (Nat.le_of_ble_eq_true rfl) ?_
  exact H
set_option maxRecDepth 100000 in
theorem bX11_lockLine_48 {d : Nat} {Q : Option MV → MS → Prop} {x1 : Int32} {σ : MS}  (H : (R mj_OM d mX11_numeral (fun r σ' => R mj_OM (d + 1) mX11_lockLine Q 61 [some (rV 45 0), some (iV x1)] (r.toList ++ [iV x1, rV 54 0]) σ') 0 [some (rV 45 0), some (iV (0 : Int32)), some (iV (199 : Int32)), none] [] σ)) : R mj_OM (d + 1) mX11_lockLine Q 48 [some (rV 45 0), some (iV x1)] [] σ := by
  refine r_aload_n dX11_lockLine_48 rfl rfl ?_
  refine r_get (k := 45) (i := 0) (j := 10) (v := rV 54 0) rfl rfl ho45 rfl hX11 (by decide) rfl fX11_34 dX11_lockLine_49 (fun _ => rfl) ?_
  refine r_iload_n dX11_lockLine_52 rfl rfl ?_
  refine r_aload_n dX11_lockLine_53 rfl rfl ?_
  refine r_iconst (v := (0 : Int32)) dX11_lockLine_54 rfl ?_
  refine r_sipush (v := (199 : Int32)) dX11_lockLine_55 rfl ?_
  refine r_callV (z := 1) (k := 45) (i := 0) (As := [iV (0 : Int32), iV (199 : Int32)]) (st := [iV x1, rV 54 0]) kX11_numeral i_X11_numeral e_X11_numeral lX11_235 dX11_lockLine_58 rfl rfl ho45 rfl rfl rfl rfl rfl (Nat.le_of_ble_eq_true rfl) ?_
  exact H
set_option maxRecDepth 100000 in
theorem bX11_lockLine_61 {d : Nat} {Q : Option MV → MS → Prop} {x1 : Int32} {s0 : Int32} {s1 : Int32} {σ : MS}  (H : (vp_in s1 6 ∧ (R mj_OM d mX11_numeral (fun r σ' => R mj_OM (d + 1) mX11_lockLine Q 75 [some (rV 45 0), some (iV x1)] (r.toList ++ [iV x1, rV 55 0]) σ') 0 [some (rV 45 0), some (iV (0 : Int32)), some (iV (199 : Int32)), none] [] (uI σ 54 0 ((s1).toNatClampNeg) s0)))) : R mj_OM (d + 1) mX11_lockLine Q 61 [some (rV 45 0), some (iV x1)] [iV s0, iV s1, rV 54 0] σ := by
  obtain ⟨q1, H⟩ := H
  refine r_iast (k := 54) (i := 0) rfl ho54 q1 dX11_lockLine_61 ?_
  refine r_aload_n dX11_lockLine_62 rfl rfl ?_
  refine r_get (k := 45) (i := 0) (j := 11) (v := rV 55 0) rfl rfl ho45 rfl hX11 (by decide) rfl fX11_37 dX11_lockLine_63 (fun _ => rfl) ?_
  refine r_iload_n dX11_lockLine_66 rfl rfl ?_
  refine r_aload_n dX11_lockLine_67 rfl rfl ?_
  refine r_iconst (v := (0 : Int32)) dX11_lockLine_68 rfl ?_
  refine r_sipush (v := (199 : Int32)) dX11_lockLine_69 rfl ?_
  refine r_callV (z := 1) (k := 45) (i := 0) (As := [iV (0 : Int32), iV (199 : Int32)]) (st := [iV x1, rV 55 0]) kX11_numeral i_X11_numeral e_X11_numeral lX11_235 dX11_lockLine_72 rfl rfl ho45 rfl rfl rfl rfl rfl (Nat.le_of_ble_eq_true rfl) ?_
  exact H
set_option maxRecDepth 100000 in
theorem bX11_lockLine_75 {d : Nat} {Q : Option MV → MS → Prop} {x1 : Int32} {s0 : Int32} {s1 : Int32} {σ : MS}  (H : (vp_in s1 6 ∧ (R mj_OM d mX11_fresher (fun r σ' => R mj_OM (d + 1) mX11_lockLine Q 83 [some (rV 45 0), some (iV x1)] (r.toList ++ [iV (1 : Int32), rV 45 0]) σ') 0 [some (rV 45 0), some (iV (1 : Int32))] [] (uI σ 55 0 ((s1).toNatClampNeg) s0)))) : R mj_OM (d + 1) mX11_lockLine Q 75 [some (rV 45 0), some (iV x1)] [iV s0, iV s1, rV 55 0] σ := by
  obtain ⟨q1, H⟩ := H
  refine r_iast (k := 55) (i := 0) rfl ho55 q1 dX11_lockLine_75 ?_
  refine r_aload_n dX11_lockLine_76 rfl rfl ?_
  refine r_iconst (v := (1 : Int32)) dX11_lockLine_77 rfl ?_
  refine r_aload_n dX11_lockLine_78 rfl rfl ?_
  refine r_iconst (v := (1 : Int32)) dX11_lockLine_79 rfl ?_
  refine r_callV (z := 0) (k := 45) (i := 0) (As := [iV (1 : Int32)]) (st := [iV (1 : Int32), rV 45 0]) kX11_fresher i_X11_fresher e_X11_fresher lX11_221 dX11_lockLine_80 rfl rfl ho45 rfl rfl rfl rfl rfl (Nat.le_of_ble_eq_true rfl) ?_
  exact H
set_option maxRecDepth 100000 in
theorem bX11_lockLine_83 {d : Nat} {Q : Option MV → MS → Prop} {x1 : Int32} {s0 : Int32} {s1 : Int32} {σ : MS}  (H : (R mj_OM d mX11_reads (fun r σ' => R mj_OM (d + 1) mX11_lockLine Q 88 [some (rV 45 0), some (iV x1)] (r.toList ++ []) σ') 0 [some (rV 45 0), some (iV s1), some (iV (s0 + (1 : Int32)))] [] σ)) : R mj_OM (d + 1) mX11_lockLine Q 83 [some (rV 45 0), some (iV x1)] [iV s0, iV s1, rV 45 0] σ := by
  refine r_iconst (v := (1 : Int32)) dX11_lockLine_83 rfl ?_
  refine r_iadd dX11_lockLine_84 ?_
  refine r_callV (z := 0) (k := 45) (i := 0) (As := [iV s1, iV (s0 + (1 : Int32))]) (st := []) kX11_reads i_X11_reads e_X11_reads lX11_239 dX11_lockLine_85 rfl rfl ho45 rfl rfl rfl rfl rfl (Nat.le_of_ble_eq_true rfl) ?_
  exact H
set_option maxRecDepth 100000 in
theorem bX11_lockLine_88 {d : Nat} {Q : Option MV → MS → Prop} {x1 : Int32} {σ : MS}  (H : Q none σ) : R mj_OM d mX11_lockLine Q 88 [some (rV 45 0), some (iV x1)] [] σ := by
  exact r_vret dX11_lockLine_88 rfl H
set_option maxRecDepth 100000 in
theorem bX11_pipeLine_0 {d : Nat} {Q : Option MV → MS → Prop}  {σ : MS}  (H : (R mj_OM d mX11_fresher (fun r σ' => R mj_OM (d + 1) mX11_pipeLine Q 7 [some (rV 45 0), none, none] (r.toList ++ [iV (10 : Int32)]) σ') 0 [some (rV 45 0), some (iV (2 : Int32))] [] σ)) : R mj_OM (d + 1) mX11_pipeLine Q 0 [some (rV 45 0), none, none] [] σ := by
  refine r_bipush (v := (10 : Int32)) dX11_pipeLine_0 rfl ?_
  refine r_aload_n dX11_pipeLine_2 rfl rfl ?_
  refine r_iconst (v := (2 : Int32)) dX11_pipeLine_3 rfl ?_
  refine r_callV (z := 0) (k := 45) (i := 0) (As := [iV (2 : Int32)]) (st := [iV (10 : Int32)]) kX11_fresher i_X11_fresher e_X11_fresher lX11_221 dX11_pipeLine_4 rfl rfl ho45 rfl rfl rfl rfl rfl (Nat.le_of_ble_eq_true rfl) ?_
  exact H
set_option maxRecDepth 100000 in
theorem bX11_pipeLine_7 {d : Nat} {Q : Option MV → MS → Prop} {s0 : Int32} {s1 : Int32} {σ : MS}  (H : (R mj_OM d mX11_pondAtHand (fun r σ' => R mj_OM (d + 1) mX11_pipeLine Q 18 [some (rV 45 0), some (iV (s1 + s0)), none] (r.toList ++ [iV (s1 + s0), rV 56 0]) σ') 0 [some (rV 45 0), none] [] σ)) : R mj_OM (d + 1) mX11_pipeLine Q 7 [some (rV 45 0), none, none] [iV s0, iV s1] σ := by
  refine r_iadd dX11_pipeLine_7 ?_
  refine r_istore_n dX11_pipeLine_8 rfl (by decide) rfl ?_
  refine r_aload_n dX11_pipeLine_9 rfl rfl ?_
  refine r_get (k := 45) (i := 0) (j := 12) (v := rV 56 0) rfl rfl ho45 rfl hX11 (by decide) rfl fX11_40 dX11_pipeLine_10 (fun _ => rfl) ?_
  refine r_iload_n dX11_pipeLine_13 rfl rfl ?_
  refine r_aload_n dX11_pipeLine_14 rfl rfl ?_
  refine r_callV (z := 1) (k := 45) (i := 0) (As := []) (st := [iV (s1 + s0), rV 56 0]) kX11_pondAtHand i_X11_pondAtHand e_X11_pondAtHand lX11_252 dX11_pipeLine_15 rfl rfl ho45 rfl rfl rfl rfl rfl (Nat.le_of_ble_eq_true rfl) ?_
  exact H
set_option maxRecDepth 100000 in
theorem bX11_pipeLine_18 {d : Nat} {Q : Option MV → MS → Prop} {x1 : Int32} {s0 : Int32} {s1 : Int32} {σ : MS}  (H : (vp_in s1 20 ∧ (R mj_OM d mX11_goOn (fun r σ' => R mj_OM (d + 1) mX11_pipeLine Q 23 [some (rV 45 0), some (iV x1), none] (r.toList ++ []) σ') 0 [some (rV 45 0)] [] (uI σ 56 0 ((s1).toNatClampNeg) s0)))) : R mj_OM (d + 1) mX11_pipeLine Q 18 [some (rV 45 0), some (iV x1), none] [iV s0, iV s1, rV 56 0] σ := by
  obtain ⟨q1, H⟩ := H
  refine r_iast (k := 56) (i := 0) rfl ho56 q1 dX11_pipeLine_18 ?_
  refine r_aload_n dX11_pipeLine_19 rfl rfl ?_
  refine r_callV (z := 0) (k := 45) (i := 0) (As := []) (st := []) kX11_goOn i_X11_goOn e_X11_goOn lX11_258 dX11_pipeLine_20 rfl rfl ho45 rfl rfl rfl rfl rfl (Nat.le_of_ble_eq_true rfl) ?_
  exact H
set_option maxRecDepth 100000 in
theorem bX11_pipeLine_23 {d : Nat} {Q : Option MV → MS → Prop} {x1 : Int32} {σ : MS}  (H : (R mj_OM d mX11_pondAtHand (fun r σ' => R mj_OM (d + 1) mX11_pipeLine Q 32 [some (rV 45 0), some (iV x1), none] (r.toList ++ [iV x1, rV 57 0]) σ') 0 [some (rV 45 0), none] [] σ)) : R mj_OM (d + 1) mX11_pipeLine Q 23 [some (rV 45 0), some (iV x1), none] [] σ := by
  refine r_aload_n dX11_pipeLine_23 rfl rfl ?_
  refine r_get (k := 45) (i := 0) (j := 13) (v := rV 57 0) rfl rfl ho45 rfl hX11 (by decide) rfl fX11_43 dX11_pipeLine_24 (fun _ => rfl) ?_
  refine r_iload_n dX11_pipeLine_27 rfl rfl ?_
  refine r_aload_n dX11_pipeLine_28 rfl rfl ?_
  refine r_callV (z := 1) (k := 45) (i := 0) (As := []) (st := [iV x1, rV 57 0]) kX11_pondAtHand i_X11_pondAtHand e_X11_pondAtHand lX11_252 dX11_pipeLine_29 rfl rfl ho45 rfl rfl rfl rfl rfl (Nat.le_of_ble_eq_true rfl) ?_
  exact H
set_option maxRecDepth 100000 in
theorem bX11_pipeLine_32 {d : Nat} {Q : Option MV → MS → Prop} {x1 : Int32} {s0 : Int32} {s1 : Int32} {σ : MS}  (H : (vp_in s1 20 ∧ ((¬ (σ.1 45 0 31) = 0 → R mj_OM (d + 1) mX11_pipeLine Q 63 [some (rV 45 0), some (iV x1), some (iV (10 : Int32))] [] (uI σ 57 0 ((s1).toNatClampNeg) s0)) ∧ ((σ.1 45 0 31) = 0 → (vp_in x1 20 ∧ ((¬ (σ.1 56 0 ((x1).toNatClampNeg)) = ((uI σ 57 0 ((s1).toNatClampNeg) s0).1 57 0 ((x1).toNatClampNeg)) → R mj_OM (d + 1) mX11_pipeLine Q 63 [some (rV 45 0), some (iV x1), some (iV (10 : Int32))] [] (uI σ 57 0 ((s1).toNatClampNeg) s0)) ∧ ((σ.1 56 0 ((x1).toNatClampNeg)) = ((uI σ 57 0 ((s1).toNatClampNeg) s0).1 57 0 ((x1).toNatClampNeg)) → (R mj_OM d mX11_wrong (fun r σ' => R mj_OM (d + 1) mX11_pipeLine Q 60 [some (rV 45 0), some (iV x1), none] (r.toList ++ []) σ') 0 [some (rV 45 0), some (iV (5 : Int32))] [] (uI σ 57 0 ((s1).toNatClampNeg) s0))))))))) : R mj_OM (d + 1) mX11_pipeLine Q 32 [some (rV 45 0), some (iV x1), none] [iV s0, iV s1, rV 57 0] σ := by
  obtain ⟨q1, H⟩ := H
  refine r_iast (k := 57) (i := 0) rfl ho57 q1 dX11_pipeLine_32 ?_
  refine r_aload_n dX11_pipeLine_33 rfl rfl ?_
  refine r_get (k := 45) (i := 0) (j := 31) (v := iV (σ.1 45 0 31)) rfl rfl ho45 rfl hX11 (by decide) rfl fX11_205 dX11_pipeLine_34 (fun _ => rfl) ?_
  refine r_if_ne (tgt := 60) dX11_pipeLine_37 (by decide) (fun c => ?_) (fun c => ?_)
  · have H := H.1 c
    refine r_bipush (v := (10 : Int32)) dX11_pipeLine_60 rfl ?_
    refine r_istore_n dX11_pipeLine_62 rfl (by decide) rfl ?_
    exact H
  · have H := H.2 c
    refine r_aload_n dX11_pipeLine_40 rfl rfl ?_
    refine r_get (k := 45) (i := 0) (j := 12) (v := rV 56 0) rfl rfl ho45 rfl hX11 (by decide) rfl fX11_40 dX11_pipeLine_41 (fun _ => rfl) ?_
    refine r_iload_n dX11_pipeLine_44 rfl rfl ?_
    obtain ⟨q2, H⟩ := H
    refine r_iald (k := 56) (i := 0) rfl ho56 q2 dX11_pipeLine_45 ?_
    refine r_aload_n dX11_pipeLine_46 rfl rfl ?_
    refine r_get (k := 45) (i := 0) (j := 13) (v := rV 57 0) rfl rfl ho45 rfl hX11 (by decide) rfl fX11_43 dX11_pipeLine_47 (fun _ => rfl) ?_
    refine r_iload_n dX11_pipeLine_50 rfl rfl ?_
    refine r_iald (k := 57) (i := 0) rfl ho57 q2 dX11_pipeLine_51 ?_
    refine r_icmp_ne (tgt := 60) dX11_pipeLine_52 (by decide) (fun c => ?_) (fun c => ?_)
    · have H := H.1 c
      refine r_bipush (v := (10 : Int32)) dX11_pipeLine_60 rfl ?_
      refine r_istore_n dX11_pipeLine_62 rfl (by decide) rfl ?_
      exact H
    · have H := H.2 c
      refine r_aload_n dX11_pipeLine_55 rfl rfl ?_
      refine r_iconst (v := (5 : Int32)) dX11_pipeLine_56 rfl ?_
      refine r_callV (z := 0) (k := 45) (i := 0) (As := [iV (5 : Int32)]) (st := []) kX11_wrong i_X11_wrong e_X11_wrong lX11_214 dX11_pipeLine_57 rfl rfl ho45 rfl rfl rfl rfl rfl (Nat.le_of_ble_eq_true rfl) ?_
      exact H
set_option maxRecDepth 100000 in
theorem bX11_pipeLine_60 {d : Nat} {Q : Option MV → MS → Prop} {x1 : Int32} {σ : MS}  (H : R mj_OM d mX11_pipeLine Q 63 [some (rV 45 0), some (iV x1), some (iV (10 : Int32))] [] σ) : R mj_OM d mX11_pipeLine Q 60 [some (rV 45 0), some (iV x1), none] [] σ := by
  refine r_bipush (v := (10 : Int32)) dX11_pipeLine_60 rfl ?_
  refine r_istore_n dX11_pipeLine_62 rfl (by decide) rfl ?_
  exact H
set_option maxRecDepth 100000 in
theorem bX11_pipeLine_63 {d : Nat} {Q : Option MV → MS → Prop} {x1 : Int32} {x2 : Int32} {σ : MS}  (H : ((x1 ≤ x2 → (R mj_OM d mX11_goOn (fun r σ' => R mj_OM (d + 1) mX11_pipeLine Q 148 [some (rV 45 0), some (iV x1), some (iV x2)] (r.toList ++ []) σ') 0 [some (rV 45 0)] [] σ)) ∧ (¬ x1 ≤ x2 → ((¬ (σ.1 45 0 31) = 0 → (R mj_OM d mX11_goOn (fun r σ' => R mj_OM (d + 1) mX11_pipeLine Q 148 [some (rV 45 0), some (iV x1), some (iV x2)] (r.toList ++ []) σ') 0 [some (rV 45 0)] [] σ)) ∧ ((σ.1 45 0 31) = 0 → (vp_in x2 20 ∧ vp_in x1 20 ∧ ((¬ ((σ.1 56 0 ((x2).toNatClampNeg)) + (σ.1 57 0 ((x2).toNatClampNeg))) = ((σ.1 56 0 ((x1).toNatClampNeg)) + (σ.1 57 0 ((x1).toNatClampNeg))) → R mj_OM (d + 1) mX11_pipeLine Q 63 [some (rV 45 0), some (iV x1), some (iV (x2 + (1 : Int32)))] [] σ) ∧ (((σ.1 56 0 ((x2).toNatClampNeg)) + (σ.1 57 0 ((x2).toNatClampNeg))) = ((σ.1 56 0 ((x1).toNatClampNeg)) + (σ.1 57 0 ((x1).toNatClampNeg))) → ((¬ ((σ.1 56 0 ((x2).toNatClampNeg)) * (σ.1 57 0 ((x2).toNatClampNeg))) = ((σ.1 56 0 ((x1).toNatClampNeg)) * (σ.1 57 0 ((x1).toNatClampNeg))) → R mj_OM (d + 1) mX11_pipeLine Q 63 [some (rV 45 0), some (iV x1), some (iV (x2 + (1 : Int32)))] [] σ) ∧ (((σ.1 56 0 ((x2).toNatClampNeg)) * (σ.1 57 0 ((x2).toNatClampNeg))) = ((σ.1 56 0 ((x1).toNatClampNeg)) * (σ.1 57 0 ((x1).toNatClampNeg))) → (R mj_OM d mX11_wrong (fun r σ' => R mj_OM (d + 1) mX11_pipeLine Q 138 [some (rV 45 0), some (iV x1), some (iV x2)] (r.toList ++ []) σ') 0 [some (rV 45 0), some (iV (3 : Int32))] [] σ))))))))))) : R mj_OM (d + 1) mX11_pipeLine Q 63 [some (rV 45 0), some (iV x1), some (iV x2)] [] σ := by
  refine r_iload_n dX11_pipeLine_63 rfl rfl ?_
  refine r_iload_n dX11_pipeLine_64 rfl rfl ?_
  refine r_icmp_ge (tgt := 144) dX11_pipeLine_65 (by decide) (fun c => ?_) (fun c => ?_)
  · have H := H.1 c
    refine r_aload_n dX11_pipeLine_144 rfl rfl ?_
    refine r_callV (z := 0) (k := 45) (i := 0) (As := []) (st := []) kX11_goOn i_X11_goOn e_X11_goOn lX11_258 dX11_pipeLine_145 rfl rfl ho45 rfl rfl rfl rfl rfl (Nat.le_of_ble_eq_true rfl) ?_
    exact H
  · have H := H.2 c
    refine r_aload_n dX11_pipeLine_68 rfl rfl ?_
    refine r_get (k := 45) (i := 0) (j := 31) (v := iV (σ.1 45 0 31)) rfl rfl ho45 rfl hX11 (by decide) rfl fX11_205 dX11_pipeLine_69 (fun _ => rfl) ?_
    refine r_if_ne (tgt := 144) dX11_pipeLine_72 (by decide) (fun c => ?_) (fun c => ?_)
    · have H := H.1 c
      refine r_aload_n dX11_pipeLine_144 rfl rfl ?_
      refine r_callV (z := 0) (k := 45) (i := 0) (As := []) (st := []) kX11_goOn i_X11_goOn e_X11_goOn lX11_258 dX11_pipeLine_145 rfl rfl ho45 rfl rfl rfl rfl rfl (Nat.le_of_ble_eq_true rfl) ?_
      exact H
    · have H := H.2 c
      refine r_aload_n dX11_pipeLine_75 rfl rfl ?_
      refine r_get (k := 45) (i := 0) (j := 12) (v := rV 56 0) rfl rfl ho45 rfl hX11 (by decide) rfl fX11_40 dX11_pipeLine_76 (fun _ => rfl) ?_
      refine r_iload_n dX11_pipeLine_79 rfl rfl ?_
      obtain ⟨q1, H⟩ := H
      refine r_iald (k := 56) (i := 0) rfl ho56 q1 dX11_pipeLine_80 ?_
      refine r_aload_n dX11_pipeLine_81 rfl rfl ?_
      refine r_get (k := 45) (i := 0) (j := 13) (v := rV 57 0) rfl rfl ho45 rfl hX11 (by decide) rfl fX11_43 dX11_pipeLine_82 (fun _ => rfl) ?_
      refine r_iload_n dX11_pipeLine_85 rfl rfl ?_
      refine r_iald (k := 57) (i := 0) rfl ho57 q1 dX11_pipeLine_86 ?_
      refine r_iadd dX11_pipeLine_87 ?_
      refine r_aload_n dX11_pipeLine_88 rfl rfl ?_
      refine r_get (k := 45) (i := 0) (j := 12) (v := rV 56 0) rfl rfl ho45 rfl hX11 (by decide) rfl fX11_40 dX11_pipeLine_89 (fun _ => rfl) ?_
      refine r_iload_n dX11_pipeLine_92 rfl rfl ?_
      obtain ⟨q2, H⟩ := H
      refine r_iald (k := 56) (i := 0) rfl ho56 q2 dX11_pipeLine_93 ?_
      refine r_aload_n dX11_pipeLine_94 rfl rfl ?_
      refine r_get (k := 45) (i := 0) (j := 13) (v := rV 57 0) rfl rfl ho45 rfl hX11 (by decide) rfl fX11_43 dX11_pipeLine_95 (fun _ => rfl) ?_
      refine r_iload_n dX11_pipeLine_98 rfl rfl ?_
      refine r_iald (k := 57) (i := 0) rfl ho57 q2 dX11_pipeLine_99 ?_
      refine r_iadd dX11_pipeLine_100 ?_
      refine r_icmp_ne (tgt := 138) dX11_pipeLine_101 (by decide) (fun c => ?_) (fun c => ?_)
      · have H := H.1 c
        refine r_iinc (v := x2 + (1 : Int32)) dX11_pipeLine_138 rfl rfl (by decide) rfl ?_
        refine r_goto (tgt := 63) dX11_pipeLine_141 (by decide) ?_
        exact H
      · have H := H.2 c
        refine r_aload_n dX11_pipeLine_104 rfl rfl ?_
        refine r_get (k := 45) (i := 0) (j := 12) (v := rV 56 0) rfl rfl ho45 rfl hX11 (by decide) rfl fX11_40 dX11_pipeLine_105 (fun _ => rfl) ?_
        refine r_iload_n dX11_pipeLine_108 rfl rfl ?_
        refine r_iald (k := 56) (i := 0) rfl ho56 q1 dX11_pipeLine_109 ?_
        refine r_aload_n dX11_pipeLine_110 rfl rfl ?_
        refine r_get (k := 45) (i := 0) (j := 13) (v := rV 57 0) rfl rfl ho45 rfl hX11 (by decide) rfl fX11_43 dX11_pipeLine_111 (fun _ => rfl) ?_
        refine r_iload_n dX11_pipeLine_114 rfl rfl ?_
        refine r_iald (k := 57) (i := 0) rfl ho57 q1 dX11_pipeLine_115 ?_
        refine r_imul dX11_pipeLine_116 ?_
        refine r_aload_n dX11_pipeLine_117 rfl rfl ?_
        refine r_get (k := 45) (i := 0) (j := 12) (v := rV 56 0) rfl rfl ho45 rfl hX11 (by decide) rfl fX11_40 dX11_pipeLine_118 (fun _ => rfl) ?_
        refine r_iload_n dX11_pipeLine_121 rfl rfl ?_
        refine r_iald (k := 56) (i := 0) rfl ho56 q2 dX11_pipeLine_122 ?_
        refine r_aload_n dX11_pipeLine_123 rfl rfl ?_
        refine r_get (k := 45) (i := 0) (j := 13) (v := rV 57 0) rfl rfl ho45 rfl hX11 (by decide) rfl fX11_43 dX11_pipeLine_124 (fun _ => rfl) ?_
        refine r_iload_n dX11_pipeLine_127 rfl rfl ?_
        refine r_iald (k := 57) (i := 0) rfl ho57 q2 dX11_pipeLine_128 ?_
        refine r_imul dX11_pipeLine_129 ?_
        refine r_icmp_ne (tgt := 138) dX11_pipeLine_130 (by decide) (fun c => ?_) (fun c => ?_)
        · have H := H.1 c
          refine r_iinc (v := x2 + (1 : Int32)) dX11_pipeLine_138 rfl rfl (by decide) rfl ?_
          refine r_goto (tgt := 63) dX11_pipeLine_141 (by decide) ?_
          exact H
        · have H := H.2 c
          refine r_aload_n dX11_pipeLine_133 rfl rfl ?_
          refine r_iconst (v := (3 : Int32)) dX11_pipeLine_134 rfl ?_
          refine r_callV (z := 0) (k := 45) (i := 0) (As := [iV (3 : Int32)]) (st := []) kX11_wrong i_X11_wrong e_X11_wrong lX11_214 dX11_pipeLine_135 rfl rfl ho45 rfl rfl rfl rfl rfl (Nat.le_of_ble_eq_true rfl) ?_
          exact H
set_option maxRecDepth 100000 in
theorem bX11_pipeLine_138 {d : Nat} {Q : Option MV → MS → Prop} {x1 : Int32} {x2 : Int32} {σ : MS}  (H : R mj_OM d mX11_pipeLine Q 63 [some (rV 45 0), some (iV x1), some (iV (x2 + (1 : Int32)))] [] σ) : R mj_OM d mX11_pipeLine Q 138 [some (rV 45 0), some (iV x1), some (iV x2)] [] σ := by
  refine r_iinc (v := x2 + (1 : Int32)) dX11_pipeLine_138 rfl rfl (by decide) rfl ?_
  refine r_goto (tgt := 63) dX11_pipeLine_141 (by decide) ?_
  exact H
set_option maxRecDepth 100000 in
theorem bX11_pipeLine_148 {d : Nat} {Q : Option MV → MS → Prop} {x1 : Int32} {x2 : Int32} {σ : MS}  (H : (R mj_OM d mX11_numeral (fun r σ' => R mj_OM (d + 1) mX11_pipeLine Q 160 [some (rV 45 0), some (iV x1), some (iV x2)] (r.toList ++ [iV x1, rV 58 0]) σ') 0 [some (rV 45 0), some (iV (1 : Int32)), some (iV (99 : Int32)), none] [] σ)) : R mj_OM (d + 1) mX11_pipeLine Q 148 [some (rV 45 0), some (iV x1), some (iV x2)] [] σ := by
  refine r_aload_n dX11_pipeLine_148 rfl rfl ?_
  refine r_get (k := 45) (i := 0) (j := 14) (v := rV 58 0) rfl rfl ho45 rfl hX11 (by decide) rfl fX11_46 dX11_pipeLine_149 (fun _ => rfl) ?_
  refine r_iload_n dX11_pipeLine_152 rfl rfl ?_
  refine r_aload_n dX11_pipeLine_153 rfl rfl ?_
  refine r_iconst (v := (1 : Int32)) dX11_pipeLine_154 rfl ?_
  refine r_bipush (v := (99 : Int32)) dX11_pipeLine_155 rfl ?_
  refine r_callV (z := 1) (k := 45) (i := 0) (As := [iV (1 : Int32), iV (99 : Int32)]) (st := [iV x1, rV 58 0]) kX11_numeral i_X11_numeral e_X11_numeral lX11_235 dX11_pipeLine_157 rfl rfl ho45 rfl rfl rfl rfl rfl (Nat.le_of_ble_eq_true rfl) ?_
  exact H
set_option maxRecDepth 100000 in
theorem bX11_pipeLine_160 {d : Nat} {Q : Option MV → MS → Prop} {x1 : Int32} {x2 : Int32} {s0 : Int32} {s1 : Int32} {σ : MS}  (H : (vp_in s1 20 ∧ (R mj_OM d mX11_fresher (fun r σ' => R mj_OM (d + 1) mX11_pipeLine Q 168 [some (rV 45 0), some (iV x1), some (iV x2)] (r.toList ++ [iV (2 : Int32), rV 45 0]) σ') 0 [some (rV 45 0), some (iV (2 : Int32))] [] (uI σ 58 0 ((s1).toNatClampNeg) s0)))) : R mj_OM (d + 1) mX11_pipeLine Q 160 [some (rV 45 0), some (iV x1), some (iV x2)] [iV s0, iV s1, rV 58 0] σ := by
  obtain ⟨q1, H⟩ := H
  refine r_iast (k := 58) (i := 0) rfl ho58 q1 dX11_pipeLine_160 ?_
  refine r_aload_n dX11_pipeLine_161 rfl rfl ?_
  refine r_iconst (v := (2 : Int32)) dX11_pipeLine_162 rfl ?_
  refine r_aload_n dX11_pipeLine_163 rfl rfl ?_
  refine r_iconst (v := (2 : Int32)) dX11_pipeLine_164 rfl ?_
  refine r_callV (z := 0) (k := 45) (i := 0) (As := [iV (2 : Int32)]) (st := [iV (2 : Int32), rV 45 0]) kX11_fresher i_X11_fresher e_X11_fresher lX11_221 dX11_pipeLine_165 rfl rfl ho45 rfl rfl rfl rfl rfl (Nat.le_of_ble_eq_true rfl) ?_
  exact H
set_option maxRecDepth 100000 in
theorem bX11_pipeLine_168 {d : Nat} {Q : Option MV → MS → Prop} {x1 : Int32} {x2 : Int32} {s0 : Int32} {s1 : Int32} {σ : MS}  (H : (R mj_OM d mX11_reads (fun r σ' => R mj_OM (d + 1) mX11_pipeLine Q 173 [some (rV 45 0), some (iV x1), some (iV x2)] (r.toList ++ []) σ') 0 [some (rV 45 0), some (iV s1), some (iV (s0 + (1 : Int32)))] [] σ)) : R mj_OM (d + 1) mX11_pipeLine Q 168 [some (rV 45 0), some (iV x1), some (iV x2)] [iV s0, iV s1, rV 45 0] σ := by
  refine r_iconst (v := (1 : Int32)) dX11_pipeLine_168 rfl ?_
  refine r_iadd dX11_pipeLine_169 ?_
  refine r_callV (z := 0) (k := 45) (i := 0) (As := [iV s1, iV (s0 + (1 : Int32))]) (st := []) kX11_reads i_X11_reads e_X11_reads lX11_239 dX11_pipeLine_170 rfl rfl ho45 rfl rfl rfl rfl rfl (Nat.le_of_ble_eq_true rfl) ?_
  exact H
set_option maxRecDepth 100000 in
theorem bX11_pipeLine_173 {d : Nat} {Q : Option MV → MS → Prop} {x1 : Int32} {x2 : Int32} {σ : MS}  (H : Q none σ) : R mj_OM d mX11_pipeLine Q 173 [some (rV 45 0), some (iV x1), some (iV x2)] [] σ := by
  exact r_vret dX11_pipeLine_173 rfl H
set_option maxRecDepth 100000 in
theorem bX11_turnLine_0 {d : Nat} {Q : Option MV → MS → Prop}  {σ : MS}  (H : (R mj_OM d mX11_fresher (fun r σ' => R mj_OM (d + 1) mX11_turnLine Q 7 [some (rV 45 0), none] (r.toList ++ [iV (12 : Int32)]) σ') 0 [some (rV 45 0), some (iV (3 : Int32))] [] σ)) : R mj_OM (d + 1) mX11_turnLine Q 0 [some (rV 45 0), none] [] σ := by
  refine r_bipush (v := (12 : Int32)) dX11_turnLine_0 rfl ?_
  refine r_aload_n dX11_turnLine_2 rfl rfl ?_
  refine r_iconst (v := (3 : Int32)) dX11_turnLine_3 rfl ?_
  refine r_callV (z := 0) (k := 45) (i := 0) (As := [iV (3 : Int32)]) (st := [iV (12 : Int32)]) kX11_fresher i_X11_fresher e_X11_fresher lX11_221 dX11_turnLine_4 rfl rfl ho45 rfl rfl rfl rfl rfl (Nat.le_of_ble_eq_true rfl) ?_
  exact H
set_option maxRecDepth 100000 in
theorem bX11_turnLine_7 {d : Nat} {Q : Option MV → MS → Prop} {s0 : Int32} {s1 : Int32} {σ : MS}  (H : ((¬ (σ.1 45 0 29) = (2 : Int32) → (R mj_OM d mX11_numeral (fun r σ' => R mj_OM (d + 1) mX11_turnLine Q 55 [some (rV 45 0), some (iV (s1 + s0))] (r.toList ++ [iV (s1 + s0), rV 59 0]) σ') 0 [some (rV 45 0), some (iV (0 : Int32)), some (iV (9 : Int32)), none] [] σ)) ∧ ((σ.1 45 0 29) = (2 : Int32) → (((10 : Int32) ≤ (σ.1 45 0 30) → (R mj_OM d mX11_numeral (fun r σ' => R mj_OM (d + 1) mX11_turnLine Q 55 [some (rV 45 0), some (iV (s1 + s0))] (r.toList ++ [iV (s1 + s0), rV 59 0]) σ') 0 [some (rV 45 0), some (iV (0 : Int32)), some (iV (9 : Int32)), none] [] σ)) ∧ (¬ (10 : Int32) ≤ (σ.1 45 0 30) → (R mj_OM d mX11_fresher (fun r σ' => R mj_OM (d + 1) mX11_turnLine Q 35 [some (rV 45 0), some (iV (s1 + s0))] (r.toList ++ [iV (σ.1 45 0 30)]) σ') 0 [some (rV 45 0), some (iV (2 : Int32))] [] σ)))))) : R mj_OM (d + 1) mX11_turnLine Q 7 [some (rV 45 0), none] [iV s0, iV s1] σ := by
  refine r_iadd dX11_turnLine_7 ?_
  refine r_istore_n dX11_turnLine_8 rfl (by decide) rfl ?_
  refine r_aload_n dX11_turnLine_9 rfl rfl ?_
  refine r_get (k := 45) (i := 0) (j := 29) (v := iV (σ.1 45 0 29)) rfl rfl ho45 rfl hX11 (by decide) rfl fX11_170 dX11_turnLine_10 (fun _ => rfl) ?_
  refine r_iconst (v := (2 : Int32)) dX11_turnLine_13 rfl ?_
  refine r_icmp_ne (tgt := 43) dX11_turnLine_14 (by decide) (fun c => ?_) (fun c => ?_)
  · have H := H.1 c
    refine r_aload_n dX11_turnLine_43 rfl rfl ?_
    refine r_get (k := 45) (i := 0) (j := 15) (v := rV 59 0) rfl rfl ho45 rfl hX11 (by decide) rfl fX11_49 dX11_turnLine_44 (fun _ => rfl) ?_
    refine r_iload_n dX11_turnLine_47 rfl rfl ?_
    refine r_aload_n dX11_turnLine_48 rfl rfl ?_
    refine r_iconst (v := (0 : Int32)) dX11_turnLine_49 rfl ?_
    refine r_bipush (v := (9 : Int32)) dX11_turnLine_50 rfl ?_
    refine r_callV (z := 1) (k := 45) (i := 0) (As := [iV (0 : Int32), iV (9 : Int32)]) (st := [iV (s1 + s0), rV 59 0]) kX11_numeral i_X11_numeral e_X11_numeral lX11_235 dX11_turnLine_52 rfl rfl ho45 rfl rfl rfl rfl rfl (Nat.le_of_ble_eq_true rfl) ?_
    exact H
  · have H := H.2 c
    refine r_aload_n dX11_turnLine_17 rfl rfl ?_
    refine r_get (k := 45) (i := 0) (j := 30) (v := iV (σ.1 45 0 30)) rfl rfl ho45 rfl hX11 (by decide) rfl fX11_180 dX11_turnLine_18 (fun _ => rfl) ?_
    refine r_bipush (v := (10 : Int32)) dX11_turnLine_21 rfl ?_
    refine r_icmp_ge (tgt := 43) dX11_turnLine_23 (by decide) (fun c => ?_) (fun c => ?_)
    · have H := H.1 c
      refine r_aload_n dX11_turnLine_43 rfl rfl ?_
      refine r_get (k := 45) (i := 0) (j := 15) (v := rV 59 0) rfl rfl ho45 rfl hX11 (by decide) rfl fX11_49 dX11_turnLine_44 (fun _ => rfl) ?_
      refine r_iload_n dX11_turnLine_47 rfl rfl ?_
      refine r_aload_n dX11_turnLine_48 rfl rfl ?_
      refine r_iconst (v := (0 : Int32)) dX11_turnLine_49 rfl ?_
      refine r_bipush (v := (9 : Int32)) dX11_turnLine_50 rfl ?_
      refine r_callV (z := 1) (k := 45) (i := 0) (As := [iV (0 : Int32), iV (9 : Int32)]) (st := [iV (s1 + s0), rV 59 0]) kX11_numeral i_X11_numeral e_X11_numeral lX11_235 dX11_turnLine_52 rfl rfl ho45 rfl rfl rfl rfl rfl (Nat.le_of_ble_eq_true rfl) ?_
      exact H
    · have H := H.2 c
      refine r_aload_n dX11_turnLine_26 rfl rfl ?_
      refine r_get (k := 45) (i := 0) (j := 30) (v := iV (σ.1 45 0 30)) rfl rfl ho45 rfl hX11 (by decide) rfl fX11_180 dX11_turnLine_27 (fun _ => rfl) ?_
      refine r_aload_n dX11_turnLine_30 rfl rfl ?_
      refine r_iconst (v := (2 : Int32)) dX11_turnLine_31 rfl ?_
      refine r_callV (z := 0) (k := 45) (i := 0) (As := [iV (2 : Int32)]) (st := [iV (σ.1 45 0 30)]) kX11_fresher i_X11_fresher e_X11_fresher lX11_221 dX11_turnLine_32 rfl rfl ho45 rfl rfl rfl rfl rfl (Nat.le_of_ble_eq_true rfl) ?_
      exact H
set_option maxRecDepth 100000 in
theorem bX11_turnLine_35 {d : Nat} {Q : Option MV → MS → Prop} {x1 : Int32} {s0 : Int32} {s1 : Int32} {σ : MS}  (H : ((s1 < s0 → (R mj_OM d mX11_numeral (fun r σ' => R mj_OM (d + 1) mX11_turnLine Q 55 [some (rV 45 0), some (iV x1)] (r.toList ++ [iV x1, rV 59 0]) σ') 0 [some (rV 45 0), some (iV (0 : Int32)), some (iV (9 : Int32)), none] [] σ)) ∧ (¬ s1 < s0 → (R mj_OM d mX11_wrong (fun r σ' => R mj_OM (d + 1) mX11_turnLine Q 43 [some (rV 45 0), some (iV x1)] (r.toList ++ []) σ') 0 [some (rV 45 0), some (iV (4 : Int32))] [] σ)))) : R mj_OM (d + 1) mX11_turnLine Q 35 [some (rV 45 0), some (iV x1)] [iV s0, iV s1] σ := by
  refine r_icmp_lt (tgt := 43) dX11_turnLine_35 (by decide) (fun c => ?_) (fun c => ?_)
  · have H := H.1 c
    refine r_aload_n dX11_turnLine_43 rfl rfl ?_
    refine r_get (k := 45) (i := 0) (j := 15) (v := rV 59 0) rfl rfl ho45 rfl hX11 (by decide) rfl fX11_49 dX11_turnLine_44 (fun _ => rfl) ?_
    refine r_iload_n dX11_turnLine_47 rfl rfl ?_
    refine r_aload_n dX11_turnLine_48 rfl rfl ?_
    refine r_iconst (v := (0 : Int32)) dX11_turnLine_49 rfl ?_
    refine r_bipush (v := (9 : Int32)) dX11_turnLine_50 rfl ?_
    refine r_callV (z := 1) (k := 45) (i := 0) (As := [iV (0 : Int32), iV (9 : Int32)]) (st := [iV x1, rV 59 0]) kX11_numeral i_X11_numeral e_X11_numeral lX11_235 dX11_turnLine_52 rfl rfl ho45 rfl rfl rfl rfl rfl (Nat.le_of_ble_eq_true rfl) ?_
    exact H
  · have H := H.2 c
    refine r_aload_n dX11_turnLine_38 rfl rfl ?_
    refine r_iconst (v := (4 : Int32)) dX11_turnLine_39 rfl ?_
    refine r_callV (z := 0) (k := 45) (i := 0) (As := [iV (4 : Int32)]) (st := []) kX11_wrong i_X11_wrong e_X11_wrong lX11_214 dX11_turnLine_40 rfl rfl ho45 rfl rfl rfl rfl rfl (Nat.le_of_ble_eq_true rfl) ?_
    exact H
set_option maxRecDepth 100000 in
theorem bX11_turnLine_43 {d : Nat} {Q : Option MV → MS → Prop} {x1 : Int32} {σ : MS}  (H : (R mj_OM d mX11_numeral (fun r σ' => R mj_OM (d + 1) mX11_turnLine Q 55 [some (rV 45 0), some (iV x1)] (r.toList ++ [iV x1, rV 59 0]) σ') 0 [some (rV 45 0), some (iV (0 : Int32)), some (iV (9 : Int32)), none] [] σ)) : R mj_OM (d + 1) mX11_turnLine Q 43 [some (rV 45 0), some (iV x1)] [] σ := by
  refine r_aload_n dX11_turnLine_43 rfl rfl ?_
  refine r_get (k := 45) (i := 0) (j := 15) (v := rV 59 0) rfl rfl ho45 rfl hX11 (by decide) rfl fX11_49 dX11_turnLine_44 (fun _ => rfl) ?_
  refine r_iload_n dX11_turnLine_47 rfl rfl ?_
  refine r_aload_n dX11_turnLine_48 rfl rfl ?_
  refine r_iconst (v := (0 : Int32)) dX11_turnLine_49 rfl ?_
  refine r_bipush (v := (9 : Int32)) dX11_turnLine_50 rfl ?_
  refine r_callV (z := 1) (k := 45) (i := 0) (As := [iV (0 : Int32), iV (9 : Int32)]) (st := [iV x1, rV 59 0]) kX11_numeral i_X11_numeral e_X11_numeral lX11_235 dX11_turnLine_52 rfl rfl ho45 rfl rfl rfl rfl rfl (Nat.le_of_ble_eq_true rfl) ?_
  exact H
set_option maxRecDepth 100000 in
theorem bX11_turnLine_55 {d : Nat} {Q : Option MV → MS → Prop} {x1 : Int32} {s0 : Int32} {s1 : Int32} {σ : MS}  (H : (vp_in s1 24 ∧ (R mj_OM d mX11_numeral (fun r σ' => R mj_OM (d + 1) mX11_turnLine Q 68 [some (rV 45 0), some (iV x1)] (r.toList ++ [iV x1, rV 60 0]) σ') 0 [some (rV 45 0), some (iV (0 : Int32)), some (iV (99 : Int32)), none] [] (uI σ 59 0 ((s1).toNatClampNeg) s0)))) : R mj_OM (d + 1) mX11_turnLine Q 55 [some (rV 45 0), some (iV x1)] [iV s0, iV s1, rV 59 0] σ := by
  obtain ⟨q1, H⟩ := H
  refine r_iast (k := 59) (i := 0) rfl ho59 q1 dX11_turnLine_55 ?_
  refine r_aload_n dX11_turnLine_56 rfl rfl ?_
  refine r_get (k := 45) (i := 0) (j := 16) (v := rV 60 0) rfl rfl ho45 rfl hX11 (by decide) rfl fX11_52 dX11_turnLine_57 (fun _ => rfl) ?_
  refine r_iload_n dX11_turnLine_60 rfl rfl ?_
  refine r_aload_n dX11_turnLine_61 rfl rfl ?_
  refine r_iconst (v := (0 : Int32)) dX11_turnLine_62 rfl ?_
  refine r_bipush (v := (99 : Int32)) dX11_turnLine_63 rfl ?_
  refine r_callV (z := 1) (k := 45) (i := 0) (As := [iV (0 : Int32), iV (99 : Int32)]) (st := [iV x1, rV 60 0]) kX11_numeral i_X11_numeral e_X11_numeral lX11_235 dX11_turnLine_65 rfl rfl ho45 rfl rfl rfl rfl rfl (Nat.le_of_ble_eq_true rfl) ?_
  exact H
set_option maxRecDepth 100000 in
theorem bX11_turnLine_68 {d : Nat} {Q : Option MV → MS → Prop} {x1 : Int32} {s0 : Int32} {s1 : Int32} {σ : MS}  (H : (vp_in s1 24 ∧ (R mj_OM d mX11_numeral (fun r σ' => R mj_OM (d + 1) mX11_turnLine Q 81 [some (rV 45 0), some (iV x1)] (r.toList ++ [iV x1, rV 61 0]) σ') 0 [some (rV 45 0), some (iV (1 : Int32)), some (iV (20 : Int32)), none] [] (uI σ 60 0 ((s1).toNatClampNeg) s0)))) : R mj_OM (d + 1) mX11_turnLine Q 68 [some (rV 45 0), some (iV x1)] [iV s0, iV s1, rV 60 0] σ := by
  obtain ⟨q1, H⟩ := H
  refine r_iast (k := 60) (i := 0) rfl ho60 q1 dX11_turnLine_68 ?_
  refine r_aload_n dX11_turnLine_69 rfl rfl ?_
  refine r_get (k := 45) (i := 0) (j := 17) (v := rV 61 0) rfl rfl ho45 rfl hX11 (by decide) rfl fX11_55 dX11_turnLine_70 (fun _ => rfl) ?_
  refine r_iload_n dX11_turnLine_73 rfl rfl ?_
  refine r_aload_n dX11_turnLine_74 rfl rfl ?_
  refine r_iconst (v := (1 : Int32)) dX11_turnLine_75 rfl ?_
  refine r_bipush (v := (20 : Int32)) dX11_turnLine_76 rfl ?_
  refine r_callV (z := 1) (k := 45) (i := 0) (As := [iV (1 : Int32), iV (20 : Int32)]) (st := [iV x1, rV 61 0]) kX11_numeral i_X11_numeral e_X11_numeral lX11_235 dX11_turnLine_78 rfl rfl ho45 rfl rfl rfl rfl rfl (Nat.le_of_ble_eq_true rfl) ?_
  exact H
set_option maxRecDepth 100000 in
theorem bX11_turnLine_81 {d : Nat} {Q : Option MV → MS → Prop} {x1 : Int32} {s0 : Int32} {s1 : Int32} {σ : MS}  (H : (vp_in s1 24 ∧ (R mj_OM d mX11_fresher (fun r σ' => R mj_OM (d + 1) mX11_turnLine Q 89 [some (rV 45 0), some (iV x1)] (r.toList ++ [iV (3 : Int32), rV 45 0]) σ') 0 [some (rV 45 0), some (iV (3 : Int32))] [] (uI σ 61 0 ((s1).toNatClampNeg) s0)))) : R mj_OM (d + 1) mX11_turnLine Q 81 [some (rV 45 0), some (iV x1)] [iV s0, iV s1, rV 61 0] σ := by
  obtain ⟨q1, H⟩ := H
  refine r_iast (k := 61) (i := 0) rfl ho61 q1 dX11_turnLine_81 ?_
  refine r_aload_n dX11_turnLine_82 rfl rfl ?_
  refine r_iconst (v := (3 : Int32)) dX11_turnLine_83 rfl ?_
  refine r_aload_n dX11_turnLine_84 rfl rfl ?_
  refine r_iconst (v := (3 : Int32)) dX11_turnLine_85 rfl ?_
  refine r_callV (z := 0) (k := 45) (i := 0) (As := [iV (3 : Int32)]) (st := [iV (3 : Int32), rV 45 0]) kX11_fresher i_X11_fresher e_X11_fresher lX11_221 dX11_turnLine_86 rfl rfl ho45 rfl rfl rfl rfl rfl (Nat.le_of_ble_eq_true rfl) ?_
  exact H
set_option maxRecDepth 100000 in
theorem bX11_turnLine_89 {d : Nat} {Q : Option MV → MS → Prop} {x1 : Int32} {s0 : Int32} {s1 : Int32} {σ : MS}  (H : (R mj_OM d mX11_reads (fun r σ' => R mj_OM (d + 1) mX11_turnLine Q 94 [some (rV 45 0), some (iV x1)] (r.toList ++ []) σ') 0 [some (rV 45 0), some (iV s1), some (iV (s0 + (1 : Int32)))] [] σ)) : R mj_OM (d + 1) mX11_turnLine Q 89 [some (rV 45 0), some (iV x1)] [iV s0, iV s1, rV 45 0] σ := by
  refine r_iconst (v := (1 : Int32)) dX11_turnLine_89 rfl ?_
  refine r_iadd dX11_turnLine_90 ?_
  refine r_callV (z := 0) (k := 45) (i := 0) (As := [iV s1, iV (s0 + (1 : Int32))]) (st := []) kX11_reads i_X11_reads e_X11_reads lX11_239 dX11_turnLine_91 rfl rfl ho45 rfl rfl rfl rfl rfl (Nat.le_of_ble_eq_true rfl) ?_
  exact H
set_option maxRecDepth 100000 in
theorem bX11_turnLine_94 {d : Nat} {Q : Option MV → MS → Prop} {x1 : Int32} {σ : MS}  (H : Q none σ) : R mj_OM d mX11_turnLine Q 94 [some (rV 45 0), some (iV x1)] [] σ := by
  exact r_vret dX11_turnLine_94 rfl H
set_option maxRecDepth 100000 in
theorem bX11_lawLine_0 {d : Nat} {Q : Option MV → MS → Prop}  {σ : MS}  (H : ((¬ (σ.1 45 0 29) = 0 → (R mj_OM d mX11_wrong (fun r σ' => R mj_OM (d + 1) mX11_lawLine Q 30 [some (rV 45 0), none] (r.toList ++ []) σ') 0 [some (rV 45 0), some (iV (1 : Int32))] [] σ)) ∧ ((σ.1 45 0 29) = 0 → (((σ.1 45 0 30) < (9 : Int32) → (R mj_OM d mX11_wrong (fun r σ' => R mj_OM (d + 1) mX11_lawLine Q 30 [some (rV 45 0), none] (r.toList ++ []) σ') 0 [some (rV 45 0), some (iV (1 : Int32))] [] σ)) ∧ (¬ (σ.1 45 0 30) < (9 : Int32) → (((σ.1 45 0 30) ≤ (11 : Int32) → ((¬ (σ.1 45 0 31) = 0 → (((σ.1 45 0 31) = 0 → (R mj_OM d mX11_token (fun r σ' => R mj_OM (d + 1) mX11_lawLine Q 92 [some (rV 45 0), some (iV ((σ.1 45 0 30) - (9 : Int32)))] (r.toList ++ []) σ') 0 [some (rV 45 0), none] [] (uI σ 45 0 24 ((σ.1 45 0 24) ||| ((1 : Int32) <<< (((16 : Int32) + ((σ.1 45 0 30) - (9 : Int32))) &&& 31)))))) ∧ (¬ (σ.1 45 0 31) = 0 → Q none σ))) ∧ ((σ.1 45 0 31) = 0 → ((¬ (((σ.1 45 0 24) >>> (((16 : Int32) + ((σ.1 45 0 30) - (9 : Int32))) &&& 31)) &&& (1 : Int32)) = (1 : Int32) → (((σ.1 45 0 31) = 0 → (R mj_OM d mX11_token (fun r σ' => R mj_OM (d + 1) mX11_lawLine Q 92 [some (rV 45 0), some (iV ((σ.1 45 0 30) - (9 : Int32)))] (r.toList ++ []) σ') 0 [some (rV 45 0), none] [] (uI σ 45 0 24 ((σ.1 45 0 24) ||| ((1 : Int32) <<< (((16 : Int32) + ((σ.1 45 0 30) - (9 : Int32))) &&& 31)))))) ∧ (¬ (σ.1 45 0 31) = 0 → Q none σ))) ∧ ((((σ.1 45 0 24) >>> (((16 : Int32) + ((σ.1 45 0 30) - (9 : Int32))) &&& 31)) &&& (1 : Int32)) = (1 : Int32) → (R mj_OM d mX11_wrong (fun r σ' => R mj_OM (d + 1) mX11_lawLine Q 65 [some (rV 45 0), some (iV ((σ.1 45 0 30) - (9 : Int32)))] (r.toList ++ []) σ') 0 [some (rV 45 0), some (iV (3 : Int32))] [] σ)))))) ∧ (¬ (σ.1 45 0 30) ≤ (11 : Int32) → (R mj_OM d mX11_wrong (fun r σ' => R mj_OM (d + 1) mX11_lawLine Q 30 [some (rV 45 0), none] (r.toList ++ []) σ') 0 [some (rV 45 0), some (iV (1 : Int32))] [] σ)))))))) : R mj_OM (d + 1) mX11_lawLine Q 0 [some (rV 45 0), none] [] σ := by
  refine r_aload_n dX11_lawLine_0 rfl rfl ?_
  refine r_get (k := 45) (i := 0) (j := 29) (v := iV (σ.1 45 0 29)) rfl rfl ho45 rfl hX11 (by decide) rfl fX11_170 dX11_lawLine_1 (fun _ => rfl) ?_
  refine r_if_ne (tgt := 25) dX11_lawLine_4 (by decide) (fun c => ?_) (fun c => ?_)
  · have H := H.1 c
    refine r_aload_n dX11_lawLine_25 rfl rfl ?_
    refine r_iconst (v := (1 : Int32)) dX11_lawLine_26 rfl ?_
    refine r_callV (z := 0) (k := 45) (i := 0) (As := [iV (1 : Int32)]) (st := []) kX11_wrong i_X11_wrong e_X11_wrong lX11_214 dX11_lawLine_27 rfl rfl ho45 rfl rfl rfl rfl rfl (Nat.le_of_ble_eq_true rfl) ?_
    exact H
  · have H := H.2 c
    refine r_aload_n dX11_lawLine_7 rfl rfl ?_
    refine r_get (k := 45) (i := 0) (j := 30) (v := iV (σ.1 45 0 30)) rfl rfl ho45 rfl hX11 (by decide) rfl fX11_180 dX11_lawLine_8 (fun _ => rfl) ?_
    refine r_bipush (v := (9 : Int32)) dX11_lawLine_11 rfl ?_
    refine r_icmp_lt (tgt := 25) dX11_lawLine_13 (by decide) (fun c => ?_) (fun c => ?_)
    · have H := H.1 c
      refine r_aload_n dX11_lawLine_25 rfl rfl ?_
      refine r_iconst (v := (1 : Int32)) dX11_lawLine_26 rfl ?_
      refine r_callV (z := 0) (k := 45) (i := 0) (As := [iV (1 : Int32)]) (st := []) kX11_wrong i_X11_wrong e_X11_wrong lX11_214 dX11_lawLine_27 rfl rfl ho45 rfl rfl rfl rfl rfl (Nat.le_of_ble_eq_true rfl) ?_
      exact H
    · have H := H.2 c
      refine r_aload_n dX11_lawLine_16 rfl rfl ?_
      refine r_get (k := 45) (i := 0) (j := 30) (v := iV (σ.1 45 0 30)) rfl rfl ho45 rfl hX11 (by decide) rfl fX11_180 dX11_lawLine_17 (fun _ => rfl) ?_
      refine r_bipush (v := (11 : Int32)) dX11_lawLine_20 rfl ?_
      refine r_icmp_le (tgt := 30) dX11_lawLine_22 (by decide) (fun c => ?_) (fun c => ?_)
      · have H := H.1 c
        refine r_aload_n dX11_lawLine_30 rfl rfl ?_
        refine r_get (k := 45) (i := 0) (j := 30) (v := iV (σ.1 45 0 30)) rfl rfl ho45 rfl hX11 (by decide) rfl fX11_180 dX11_lawLine_31 (fun _ => rfl) ?_
        refine r_bipush (v := (9 : Int32)) dX11_lawLine_34 rfl ?_
        refine r_isub dX11_lawLine_36 ?_
        refine r_istore_n dX11_lawLine_37 rfl (by decide) rfl ?_
        refine r_aload_n dX11_lawLine_38 rfl rfl ?_
        refine r_get (k := 45) (i := 0) (j := 31) (v := iV (σ.1 45 0 31)) rfl rfl ho45 rfl hX11 (by decide) rfl fX11_205 dX11_lawLine_39 (fun _ => rfl) ?_
        refine r_if_ne (tgt := 65) dX11_lawLine_42 (by decide) (fun c => ?_) (fun c => ?_)
        · have H := H.1 c
          refine r_aload_n dX11_lawLine_65 rfl rfl ?_
          refine r_get (k := 45) (i := 0) (j := 31) (v := iV (σ.1 45 0 31)) rfl rfl ho45 rfl hX11 (by decide) rfl fX11_205 dX11_lawLine_66 (fun _ => rfl) ?_
          refine r_if_eq (tgt := 73) dX11_lawLine_69 (by decide) (fun c => ?_) (fun c => ?_)
          · have H := H.1 c
            refine r_aload_n dX11_lawLine_73 rfl rfl ?_
            refine r_dup_r dX11_lawLine_74 ?_
            refine r_get (k := 45) (i := 0) (j := 24) (v := iV (σ.1 45 0 24)) rfl rfl ho45 rfl hX11 (by decide) rfl fX11_228 dX11_lawLine_75 (fun _ => rfl) ?_
            refine r_iconst (v := (1 : Int32)) dX11_lawLine_78 rfl ?_
            refine r_bipush (v := (16 : Int32)) dX11_lawLine_79 rfl ?_
            refine r_iload_n dX11_lawLine_81 rfl rfl ?_
            refine r_iadd dX11_lawLine_82 ?_
            refine r_ishl dX11_lawLine_83 ?_
            refine r_ior dX11_lawLine_84 ?_
            refine r_putI (k := 45) (i := 0) (j := 24) (ty0 := tyX11) rfl rfl ho45 rfl hX11 (by decide) rfl fX11_228 dX11_lawLine_85 rfl tyX11_ok nmX11 rfl rfl rfl ?_
            refine r_aload_n dX11_lawLine_88 rfl rfl ?_
            refine r_callV (z := 1) (k := 45) (i := 0) (As := []) (st := []) kX11_token i_X11_token e_X11_token lX11_211 dX11_lawLine_89 rfl rfl ho45 rfl rfl rfl rfl rfl (Nat.le_of_ble_eq_true rfl) ?_
            exact H
          · have H := H.2 c
            exact r_vret dX11_lawLine_72 rfl H
        · have H := H.2 c
          refine r_aload_n dX11_lawLine_45 rfl rfl ?_
          refine r_get (k := 45) (i := 0) (j := 24) (v := iV (σ.1 45 0 24)) rfl rfl ho45 rfl hX11 (by decide) rfl fX11_228 dX11_lawLine_46 (fun _ => rfl) ?_
          refine r_bipush (v := (16 : Int32)) dX11_lawLine_49 rfl ?_
          refine r_iload_n dX11_lawLine_51 rfl rfl ?_
          refine r_iadd dX11_lawLine_52 ?_
          refine r_ishr dX11_lawLine_53 ?_
          refine r_iconst (v := (1 : Int32)) dX11_lawLine_54 rfl ?_
          refine r_iand dX11_lawLine_55 ?_
          refine r_iconst (v := (1 : Int32)) dX11_lawLine_56 rfl ?_
          refine r_icmp_ne (tgt := 65) dX11_lawLine_57 (by decide) (fun c => ?_) (fun c => ?_)
          · have H := H.1 c
            refine r_aload_n dX11_lawLine_65 rfl rfl ?_
            refine r_get (k := 45) (i := 0) (j := 31) (v := iV (σ.1 45 0 31)) rfl rfl ho45 rfl hX11 (by decide) rfl fX11_205 dX11_lawLine_66 (fun _ => rfl) ?_
            refine r_if_eq (tgt := 73) dX11_lawLine_69 (by decide) (fun c => ?_) (fun c => ?_)
            · have H := H.1 c
              refine r_aload_n dX11_lawLine_73 rfl rfl ?_
              refine r_dup_r dX11_lawLine_74 ?_
              refine r_get (k := 45) (i := 0) (j := 24) (v := iV (σ.1 45 0 24)) rfl rfl ho45 rfl hX11 (by decide) rfl fX11_228 dX11_lawLine_75 (fun _ => rfl) ?_
              refine r_iconst (v := (1 : Int32)) dX11_lawLine_78 rfl ?_
              refine r_bipush (v := (16 : Int32)) dX11_lawLine_79 rfl ?_
              refine r_iload_n dX11_lawLine_81 rfl rfl ?_
              refine r_iadd dX11_lawLine_82 ?_
              refine r_ishl dX11_lawLine_83 ?_
              refine r_ior dX11_lawLine_84 ?_
              refine r_putI (k := 45) (i := 0) (j := 24) (ty0 := tyX11) rfl rfl ho45 rfl hX11 (by decide) rfl fX11_228 dX11_lawLine_85 rfl tyX11_ok nmX11 rfl rfl rfl ?_
              refine r_aload_n dX11_lawLine_88 rfl rfl ?_
              refine r_callV (z := 1) (k := 45) (i := 0) (As := []) (st := []) kX11_token i_X11_token e_X11_token lX11_211 dX11_lawLine_89 rfl rfl ho45 rfl rfl rfl rfl rfl (Nat.le_of_ble_eq_true rfl) ?_
              exact H
            · have H := H.2 c
              exact r_vret dX11_lawLine_72 rfl H
          · have H := H.2 c
            refine r_aload_n dX11_lawLine_60 rfl rfl ?_
            refine r_iconst (v := (3 : Int32)) dX11_lawLine_61 rfl ?_
            refine r_callV (z := 0) (k := 45) (i := 0) (As := [iV (3 : Int32)]) (st := []) kX11_wrong i_X11_wrong e_X11_wrong lX11_214 dX11_lawLine_62 rfl rfl ho45 rfl rfl rfl rfl rfl (Nat.le_of_ble_eq_true rfl) ?_
            exact H
      · have H := H.2 c
        refine r_aload_n dX11_lawLine_25 rfl rfl ?_
        refine r_iconst (v := (1 : Int32)) dX11_lawLine_26 rfl ?_
        refine r_callV (z := 0) (k := 45) (i := 0) (As := [iV (1 : Int32)]) (st := []) kX11_wrong i_X11_wrong e_X11_wrong lX11_214 dX11_lawLine_27 rfl rfl ho45 rfl rfl rfl rfl rfl (Nat.le_of_ble_eq_true rfl) ?_
        exact H
set_option maxRecDepth 100000 in
theorem bX11_lawLine_30 {d : Nat} {Q : Option MV → MS → Prop}  {σ : MS}  (H : ((¬ (σ.1 45 0 31) = 0 → (((σ.1 45 0 31) = 0 → (R mj_OM d mX11_token (fun r σ' => R mj_OM (d + 1) mX11_lawLine Q 92 [some (rV 45 0), some (iV ((σ.1 45 0 30) - (9 : Int32)))] (r.toList ++ []) σ') 0 [some (rV 45 0), none] [] (uI σ 45 0 24 ((σ.1 45 0 24) ||| ((1 : Int32) <<< (((16 : Int32) + ((σ.1 45 0 30) - (9 : Int32))) &&& 31)))))) ∧ (¬ (σ.1 45 0 31) = 0 → Q none σ))) ∧ ((σ.1 45 0 31) = 0 → ((¬ (((σ.1 45 0 24) >>> (((16 : Int32) + ((σ.1 45 0 30) - (9 : Int32))) &&& 31)) &&& (1 : Int32)) = (1 : Int32) → (((σ.1 45 0 31) = 0 → (R mj_OM d mX11_token (fun r σ' => R mj_OM (d + 1) mX11_lawLine Q 92 [some (rV 45 0), some (iV ((σ.1 45 0 30) - (9 : Int32)))] (r.toList ++ []) σ') 0 [some (rV 45 0), none] [] (uI σ 45 0 24 ((σ.1 45 0 24) ||| ((1 : Int32) <<< (((16 : Int32) + ((σ.1 45 0 30) - (9 : Int32))) &&& 31)))))) ∧ (¬ (σ.1 45 0 31) = 0 → Q none σ))) ∧ ((((σ.1 45 0 24) >>> (((16 : Int32) + ((σ.1 45 0 30) - (9 : Int32))) &&& 31)) &&& (1 : Int32)) = (1 : Int32) → (R mj_OM d mX11_wrong (fun r σ' => R mj_OM (d + 1) mX11_lawLine Q 65 [some (rV 45 0), some (iV ((σ.1 45 0 30) - (9 : Int32)))] (r.toList ++ []) σ') 0 [some (rV 45 0), some (iV (3 : Int32))] [] σ)))))) : R mj_OM (d + 1) mX11_lawLine Q 30 [some (rV 45 0), none] [] σ := by
  refine r_aload_n dX11_lawLine_30 rfl rfl ?_
  refine r_get (k := 45) (i := 0) (j := 30) (v := iV (σ.1 45 0 30)) rfl rfl ho45 rfl hX11 (by decide) rfl fX11_180 dX11_lawLine_31 (fun _ => rfl) ?_
  refine r_bipush (v := (9 : Int32)) dX11_lawLine_34 rfl ?_
  refine r_isub dX11_lawLine_36 ?_
  refine r_istore_n dX11_lawLine_37 rfl (by decide) rfl ?_
  refine r_aload_n dX11_lawLine_38 rfl rfl ?_
  refine r_get (k := 45) (i := 0) (j := 31) (v := iV (σ.1 45 0 31)) rfl rfl ho45 rfl hX11 (by decide) rfl fX11_205 dX11_lawLine_39 (fun _ => rfl) ?_
  refine r_if_ne (tgt := 65) dX11_lawLine_42 (by decide) (fun c => ?_) (fun c => ?_)
  · have H := H.1 c
    refine r_aload_n dX11_lawLine_65 rfl rfl ?_
    refine r_get (k := 45) (i := 0) (j := 31) (v := iV (σ.1 45 0 31)) rfl rfl ho45 rfl hX11 (by decide) rfl fX11_205 dX11_lawLine_66 (fun _ => rfl) ?_
    refine r_if_eq (tgt := 73) dX11_lawLine_69 (by decide) (fun c => ?_) (fun c => ?_)
    · have H := H.1 c
      refine r_aload_n dX11_lawLine_73 rfl rfl ?_
      refine r_dup_r dX11_lawLine_74 ?_
      refine r_get (k := 45) (i := 0) (j := 24) (v := iV (σ.1 45 0 24)) rfl rfl ho45 rfl hX11 (by decide) rfl fX11_228 dX11_lawLine_75 (fun _ => rfl) ?_
      refine r_iconst (v := (1 : Int32)) dX11_lawLine_78 rfl ?_
      refine r_bipush (v := (16 : Int32)) dX11_lawLine_79 rfl ?_
      refine r_iload_n dX11_lawLine_81 rfl rfl ?_
      refine r_iadd dX11_lawLine_82 ?_
      refine r_ishl dX11_lawLine_83 ?_
      refine r_ior dX11_lawLine_84 ?_
      refine r_putI (k := 45) (i := 0) (j := 24) (ty0 := tyX11) rfl rfl ho45 rfl hX11 (by decide) rfl fX11_228 dX11_lawLine_85 rfl tyX11_ok nmX11 rfl rfl rfl ?_
      refine r_aload_n dX11_lawLine_88 rfl rfl ?_
      refine r_callV (z := 1) (k := 45) (i := 0) (As := []) (st := []) kX11_token i_X11_token e_X11_token lX11_211 dX11_lawLine_89 rfl rfl ho45 rfl rfl rfl rfl rfl (Nat.le_of_ble_eq_true rfl) ?_
      exact H
    · have H := H.2 c
      exact r_vret dX11_lawLine_72 rfl H
  · have H := H.2 c
    refine r_aload_n dX11_lawLine_45 rfl rfl ?_
    refine r_get (k := 45) (i := 0) (j := 24) (v := iV (σ.1 45 0 24)) rfl rfl ho45 rfl hX11 (by decide) rfl fX11_228 dX11_lawLine_46 (fun _ => rfl) ?_
    refine r_bipush (v := (16 : Int32)) dX11_lawLine_49 rfl ?_
    refine r_iload_n dX11_lawLine_51 rfl rfl ?_
    refine r_iadd dX11_lawLine_52 ?_
    refine r_ishr dX11_lawLine_53 ?_
    refine r_iconst (v := (1 : Int32)) dX11_lawLine_54 rfl ?_
    refine r_iand dX11_lawLine_55 ?_
    refine r_iconst (v := (1 : Int32)) dX11_lawLine_56 rfl ?_
    refine r_icmp_ne (tgt := 65) dX11_lawLine_57 (by decide) (fun c => ?_) (fun c => ?_)
    · have H := H.1 c
      refine r_aload_n dX11_lawLine_65 rfl rfl ?_
      refine r_get (k := 45) (i := 0) (j := 31) (v := iV (σ.1 45 0 31)) rfl rfl ho45 rfl hX11 (by decide) rfl fX11_205 dX11_lawLine_66 (fun _ => rfl) ?_
      refine r_if_eq (tgt := 73) dX11_lawLine_69 (by decide) (fun c => ?_) (fun c => ?_)
      · have H := H.1 c
        refine r_aload_n dX11_lawLine_73 rfl rfl ?_
        refine r_dup_r dX11_lawLine_74 ?_
        refine r_get (k := 45) (i := 0) (j := 24) (v := iV (σ.1 45 0 24)) rfl rfl ho45 rfl hX11 (by decide) rfl fX11_228 dX11_lawLine_75 (fun _ => rfl) ?_
        refine r_iconst (v := (1 : Int32)) dX11_lawLine_78 rfl ?_
        refine r_bipush (v := (16 : Int32)) dX11_lawLine_79 rfl ?_
        refine r_iload_n dX11_lawLine_81 rfl rfl ?_
        refine r_iadd dX11_lawLine_82 ?_
        refine r_ishl dX11_lawLine_83 ?_
        refine r_ior dX11_lawLine_84 ?_
        refine r_putI (k := 45) (i := 0) (j := 24) (ty0 := tyX11) rfl rfl ho45 rfl hX11 (by decide) rfl fX11_228 dX11_lawLine_85 rfl tyX11_ok nmX11 rfl rfl rfl ?_
        refine r_aload_n dX11_lawLine_88 rfl rfl ?_
        refine r_callV (z := 1) (k := 45) (i := 0) (As := []) (st := []) kX11_token i_X11_token e_X11_token lX11_211 dX11_lawLine_89 rfl rfl ho45 rfl rfl rfl rfl rfl (Nat.le_of_ble_eq_true rfl) ?_
        exact H
      · have H := H.2 c
        exact r_vret dX11_lawLine_72 rfl H
    · have H := H.2 c
      refine r_aload_n dX11_lawLine_60 rfl rfl ?_
      refine r_iconst (v := (3 : Int32)) dX11_lawLine_61 rfl ?_
      refine r_callV (z := 0) (k := 45) (i := 0) (As := [iV (3 : Int32)]) (st := []) kX11_wrong i_X11_wrong e_X11_wrong lX11_214 dX11_lawLine_62 rfl rfl ho45 rfl rfl rfl rfl rfl (Nat.le_of_ble_eq_true rfl) ?_
      exact H
set_option maxRecDepth 100000 in
theorem bX11_lawLine_65 {d : Nat} {Q : Option MV → MS → Prop} {x1 : Int32} {σ : MS}  (H : (((σ.1 45 0 31) = 0 → (R mj_OM d mX11_token (fun r σ' => R mj_OM (d + 1) mX11_lawLine Q 92 [some (rV 45 0), some (iV x1)] (r.toList ++ []) σ') 0 [some (rV 45 0), none] [] (uI σ 45 0 24 ((σ.1 45 0 24) ||| ((1 : Int32) <<< (((16 : Int32) + x1) &&& 31)))))) ∧ (¬ (σ.1 45 0 31) = 0 → Q none σ))) : R mj_OM (d + 1) mX11_lawLine Q 65 [some (rV 45 0), some (iV x1)] [] σ := by
  refine r_aload_n dX11_lawLine_65 rfl rfl ?_
  refine r_get (k := 45) (i := 0) (j := 31) (v := iV (σ.1 45 0 31)) rfl rfl ho45 rfl hX11 (by decide) rfl fX11_205 dX11_lawLine_66 (fun _ => rfl) ?_
  refine r_if_eq (tgt := 73) dX11_lawLine_69 (by decide) (fun c => ?_) (fun c => ?_)
  · have H := H.1 c
    refine r_aload_n dX11_lawLine_73 rfl rfl ?_
    refine r_dup_r dX11_lawLine_74 ?_
    refine r_get (k := 45) (i := 0) (j := 24) (v := iV (σ.1 45 0 24)) rfl rfl ho45 rfl hX11 (by decide) rfl fX11_228 dX11_lawLine_75 (fun _ => rfl) ?_
    refine r_iconst (v := (1 : Int32)) dX11_lawLine_78 rfl ?_
    refine r_bipush (v := (16 : Int32)) dX11_lawLine_79 rfl ?_
    refine r_iload_n dX11_lawLine_81 rfl rfl ?_
    refine r_iadd dX11_lawLine_82 ?_
    refine r_ishl dX11_lawLine_83 ?_
    refine r_ior dX11_lawLine_84 ?_
    refine r_putI (k := 45) (i := 0) (j := 24) (ty0 := tyX11) rfl rfl ho45 rfl hX11 (by decide) rfl fX11_228 dX11_lawLine_85 rfl tyX11_ok nmX11 rfl rfl rfl ?_
    refine r_aload_n dX11_lawLine_88 rfl rfl ?_
    refine r_callV (z := 1) (k := 45) (i := 0) (As := []) (st := []) kX11_token i_X11_token e_X11_token lX11_211 dX11_lawLine_89 rfl rfl ho45 rfl rfl rfl rfl rfl (Nat.le_of_ble_eq_true rfl) ?_
    exact H
  · have H := H.2 c
    exact r_vret dX11_lawLine_72 rfl H
set_option maxRecDepth 100000 in
theorem bX11_lawLine_92 {d : Nat} {Q : Option MV → MS → Prop} {x1 : Int32} {σ : MS}  (H : (R mj_OM d mX11_fresher (fun r σ' => R mj_OM (d + 1) mX11_lawLine Q 105 [some (rV 45 0), some (iV x1)] (r.toList ++ [iV ((3 : Int32) + x1), rV 64 0]) σ') 0 [some (rV 45 0), some (iV (8 : Int32))] [] σ)) : R mj_OM (d + 1) mX11_lawLine Q 92 [some (rV 45 0), some (iV x1)] [] σ := by
  refine r_aload_n dX11_lawLine_92 rfl rfl ?_
  refine r_get (k := 45) (i := 0) (j := 20) (v := rV 64 0) rfl rfl ho45 rfl hX11 (by decide) rfl fX11_64 dX11_lawLine_93 (fun _ => rfl) ?_
  refine r_iconst (v := (3 : Int32)) dX11_lawLine_96 rfl ?_
  refine r_iload_n dX11_lawLine_97 rfl rfl ?_
  refine r_iadd dX11_lawLine_98 ?_
  refine r_aload_n dX11_lawLine_99 rfl rfl ?_
  refine r_bipush (v := (8 : Int32)) dX11_lawLine_100 rfl ?_
  refine r_callV (z := 0) (k := 45) (i := 0) (As := [iV (8 : Int32)]) (st := [iV ((3 : Int32) + x1), rV 64 0]) kX11_fresher i_X11_fresher e_X11_fresher lX11_221 dX11_lawLine_102 rfl rfl ho45 rfl rfl rfl rfl rfl (Nat.le_of_ble_eq_true rfl) ?_
  exact H
set_option maxRecDepth 100000 in
theorem bX11_lawLine_105 {d : Nat} {Q : Option MV → MS → Prop} {x1 : Int32} {s0 : Int32} {s1 : Int32} {σ : MS}  (H : (vp_in s1 6 ∧ (R mj_OM d mX11_expression (fun r σ' => R mj_OM (d + 1) mX11_lawLine Q 110 [some (rV 45 0), some (iV x1)] (r.toList ++ []) σ') 0 [some (rV 45 0)] [] (uI σ 64 0 ((s1).toNatClampNeg) s0)))) : R mj_OM (d + 1) mX11_lawLine Q 105 [some (rV 45 0), some (iV x1)] [iV s0, iV s1, rV 64 0] σ := by
  obtain ⟨q1, H⟩ := H
  refine r_iast (k := 64) (i := 0) rfl ho64 q1 dX11_lawLine_105 ?_
  refine r_aload_n dX11_lawLine_106 rfl rfl ?_
  refine r_callV (z := 0) (k := 45) (i := 0) (As := []) (st := []) kX11_expression i_X11_expression e_X11_expression lX11_270 dX11_lawLine_107 rfl rfl ho45 rfl rfl rfl rfl rfl (Nat.le_of_ble_eq_true rfl) ?_
  exact H
set_option maxRecDepth 100000 in
theorem bX11_lawLine_110 {d : Nat} {Q : Option MV → MS → Prop} {x1 : Int32} {σ : MS}  (H : (R mj_OM d mX11_fresher (fun r σ' => R mj_OM (d + 1) mX11_lawLine Q 123 [some (rV 45 0), some (iV x1)] (r.toList ++ [iV ((3 : Int32) + x1), rV 65 0]) σ') 0 [some (rV 45 0), some (iV (8 : Int32))] [] σ)) : R mj_OM (d + 1) mX11_lawLine Q 110 [some (rV 45 0), some (iV x1)] [] σ := by
  refine r_aload_n dX11_lawLine_110 rfl rfl ?_
  refine r_get (k := 45) (i := 0) (j := 21) (v := rV 65 0) rfl rfl ho45 rfl hX11 (by decide) rfl fX11_67 dX11_lawLine_111 (fun _ => rfl) ?_
  refine r_iconst (v := (3 : Int32)) dX11_lawLine_114 rfl ?_
  refine r_iload_n dX11_lawLine_115 rfl rfl ?_
  refine r_iadd dX11_lawLine_116 ?_
  refine r_aload_n dX11_lawLine_117 rfl rfl ?_
  refine r_bipush (v := (8 : Int32)) dX11_lawLine_118 rfl ?_
  refine r_callV (z := 0) (k := 45) (i := 0) (As := [iV (8 : Int32)]) (st := [iV ((3 : Int32) + x1), rV 65 0]) kX11_fresher i_X11_fresher e_X11_fresher lX11_221 dX11_lawLine_120 rfl rfl ho45 rfl rfl rfl rfl rfl (Nat.le_of_ble_eq_true rfl) ?_
  exact H
set_option maxRecDepth 100000 in
theorem bX11_lawLine_123 {d : Nat} {Q : Option MV → MS → Prop} {x1 : Int32} {s0 : Int32} {s1 : Int32} {σ : MS}  (H : (vp_in s1 6 ∧ Q none (uI σ 65 0 ((s1).toNatClampNeg) s0))) : R mj_OM d mX11_lawLine Q 123 [some (rV 45 0), some (iV x1)] [iV s0, iV s1, rV 65 0] σ := by
  obtain ⟨q1, H⟩ := H
  refine r_iast (k := 65) (i := 0) rfl ho65 q1 dX11_lawLine_123 ?_
  exact r_vret dX11_lawLine_124 rfl H
set_option maxRecDepth 100000 in
theorem bX11_puts_0 {d : Nat} {Q : Option MV → MS → Prop} {x1 : Int32} {x2 : Int32} {σ : MS}  (H : (((σ.1 45 0 31) = 0 → (R mj_OM d mX11_fresher (fun r σ' => R mj_OM (d + 1) mX11_puts Q 20 [some (rV 45 0), some (iV x1), some (iV x2)] (r.toList ++ [iV (64 : Int32), rV 66 0]) σ') 0 [some (rV 45 0), some (iV (8 : Int32))] [] σ)) ∧ (¬ (σ.1 45 0 31) = 0 → Q none σ))) : R mj_OM (d + 1) mX11_puts Q 0 [some (rV 45 0), some (iV x1), some (iV x2)] [] σ := by
  refine r_aload_n dX11_puts_0 rfl rfl ?_
  refine r_get (k := 45) (i := 0) (j := 31) (v := iV (σ.1 45 0 31)) rfl rfl ho45 rfl hX11 (by decide) rfl fX11_205 dX11_puts_1 (fun _ => rfl) ?_
  refine r_if_eq (tgt := 8) dX11_puts_4 (by decide) (fun c => ?_) (fun c => ?_)
  · have H := H.1 c
    refine r_aload_n dX11_puts_8 rfl rfl ?_
    refine r_get (k := 45) (i := 0) (j := 22) (v := rV 66 0) rfl rfl ho45 rfl hX11 (by decide) rfl fX11_70 dX11_puts_9 (fun _ => rfl) ?_
    refine r_bipush (v := (64 : Int32)) dX11_puts_12 rfl ?_
    refine r_aload_n dX11_puts_14 rfl rfl ?_
    refine r_bipush (v := (8 : Int32)) dX11_puts_15 rfl ?_
    refine r_callV (z := 0) (k := 45) (i := 0) (As := [iV (8 : Int32)]) (st := [iV (64 : Int32), rV 66 0]) kX11_fresher i_X11_fresher e_X11_fresher lX11_221 dX11_puts_17 rfl rfl ho45 rfl rfl rfl rfl rfl (Nat.le_of_ble_eq_true rfl) ?_
    exact H
  · have H := H.2 c
    exact r_vret dX11_puts_7 rfl H
set_option maxRecDepth 100000 in
theorem bX11_puts_20 {d : Nat} {Q : Option MV → MS → Prop} {x1 : Int32} {x2 : Int32} {s0 : Int32} {s1 : Int32} {σ : MS}  (H : (vp_in (s1 + s0) 128 ∧ (R mj_OM d mX11_fresher (fun r σ' => R mj_OM (d + 1) mX11_puts Q 35 [some (rV 45 0), some (iV x1), some (iV x2)] (r.toList ++ [iV (64 : Int32), rV 67 0]) σ') 0 [some (rV 45 0), some (iV (8 : Int32))] [] (uI σ 66 0 (((s1 + s0)).toNatClampNeg) x1)))) : R mj_OM (d + 1) mX11_puts Q 20 [some (rV 45 0), some (iV x1), some (iV x2)] [iV s0, iV s1, rV 66 0] σ := by
  refine r_iadd dX11_puts_20 ?_
  refine r_iload_n dX11_puts_21 rfl rfl ?_
  obtain ⟨q1, H⟩ := H
  refine r_iast (k := 66) (i := 0) rfl ho66 q1 dX11_puts_22 ?_
  refine r_aload_n dX11_puts_23 rfl rfl ?_
  refine r_get (k := 45) (i := 0) (j := 23) (v := rV 67 0) rfl rfl ho45 rfl hX11 (by decide) rfl fX11_73 dX11_puts_24 (fun _ => rfl) ?_
  refine r_bipush (v := (64 : Int32)) dX11_puts_27 rfl ?_
  refine r_aload_n dX11_puts_29 rfl rfl ?_
  refine r_bipush (v := (8 : Int32)) dX11_puts_30 rfl ?_
  refine r_callV (z := 0) (k := 45) (i := 0) (As := [iV (8 : Int32)]) (st := [iV (64 : Int32), rV 67 0]) kX11_fresher i_X11_fresher e_X11_fresher lX11_221 dX11_puts_32 rfl rfl ho45 rfl rfl rfl rfl rfl (Nat.le_of_ble_eq_true rfl) ?_
  exact H
set_option maxRecDepth 100000 in
theorem bX11_puts_35 {d : Nat} {Q : Option MV → MS → Prop} {x1 : Int32} {x2 : Int32} {s0 : Int32} {s1 : Int32} {σ : MS}  (H : (vp_in (s1 + s0) 128 ∧ (R mj_OM d mX11_fresher (fun r σ' => R mj_OM (d + 1) mX11_puts Q 47 [some (rV 45 0), some (iV x1), some (iV x2)] (r.toList ++ [iV (8 : Int32), rV 45 0]) σ') 0 [some (rV 45 0), some (iV (8 : Int32))] [] (uI σ 67 0 (((s1 + s0)).toNatClampNeg) x2)))) : R mj_OM (d + 1) mX11_puts Q 35 [some (rV 45 0), some (iV x1), some (iV x2)] [iV s0, iV s1, rV 67 0] σ := by
  refine r_iadd dX11_puts_35 ?_
  refine r_iload_n dX11_puts_36 rfl rfl ?_
  obtain ⟨q1, H⟩ := H
  refine r_iast (k := 67) (i := 0) rfl ho67 q1 dX11_puts_37 ?_
  refine r_aload_n dX11_puts_38 rfl rfl ?_
  refine r_bipush (v := (8 : Int32)) dX11_puts_39 rfl ?_
  refine r_aload_n dX11_puts_41 rfl rfl ?_
  refine r_bipush (v := (8 : Int32)) dX11_puts_42 rfl ?_
  refine r_callV (z := 0) (k := 45) (i := 0) (As := [iV (8 : Int32)]) (st := [iV (8 : Int32), rV 45 0]) kX11_fresher i_X11_fresher e_X11_fresher lX11_221 dX11_puts_44 rfl rfl ho45 rfl rfl rfl rfl rfl (Nat.le_of_ble_eq_true rfl) ?_
  exact H
set_option maxRecDepth 100000 in
theorem bX11_puts_47 {d : Nat} {Q : Option MV → MS → Prop} {x1 : Int32} {x2 : Int32} {s0 : Int32} {s1 : Int32} {σ : MS}  (H : (R mj_OM d mX11_reads (fun r σ' => R mj_OM (d + 1) mX11_puts Q 52 [some (rV 45 0), some (iV x1), some (iV x2)] (r.toList ++ []) σ') 0 [some (rV 45 0), some (iV s1), some (iV (s0 + (1 : Int32)))] [] σ)) : R mj_OM (d + 1) mX11_puts Q 47 [some (rV 45 0), some (iV x1), some (iV x2)] [iV s0, iV s1, rV 45 0] σ := by
  refine r_iconst (v := (1 : Int32)) dX11_puts_47 rfl ?_
  refine r_iadd dX11_puts_48 ?_
  refine r_callV (z := 0) (k := 45) (i := 0) (As := [iV s1, iV (s0 + (1 : Int32))]) (st := []) kX11_reads i_X11_reads e_X11_reads lX11_239 dX11_puts_49 rfl rfl ho45 rfl rfl rfl rfl rfl (Nat.le_of_ble_eq_true rfl) ?_
  exact H
set_option maxRecDepth 100000 in
theorem bX11_puts_52 {d : Nat} {Q : Option MV → MS → Prop} {x1 : Int32} {x2 : Int32} {σ : MS}  (H : Q none σ) : R mj_OM d mX11_puts Q 52 [some (rV 45 0), some (iV x1), some (iV x2)] [] σ := by
  exact r_vret dX11_puts_52 rfl H
set_option maxRecDepth 100000 in
theorem bX11_knot_0 {d : Nat} {Q : Option MV → MS → Prop}  {σ : MS}  (H : (((σ.1 45 0 31) = 0 → ((¬ (σ.1 45 0 36) = (64 : Int32) → Q none (uI σ 45 0 36 ((σ.1 45 0 36) + (1 : Int32)))) ∧ ((σ.1 45 0 36) = (64 : Int32) → (R mj_OM d mX11_wrong (fun r σ' => R mj_OM (d + 1) mX11_knot Q 22 [some (rV 45 0)] (r.toList ++ []) σ') 0 [some (rV 45 0), some (iV (2 : Int32))] [] σ)))) ∧ (¬ (σ.1 45 0 31) = 0 → Q none σ))) : R mj_OM (d + 1) mX11_knot Q 0 [some (rV 45 0)] [] σ := by
  refine r_aload_n dX11_knot_0 rfl rfl ?_
  refine r_get (k := 45) (i := 0) (j := 31) (v := iV (σ.1 45 0 31)) rfl rfl ho45 rfl hX11 (by decide) rfl fX11_205 dX11_knot_1 (fun _ => rfl) ?_
  refine r_if_eq (tgt := 8) dX11_knot_4 (by decide) (fun c => ?_) (fun c => ?_)
  · have H := H.1 c
    refine r_aload_n dX11_knot_8 rfl rfl ?_
    refine r_get (k := 45) (i := 0) (j := 36) (v := iV (σ.1 45 0 36)) rfl rfl ho45 rfl hX11 (by decide) rfl fX11_273 dX11_knot_9 (fun _ => rfl) ?_
    refine r_bipush (v := (64 : Int32)) dX11_knot_12 rfl ?_
    refine r_icmp_ne (tgt := 25) dX11_knot_14 (by decide) (fun c => ?_) (fun c => ?_)
    · have H := H.1 c
      refine r_aload_n dX11_knot_25 rfl rfl ?_
      refine r_dup_r dX11_knot_26 ?_
      refine r_get (k := 45) (i := 0) (j := 36) (v := iV (σ.1 45 0 36)) rfl rfl ho45 rfl hX11 (by decide) rfl fX11_273 dX11_knot_27 (fun _ => rfl) ?_
      refine r_iconst (v := (1 : Int32)) dX11_knot_30 rfl ?_
      refine r_iadd dX11_knot_31 ?_
      refine r_putI (k := 45) (i := 0) (j := 36) (ty0 := tyX11) rfl rfl ho45 rfl hX11 (by decide) rfl fX11_273 dX11_knot_32 rfl tyX11_ok nmX11 rfl rfl rfl ?_
      exact r_vret dX11_knot_35 rfl H
    · have H := H.2 c
      refine r_aload_n dX11_knot_17 rfl rfl ?_
      refine r_iconst (v := (2 : Int32)) dX11_knot_18 rfl ?_
      refine r_callV (z := 0) (k := 45) (i := 0) (As := [iV (2 : Int32)]) (st := []) kX11_wrong i_X11_wrong e_X11_wrong lX11_214 dX11_knot_19 rfl rfl ho45 rfl rfl rfl rfl rfl (Nat.le_of_ble_eq_true rfl) ?_
      exact H
  · have H := H.2 c
    exact r_vret dX11_knot_7 rfl H
set_option maxRecDepth 100000 in
theorem bX11_knot_22 {d : Nat} {Q : Option MV → MS → Prop}  {σ : MS}  (H : Q none σ) : R mj_OM d mX11_knot Q 22 [some (rV 45 0)] [] σ := by
  refine r_goto (tgt := 35) dX11_knot_22 (by decide) ?_
  exact r_vret dX11_knot_35 rfl H
set_option maxRecDepth 100000 in
theorem bX11_expression_0 {d : Nat} {Q : Option MV → MS → Prop}  {σ : MS}  (H : (R mj_OM d mX11_conjunction (fun r σ' => R mj_OM (d + 1) mX11_expression Q 4 [some (rV 45 0)] (r.toList ++ []) σ') 0 [some (rV 45 0)] [] σ)) : R mj_OM (d + 1) mX11_expression Q 0 [some (rV 45 0)] [] σ := by
  refine r_aload_n dX11_expression_0 rfl rfl ?_
  refine r_callV (z := 0) (k := 45) (i := 0) (As := []) (st := []) kX11_conjunction i_X11_conjunction e_X11_conjunction lX11_276 dX11_expression_1 rfl rfl ho45 rfl rfl rfl rfl rfl (Nat.le_of_ble_eq_true rfl) ?_
  exact H
set_option maxRecDepth 100000 in
theorem bX11_expression_4 {d : Nat} {Q : Option MV → MS → Prop}  {σ : MS}  (H : (R mj_OM d mX11_isWord (fun r σ' => R mj_OM (d + 1) mX11_expression Q 10 [some (rV 45 0)] (r.toList ++ []) σ') 0 [some (rV 45 0), some (iV (12 : Int32))] [] σ)) : R mj_OM (d + 1) mX11_expression Q 4 [some (rV 45 0)] [] σ := by
  refine r_aload_n dX11_expression_4 rfl rfl ?_
  refine r_bipush (v := (12 : Int32)) dX11_expression_5 rfl ?_
  refine r_callV (z := 0) (k := 45) (i := 0) (As := [iV (12 : Int32)]) (st := []) kX11_isWord i_X11_isWord e_X11_isWord lX11_279 dX11_expression_7 rfl rfl ho45 rfl rfl rfl rfl rfl (Nat.le_of_ble_eq_true rfl) ?_
  exact H
set_option maxRecDepth 100000 in
theorem bX11_expression_10 {d : Nat} {Q : Option MV → MS → Prop} {s0 : Int32} {σ : MS}  (H : ((s0 = 0 → Q none σ) ∧ (¬ s0 = 0 → (R mj_OM d mX11_knot (fun r σ' => R mj_OM (d + 1) mX11_expression Q 17 [some (rV 45 0)] (r.toList ++ []) σ') 0 [some (rV 45 0)] [] σ)))) : R mj_OM (d + 1) mX11_expression Q 10 [some (rV 45 0)] [iV s0] σ := by
  refine r_if_eq (tgt := 36) dX11_expression_10 (by decide) (fun c => ?_) (fun c => ?_)
  · have H := H.1 c
    exact r_vret dX11_expression_36 rfl H
  · have H := H.2 c
    refine r_aload_n dX11_expression_13 rfl rfl ?_
    refine r_callV (z := 0) (k := 45) (i := 0) (As := []) (st := []) kX11_knot i_X11_knot e_X11_knot lX11_282 dX11_expression_14 rfl rfl ho45 rfl rfl rfl rfl rfl (Nat.le_of_ble_eq_true rfl) ?_
    exact H
set_option maxRecDepth 100000 in
theorem bX11_expression_17 {d : Nat} {Q : Option MV → MS → Prop}  {σ : MS}  (H : (R mj_OM d mX11_goOn (fun r σ' => R mj_OM (d + 1) mX11_expression Q 21 [some (rV 45 0)] (r.toList ++ []) σ') 0 [some (rV 45 0)] [] σ)) : R mj_OM (d + 1) mX11_expression Q 17 [some (rV 45 0)] [] σ := by
  refine r_aload_n dX11_expression_17 rfl rfl ?_
  refine r_callV (z := 0) (k := 45) (i := 0) (As := []) (st := []) kX11_goOn i_X11_goOn e_X11_goOn lX11_258 dX11_expression_18 rfl rfl ho45 rfl rfl rfl rfl rfl (Nat.le_of_ble_eq_true rfl) ?_
  exact H
set_option maxRecDepth 100000 in
theorem bX11_expression_21 {d : Nat} {Q : Option MV → MS → Prop}  {σ : MS}  (H : (R mj_OM d mX11_conjunction (fun r σ' => R mj_OM (d + 1) mX11_expression Q 25 [some (rV 45 0)] (r.toList ++ []) σ') 0 [some (rV 45 0)] [] σ)) : R mj_OM (d + 1) mX11_expression Q 21 [some (rV 45 0)] [] σ := by
  refine r_aload_n dX11_expression_21 rfl rfl ?_
  refine r_callV (z := 0) (k := 45) (i := 0) (As := []) (st := []) kX11_conjunction i_X11_conjunction e_X11_conjunction lX11_276 dX11_expression_22 rfl rfl ho45 rfl rfl rfl rfl rfl (Nat.le_of_ble_eq_true rfl) ?_
  exact H
set_option maxRecDepth 100000 in
theorem bX11_expression_25 {d : Nat} {Q : Option MV → MS → Prop}  {σ : MS}  (H : (R mj_OM d mX11_puts (fun r σ' => R mj_OM (d + 1) mX11_expression Q 33 [some (rV 45 0)] (r.toList ++ []) σ') 0 [some (rV 45 0), some (iV (2 : Int32)), some (iV (262 : Int32))] [] σ)) : R mj_OM (d + 1) mX11_expression Q 25 [some (rV 45 0)] [] σ := by
  refine r_aload_n dX11_expression_25 rfl rfl ?_
  refine r_iconst (v := (2 : Int32)) dX11_expression_26 rfl ?_
  refine r_sipush (v := (262 : Int32)) dX11_expression_27 rfl ?_
  refine r_callV (z := 0) (k := 45) (i := 0) (As := [iV (2 : Int32), iV (262 : Int32)]) (st := []) kX11_puts i_X11_puts e_X11_puts lX11_285 dX11_expression_30 rfl rfl ho45 rfl rfl rfl rfl rfl (Nat.le_of_ble_eq_true rfl) ?_
  exact H
set_option maxRecDepth 100000 in
theorem bX11_expression_33 {d : Nat} {Q : Option MV → MS → Prop}  {σ : MS}  (H : R mj_OM d mX11_expression Q 4 [some (rV 45 0)] [] σ) : R mj_OM d mX11_expression Q 33 [some (rV 45 0)] [] σ := by
  refine r_goto (tgt := 4) dX11_expression_33 (by decide) ?_
  exact H
set_option maxRecDepth 100000 in
theorem bX11_conjunction_0 {d : Nat} {Q : Option MV → MS → Prop}  {σ : MS}  (H : (R mj_OM d mX11_negation (fun r σ' => R mj_OM (d + 1) mX11_conjunction Q 4 [some (rV 45 0)] (r.toList ++ []) σ') 0 [some (rV 45 0), none] [] σ)) : R mj_OM (d + 1) mX11_conjunction Q 0 [some (rV 45 0)] [] σ := by
  refine r_aload_n dX11_conjunction_0 rfl rfl ?_
  refine r_callV (z := 1) (k := 45) (i := 0) (As := []) (st := []) kX11_negation i_X11_negation e_X11_negation lX11_288 dX11_conjunction_1 rfl rfl ho45 rfl rfl rfl rfl rfl (Nat.le_of_ble_eq_true rfl) ?_
  exact H
set_option maxRecDepth 100000 in
theorem bX11_conjunction_4 {d : Nat} {Q : Option MV → MS → Prop}  {σ : MS}  (H : (R mj_OM d mX11_isWord (fun r σ' => R mj_OM (d + 1) mX11_conjunction Q 10 [some (rV 45 0)] (r.toList ++ []) σ') 0 [some (rV 45 0), some (iV (13 : Int32))] [] σ)) : R mj_OM (d + 1) mX11_conjunction Q 4 [some (rV 45 0)] [] σ := by
  refine r_aload_n dX11_conjunction_4 rfl rfl ?_
  refine r_bipush (v := (13 : Int32)) dX11_conjunction_5 rfl ?_
  refine r_callV (z := 0) (k := 45) (i := 0) (As := [iV (13 : Int32)]) (st := []) kX11_isWord i_X11_isWord e_X11_isWord lX11_279 dX11_conjunction_7 rfl rfl ho45 rfl rfl rfl rfl rfl (Nat.le_of_ble_eq_true rfl) ?_
  exact H
set_option maxRecDepth 100000 in
theorem bX11_conjunction_10 {d : Nat} {Q : Option MV → MS → Prop} {s0 : Int32} {σ : MS}  (H : ((s0 = 0 → Q none σ) ∧ (¬ s0 = 0 → (R mj_OM d mX11_knot (fun r σ' => R mj_OM (d + 1) mX11_conjunction Q 17 [some (rV 45 0)] (r.toList ++ []) σ') 0 [some (rV 45 0)] [] σ)))) : R mj_OM (d + 1) mX11_conjunction Q 10 [some (rV 45 0)] [iV s0] σ := by
  refine r_if_eq (tgt := 36) dX11_conjunction_10 (by decide) (fun c => ?_) (fun c => ?_)
  · have H := H.1 c
    exact r_vret dX11_conjunction_36 rfl H
  · have H := H.2 c
    refine r_aload_n dX11_conjunction_13 rfl rfl ?_
    refine r_callV (z := 0) (k := 45) (i := 0) (As := []) (st := []) kX11_knot i_X11_knot e_X11_knot lX11_282 dX11_conjunction_14 rfl rfl ho45 rfl rfl rfl rfl rfl (Nat.le_of_ble_eq_true rfl) ?_
    exact H
set_option maxRecDepth 100000 in
theorem bX11_conjunction_17 {d : Nat} {Q : Option MV → MS → Prop}  {σ : MS}  (H : (R mj_OM d mX11_goOn (fun r σ' => R mj_OM (d + 1) mX11_conjunction Q 21 [some (rV 45 0)] (r.toList ++ []) σ') 0 [some (rV 45 0)] [] σ)) : R mj_OM (d + 1) mX11_conjunction Q 17 [some (rV 45 0)] [] σ := by
  refine r_aload_n dX11_conjunction_17 rfl rfl ?_
  refine r_callV (z := 0) (k := 45) (i := 0) (As := []) (st := []) kX11_goOn i_X11_goOn e_X11_goOn lX11_258 dX11_conjunction_18 rfl rfl ho45 rfl rfl rfl rfl rfl (Nat.le_of_ble_eq_true rfl) ?_
  exact H
set_option maxRecDepth 100000 in
theorem bX11_conjunction_21 {d : Nat} {Q : Option MV → MS → Prop}  {σ : MS}  (H : (R mj_OM d mX11_negation (fun r σ' => R mj_OM (d + 1) mX11_conjunction Q 25 [some (rV 45 0)] (r.toList ++ []) σ') 0 [some (rV 45 0), none] [] σ)) : R mj_OM (d + 1) mX11_conjunction Q 21 [some (rV 45 0)] [] σ := by
  refine r_aload_n dX11_conjunction_21 rfl rfl ?_
  refine r_callV (z := 1) (k := 45) (i := 0) (As := []) (st := []) kX11_negation i_X11_negation e_X11_negation lX11_288 dX11_conjunction_22 rfl rfl ho45 rfl rfl rfl rfl rfl (Nat.le_of_ble_eq_true rfl) ?_
  exact H
set_option maxRecDepth 100000 in
theorem bX11_conjunction_25 {d : Nat} {Q : Option MV → MS → Prop}  {σ : MS}  (H : (R mj_OM d mX11_puts (fun r σ' => R mj_OM (d + 1) mX11_conjunction Q 33 [some (rV 45 0)] (r.toList ++ []) σ') 0 [some (rV 45 0), some (iV (2 : Int32)), some (iV (261 : Int32))] [] σ)) : R mj_OM (d + 1) mX11_conjunction Q 25 [some (rV 45 0)] [] σ := by
  refine r_aload_n dX11_conjunction_25 rfl rfl ?_
  refine r_iconst (v := (2 : Int32)) dX11_conjunction_26 rfl ?_
  refine r_sipush (v := (261 : Int32)) dX11_conjunction_27 rfl ?_
  refine r_callV (z := 0) (k := 45) (i := 0) (As := [iV (2 : Int32), iV (261 : Int32)]) (st := []) kX11_puts i_X11_puts e_X11_puts lX11_285 dX11_conjunction_30 rfl rfl ho45 rfl rfl rfl rfl rfl (Nat.le_of_ble_eq_true rfl) ?_
  exact H
set_option maxRecDepth 100000 in
theorem bX11_conjunction_33 {d : Nat} {Q : Option MV → MS → Prop}  {σ : MS}  (H : R mj_OM d mX11_conjunction Q 4 [some (rV 45 0)] [] σ) : R mj_OM d mX11_conjunction Q 33 [some (rV 45 0)] [] σ := by
  refine r_goto (tgt := 4) dX11_conjunction_33 (by decide) ?_
  exact H
set_option maxRecDepth 100000 in
theorem bX11_negation_0 {d : Nat} {Q : Option MV → MS → Prop}  {σ : MS}  (H : (R mj_OM d mX11_isWord (fun r σ' => R mj_OM (d + 1) mX11_negation Q 6 [some (rV 45 0), none] (r.toList ++ []) σ') 0 [some (rV 45 0), some (iV (14 : Int32))] [] σ)) : R mj_OM (d + 1) mX11_negation Q 0 [some (rV 45 0), none] [] σ := by
  refine r_aload_n dX11_negation_0 rfl rfl ?_
  refine r_bipush (v := (14 : Int32)) dX11_negation_1 rfl ?_
  refine r_callV (z := 0) (k := 45) (i := 0) (As := [iV (14 : Int32)]) (st := []) kX11_isWord i_X11_isWord e_X11_isWord lX11_279 dX11_negation_3 rfl rfl ho45 rfl rfl rfl rfl rfl (Nat.le_of_ble_eq_true rfl) ?_
  exact H
set_option maxRecDepth 100000 in
theorem bX11_negation_6 {d : Nat} {Q : Option MV → MS → Prop} {s0 : Int32} {σ : MS}  (H : ((s0 = 0 → (R mj_OM d mX11_sum (fun r σ' => R mj_OM (d + 1) mX11_negation Q 34 [some (rV 45 0), none] (r.toList ++ []) σ') 0 [some (rV 45 0), none] [] σ)) ∧ (¬ s0 = 0 → (R mj_OM d mX11_knot (fun r σ' => R mj_OM (d + 1) mX11_negation Q 13 [some (rV 45 0), none] (r.toList ++ []) σ') 0 [some (rV 45 0)] [] σ)))) : R mj_OM (d + 1) mX11_negation Q 6 [some (rV 45 0), none] [iV s0] σ := by
  refine r_if_eq (tgt := 30) dX11_negation_6 (by decide) (fun c => ?_) (fun c => ?_)
  · have H := H.1 c
    refine r_aload_n dX11_negation_30 rfl rfl ?_
    refine r_callV (z := 1) (k := 45) (i := 0) (As := []) (st := []) kX11_sum i_X11_sum e_X11_sum lX11_291 dX11_negation_31 rfl rfl ho45 rfl rfl rfl rfl rfl (Nat.le_of_ble_eq_true rfl) ?_
    exact H
  · have H := H.2 c
    refine r_aload_n dX11_negation_9 rfl rfl ?_
    refine r_callV (z := 0) (k := 45) (i := 0) (As := []) (st := []) kX11_knot i_X11_knot e_X11_knot lX11_282 dX11_negation_10 rfl rfl ho45 rfl rfl rfl rfl rfl (Nat.le_of_ble_eq_true rfl) ?_
    exact H
set_option maxRecDepth 100000 in
theorem bX11_negation_13 {d : Nat} {Q : Option MV → MS → Prop}  {σ : MS}  (H : (R mj_OM d mX11_goOn (fun r σ' => R mj_OM (d + 1) mX11_negation Q 17 [some (rV 45 0), none] (r.toList ++ []) σ') 0 [some (rV 45 0)] [] σ)) : R mj_OM (d + 1) mX11_negation Q 13 [some (rV 45 0), none] [] σ := by
  refine r_aload_n dX11_negation_13 rfl rfl ?_
  refine r_callV (z := 0) (k := 45) (i := 0) (As := []) (st := []) kX11_goOn i_X11_goOn e_X11_goOn lX11_258 dX11_negation_14 rfl rfl ho45 rfl rfl rfl rfl rfl (Nat.le_of_ble_eq_true rfl) ?_
  exact H
set_option maxRecDepth 100000 in
theorem bX11_negation_17 {d : Nat} {Q : Option MV → MS → Prop}  {σ : MS}  (H : (R mj_OM d mX11_negation (fun r σ' => R mj_OM (d + 1) mX11_negation Q 21 [some (rV 45 0), none] (r.toList ++ []) σ') 0 [some (rV 45 0), none] [] σ)) : R mj_OM (d + 1) mX11_negation Q 17 [some (rV 45 0), none] [] σ := by
  refine r_aload_n dX11_negation_17 rfl rfl ?_
  refine r_callV (z := 1) (k := 45) (i := 0) (As := []) (st := []) kX11_negation i_X11_negation e_X11_negation lX11_288 dX11_negation_18 rfl rfl ho45 rfl rfl rfl rfl rfl (Nat.le_of_ble_eq_true rfl) ?_
  exact H
set_option maxRecDepth 100000 in
theorem bX11_negation_21 {d : Nat} {Q : Option MV → MS → Prop}  {σ : MS}  (H : (R mj_OM d mX11_puts (fun r σ' => R mj_OM (d + 1) mX11_negation Q 29 [some (rV 45 0), none] (r.toList ++ []) σ') 0 [some (rV 45 0), some (iV (2 : Int32)), some (iV (260 : Int32))] [] σ)) : R mj_OM (d + 1) mX11_negation Q 21 [some (rV 45 0), none] [] σ := by
  refine r_aload_n dX11_negation_21 rfl rfl ?_
  refine r_iconst (v := (2 : Int32)) dX11_negation_22 rfl ?_
  refine r_sipush (v := (260 : Int32)) dX11_negation_23 rfl ?_
  refine r_callV (z := 0) (k := 45) (i := 0) (As := [iV (2 : Int32), iV (260 : Int32)]) (st := []) kX11_puts i_X11_puts e_X11_puts lX11_285 dX11_negation_26 rfl rfl ho45 rfl rfl rfl rfl rfl (Nat.le_of_ble_eq_true rfl) ?_
  exact H
set_option maxRecDepth 100000 in
theorem bX11_negation_29 {d : Nat} {Q : Option MV → MS → Prop}  {σ : MS}  (H : Q none σ) : R mj_OM d mX11_negation Q 29 [some (rV 45 0), none] [] σ := by
  exact r_vret dX11_negation_29 rfl H
set_option maxRecDepth 100000 in
theorem bX11_negation_34 {d : Nat} {Q : Option MV → MS → Prop}  {σ : MS}  (H : ((¬ (σ.1 45 0 31) = 0 → Q none σ) ∧ ((σ.1 45 0 31) = 0 → ((¬ (σ.1 45 0 29) = (3 : Int32) → Q none σ) ∧ ((σ.1 45 0 29) = (3 : Int32) → (((σ.1 45 0 30) = (60 : Int32) → (R mj_OM d mX11_knot (fun r σ' => R mj_OM (d + 1) mX11_negation Q 96 [some (rV 45 0), some (iV (σ.1 45 0 30))] (r.toList ++ []) σ') 0 [some (rV 45 0)] [] σ)) ∧ (¬ (σ.1 45 0 30) = (60 : Int32) → (((σ.1 45 0 30) = (62 : Int32) → (R mj_OM d mX11_knot (fun r σ' => R mj_OM (d + 1) mX11_negation Q 96 [some (rV 45 0), some (iV (σ.1 45 0 30))] (r.toList ++ []) σ') 0 [some (rV 45 0)] [] σ)) ∧ (¬ (σ.1 45 0 30) = (62 : Int32) → (((σ.1 45 0 30) = (61 : Int32) → (R mj_OM d mX11_knot (fun r σ' => R mj_OM (d + 1) mX11_negation Q 96 [some (rV 45 0), some (iV (σ.1 45 0 30))] (r.toList ++ []) σ') 0 [some (rV 45 0)] [] σ)) ∧ (¬ (σ.1 45 0 30) = (61 : Int32) → (((256 : Int32) ≤ (σ.1 45 0 30) → (R mj_OM d mX11_knot (fun r σ' => R mj_OM (d + 1) mX11_negation Q 96 [some (rV 45 0), some (iV (σ.1 45 0 30))] (r.toList ++ []) σ') 0 [some (rV 45 0)] [] σ)) ∧ (¬ (256 : Int32) ≤ (σ.1 45 0 30) → Q none σ))))))))))))) : R mj_OM (d + 1) mX11_negation Q 34 [some (rV 45 0), none] [] σ := by
  refine r_aload_n dX11_negation_34 rfl rfl ?_
  refine r_get (k := 45) (i := 0) (j := 31) (v := iV (σ.1 45 0 31)) rfl rfl ho45 rfl hX11 (by decide) rfl fX11_205 dX11_negation_35 (fun _ => rfl) ?_
  refine r_if_ne (tgt := 86) dX11_negation_38 (by decide) (fun c => ?_) (fun c => ?_)
  · have H := H.1 c
    exact r_vret dX11_negation_86 rfl H
  · have H := H.2 c
    refine r_aload_n dX11_negation_41 rfl rfl ?_
    refine r_get (k := 45) (i := 0) (j := 29) (v := iV (σ.1 45 0 29)) rfl rfl ho45 rfl hX11 (by decide) rfl fX11_170 dX11_negation_42 (fun _ => rfl) ?_
    refine r_iconst (v := (3 : Int32)) dX11_negation_45 rfl ?_
    refine r_icmp_ne (tgt := 86) dX11_negation_46 (by decide) (fun c => ?_) (fun c => ?_)
    · have H := H.1 c
      exact r_vret dX11_negation_86 rfl H
    · have H := H.2 c
      refine r_aload_n dX11_negation_49 rfl rfl ?_
      refine r_get (k := 45) (i := 0) (j := 30) (v := iV (σ.1 45 0 30)) rfl rfl ho45 rfl hX11 (by decide) rfl fX11_180 dX11_negation_50 (fun _ => rfl) ?_
      refine r_bipush (v := (60 : Int32)) dX11_negation_53 rfl ?_
      refine r_icmp_eq (tgt := 87) dX11_negation_55 (by decide) (fun c => ?_) (fun c => ?_)
      · have H := H.1 c
        refine r_aload_n dX11_negation_87 rfl rfl ?_
        refine r_get (k := 45) (i := 0) (j := 30) (v := iV (σ.1 45 0 30)) rfl rfl ho45 rfl hX11 (by decide) rfl fX11_180 dX11_negation_88 (fun _ => rfl) ?_
        refine r_istore_n dX11_negation_91 rfl (by decide) rfl ?_
        refine r_aload_n dX11_negation_92 rfl rfl ?_
        refine r_callV (z := 0) (k := 45) (i := 0) (As := []) (st := []) kX11_knot i_X11_knot e_X11_knot lX11_282 dX11_negation_93 rfl rfl ho45 rfl rfl rfl rfl rfl (Nat.le_of_ble_eq_true rfl) ?_
        exact H
      · have H := H.2 c
        refine r_aload_n dX11_negation_58 rfl rfl ?_
        refine r_get (k := 45) (i := 0) (j := 30) (v := iV (σ.1 45 0 30)) rfl rfl ho45 rfl hX11 (by decide) rfl fX11_180 dX11_negation_59 (fun _ => rfl) ?_
        refine r_bipush (v := (62 : Int32)) dX11_negation_62 rfl ?_
        refine r_icmp_eq (tgt := 87) dX11_negation_64 (by decide) (fun c => ?_) (fun c => ?_)
        · have H := H.1 c
          refine r_aload_n dX11_negation_87 rfl rfl ?_
          refine r_get (k := 45) (i := 0) (j := 30) (v := iV (σ.1 45 0 30)) rfl rfl ho45 rfl hX11 (by decide) rfl fX11_180 dX11_negation_88 (fun _ => rfl) ?_
          refine r_istore_n dX11_negation_91 rfl (by decide) rfl ?_
          refine r_aload_n dX11_negation_92 rfl rfl ?_
          refine r_callV (z := 0) (k := 45) (i := 0) (As := []) (st := []) kX11_knot i_X11_knot e_X11_knot lX11_282 dX11_negation_93 rfl rfl ho45 rfl rfl rfl rfl rfl (Nat.le_of_ble_eq_true rfl) ?_
          exact H
        · have H := H.2 c
          refine r_aload_n dX11_negation_67 rfl rfl ?_
          refine r_get (k := 45) (i := 0) (j := 30) (v := iV (σ.1 45 0 30)) rfl rfl ho45 rfl hX11 (by decide) rfl fX11_180 dX11_negation_68 (fun _ => rfl) ?_
          refine r_bipush (v := (61 : Int32)) dX11_negation_71 rfl ?_
          refine r_icmp_eq (tgt := 87) dX11_negation_73 (by decide) (fun c => ?_) (fun c => ?_)
          · have H := H.1 c
            refine r_aload_n dX11_negation_87 rfl rfl ?_
            refine r_get (k := 45) (i := 0) (j := 30) (v := iV (σ.1 45 0 30)) rfl rfl ho45 rfl hX11 (by decide) rfl fX11_180 dX11_negation_88 (fun _ => rfl) ?_
            refine r_istore_n dX11_negation_91 rfl (by decide) rfl ?_
            refine r_aload_n dX11_negation_92 rfl rfl ?_
            refine r_callV (z := 0) (k := 45) (i := 0) (As := []) (st := []) kX11_knot i_X11_knot e_X11_knot lX11_282 dX11_negation_93 rfl rfl ho45 rfl rfl rfl rfl rfl (Nat.le_of_ble_eq_true rfl) ?_
            exact H
          · have H := H.2 c
            refine r_aload_n dX11_negation_76 rfl rfl ?_
            refine r_get (k := 45) (i := 0) (j := 30) (v := iV (σ.1 45 0 30)) rfl rfl ho45 rfl hX11 (by decide) rfl fX11_180 dX11_negation_77 (fun _ => rfl) ?_
            refine r_sipush (v := (256 : Int32)) dX11_negation_80 rfl ?_
            refine r_icmp_ge (tgt := 87) dX11_negation_83 (by decide) (fun c => ?_) (fun c => ?_)
            · have H := H.1 c
              refine r_aload_n dX11_negation_87 rfl rfl ?_
              refine r_get (k := 45) (i := 0) (j := 30) (v := iV (σ.1 45 0 30)) rfl rfl ho45 rfl hX11 (by decide) rfl fX11_180 dX11_negation_88 (fun _ => rfl) ?_
              refine r_istore_n dX11_negation_91 rfl (by decide) rfl ?_
              refine r_aload_n dX11_negation_92 rfl rfl ?_
              refine r_callV (z := 0) (k := 45) (i := 0) (As := []) (st := []) kX11_knot i_X11_knot e_X11_knot lX11_282 dX11_negation_93 rfl rfl ho45 rfl rfl rfl rfl rfl (Nat.le_of_ble_eq_true rfl) ?_
              exact H
            · have H := H.2 c
              exact r_vret dX11_negation_86 rfl H
set_option maxRecDepth 100000 in
theorem bX11_negation_96 {d : Nat} {Q : Option MV → MS → Prop} {x1 : Int32} {σ : MS}  (H : (R mj_OM d mX11_goOn (fun r σ' => R mj_OM (d + 1) mX11_negation Q 100 [some (rV 45 0), some (iV x1)] (r.toList ++ []) σ') 0 [some (rV 45 0)] [] σ)) : R mj_OM (d + 1) mX11_negation Q 96 [some (rV 45 0), some (iV x1)] [] σ := by
  refine r_aload_n dX11_negation_96 rfl rfl ?_
  refine r_callV (z := 0) (k := 45) (i := 0) (As := []) (st := []) kX11_goOn i_X11_goOn e_X11_goOn lX11_258 dX11_negation_97 rfl rfl ho45 rfl rfl rfl rfl rfl (Nat.le_of_ble_eq_true rfl) ?_
  exact H
set_option maxRecDepth 100000 in
theorem bX11_negation_100 {d : Nat} {Q : Option MV → MS → Prop} {x1 : Int32} {σ : MS}  (H : (R mj_OM d mX11_sum (fun r σ' => R mj_OM (d + 1) mX11_negation Q 104 [some (rV 45 0), some (iV x1)] (r.toList ++ []) σ') 0 [some (rV 45 0), none] [] σ)) : R mj_OM (d + 1) mX11_negation Q 100 [some (rV 45 0), some (iV x1)] [] σ := by
  refine r_aload_n dX11_negation_100 rfl rfl ?_
  refine r_callV (z := 1) (k := 45) (i := 0) (As := []) (st := []) kX11_sum i_X11_sum e_X11_sum lX11_291 dX11_negation_101 rfl rfl ho45 rfl rfl rfl rfl rfl (Nat.le_of_ble_eq_true rfl) ?_
  exact H
set_option maxRecDepth 100000 in
theorem bX11_negation_104 {d : Nat} {Q : Option MV → MS → Prop} {x1 : Int32} {σ : MS}  (H : (R mj_OM d mX11_puts (fun r σ' => R mj_OM (d + 1) mX11_negation Q 110 [some (rV 45 0), some (iV x1)] (r.toList ++ []) σ') 0 [some (rV 45 0), some (iV (2 : Int32)), some (iV x1)] [] σ)) : R mj_OM (d + 1) mX11_negation Q 104 [some (rV 45 0), some (iV x1)] [] σ := by
  refine r_aload_n dX11_negation_104 rfl rfl ?_
  refine r_iconst (v := (2 : Int32)) dX11_negation_105 rfl ?_
  refine r_iload_n dX11_negation_106 rfl rfl ?_
  refine r_callV (z := 0) (k := 45) (i := 0) (As := [iV (2 : Int32), iV x1]) (st := []) kX11_puts i_X11_puts e_X11_puts lX11_285 dX11_negation_107 rfl rfl ho45 rfl rfl rfl rfl rfl (Nat.le_of_ble_eq_true rfl) ?_
  exact H
set_option maxRecDepth 100000 in
theorem bX11_negation_110 {d : Nat} {Q : Option MV → MS → Prop} {x1 : Int32} {σ : MS}  (H : Q none σ) : R mj_OM d mX11_negation Q 110 [some (rV 45 0), some (iV x1)] [] σ := by
  exact r_vret dX11_negation_110 rfl H
set_option maxRecDepth 100000 in
theorem bX11_sum_0 {d : Nat} {Q : Option MV → MS → Prop}  {σ : MS}  (H : (R mj_OM d mX11_product (fun r σ' => R mj_OM (d + 1) mX11_sum Q 4 [some (rV 45 0), none] (r.toList ++ []) σ') 0 [some (rV 45 0), none] [] σ)) : R mj_OM (d + 1) mX11_sum Q 0 [some (rV 45 0), none] [] σ := by
  refine r_aload_n dX11_sum_0 rfl rfl ?_
  refine r_callV (z := 1) (k := 45) (i := 0) (As := []) (st := []) kX11_product i_X11_product e_X11_product lX11_294 dX11_sum_1 rfl rfl ho45 rfl rfl rfl rfl rfl (Nat.le_of_ble_eq_true rfl) ?_
  exact H
set_option maxRecDepth 100000 in
theorem bX11_sum_4 {d : Nat} {Q : Option MV → MS → Prop}  {σ : MS}  (H : (R mj_OM d mX11_isSign (fun r σ' => R mj_OM (d + 1) mX11_sum Q 10 [some (rV 45 0), none] (r.toList ++ []) σ') 0 [some (rV 45 0), some (iV (43 : Int32))] [] σ)) : R mj_OM (d + 1) mX11_sum Q 4 [some (rV 45 0), none] [] σ := by
  refine r_aload_n dX11_sum_4 rfl rfl ?_
  refine r_bipush (v := (43 : Int32)) dX11_sum_5 rfl ?_
  refine r_callV (z := 0) (k := 45) (i := 0) (As := [iV (43 : Int32)]) (st := []) kX11_isSign i_X11_isSign e_X11_isSign lX11_264 dX11_sum_7 rfl rfl ho45 rfl rfl rfl rfl rfl (Nat.le_of_ble_eq_true rfl) ?_
  exact H
set_option maxRecDepth 100000 in
theorem bX11_sum_10 {d : Nat} {Q : Option MV → MS → Prop} {s0 : Int32} {σ : MS}  (H : ((¬ s0 = 0 → (R mj_OM d mX11_knot (fun r σ' => R mj_OM (d + 1) mX11_sum Q 31 [some (rV 45 0), some (iV (σ.1 45 0 30))] (r.toList ++ []) σ') 0 [some (rV 45 0)] [] σ)) ∧ (s0 = 0 → (R mj_OM d mX11_isSign (fun r σ' => R mj_OM (d + 1) mX11_sum Q 19 [some (rV 45 0), none] (r.toList ++ []) σ') 0 [some (rV 45 0), some (iV (45 : Int32))] [] σ)))) : R mj_OM (d + 1) mX11_sum Q 10 [some (rV 45 0), none] [iV s0] σ := by
  refine r_if_ne (tgt := 22) dX11_sum_10 (by decide) (fun c => ?_) (fun c => ?_)
  · have H := H.1 c
    refine r_aload_n dX11_sum_22 rfl rfl ?_
    refine r_get (k := 45) (i := 0) (j := 30) (v := iV (σ.1 45 0 30)) rfl rfl ho45 rfl hX11 (by decide) rfl fX11_180 dX11_sum_23 (fun _ => rfl) ?_
    refine r_istore_n dX11_sum_26 rfl (by decide) rfl ?_
    refine r_aload_n dX11_sum_27 rfl rfl ?_
    refine r_callV (z := 0) (k := 45) (i := 0) (As := []) (st := []) kX11_knot i_X11_knot e_X11_knot lX11_282 dX11_sum_28 rfl rfl ho45 rfl rfl rfl rfl rfl (Nat.le_of_ble_eq_true rfl) ?_
    exact H
  · have H := H.2 c
    refine r_aload_n dX11_sum_13 rfl rfl ?_
    refine r_bipush (v := (45 : Int32)) dX11_sum_14 rfl ?_
    refine r_callV (z := 0) (k := 45) (i := 0) (As := [iV (45 : Int32)]) (st := []) kX11_isSign i_X11_isSign e_X11_isSign lX11_264 dX11_sum_16 rfl rfl ho45 rfl rfl rfl rfl rfl (Nat.le_of_ble_eq_true rfl) ?_
    exact H
set_option maxRecDepth 100000 in
theorem bX11_sum_19 {d : Nat} {Q : Option MV → MS → Prop} {s0 : Int32} {σ : MS}  (H : ((s0 = 0 → Q none σ) ∧ (¬ s0 = 0 → (R mj_OM d mX11_knot (fun r σ' => R mj_OM (d + 1) mX11_sum Q 31 [some (rV 45 0), some (iV (σ.1 45 0 30))] (r.toList ++ []) σ') 0 [some (rV 45 0)] [] σ)))) : R mj_OM (d + 1) mX11_sum Q 19 [some (rV 45 0), none] [iV s0] σ := by
  refine r_if_eq (tgt := 48) dX11_sum_19 (by decide) (fun c => ?_) (fun c => ?_)
  · have H := H.1 c
    exact r_vret dX11_sum_48 rfl H
  · have H := H.2 c
    refine r_aload_n dX11_sum_22 rfl rfl ?_
    refine r_get (k := 45) (i := 0) (j := 30) (v := iV (σ.1 45 0 30)) rfl rfl ho45 rfl hX11 (by decide) rfl fX11_180 dX11_sum_23 (fun _ => rfl) ?_
    refine r_istore_n dX11_sum_26 rfl (by decide) rfl ?_
    refine r_aload_n dX11_sum_27 rfl rfl ?_
    refine r_callV (z := 0) (k := 45) (i := 0) (As := []) (st := []) kX11_knot i_X11_knot e_X11_knot lX11_282 dX11_sum_28 rfl rfl ho45 rfl rfl rfl rfl rfl (Nat.le_of_ble_eq_true rfl) ?_
    exact H
set_option maxRecDepth 100000 in
theorem bX11_sum_31 {d : Nat} {Q : Option MV → MS → Prop} {x1 : Int32} {σ : MS}  (H : (R mj_OM d mX11_goOn (fun r σ' => R mj_OM (d + 1) mX11_sum Q 35 [some (rV 45 0), some (iV x1)] (r.toList ++ []) σ') 0 [some (rV 45 0)] [] σ)) : R mj_OM (d + 1) mX11_sum Q 31 [some (rV 45 0), some (iV x1)] [] σ := by
  refine r_aload_n dX11_sum_31 rfl rfl ?_
  refine r_callV (z := 0) (k := 45) (i := 0) (As := []) (st := []) kX11_goOn i_X11_goOn e_X11_goOn lX11_258 dX11_sum_32 rfl rfl ho45 rfl rfl rfl rfl rfl (Nat.le_of_ble_eq_true rfl) ?_
  exact H
set_option maxRecDepth 100000 in
theorem bX11_sum_35 {d : Nat} {Q : Option MV → MS → Prop} {x1 : Int32} {σ : MS}  (H : (R mj_OM d mX11_product (fun r σ' => R mj_OM (d + 1) mX11_sum Q 39 [some (rV 45 0), some (iV x1)] (r.toList ++ []) σ') 0 [some (rV 45 0), none] [] σ)) : R mj_OM (d + 1) mX11_sum Q 35 [some (rV 45 0), some (iV x1)] [] σ := by
  refine r_aload_n dX11_sum_35 rfl rfl ?_
  refine r_callV (z := 1) (k := 45) (i := 0) (As := []) (st := []) kX11_product i_X11_product e_X11_product lX11_294 dX11_sum_36 rfl rfl ho45 rfl rfl rfl rfl rfl (Nat.le_of_ble_eq_true rfl) ?_
  exact H
set_option maxRecDepth 100000 in
theorem bX11_sum_39 {d : Nat} {Q : Option MV → MS → Prop} {x1 : Int32} {σ : MS}  (H : (R mj_OM d mX11_puts (fun r σ' => R mj_OM (d + 1) mX11_sum Q 45 [some (rV 45 0), some (iV x1)] (r.toList ++ []) σ') 0 [some (rV 45 0), some (iV (2 : Int32)), some (iV x1)] [] σ)) : R mj_OM (d + 1) mX11_sum Q 39 [some (rV 45 0), some (iV x1)] [] σ := by
  refine r_aload_n dX11_sum_39 rfl rfl ?_
  refine r_iconst (v := (2 : Int32)) dX11_sum_40 rfl ?_
  refine r_iload_n dX11_sum_41 rfl rfl ?_
  refine r_callV (z := 0) (k := 45) (i := 0) (As := [iV (2 : Int32), iV x1]) (st := []) kX11_puts i_X11_puts e_X11_puts lX11_285 dX11_sum_42 rfl rfl ho45 rfl rfl rfl rfl rfl (Nat.le_of_ble_eq_true rfl) ?_
  exact H
set_option maxRecDepth 100000 in
theorem bX11_sum_45 {d : Nat} {Q : Option MV → MS → Prop} {x1 : Int32} {σ : MS}  (H : R mj_OM d mX11_sum Q 4 [some (rV 45 0), none] [] σ) : R mj_OM d mX11_sum Q 45 [some (rV 45 0), some (iV x1)] [] σ := by
  refine r_goto (tgt := 4) dX11_sum_45 (by decide) ?_
  exact R.fw (ls' := [some (rV 45 0), none]) ⟨rfl, trivial⟩ H
set_option maxRecDepth 100000 in
theorem bX11_product_0 {d : Nat} {Q : Option MV → MS → Prop}  {σ : MS}  (H : (R mj_OM d mX11_primary (fun r σ' => R mj_OM (d + 1) mX11_product Q 4 [some (rV 45 0), none] (r.toList ++ []) σ') 0 [some (rV 45 0), none] [] σ)) : R mj_OM (d + 1) mX11_product Q 0 [some (rV 45 0), none] [] σ := by
  refine r_aload_n dX11_product_0 rfl rfl ?_
  refine r_callV (z := 1) (k := 45) (i := 0) (As := []) (st := []) kX11_primary i_X11_primary e_X11_primary lX11_297 dX11_product_1 rfl rfl ho45 rfl rfl rfl rfl rfl (Nat.le_of_ble_eq_true rfl) ?_
  exact H
set_option maxRecDepth 100000 in
theorem bX11_product_4 {d : Nat} {Q : Option MV → MS → Prop}  {σ : MS}  (H : (R mj_OM d mX11_isSign (fun r σ' => R mj_OM (d + 1) mX11_product Q 10 [some (rV 45 0), none] (r.toList ++ []) σ') 0 [some (rV 45 0), some (iV (42 : Int32))] [] σ)) : R mj_OM (d + 1) mX11_product Q 4 [some (rV 45 0), none] [] σ := by
  refine r_aload_n dX11_product_4 rfl rfl ?_
  refine r_bipush (v := (42 : Int32)) dX11_product_5 rfl ?_
  refine r_callV (z := 0) (k := 45) (i := 0) (As := [iV (42 : Int32)]) (st := []) kX11_isSign i_X11_isSign e_X11_isSign lX11_264 dX11_product_7 rfl rfl ho45 rfl rfl rfl rfl rfl (Nat.le_of_ble_eq_true rfl) ?_
  exact H
set_option maxRecDepth 100000 in
theorem bX11_product_10 {d : Nat} {Q : Option MV → MS → Prop} {s0 : Int32} {σ : MS}  (H : ((¬ s0 = 0 → (R mj_OM d mX11_knot (fun r σ' => R mj_OM (d + 1) mX11_product Q 31 [some (rV 45 0), some (iV (σ.1 45 0 30))] (r.toList ++ []) σ') 0 [some (rV 45 0)] [] σ)) ∧ (s0 = 0 → (R mj_OM d mX11_isSign (fun r σ' => R mj_OM (d + 1) mX11_product Q 19 [some (rV 45 0), none] (r.toList ++ []) σ') 0 [some (rV 45 0), some (iV (47 : Int32))] [] σ)))) : R mj_OM (d + 1) mX11_product Q 10 [some (rV 45 0), none] [iV s0] σ := by
  refine r_if_ne (tgt := 22) dX11_product_10 (by decide) (fun c => ?_) (fun c => ?_)
  · have H := H.1 c
    refine r_aload_n dX11_product_22 rfl rfl ?_
    refine r_get (k := 45) (i := 0) (j := 30) (v := iV (σ.1 45 0 30)) rfl rfl ho45 rfl hX11 (by decide) rfl fX11_180 dX11_product_23 (fun _ => rfl) ?_
    refine r_istore_n dX11_product_26 rfl (by decide) rfl ?_
    refine r_aload_n dX11_product_27 rfl rfl ?_
    refine r_callV (z := 0) (k := 45) (i := 0) (As := []) (st := []) kX11_knot i_X11_knot e_X11_knot lX11_282 dX11_product_28 rfl rfl ho45 rfl rfl rfl rfl rfl (Nat.le_of_ble_eq_true rfl) ?_
    exact H
  · have H := H.2 c
    refine r_aload_n dX11_product_13 rfl rfl ?_
    refine r_bipush (v := (47 : Int32)) dX11_product_14 rfl ?_
    refine r_callV (z := 0) (k := 45) (i := 0) (As := [iV (47 : Int32)]) (st := []) kX11_isSign i_X11_isSign e_X11_isSign lX11_264 dX11_product_16 rfl rfl ho45 rfl rfl rfl rfl rfl (Nat.le_of_ble_eq_true rfl) ?_
    exact H
set_option maxRecDepth 100000 in
theorem bX11_product_19 {d : Nat} {Q : Option MV → MS → Prop} {s0 : Int32} {σ : MS}  (H : ((s0 = 0 → Q none σ) ∧ (¬ s0 = 0 → (R mj_OM d mX11_knot (fun r σ' => R mj_OM (d + 1) mX11_product Q 31 [some (rV 45 0), some (iV (σ.1 45 0 30))] (r.toList ++ []) σ') 0 [some (rV 45 0)] [] σ)))) : R mj_OM (d + 1) mX11_product Q 19 [some (rV 45 0), none] [iV s0] σ := by
  refine r_if_eq (tgt := 48) dX11_product_19 (by decide) (fun c => ?_) (fun c => ?_)
  · have H := H.1 c
    exact r_vret dX11_product_48 rfl H
  · have H := H.2 c
    refine r_aload_n dX11_product_22 rfl rfl ?_
    refine r_get (k := 45) (i := 0) (j := 30) (v := iV (σ.1 45 0 30)) rfl rfl ho45 rfl hX11 (by decide) rfl fX11_180 dX11_product_23 (fun _ => rfl) ?_
    refine r_istore_n dX11_product_26 rfl (by decide) rfl ?_
    refine r_aload_n dX11_product_27 rfl rfl ?_
    refine r_callV (z := 0) (k := 45) (i := 0) (As := []) (st := []) kX11_knot i_X11_knot e_X11_knot lX11_282 dX11_product_28 rfl rfl ho45 rfl rfl rfl rfl rfl (Nat.le_of_ble_eq_true rfl) ?_
    exact H
set_option maxRecDepth 100000 in
theorem bX11_product_31 {d : Nat} {Q : Option MV → MS → Prop} {x1 : Int32} {σ : MS}  (H : (R mj_OM d mX11_goOn (fun r σ' => R mj_OM (d + 1) mX11_product Q 35 [some (rV 45 0), some (iV x1)] (r.toList ++ []) σ') 0 [some (rV 45 0)] [] σ)) : R mj_OM (d + 1) mX11_product Q 31 [some (rV 45 0), some (iV x1)] [] σ := by
  refine r_aload_n dX11_product_31 rfl rfl ?_
  refine r_callV (z := 0) (k := 45) (i := 0) (As := []) (st := []) kX11_goOn i_X11_goOn e_X11_goOn lX11_258 dX11_product_32 rfl rfl ho45 rfl rfl rfl rfl rfl (Nat.le_of_ble_eq_true rfl) ?_
  exact H
set_option maxRecDepth 100000 in
theorem bX11_product_35 {d : Nat} {Q : Option MV → MS → Prop} {x1 : Int32} {σ : MS}  (H : (R mj_OM d mX11_primary (fun r σ' => R mj_OM (d + 1) mX11_product Q 39 [some (rV 45 0), some (iV x1)] (r.toList ++ []) σ') 0 [some (rV 45 0), none] [] σ)) : R mj_OM (d + 1) mX11_product Q 35 [some (rV 45 0), some (iV x1)] [] σ := by
  refine r_aload_n dX11_product_35 rfl rfl ?_
  refine r_callV (z := 1) (k := 45) (i := 0) (As := []) (st := []) kX11_primary i_X11_primary e_X11_primary lX11_297 dX11_product_36 rfl rfl ho45 rfl rfl rfl rfl rfl (Nat.le_of_ble_eq_true rfl) ?_
  exact H
set_option maxRecDepth 100000 in
theorem bX11_product_39 {d : Nat} {Q : Option MV → MS → Prop} {x1 : Int32} {σ : MS}  (H : (R mj_OM d mX11_puts (fun r σ' => R mj_OM (d + 1) mX11_product Q 45 [some (rV 45 0), some (iV x1)] (r.toList ++ []) σ') 0 [some (rV 45 0), some (iV (2 : Int32)), some (iV x1)] [] σ)) : R mj_OM (d + 1) mX11_product Q 39 [some (rV 45 0), some (iV x1)] [] σ := by
  refine r_aload_n dX11_product_39 rfl rfl ?_
  refine r_iconst (v := (2 : Int32)) dX11_product_40 rfl ?_
  refine r_iload_n dX11_product_41 rfl rfl ?_
  refine r_callV (z := 0) (k := 45) (i := 0) (As := [iV (2 : Int32), iV x1]) (st := []) kX11_puts i_X11_puts e_X11_puts lX11_285 dX11_product_42 rfl rfl ho45 rfl rfl rfl rfl rfl (Nat.le_of_ble_eq_true rfl) ?_
  exact H
set_option maxRecDepth 100000 in
theorem bX11_product_45 {d : Nat} {Q : Option MV → MS → Prop} {x1 : Int32} {σ : MS}  (H : R mj_OM d mX11_product Q 4 [some (rV 45 0), none] [] σ) : R mj_OM d mX11_product Q 45 [some (rV 45 0), some (iV x1)] [] σ := by
  refine r_goto (tgt := 4) dX11_product_45 (by decide) ?_
  exact R.fw (ls' := [some (rV 45 0), none]) ⟨rfl, trivial⟩ H
set_option maxRecDepth 100000 in
theorem bX11_primary_0 {d : Nat} {Q : Option MV → MS → Prop}  {σ : MS}  (H : (((σ.1 45 0 31) = 0 → (R mj_OM d mX11_isSign (fun r σ' => R mj_OM (d + 1) mX11_primary Q 14 [some (rV 45 0), none] (r.toList ++ []) σ') 0 [some (rV 45 0), some (iV (40 : Int32))] [] σ)) ∧ (¬ (σ.1 45 0 31) = 0 → Q none σ))) : R mj_OM (d + 1) mX11_primary Q 0 [some (rV 45 0), none] [] σ := by
  refine r_aload_n dX11_primary_0 rfl rfl ?_
  refine r_get (k := 45) (i := 0) (j := 31) (v := iV (σ.1 45 0 31)) rfl rfl ho45 rfl hX11 (by decide) rfl fX11_205 dX11_primary_1 (fun _ => rfl) ?_
  refine r_if_eq (tgt := 8) dX11_primary_4 (by decide) (fun c => ?_) (fun c => ?_)
  · have H := H.1 c
    refine r_aload_n dX11_primary_8 rfl rfl ?_
    refine r_bipush (v := (40 : Int32)) dX11_primary_9 rfl ?_
    refine r_callV (z := 0) (k := 45) (i := 0) (As := [iV (40 : Int32)]) (st := []) kX11_isSign i_X11_isSign e_X11_isSign lX11_264 dX11_primary_11 rfl rfl ho45 rfl rfl rfl rfl rfl (Nat.le_of_ble_eq_true rfl) ?_
    exact H
  · have H := H.2 c
    exact r_vret dX11_primary_7 rfl H
set_option maxRecDepth 100000 in
theorem bX11_primary_14 {d : Nat} {Q : Option MV → MS → Prop} {s0 : Int32} {σ : MS}  (H : ((s0 = 0 → ((¬ (σ.1 45 0 29) = (2 : Int32) → (((0 : Int32) = 0 → ((¬ (0 : Int32) = 0 → (R mj_OM d mX11_knot (fun r σ' => R mj_OM (d + 1) mX11_primary Q 166 [some (rV 45 0), some (iV (0 : Int32))] (r.toList ++ []) σ') 0 [some (rV 45 0)] [] σ)) ∧ ((0 : Int32) = 0 → ((¬ (σ.1 45 0 29) = 0 → (R mj_OM d mX11_wrong (fun r σ' => R mj_OM (d + 1) mX11_primary Q 162 [some (rV 45 0), some (iV (0 : Int32))] (r.toList ++ []) σ') 0 [some (rV 45 0), some (iV (1 : Int32))] [] σ)) ∧ ((σ.1 45 0 29) = 0 → (((15 : Int32) ≤ (σ.1 45 0 30) → (R mj_OM d mX11_knot (fun r σ' => R mj_OM (d + 1) mX11_primary Q 166 [some (rV 45 0), some (iV (0 : Int32))] (r.toList ++ []) σ') 0 [some (rV 45 0)] [] σ)) ∧ (¬ (15 : Int32) ≤ (σ.1 45 0 30) → (R mj_OM d mX11_wrong (fun r σ' => R mj_OM (d + 1) mX11_primary Q 162 [some (rV 45 0), some (iV (0 : Int32))] (r.toList ++ []) σ') 0 [some (rV 45 0), some (iV (1 : Int32))] [] σ)))))))) ∧ (¬ (0 : Int32) = 0 → (((σ.1 45 0 30) ≤ (9999 : Int32) → ((¬ (0 : Int32) = 0 → (R mj_OM d mX11_knot (fun r σ' => R mj_OM (d + 1) mX11_primary Q 166 [some (rV 45 0), some (iV (0 : Int32))] (r.toList ++ []) σ') 0 [some (rV 45 0)] [] σ)) ∧ ((0 : Int32) = 0 → ((¬ (σ.1 45 0 29) = 0 → (R mj_OM d mX11_wrong (fun r σ' => R mj_OM (d + 1) mX11_primary Q 162 [some (rV 45 0), some (iV (0 : Int32))] (r.toList ++ []) σ') 0 [some (rV 45 0), some (iV (1 : Int32))] [] σ)) ∧ ((σ.1 45 0 29) = 0 → (((15 : Int32) ≤ (σ.1 45 0 30) → (R mj_OM d mX11_knot (fun r σ' => R mj_OM (d + 1) mX11_primary Q 166 [some (rV 45 0), some (iV (0 : Int32))] (r.toList ++ []) σ') 0 [some (rV 45 0)] [] σ)) ∧ (¬ (15 : Int32) ≤ (σ.1 45 0 30) → (R mj_OM d mX11_wrong (fun r σ' => R mj_OM (d + 1) mX11_primary Q 162 [some (rV 45 0), some (iV (0 : Int32))] (r.toList ++ []) σ') 0 [some (rV 45 0), some (iV (1 : Int32))] [] σ)))))))) ∧ (¬ (σ.1 45 0 30) ≤ (9999 : Int32) → (R mj_OM d mX11_wrong (fun r σ' => R mj_OM (d + 1) mX11_primary Q 134 [some (rV 45 0), some (iV (0 : Int32))] (r.toList ++ []) σ') 0 [some (rV 45 0), some (iV (2 : Int32))] [] σ)))))) ∧ ((σ.1 45 0 29) = (2 : Int32) → (((1 : Int32) = 0 → ((¬ (1 : Int32) = 0 → (R mj_OM d mX11_knot (fun r σ' => R mj_OM (d + 1) mX11_primary Q 166 [some (rV 45 0), some (iV (1 : Int32))] (r.toList ++ []) σ') 0 [some (rV 45 0)] [] σ)) ∧ ((1 : Int32) = 0 → ((¬ (σ.1 45 0 29) = 0 → (R mj_OM d mX11_wrong (fun r σ' => R mj_OM (d + 1) mX11_primary Q 162 [some (rV 45 0), some (iV (1 : Int32))] (r.toList ++ []) σ') 0 [some (rV 45 0), some (iV (1 : Int32))] [] σ)) ∧ ((σ.1 45 0 29) = 0 → (((15 : Int32) ≤ (σ.1 45 0 30) → (R mj_OM d mX11_knot (fun r σ' => R mj_OM (d + 1) mX11_primary Q 166 [some (rV 45 0), some (iV (1 : Int32))] (r.toList ++ []) σ') 0 [some (rV 45 0)] [] σ)) ∧ (¬ (15 : Int32) ≤ (σ.1 45 0 30) → (R mj_OM d mX11_wrong (fun r σ' => R mj_OM (d + 1) mX11_primary Q 162 [some (rV 45 0), some (iV (1 : Int32))] (r.toList ++ []) σ') 0 [some (rV 45 0), some (iV (1 : Int32))] [] σ)))))))) ∧ (¬ (1 : Int32) = 0 → (((σ.1 45 0 30) ≤ (9999 : Int32) → ((¬ (1 : Int32) = 0 → (R mj_OM d mX11_knot (fun r σ' => R mj_OM (d + 1) mX11_primary Q 166 [some (rV 45 0), some (iV (1 : Int32))] (r.toList ++ []) σ') 0 [some (rV 45 0)] [] σ)) ∧ ((1 : Int32) = 0 → ((¬ (σ.1 45 0 29) = 0 → (R mj_OM d mX11_wrong (fun r σ' => R mj_OM (d + 1) mX11_primary Q 162 [some (rV 45 0), some (iV (1 : Int32))] (r.toList ++ []) σ') 0 [some (rV 45 0), some (iV (1 : Int32))] [] σ)) ∧ ((σ.1 45 0 29) = 0 → (((15 : Int32) ≤ (σ.1 45 0 30) → (R mj_OM d mX11_knot (fun r σ' => R mj_OM (d + 1) mX11_primary Q 166 [some (rV 45 0), some (iV (1 : Int32))] (r.toList ++ []) σ') 0 [some (rV 45 0)] [] σ)) ∧ (¬ (15 : Int32) ≤ (σ.1 45 0 30) → (R mj_OM d mX11_wrong (fun r σ' => R mj_OM (d + 1) mX11_primary Q 162 [some (rV 45 0), some (iV (1 : Int32))] (r.toList ++ []) σ') 0 [some (rV 45 0), some (iV (1 : Int32))] [] σ)))))))) ∧ (¬ (σ.1 45 0 30) ≤ (9999 : Int32) → (R mj_OM d mX11_wrong (fun r σ' => R mj_OM (d + 1) mX11_primary Q 134 [some (rV 45 0), some (iV (1 : Int32))] (r.toList ++ []) σ') 0 [some (rV 45 0), some (iV (2 : Int32))] [] σ)))))))) ∧ (¬ s0 = 0 → ((¬ (σ.1 45 0 35) = (8 : Int32) → (((σ.1 45 0 31) = 0 → (R mj_OM d mX11_token (fun r σ' => R mj_OM (d + 1) mX11_primary Q 53 [some (rV 45 0), none] (r.toList ++ []) σ') 0 [some (rV 45 0), none] [] (uI σ 45 0 35 ((σ.1 45 0 35) + (1 : Int32))))) ∧ (¬ (σ.1 45 0 31) = 0 → Q none σ))) ∧ ((σ.1 45 0 35) = (8 : Int32) → (R mj_OM d mX11_wrong (fun r σ' => R mj_OM (d + 1) mX11_primary Q 31 [some (rV 45 0), none] (r.toList ++ []) σ') 0 [some (rV 45 0), some (iV (2 : Int32))] [] σ)))))) : R mj_OM (d + 1) mX11_primary Q 14 [some (rV 45 0), none] [iV s0] σ := by
  refine r_if_eq (tgt := 101) dX11_primary_14 (by decide) (fun c => ?_) (fun c => ?_)
  · have H := H.1 c
    refine r_aload_n dX11_primary_101 rfl rfl ?_
    refine r_get (k := 45) (i := 0) (j := 29) (v := iV (σ.1 45 0 29)) rfl rfl ho45 rfl hX11 (by decide) rfl fX11_170 dX11_primary_102 (fun _ => rfl) ?_
    refine r_iconst (v := (2 : Int32)) dX11_primary_105 rfl ?_
    refine r_icmp_ne (tgt := 113) dX11_primary_106 (by decide) (fun c => ?_) (fun c => ?_)
    · have H := H.1 c
      refine r_iconst (v := (0 : Int32)) dX11_primary_113 rfl ?_
      refine r_istore_n dX11_primary_114 rfl (by decide) rfl ?_
      refine r_iload_n dX11_primary_115 rfl rfl ?_
      refine r_if_eq (tgt := 137) dX11_primary_116 (by decide) (fun c => ?_) (fun c => ?_)
      · have H := H.1 c
        refine r_iload_n dX11_primary_137 rfl rfl ?_
        refine r_if_ne (tgt := 162) dX11_primary_138 (by decide) (fun c => ?_) (fun c => ?_)
        · have H := H.1 c
          refine r_aload_n dX11_primary_162 rfl rfl ?_
          refine r_callV (z := 0) (k := 45) (i := 0) (As := []) (st := []) kX11_knot i_X11_knot e_X11_knot lX11_282 dX11_primary_163 rfl rfl ho45 rfl rfl rfl rfl rfl (Nat.le_of_ble_eq_true rfl) ?_
          exact H
        · have H := H.2 c
          refine r_aload_n dX11_primary_141 rfl rfl ?_
          refine r_get (k := 45) (i := 0) (j := 29) (v := iV (σ.1 45 0 29)) rfl rfl ho45 rfl hX11 (by decide) rfl fX11_170 dX11_primary_142 (fun _ => rfl) ?_
          refine r_if_ne (tgt := 157) dX11_primary_145 (by decide) (fun c => ?_) (fun c => ?_)
          · have H := H.1 c
            refine r_aload_n dX11_primary_157 rfl rfl ?_
            refine r_iconst (v := (1 : Int32)) dX11_primary_158 rfl ?_
            refine r_callV (z := 0) (k := 45) (i := 0) (As := [iV (1 : Int32)]) (st := []) kX11_wrong i_X11_wrong e_X11_wrong lX11_214 dX11_primary_159 rfl rfl ho45 rfl rfl rfl rfl rfl (Nat.le_of_ble_eq_true rfl) ?_
            exact H
          · have H := H.2 c
            refine r_aload_n dX11_primary_148 rfl rfl ?_
            refine r_get (k := 45) (i := 0) (j := 30) (v := iV (σ.1 45 0 30)) rfl rfl ho45 rfl hX11 (by decide) rfl fX11_180 dX11_primary_149 (fun _ => rfl) ?_
            refine r_bipush (v := (15 : Int32)) dX11_primary_152 rfl ?_
            refine r_icmp_ge (tgt := 162) dX11_primary_154 (by decide) (fun c => ?_) (fun c => ?_)
            · have H := H.1 c
              refine r_aload_n dX11_primary_162 rfl rfl ?_
              refine r_callV (z := 0) (k := 45) (i := 0) (As := []) (st := []) kX11_knot i_X11_knot e_X11_knot lX11_282 dX11_primary_163 rfl rfl ho45 rfl rfl rfl rfl rfl (Nat.le_of_ble_eq_true rfl) ?_
              exact H
            · have H := H.2 c
              refine r_aload_n dX11_primary_157 rfl rfl ?_
              refine r_iconst (v := (1 : Int32)) dX11_primary_158 rfl ?_
              refine r_callV (z := 0) (k := 45) (i := 0) (As := [iV (1 : Int32)]) (st := []) kX11_wrong i_X11_wrong e_X11_wrong lX11_214 dX11_primary_159 rfl rfl ho45 rfl rfl rfl rfl rfl (Nat.le_of_ble_eq_true rfl) ?_
              exact H
      · have H := H.2 c
        refine r_aload_n dX11_primary_119 rfl rfl ?_
        refine r_get (k := 45) (i := 0) (j := 30) (v := iV (σ.1 45 0 30)) rfl rfl ho45 rfl hX11 (by decide) rfl fX11_180 dX11_primary_120 (fun _ => rfl) ?_
        refine r_sipush (v := (9999 : Int32)) dX11_primary_123 rfl ?_
        refine r_icmp_le (tgt := 137) dX11_primary_126 (by decide) (fun c => ?_) (fun c => ?_)
        · have H := H.1 c
          refine r_iload_n dX11_primary_137 rfl rfl ?_
          refine r_if_ne (tgt := 162) dX11_primary_138 (by decide) (fun c => ?_) (fun c => ?_)
          · have H := H.1 c
            refine r_aload_n dX11_primary_162 rfl rfl ?_
            refine r_callV (z := 0) (k := 45) (i := 0) (As := []) (st := []) kX11_knot i_X11_knot e_X11_knot lX11_282 dX11_primary_163 rfl rfl ho45 rfl rfl rfl rfl rfl (Nat.le_of_ble_eq_true rfl) ?_
            exact H
          · have H := H.2 c
            refine r_aload_n dX11_primary_141 rfl rfl ?_
            refine r_get (k := 45) (i := 0) (j := 29) (v := iV (σ.1 45 0 29)) rfl rfl ho45 rfl hX11 (by decide) rfl fX11_170 dX11_primary_142 (fun _ => rfl) ?_
            refine r_if_ne (tgt := 157) dX11_primary_145 (by decide) (fun c => ?_) (fun c => ?_)
            · have H := H.1 c
              refine r_aload_n dX11_primary_157 rfl rfl ?_
              refine r_iconst (v := (1 : Int32)) dX11_primary_158 rfl ?_
              refine r_callV (z := 0) (k := 45) (i := 0) (As := [iV (1 : Int32)]) (st := []) kX11_wrong i_X11_wrong e_X11_wrong lX11_214 dX11_primary_159 rfl rfl ho45 rfl rfl rfl rfl rfl (Nat.le_of_ble_eq_true rfl) ?_
              exact H
            · have H := H.2 c
              refine r_aload_n dX11_primary_148 rfl rfl ?_
              refine r_get (k := 45) (i := 0) (j := 30) (v := iV (σ.1 45 0 30)) rfl rfl ho45 rfl hX11 (by decide) rfl fX11_180 dX11_primary_149 (fun _ => rfl) ?_
              refine r_bipush (v := (15 : Int32)) dX11_primary_152 rfl ?_
              refine r_icmp_ge (tgt := 162) dX11_primary_154 (by decide) (fun c => ?_) (fun c => ?_)
              · have H := H.1 c
                refine r_aload_n dX11_primary_162 rfl rfl ?_
                refine r_callV (z := 0) (k := 45) (i := 0) (As := []) (st := []) kX11_knot i_X11_knot e_X11_knot lX11_282 dX11_primary_163 rfl rfl ho45 rfl rfl rfl rfl rfl (Nat.le_of_ble_eq_true rfl) ?_
                exact H
              · have H := H.2 c
                refine r_aload_n dX11_primary_157 rfl rfl ?_
                refine r_iconst (v := (1 : Int32)) dX11_primary_158 rfl ?_
                refine r_callV (z := 0) (k := 45) (i := 0) (As := [iV (1 : Int32)]) (st := []) kX11_wrong i_X11_wrong e_X11_wrong lX11_214 dX11_primary_159 rfl rfl ho45 rfl rfl rfl rfl rfl (Nat.le_of_ble_eq_true rfl) ?_
                exact H
        · have H := H.2 c
          refine r_aload_n dX11_primary_129 rfl rfl ?_
          refine r_iconst (v := (2 : Int32)) dX11_primary_130 rfl ?_
          refine r_callV (z := 0) (k := 45) (i := 0) (As := [iV (2 : Int32)]) (st := []) kX11_wrong i_X11_wrong e_X11_wrong lX11_214 dX11_primary_131 rfl rfl ho45 rfl rfl rfl rfl rfl (Nat.le_of_ble_eq_true rfl) ?_
          exact H
    · have H := H.2 c
      refine r_iconst (v := (1 : Int32)) dX11_primary_109 rfl ?_
      refine r_goto (tgt := 114) dX11_primary_110 (by decide) ?_
      refine r_istore_n dX11_primary_114 rfl (by decide) rfl ?_
      refine r_iload_n dX11_primary_115 rfl rfl ?_
      refine r_if_eq (tgt := 137) dX11_primary_116 (by decide) (fun c => ?_) (fun c => ?_)
      · have H := H.1 c
        refine r_iload_n dX11_primary_137 rfl rfl ?_
        refine r_if_ne (tgt := 162) dX11_primary_138 (by decide) (fun c => ?_) (fun c => ?_)
        · have H := H.1 c
          refine r_aload_n dX11_primary_162 rfl rfl ?_
          refine r_callV (z := 0) (k := 45) (i := 0) (As := []) (st := []) kX11_knot i_X11_knot e_X11_knot lX11_282 dX11_primary_163 rfl rfl ho45 rfl rfl rfl rfl rfl (Nat.le_of_ble_eq_true rfl) ?_
          exact H
        · have H := H.2 c
          refine r_aload_n dX11_primary_141 rfl rfl ?_
          refine r_get (k := 45) (i := 0) (j := 29) (v := iV (σ.1 45 0 29)) rfl rfl ho45 rfl hX11 (by decide) rfl fX11_170 dX11_primary_142 (fun _ => rfl) ?_
          refine r_if_ne (tgt := 157) dX11_primary_145 (by decide) (fun c => ?_) (fun c => ?_)
          · have H := H.1 c
            refine r_aload_n dX11_primary_157 rfl rfl ?_
            refine r_iconst (v := (1 : Int32)) dX11_primary_158 rfl ?_
            refine r_callV (z := 0) (k := 45) (i := 0) (As := [iV (1 : Int32)]) (st := []) kX11_wrong i_X11_wrong e_X11_wrong lX11_214 dX11_primary_159 rfl rfl ho45 rfl rfl rfl rfl rfl (Nat.le_of_ble_eq_true rfl) ?_
            exact H
          · have H := H.2 c
            refine r_aload_n dX11_primary_148 rfl rfl ?_
            refine r_get (k := 45) (i := 0) (j := 30) (v := iV (σ.1 45 0 30)) rfl rfl ho45 rfl hX11 (by decide) rfl fX11_180 dX11_primary_149 (fun _ => rfl) ?_
            refine r_bipush (v := (15 : Int32)) dX11_primary_152 rfl ?_
            refine r_icmp_ge (tgt := 162) dX11_primary_154 (by decide) (fun c => ?_) (fun c => ?_)
            · have H := H.1 c
              refine r_aload_n dX11_primary_162 rfl rfl ?_
              refine r_callV (z := 0) (k := 45) (i := 0) (As := []) (st := []) kX11_knot i_X11_knot e_X11_knot lX11_282 dX11_primary_163 rfl rfl ho45 rfl rfl rfl rfl rfl (Nat.le_of_ble_eq_true rfl) ?_
              exact H
            · have H := H.2 c
              refine r_aload_n dX11_primary_157 rfl rfl ?_
              refine r_iconst (v := (1 : Int32)) dX11_primary_158 rfl ?_
              refine r_callV (z := 0) (k := 45) (i := 0) (As := [iV (1 : Int32)]) (st := []) kX11_wrong i_X11_wrong e_X11_wrong lX11_214 dX11_primary_159 rfl rfl ho45 rfl rfl rfl rfl rfl (Nat.le_of_ble_eq_true rfl) ?_
              exact H
      · have H := H.2 c
        refine r_aload_n dX11_primary_119 rfl rfl ?_
        refine r_get (k := 45) (i := 0) (j := 30) (v := iV (σ.1 45 0 30)) rfl rfl ho45 rfl hX11 (by decide) rfl fX11_180 dX11_primary_120 (fun _ => rfl) ?_
        refine r_sipush (v := (9999 : Int32)) dX11_primary_123 rfl ?_
        refine r_icmp_le (tgt := 137) dX11_primary_126 (by decide) (fun c => ?_) (fun c => ?_)
        · have H := H.1 c
          refine r_iload_n dX11_primary_137 rfl rfl ?_
          refine r_if_ne (tgt := 162) dX11_primary_138 (by decide) (fun c => ?_) (fun c => ?_)
          · have H := H.1 c
            refine r_aload_n dX11_primary_162 rfl rfl ?_
            refine r_callV (z := 0) (k := 45) (i := 0) (As := []) (st := []) kX11_knot i_X11_knot e_X11_knot lX11_282 dX11_primary_163 rfl rfl ho45 rfl rfl rfl rfl rfl (Nat.le_of_ble_eq_true rfl) ?_
            exact H
          · have H := H.2 c
            refine r_aload_n dX11_primary_141 rfl rfl ?_
            refine r_get (k := 45) (i := 0) (j := 29) (v := iV (σ.1 45 0 29)) rfl rfl ho45 rfl hX11 (by decide) rfl fX11_170 dX11_primary_142 (fun _ => rfl) ?_
            refine r_if_ne (tgt := 157) dX11_primary_145 (by decide) (fun c => ?_) (fun c => ?_)
            · have H := H.1 c
              refine r_aload_n dX11_primary_157 rfl rfl ?_
              refine r_iconst (v := (1 : Int32)) dX11_primary_158 rfl ?_
              refine r_callV (z := 0) (k := 45) (i := 0) (As := [iV (1 : Int32)]) (st := []) kX11_wrong i_X11_wrong e_X11_wrong lX11_214 dX11_primary_159 rfl rfl ho45 rfl rfl rfl rfl rfl (Nat.le_of_ble_eq_true rfl) ?_
              exact H
            · have H := H.2 c
              refine r_aload_n dX11_primary_148 rfl rfl ?_
              refine r_get (k := 45) (i := 0) (j := 30) (v := iV (σ.1 45 0 30)) rfl rfl ho45 rfl hX11 (by decide) rfl fX11_180 dX11_primary_149 (fun _ => rfl) ?_
              refine r_bipush (v := (15 : Int32)) dX11_primary_152 rfl ?_
              refine r_icmp_ge (tgt := 162) dX11_primary_154 (by decide) (fun c => ?_) (fun c => ?_)
              · have H := H.1 c
                refine r_aload_n dX11_primary_162 rfl rfl ?_
                refine r_callV (z := 0) (k := 45) (i := 0) (As := []) (st := []) kX11_knot i_X11_knot e_X11_knot lX11_282 dX11_primary_163 rfl rfl ho45 rfl rfl rfl rfl rfl (Nat.le_of_ble_eq_true rfl) ?_
                exact H
              · have H := H.2 c
                refine r_aload_n dX11_primary_157 rfl rfl ?_
                refine r_iconst (v := (1 : Int32)) dX11_primary_158 rfl ?_
                refine r_callV (z := 0) (k := 45) (i := 0) (As := [iV (1 : Int32)]) (st := []) kX11_wrong i_X11_wrong e_X11_wrong lX11_214 dX11_primary_159 rfl rfl ho45 rfl rfl rfl rfl rfl (Nat.le_of_ble_eq_true rfl) ?_
                exact H
        · have H := H.2 c
          refine r_aload_n dX11_primary_129 rfl rfl ?_
          refine r_iconst (v := (2 : Int32)) dX11_primary_130 rfl ?_
          refine r_callV (z := 0) (k := 45) (i := 0) (As := [iV (2 : Int32)]) (st := []) kX11_wrong i_X11_wrong e_X11_wrong lX11_214 dX11_primary_131 rfl rfl ho45 rfl rfl rfl rfl rfl (Nat.le_of_ble_eq_true rfl) ?_
          exact H
  · have H := H.2 c
    refine r_aload_n dX11_primary_17 rfl rfl ?_
    refine r_get (k := 45) (i := 0) (j := 35) (v := iV (σ.1 45 0 35)) rfl rfl ho45 rfl hX11 (by decide) rfl fX11_300 dX11_primary_18 (fun _ => rfl) ?_
    refine r_bipush (v := (8 : Int32)) dX11_primary_21 rfl ?_
    refine r_icmp_ne (tgt := 31) dX11_primary_23 (by decide) (fun c => ?_) (fun c => ?_)
    · have H := H.1 c
      refine r_aload_n dX11_primary_31 rfl rfl ?_
      refine r_get (k := 45) (i := 0) (j := 31) (v := iV (σ.1 45 0 31)) rfl rfl ho45 rfl hX11 (by decide) rfl fX11_205 dX11_primary_32 (fun _ => rfl) ?_
      refine r_if_eq (tgt := 39) dX11_primary_35 (by decide) (fun c => ?_) (fun c => ?_)
      · have H := H.1 c
        refine r_aload_n dX11_primary_39 rfl rfl ?_
        refine r_dup_r dX11_primary_40 ?_
        refine r_get (k := 45) (i := 0) (j := 35) (v := iV (σ.1 45 0 35)) rfl rfl ho45 rfl hX11 (by decide) rfl fX11_300 dX11_primary_41 (fun _ => rfl) ?_
        refine r_iconst (v := (1 : Int32)) dX11_primary_44 rfl ?_
        refine r_iadd dX11_primary_45 ?_
        refine r_putI (k := 45) (i := 0) (j := 35) (ty0 := tyX11) rfl rfl ho45 rfl hX11 (by decide) rfl fX11_300 dX11_primary_46 rfl tyX11_ok nmX11 rfl rfl rfl ?_
        refine r_aload_n dX11_primary_49 rfl rfl ?_
        refine r_callV (z := 1) (k := 45) (i := 0) (As := []) (st := []) kX11_token i_X11_token e_X11_token lX11_211 dX11_primary_50 rfl rfl ho45 rfl rfl rfl rfl rfl (Nat.le_of_ble_eq_true rfl) ?_
        exact H
      · have H := H.2 c
        exact r_vret dX11_primary_38 rfl H
    · have H := H.2 c
      refine r_aload_n dX11_primary_26 rfl rfl ?_
      refine r_iconst (v := (2 : Int32)) dX11_primary_27 rfl ?_
      refine r_callV (z := 0) (k := 45) (i := 0) (As := [iV (2 : Int32)]) (st := []) kX11_wrong i_X11_wrong e_X11_wrong lX11_214 dX11_primary_28 rfl rfl ho45 rfl rfl rfl rfl rfl (Nat.le_of_ble_eq_true rfl) ?_
      exact H
set_option maxRecDepth 100000 in
theorem bX11_primary_31 {d : Nat} {Q : Option MV → MS → Prop}  {σ : MS}  (H : (((σ.1 45 0 31) = 0 → (R mj_OM d mX11_token (fun r σ' => R mj_OM (d + 1) mX11_primary Q 53 [some (rV 45 0), none] (r.toList ++ []) σ') 0 [some (rV 45 0), none] [] (uI σ 45 0 35 ((σ.1 45 0 35) + (1 : Int32))))) ∧ (¬ (σ.1 45 0 31) = 0 → Q none σ))) : R mj_OM (d + 1) mX11_primary Q 31 [some (rV 45 0), none] [] σ := by
  refine r_aload_n dX11_primary_31 rfl rfl ?_
  refine r_get (k := 45) (i := 0) (j := 31) (v := iV (σ.1 45 0 31)) rfl rfl ho45 rfl hX11 (by decide) rfl fX11_205 dX11_primary_32 (fun _ => rfl) ?_
  refine r_if_eq (tgt := 39) dX11_primary_35 (by decide) (fun c => ?_) (fun c => ?_)
  · have H := H.1 c
    refine r_aload_n dX11_primary_39 rfl rfl ?_
    refine r_dup_r dX11_primary_40 ?_
    refine r_get (k := 45) (i := 0) (j := 35) (v := iV (σ.1 45 0 35)) rfl rfl ho45 rfl hX11 (by decide) rfl fX11_300 dX11_primary_41 (fun _ => rfl) ?_
    refine r_iconst (v := (1 : Int32)) dX11_primary_44 rfl ?_
    refine r_iadd dX11_primary_45 ?_
    refine r_putI (k := 45) (i := 0) (j := 35) (ty0 := tyX11) rfl rfl ho45 rfl hX11 (by decide) rfl fX11_300 dX11_primary_46 rfl tyX11_ok nmX11 rfl rfl rfl ?_
    refine r_aload_n dX11_primary_49 rfl rfl ?_
    refine r_callV (z := 1) (k := 45) (i := 0) (As := []) (st := []) kX11_token i_X11_token e_X11_token lX11_211 dX11_primary_50 rfl rfl ho45 rfl rfl rfl rfl rfl (Nat.le_of_ble_eq_true rfl) ?_
    exact H
  · have H := H.2 c
    exact r_vret dX11_primary_38 rfl H
set_option maxRecDepth 100000 in
theorem bX11_primary_53 {d : Nat} {Q : Option MV → MS → Prop}  {σ : MS}  (H : (R mj_OM d mX11_expression (fun r σ' => R mj_OM (d + 1) mX11_primary Q 57 [some (rV 45 0), none] (r.toList ++ []) σ') 0 [some (rV 45 0)] [] σ)) : R mj_OM (d + 1) mX11_primary Q 53 [some (rV 45 0), none] [] σ := by
  refine r_aload_n dX11_primary_53 rfl rfl ?_
  refine r_callV (z := 0) (k := 45) (i := 0) (As := []) (st := []) kX11_expression i_X11_expression e_X11_expression lX11_270 dX11_primary_54 rfl rfl ho45 rfl rfl rfl rfl rfl (Nat.le_of_ble_eq_true rfl) ?_
  exact H
set_option maxRecDepth 100000 in
theorem bX11_primary_57 {d : Nat} {Q : Option MV → MS → Prop}  {σ : MS}  (H : ((¬ (σ.1 45 0 31) = 0 → (((σ.1 45 0 31) = 0 → (R mj_OM d mX11_token (fun r σ' => R mj_OM (d + 1) mX11_primary Q 100 [some (rV 45 0), none] (r.toList ++ []) σ') 0 [some (rV 45 0), none] [] (uI σ 45 0 35 ((σ.1 45 0 35) - (1 : Int32))))) ∧ (¬ (σ.1 45 0 31) = 0 → Q none σ))) ∧ ((σ.1 45 0 31) = 0 → (R mj_OM d mX11_isSign (fun r σ' => R mj_OM (d + 1) mX11_primary Q 70 [some (rV 45 0), none] (r.toList ++ []) σ') 0 [some (rV 45 0), some (iV (41 : Int32))] [] σ)))) : R mj_OM (d + 1) mX11_primary Q 57 [some (rV 45 0), none] [] σ := by
  refine r_aload_n dX11_primary_57 rfl rfl ?_
  refine r_get (k := 45) (i := 0) (j := 31) (v := iV (σ.1 45 0 31)) rfl rfl ho45 rfl hX11 (by decide) rfl fX11_205 dX11_primary_58 (fun _ => rfl) ?_
  refine r_if_ne (tgt := 78) dX11_primary_61 (by decide) (fun c => ?_) (fun c => ?_)
  · have H := H.1 c
    refine r_aload_n dX11_primary_78 rfl rfl ?_
    refine r_get (k := 45) (i := 0) (j := 31) (v := iV (σ.1 45 0 31)) rfl rfl ho45 rfl hX11 (by decide) rfl fX11_205 dX11_primary_79 (fun _ => rfl) ?_
    refine r_if_eq (tgt := 86) dX11_primary_82 (by decide) (fun c => ?_) (fun c => ?_)
    · have H := H.1 c
      refine r_aload_n dX11_primary_86 rfl rfl ?_
      refine r_dup_r dX11_primary_87 ?_
      refine r_get (k := 45) (i := 0) (j := 35) (v := iV (σ.1 45 0 35)) rfl rfl ho45 rfl hX11 (by decide) rfl fX11_300 dX11_primary_88 (fun _ => rfl) ?_
      refine r_iconst (v := (1 : Int32)) dX11_primary_91 rfl ?_
      refine r_isub dX11_primary_92 ?_
      refine r_putI (k := 45) (i := 0) (j := 35) (ty0 := tyX11) rfl rfl ho45 rfl hX11 (by decide) rfl fX11_300 dX11_primary_93 rfl tyX11_ok nmX11 rfl rfl rfl ?_
      refine r_aload_n dX11_primary_96 rfl rfl ?_
      refine r_callV (z := 1) (k := 45) (i := 0) (As := []) (st := []) kX11_token i_X11_token e_X11_token lX11_211 dX11_primary_97 rfl rfl ho45 rfl rfl rfl rfl rfl (Nat.le_of_ble_eq_true rfl) ?_
      exact H
    · have H := H.2 c
      exact r_vret dX11_primary_85 rfl H
  · have H := H.2 c
    refine r_aload_n dX11_primary_64 rfl rfl ?_
    refine r_bipush (v := (41 : Int32)) dX11_primary_65 rfl ?_
    refine r_callV (z := 0) (k := 45) (i := 0) (As := [iV (41 : Int32)]) (st := []) kX11_isSign i_X11_isSign e_X11_isSign lX11_264 dX11_primary_67 rfl rfl ho45 rfl rfl rfl rfl rfl (Nat.le_of_ble_eq_true rfl) ?_
    exact H
set_option maxRecDepth 100000 in
theorem bX11_primary_70 {d : Nat} {Q : Option MV → MS → Prop} {s0 : Int32} {σ : MS}  (H : ((¬ s0 = 0 → (((σ.1 45 0 31) = 0 → (R mj_OM d mX11_token (fun r σ' => R mj_OM (d + 1) mX11_primary Q 100 [some (rV 45 0), none] (r.toList ++ []) σ') 0 [some (rV 45 0), none] [] (uI σ 45 0 35 ((σ.1 45 0 35) - (1 : Int32))))) ∧ (¬ (σ.1 45 0 31) = 0 → Q none σ))) ∧ (s0 = 0 → (R mj_OM d mX11_wrong (fun r σ' => R mj_OM (d + 1) mX11_primary Q 78 [some (rV 45 0), none] (r.toList ++ []) σ') 0 [some (rV 45 0), some (iV (1 : Int32))] [] σ)))) : R mj_OM (d + 1) mX11_primary Q 70 [some (rV 45 0), none] [iV s0] σ := by
  refine r_if_ne (tgt := 78) dX11_primary_70 (by decide) (fun c => ?_) (fun c => ?_)
  · have H := H.1 c
    refine r_aload_n dX11_primary_78 rfl rfl ?_
    refine r_get (k := 45) (i := 0) (j := 31) (v := iV (σ.1 45 0 31)) rfl rfl ho45 rfl hX11 (by decide) rfl fX11_205 dX11_primary_79 (fun _ => rfl) ?_
    refine r_if_eq (tgt := 86) dX11_primary_82 (by decide) (fun c => ?_) (fun c => ?_)
    · have H := H.1 c
      refine r_aload_n dX11_primary_86 rfl rfl ?_
      refine r_dup_r dX11_primary_87 ?_
      refine r_get (k := 45) (i := 0) (j := 35) (v := iV (σ.1 45 0 35)) rfl rfl ho45 rfl hX11 (by decide) rfl fX11_300 dX11_primary_88 (fun _ => rfl) ?_
      refine r_iconst (v := (1 : Int32)) dX11_primary_91 rfl ?_
      refine r_isub dX11_primary_92 ?_
      refine r_putI (k := 45) (i := 0) (j := 35) (ty0 := tyX11) rfl rfl ho45 rfl hX11 (by decide) rfl fX11_300 dX11_primary_93 rfl tyX11_ok nmX11 rfl rfl rfl ?_
      refine r_aload_n dX11_primary_96 rfl rfl ?_
      refine r_callV (z := 1) (k := 45) (i := 0) (As := []) (st := []) kX11_token i_X11_token e_X11_token lX11_211 dX11_primary_97 rfl rfl ho45 rfl rfl rfl rfl rfl (Nat.le_of_ble_eq_true rfl) ?_
      exact H
    · have H := H.2 c
      exact r_vret dX11_primary_85 rfl H
  · have H := H.2 c
    refine r_aload_n dX11_primary_73 rfl rfl ?_
    refine r_iconst (v := (1 : Int32)) dX11_primary_74 rfl ?_
    refine r_callV (z := 0) (k := 45) (i := 0) (As := [iV (1 : Int32)]) (st := []) kX11_wrong i_X11_wrong e_X11_wrong lX11_214 dX11_primary_75 rfl rfl ho45 rfl rfl rfl rfl rfl (Nat.le_of_ble_eq_true rfl) ?_
    exact H
set_option maxRecDepth 100000 in
theorem bX11_primary_78 {d : Nat} {Q : Option MV → MS → Prop}  {σ : MS}  (H : (((σ.1 45 0 31) = 0 → (R mj_OM d mX11_token (fun r σ' => R mj_OM (d + 1) mX11_primary Q 100 [some (rV 45 0), none] (r.toList ++ []) σ') 0 [some (rV 45 0), none] [] (uI σ 45 0 35 ((σ.1 45 0 35) - (1 : Int32))))) ∧ (¬ (σ.1 45 0 31) = 0 → Q none σ))) : R mj_OM (d + 1) mX11_primary Q 78 [some (rV 45 0), none] [] σ := by
  refine r_aload_n dX11_primary_78 rfl rfl ?_
  refine r_get (k := 45) (i := 0) (j := 31) (v := iV (σ.1 45 0 31)) rfl rfl ho45 rfl hX11 (by decide) rfl fX11_205 dX11_primary_79 (fun _ => rfl) ?_
  refine r_if_eq (tgt := 86) dX11_primary_82 (by decide) (fun c => ?_) (fun c => ?_)
  · have H := H.1 c
    refine r_aload_n dX11_primary_86 rfl rfl ?_
    refine r_dup_r dX11_primary_87 ?_
    refine r_get (k := 45) (i := 0) (j := 35) (v := iV (σ.1 45 0 35)) rfl rfl ho45 rfl hX11 (by decide) rfl fX11_300 dX11_primary_88 (fun _ => rfl) ?_
    refine r_iconst (v := (1 : Int32)) dX11_primary_91 rfl ?_
    refine r_isub dX11_primary_92 ?_
    refine r_putI (k := 45) (i := 0) (j := 35) (ty0 := tyX11) rfl rfl ho45 rfl hX11 (by decide) rfl fX11_300 dX11_primary_93 rfl tyX11_ok nmX11 rfl rfl rfl ?_
    refine r_aload_n dX11_primary_96 rfl rfl ?_
    refine r_callV (z := 1) (k := 45) (i := 0) (As := []) (st := []) kX11_token i_X11_token e_X11_token lX11_211 dX11_primary_97 rfl rfl ho45 rfl rfl rfl rfl rfl (Nat.le_of_ble_eq_true rfl) ?_
    exact H
  · have H := H.2 c
    exact r_vret dX11_primary_85 rfl H
set_option maxRecDepth 100000 in
theorem bX11_primary_100 {d : Nat} {Q : Option MV → MS → Prop}  {σ : MS}  (H : Q none σ) : R mj_OM d mX11_primary Q 100 [some (rV 45 0), none] [] σ := by
  exact r_vret dX11_primary_100 rfl H
set_option maxRecDepth 100000 in
theorem bX11_primary_134 {d : Nat} {Q : Option MV → MS → Prop} {x1 : Int32} {σ : MS}  (H : (R mj_OM d mX11_knot (fun r σ' => R mj_OM (d + 1) mX11_primary Q 166 [some (rV 45 0), some (iV x1)] (r.toList ++ []) σ') 0 [some (rV 45 0)] [] σ)) : R mj_OM (d + 1) mX11_primary Q 134 [some (rV 45 0), some (iV x1)] [] σ := by
  refine r_goto (tgt := 162) dX11_primary_134 (by decide) ?_
  refine r_aload_n dX11_primary_162 rfl rfl ?_
  refine r_callV (z := 0) (k := 45) (i := 0) (As := []) (st := []) kX11_knot i_X11_knot e_X11_knot lX11_282 dX11_primary_163 rfl rfl ho45 rfl rfl rfl rfl rfl (Nat.le_of_ble_eq_true rfl) ?_
  exact H
set_option maxRecDepth 100000 in
theorem bX11_primary_162 {d : Nat} {Q : Option MV → MS → Prop} {x1 : Int32} {σ : MS}  (H : (R mj_OM d mX11_knot (fun r σ' => R mj_OM (d + 1) mX11_primary Q 166 [some (rV 45 0), some (iV x1)] (r.toList ++ []) σ') 0 [some (rV 45 0)] [] σ)) : R mj_OM (d + 1) mX11_primary Q 162 [some (rV 45 0), some (iV x1)] [] σ := by
  refine r_aload_n dX11_primary_162 rfl rfl ?_
  refine r_callV (z := 0) (k := 45) (i := 0) (As := []) (st := []) kX11_knot i_X11_knot e_X11_knot lX11_282 dX11_primary_163 rfl rfl ho45 rfl rfl rfl rfl rfl (Nat.le_of_ble_eq_true rfl) ?_
  exact H
set_option maxRecDepth 100000 in
theorem bX11_primary_166 {d : Nat} {Q : Option MV → MS → Prop} {x1 : Int32} {σ : MS}  (H : ((x1 = 0 → ((x1 = 0 → (R mj_OM d mX11_puts (fun r σ' => R mj_OM (d + 1) mX11_primary Q 197 [some (rV 45 0), some (iV x1)] (r.toList ++ []) σ') 0 [some (rV 45 0), some (iV (1 : Int32)), some (iV ((σ.1 45 0 30) - (15 : Int32)))] [] σ)) ∧ (¬ x1 = 0 → (R mj_OM d mX11_puts (fun r σ' => R mj_OM (d + 1) mX11_primary Q 197 [some (rV 45 0), some (iV x1)] (r.toList ++ []) σ') 0 [some (rV 45 0), some (iV (1 : Int32)), some (iV (σ.1 45 0 30))] [] σ)))) ∧ (¬ x1 = 0 → ((x1 = 0 → (R mj_OM d mX11_puts (fun r σ' => R mj_OM (d + 1) mX11_primary Q 197 [some (rV 45 0), some (iV x1)] (r.toList ++ []) σ') 0 [some (rV 45 0), some (iV (0 : Int32)), some (iV ((σ.1 45 0 30) - (15 : Int32)))] [] σ)) ∧ (¬ x1 = 0 → (R mj_OM d mX11_puts (fun r σ' => R mj_OM (d + 1) mX11_primary Q 197 [some (rV 45 0), some (iV x1)] (r.toList ++ []) σ') 0 [some (rV 45 0), some (iV (0 : Int32)), some (iV (σ.1 45 0 30))] [] σ)))))) : R mj_OM (d + 1) mX11_primary Q 166 [some (rV 45 0), some (iV x1)] [] σ := by
  refine r_aload_n dX11_primary_166 rfl rfl ?_
  refine r_iload_n dX11_primary_167 rfl rfl ?_
  refine r_if_eq (tgt := 175) dX11_primary_168 (by decide) (fun c => ?_) (fun c => ?_)
  · have H := H.1 c
    refine r_iconst (v := (1 : Int32)) dX11_primary_175 rfl ?_
    refine r_iload_n dX11_primary_176 rfl rfl ?_
    refine r_if_eq (tgt := 187) dX11_primary_177 (by decide) (fun c => ?_) (fun c => ?_)
    · have H := H.1 c
      refine r_aload_n dX11_primary_187 rfl rfl ?_
      refine r_get (k := 45) (i := 0) (j := 30) (v := iV (σ.1 45 0 30)) rfl rfl ho45 rfl hX11 (by decide) rfl fX11_180 dX11_primary_188 (fun _ => rfl) ?_
      refine r_bipush (v := (15 : Int32)) dX11_primary_191 rfl ?_
      refine r_isub dX11_primary_193 ?_
      refine r_callV (z := 0) (k := 45) (i := 0) (As := [iV (1 : Int32), iV ((σ.1 45 0 30) - (15 : Int32))]) (st := []) kX11_puts i_X11_puts e_X11_puts lX11_285 dX11_primary_194 rfl rfl ho45 rfl rfl rfl rfl rfl (Nat.le_of_ble_eq_true rfl) ?_
      exact H
    · have H := H.2 c
      refine r_aload_n dX11_primary_180 rfl rfl ?_
      refine r_get (k := 45) (i := 0) (j := 30) (v := iV (σ.1 45 0 30)) rfl rfl ho45 rfl hX11 (by decide) rfl fX11_180 dX11_primary_181 (fun _ => rfl) ?_
      refine r_goto (tgt := 194) dX11_primary_184 (by decide) ?_
      refine r_callV (z := 0) (k := 45) (i := 0) (As := [iV (1 : Int32), iV (σ.1 45 0 30)]) (st := []) kX11_puts i_X11_puts e_X11_puts lX11_285 dX11_primary_194 rfl rfl ho45 rfl rfl rfl rfl rfl (Nat.le_of_ble_eq_true rfl) ?_
      exact H
  · have H := H.2 c
    refine r_iconst (v := (0 : Int32)) dX11_primary_171 rfl ?_
    refine r_goto (tgt := 176) dX11_primary_172 (by decide) ?_
    refine r_iload_n dX11_primary_176 rfl rfl ?_
    refine r_if_eq (tgt := 187) dX11_primary_177 (by decide) (fun c => ?_) (fun c => ?_)
    · have H := H.1 c
      refine r_aload_n dX11_primary_187 rfl rfl ?_
      refine r_get (k := 45) (i := 0) (j := 30) (v := iV (σ.1 45 0 30)) rfl rfl ho45 rfl hX11 (by decide) rfl fX11_180 dX11_primary_188 (fun _ => rfl) ?_
      refine r_bipush (v := (15 : Int32)) dX11_primary_191 rfl ?_
      refine r_isub dX11_primary_193 ?_
      refine r_callV (z := 0) (k := 45) (i := 0) (As := [iV (0 : Int32), iV ((σ.1 45 0 30) - (15 : Int32))]) (st := []) kX11_puts i_X11_puts e_X11_puts lX11_285 dX11_primary_194 rfl rfl ho45 rfl rfl rfl rfl rfl (Nat.le_of_ble_eq_true rfl) ?_
      exact H
    · have H := H.2 c
      refine r_aload_n dX11_primary_180 rfl rfl ?_
      refine r_get (k := 45) (i := 0) (j := 30) (v := iV (σ.1 45 0 30)) rfl rfl ho45 rfl hX11 (by decide) rfl fX11_180 dX11_primary_181 (fun _ => rfl) ?_
      refine r_goto (tgt := 194) dX11_primary_184 (by decide) ?_
      refine r_callV (z := 0) (k := 45) (i := 0) (As := [iV (0 : Int32), iV (σ.1 45 0 30)]) (st := []) kX11_puts i_X11_puts e_X11_puts lX11_285 dX11_primary_194 rfl rfl ho45 rfl rfl rfl rfl rfl (Nat.le_of_ble_eq_true rfl) ?_
      exact H
set_option maxRecDepth 100000 in
theorem bX11_primary_197 {d : Nat} {Q : Option MV → MS → Prop} {x1 : Int32} {σ : MS}  (H : (R mj_OM d mX11_goOn (fun r σ' => R mj_OM (d + 1) mX11_primary Q 201 [some (rV 45 0), some (iV x1)] (r.toList ++ []) σ') 0 [some (rV 45 0)] [] σ)) : R mj_OM (d + 1) mX11_primary Q 197 [some (rV 45 0), some (iV x1)] [] σ := by
  refine r_aload_n dX11_primary_197 rfl rfl ?_
  refine r_callV (z := 0) (k := 45) (i := 0) (As := []) (st := []) kX11_goOn i_X11_goOn e_X11_goOn lX11_258 dX11_primary_198 rfl rfl ho45 rfl rfl rfl rfl rfl (Nat.le_of_ble_eq_true rfl) ?_
  exact H
set_option maxRecDepth 100000 in
theorem bX11_primary_201 {d : Nat} {Q : Option MV → MS → Prop} {x1 : Int32} {σ : MS}  (H : Q none σ) : R mj_OM d mX11_primary Q 201 [some (rV 45 0), some (iV x1)] [] σ := by
  exact r_vret dX11_primary_201 rfl H
set_option maxRecDepth 100000 in
theorem bX11_half_0 {d : Nat} {Q : Option MV → MS → Prop} {k0 : Nat} {n0 : Nat} {u0 : Nat} {σ : MS} (hk0 : mj_sch k0 = .inr (0, n0)) (gk0 : (k0, u0) ∈ mj_OM) (H : R mj_OM d mX11_half Q 7 [some (rV k0 u0), some (iV ((Int32.ofNat n0) / (2 : Int32))), some (iV (0 : Int32))] [] σ) : R mj_OM d mX11_half Q 0 [some (rV k0 u0), none, none] [] σ := by
  refine r_aload_n dX11_half_0 rfl rfl ?_
  refine r_alen (k := k0) (i := u0) (v := Int32.ofNat n0) hk0 (Or.inl rfl) gk0 rfl dX11_half_1 ?_
  refine r_iconst (v := (2 : Int32)) dX11_half_2 rfl ?_
  refine r_idiv dX11_half_3 (by decide) ?_
  refine r_istore_n dX11_half_4 rfl (by decide) rfl ?_
  refine r_iconst (v := (0 : Int32)) dX11_half_5 rfl ?_
  refine r_istore_n dX11_half_6 rfl (by decide) rfl ?_
  exact H
set_option maxRecDepth 100000 in
theorem bX11_half_7 {d : Nat} {Q : Option MV → MS → Prop} {k0 : Nat} {n0 : Nat} {u0 : Nat} {x1 : Int32} {x2 : Int32} {σ : MS} (hk0 : mj_sch k0 = .inr (0, n0)) (gk0 : (k0, u0) ∈ mj_OM) (H : ((x1 ≤ x2 → Q none σ) ∧ (¬ x1 ≤ x2 → (vp_in (x1 + x2) n0 ∧ vp_in x2 n0 ∧ R mj_OM d mX11_half Q 7 [some (rV k0 u0), some (iV x1), some (iV (x2 + (1 : Int32)))] [] (uI σ k0 u0 ((x2).toNatClampNeg) (σ.1 k0 u0 (((x1 + x2)).toNatClampNeg))))))) : R mj_OM d mX11_half Q 7 [some (rV k0 u0), some (iV x1), some (iV x2)] [] σ := by
  refine r_iload_n dX11_half_7 rfl rfl ?_
  refine r_iload_n dX11_half_8 rfl rfl ?_
  refine r_icmp_ge (tgt := 26) dX11_half_9 (by decide) (fun c => ?_) (fun c => ?_)
  · have H := H.1 c
    exact r_vret dX11_half_26 rfl H
  · have H := H.2 c
    refine r_aload_n dX11_half_12 rfl rfl ?_
    refine r_iload_n dX11_half_13 rfl rfl ?_
    refine r_aload_n dX11_half_14 rfl rfl ?_
    refine r_iload_n dX11_half_15 rfl rfl ?_
    refine r_iload_n dX11_half_16 rfl rfl ?_
    refine r_iadd dX11_half_17 ?_
    obtain ⟨q1, H⟩ := H
    refine r_iald (k := k0) (i := u0) hk0 gk0 q1 dX11_half_18 ?_
    obtain ⟨q2, H⟩ := H
    refine r_iast (k := k0) (i := u0) hk0 gk0 q2 dX11_half_19 ?_
    refine r_iinc (v := x2 + (1 : Int32)) dX11_half_20 rfl rfl (by decide) rfl ?_
    refine r_goto (tgt := 7) dX11_half_23 (by decide) ?_
    exact H
set_option maxRecDepth 100000 in
theorem bX11_text_0 {d : Nat} {Q : Option MV → MS → Prop} {x1 : Int32} {σ : MS}  (H : ((x1 < 0 → Q (some (iV (-2 : Int32))) (uI σ 45 0 0 (0 : Int32))) ∧ (¬ x1 < 0 → ((x1 ≤ (σ.1 45 0 2) → R mj_OM d mX11_text Q 47 [some (rV 45 0), some (iV x1), some (iV (0 : Int32))] [] (uI (uI (uI (uI (uI (uI σ 45 0 0 (0 : Int32)) 45 0 26 x1) 45 0 2 (0 : Int32)) 45 0 27 (0 : Int32)) 45 0 31 (0 : Int32)) 45 0 32 (-1 : Int32))) ∧ (¬ x1 ≤ (σ.1 45 0 2) → Q (some (iV (-2 : Int32))) (uI σ 45 0 0 (0 : Int32))))))) : R mj_OM d mX11_text Q 0 [some (rV 45 0), some (iV x1), none] [] σ := by
  refine r_aload_n dX11_text_0 rfl rfl ?_
  refine r_iconst (v := (0 : Int32)) dX11_text_1 rfl ?_
  refine r_putI (k := 45) (i := 0) (j := 0) (ty0 := tyX11) rfl rfl ho45 rfl hX11 (by decide) rfl fX11_151 dX11_text_2 rfl tyX11_ok nmX11 rfl rfl rfl ?_
  refine r_iload_n dX11_text_5 rfl rfl ?_
  refine r_if_lt (tgt := 17) dX11_text_6 (by decide) (fun c => ?_) (fun c => ?_)
  · have H := H.1 c
    refine r_bipush (v := (-2 : Int32)) dX11_text_17 rfl ?_
    exact r_iret dX11_text_19 rfl H
  · have H := H.2 c
    refine r_iload_n dX11_text_9 rfl rfl ?_
    refine r_aload_n dX11_text_10 rfl rfl ?_
    refine r_get (k := 45) (i := 0) (j := 2) (v := iV (σ.1 45 0 2)) rfl rfl ho45 rfl hX11 (by decide) rfl fX11_154 dX11_text_11 (fun _ => rfl) ?_
    refine r_icmp_le (tgt := 20) dX11_text_14 (by decide) (fun c => ?_) (fun c => ?_)
    · have H := H.1 c
      refine r_aload_n dX11_text_20 rfl rfl ?_
      refine r_iload_n dX11_text_21 rfl rfl ?_
      refine r_putI (k := 45) (i := 0) (j := 26) (ty0 := tyX11) rfl rfl ho45 rfl hX11 (by decide) rfl fX11_160 dX11_text_22 rfl tyX11_ok nmX11 rfl rfl rfl ?_
      refine r_aload_n dX11_text_25 rfl rfl ?_
      refine r_iconst (v := (0 : Int32)) dX11_text_26 rfl ?_
      refine r_putI (k := 45) (i := 0) (j := 2) (ty0 := tyX11) rfl rfl ho45 rfl hX11 (by decide) rfl fX11_154 dX11_text_27 rfl tyX11_ok nmX11 rfl rfl rfl ?_
      refine r_aload_n dX11_text_30 rfl rfl ?_
      refine r_iconst (v := (0 : Int32)) dX11_text_31 rfl ?_
      refine r_putI (k := 45) (i := 0) (j := 27) (ty0 := tyX11) rfl rfl ho45 rfl hX11 (by decide) rfl fX11_157 dX11_text_32 rfl tyX11_ok nmX11 rfl rfl rfl ?_
      refine r_aload_n dX11_text_35 rfl rfl ?_
      refine r_iconst (v := (0 : Int32)) dX11_text_36 rfl ?_
      refine r_putI (k := 45) (i := 0) (j := 31) (ty0 := tyX11) rfl rfl ho45 rfl hX11 (by decide) rfl fX11_205 dX11_text_37 rfl tyX11_ok nmX11 rfl rfl rfl ?_
      refine r_aload_n dX11_text_40 rfl rfl ?_
      refine r_iconst (v := (-1 : Int32)) dX11_text_41 rfl ?_
      refine r_putI (k := 45) (i := 0) (j := 32) (ty0 := tyX11) rfl rfl ho45 rfl hX11 (by decide) rfl fX11_208 dX11_text_42 rfl tyX11_ok nmX11 rfl rfl rfl ?_
      refine r_iconst (v := (0 : Int32)) dX11_text_45 rfl ?_
      refine r_istore_n dX11_text_46 rfl (by decide) rfl ?_
      exact H
    · have H := H.2 c
      refine r_bipush (v := (-2 : Int32)) dX11_text_17 rfl ?_
      exact r_iret dX11_text_19 rfl H
set_option maxRecDepth 100000 in
theorem bX11_text_47 {d : Nat} {Q : Option MV → MS → Prop} {x1 : Int32} {x2 : Int32} {σ : MS}  (H : (((9 : Int32) ≤ x2 → R mj_OM (d + 1) mX11_text Q 67 [some (rV 45 0), some (iV x1), some (iV (3 : Int32))] [] σ) ∧ (¬ (9 : Int32) ≤ x2 → (R mj_OM d mX11_reads (fun r σ' => R mj_OM (d + 1) mX11_text Q 59 [some (rV 45 0), some (iV x1), some (iV x2)] (r.toList ++ []) σ') 0 [some (rV 45 0), some (iV x2), some (iV (0 : Int32))] [] σ)))) : R mj_OM (d + 1) mX11_text Q 47 [some (rV 45 0), some (iV x1), some (iV x2)] [] σ := by
  refine r_iload_n dX11_text_47 rfl rfl ?_
  refine r_bipush (v := (9 : Int32)) dX11_text_48 rfl ?_
  refine r_icmp_ge (tgt := 65) dX11_text_50 (by decide) (fun c => ?_) (fun c => ?_)
  · have H := H.1 c
    refine r_iconst (v := (3 : Int32)) dX11_text_65 rfl ?_
    refine r_istore_n dX11_text_66 rfl (by decide) rfl ?_
    exact H
  · have H := H.2 c
    refine r_aload_n dX11_text_53 rfl rfl ?_
    refine r_iload_n dX11_text_54 rfl rfl ?_
    refine r_iconst (v := (0 : Int32)) dX11_text_55 rfl ?_
    refine r_callV (z := 0) (k := 45) (i := 0) (As := [iV x2, iV (0 : Int32)]) (st := []) kX11_reads i_X11_reads e_X11_reads lX11_239 dX11_text_56 rfl rfl ho45 rfl rfl rfl rfl rfl (Nat.le_of_ble_eq_true rfl) ?_
    exact H
set_option maxRecDepth 100000 in
theorem bX11_text_59 {d : Nat} {Q : Option MV → MS → Prop} {x1 : Int32} {x2 : Int32} {σ : MS}  (H : R mj_OM d mX11_text Q 47 [some (rV 45 0), some (iV x1), some (iV (x2 + (1 : Int32)))] [] σ) : R mj_OM d mX11_text Q 59 [some (rV 45 0), some (iV x1), some (iV x2)] [] σ := by
  refine r_iinc (v := x2 + (1 : Int32)) dX11_text_59 rfl rfl (by decide) rfl ?_
  refine r_goto (tgt := 47) dX11_text_62 (by decide) ?_
  exact H
set_option maxRecDepth 100000 in
theorem bX11_text_67 {d : Nat} {Q : Option MV → MS → Prop} {x1 : Int32} {x2 : Int32} {σ : MS}  (H : (((6 : Int32) ≤ x2 → (R mj_OM d mX11_token (fun r σ' => R mj_OM (d + 1) mX11_text Q 117 [some (rV 45 0), some (iV x1), some (iV x2)] (r.toList ++ []) σ') 0 [some (rV 45 0), none] [] (uI (uI (uI (uI σ 45 0 24 (0 : Int32)) 45 0 25 (0 : Int32)) 45 0 35 (0 : Int32)) 45 0 36 (0 : Int32)))) ∧ (¬ (6 : Int32) ≤ x2 → (vp_in x2 6 ∧ R mj_OM (d + 1) mX11_text Q 67 [some (rV 45 0), some (iV x1), some (iV (x2 + (1 : Int32)))] [] (uI (uI σ 64 0 ((x2).toNatClampNeg) (0 : Int32)) 65 0 ((x2).toNatClampNeg) (0 : Int32)))))) : R mj_OM (d + 1) mX11_text Q 67 [some (rV 45 0), some (iV x1), some (iV x2)] [] σ := by
  refine r_iload_n dX11_text_67 rfl rfl ?_
  refine r_bipush (v := (6 : Int32)) dX11_text_68 rfl ?_
  refine r_icmp_ge (tgt := 93) dX11_text_70 (by decide) (fun c => ?_) (fun c => ?_)
  · have H := H.1 c
    refine r_aload_n dX11_text_93 rfl rfl ?_
    refine r_iconst (v := (0 : Int32)) dX11_text_94 rfl ?_
    refine r_putI (k := 45) (i := 0) (j := 24) (ty0 := tyX11) rfl rfl ho45 rfl hX11 (by decide) rfl fX11_228 dX11_text_95 rfl tyX11_ok nmX11 rfl rfl rfl ?_
    refine r_aload_n dX11_text_98 rfl rfl ?_
    refine r_iconst (v := (0 : Int32)) dX11_text_99 rfl ?_
    refine r_putI (k := 45) (i := 0) (j := 25) (ty0 := tyX11) rfl rfl ho45 rfl hX11 (by decide) rfl fX11_267 dX11_text_100 rfl tyX11_ok nmX11 rfl rfl rfl ?_
    refine r_aload_n dX11_text_103 rfl rfl ?_
    refine r_iconst (v := (0 : Int32)) dX11_text_104 rfl ?_
    refine r_putI (k := 45) (i := 0) (j := 35) (ty0 := tyX11) rfl rfl ho45 rfl hX11 (by decide) rfl fX11_300 dX11_text_105 rfl tyX11_ok nmX11 rfl rfl rfl ?_
    refine r_aload_n dX11_text_108 rfl rfl ?_
    refine r_iconst (v := (0 : Int32)) dX11_text_109 rfl ?_
    refine r_putI (k := 45) (i := 0) (j := 36) (ty0 := tyX11) rfl rfl ho45 rfl hX11 (by decide) rfl fX11_273 dX11_text_110 rfl tyX11_ok nmX11 rfl rfl rfl ?_
    refine r_aload_n dX11_text_113 rfl rfl ?_
    refine r_callV (z := 1) (k := 45) (i := 0) (As := []) (st := []) kX11_token i_X11_token e_X11_token lX11_211 dX11_text_114 rfl rfl ho45 rfl rfl rfl rfl rfl (Nat.le_of_ble_eq_true rfl) ?_
    exact H
  · have H := H.2 c
    refine r_aload_n dX11_text_73 rfl rfl ?_
    refine r_get (k := 45) (i := 0) (j := 20) (v := rV 64 0) rfl rfl ho45 rfl hX11 (by decide) rfl fX11_64 dX11_text_74 (fun _ => rfl) ?_
    refine r_iload_n dX11_text_77 rfl rfl ?_
    refine r_iconst (v := (0 : Int32)) dX11_text_78 rfl ?_
    obtain ⟨q1, H⟩ := H
    refine r_iast (k := 64) (i := 0) rfl ho64 q1 dX11_text_79 ?_
    refine r_aload_n dX11_text_80 rfl rfl ?_
    refine r_get (k := 45) (i := 0) (j := 21) (v := rV 65 0) rfl rfl ho45 rfl hX11 (by decide) rfl fX11_67 dX11_text_81 (fun _ => rfl) ?_
    refine r_iload_n dX11_text_84 rfl rfl ?_
    refine r_iconst (v := (0 : Int32)) dX11_text_85 rfl ?_
    refine r_iast (k := 65) (i := 0) rfl ho65 q1 dX11_text_86 ?_
    refine r_iinc (v := x2 + (1 : Int32)) dX11_text_87 rfl rfl (by decide) rfl ?_
    refine r_goto (tgt := 67) dX11_text_90 (by decide) ?_
    exact H
set_option maxRecDepth 100000 in
theorem bX11_text_117 {d : Nat} {Q : Option MV → MS → Prop} {x1 : Int32} {x2 : Int32} {σ : MS}  (H : ((¬ (σ.1 45 0 31) = 0 → (((σ.1 45 0 31) = 0 → (R mj_OM d mX11_half (fun r σ' => R mj_OM (d + 1) mX11_text Q 171 [some (rV 45 0), some (iV x1), some (iV x2)] (r.toList ++ []) σ') 0 [some (rV 47 0), none, none] [] (uI (uI σ 45 0 33 (σ.1 45 0 31)) 45 0 34 (σ.1 45 0 32)))) ∧ (¬ (σ.1 45 0 31) = 0 → Q (some (iV (-1 : Int32))) (uI (uI σ 45 0 33 (σ.1 45 0 31)) 45 0 34 (σ.1 45 0 32))))) ∧ ((σ.1 45 0 31) = 0 → (((σ.1 45 0 29) = (4 : Int32) → (((σ.1 45 0 31) = 0 → (R mj_OM d mX11_half (fun r σ' => R mj_OM (d + 1) mX11_text Q 171 [some (rV 45 0), some (iV x1), some (iV x2)] (r.toList ++ []) σ') 0 [some (rV 47 0), none, none] [] (uI (uI σ 45 0 33 (σ.1 45 0 31)) 45 0 34 (σ.1 45 0 32)))) ∧ (¬ (σ.1 45 0 31) = 0 → Q (some (iV (-1 : Int32))) (uI (uI σ 45 0 33 (σ.1 45 0 31)) 45 0 34 (σ.1 45 0 32))))) ∧ (¬ (σ.1 45 0 29) = (4 : Int32) → (R mj_OM d mX11_line (fun r σ' => R mj_OM (d + 1) mX11_text Q 136 [some (rV 45 0), some (iV x1), some (iV x2)] (r.toList ++ []) σ') 0 [some (rV 45 0), none, none, none, none] [] σ)))))) : R mj_OM (d + 1) mX11_text Q 117 [some (rV 45 0), some (iV x1), some (iV x2)] [] σ := by
  refine r_aload_n dX11_text_117 rfl rfl ?_
  refine r_get (k := 45) (i := 0) (j := 31) (v := iV (σ.1 45 0 31)) rfl rfl ho45 rfl hX11 (by decide) rfl fX11_205 dX11_text_118 (fun _ => rfl) ?_
  refine r_if_ne (tgt := 139) dX11_text_121 (by decide) (fun c => ?_) (fun c => ?_)
  · have H := H.1 c
    refine r_aload_n dX11_text_139 rfl rfl ?_
    refine r_aload_n dX11_text_140 rfl rfl ?_
    refine r_get (k := 45) (i := 0) (j := 31) (v := iV (σ.1 45 0 31)) rfl rfl ho45 rfl hX11 (by decide) rfl fX11_205 dX11_text_141 (fun _ => rfl) ?_
    refine r_putI (k := 45) (i := 0) (j := 33) (ty0 := tyX11) rfl rfl ho45 rfl hX11 (by decide) rfl fX11_306 dX11_text_144 rfl tyX11_ok nmX11 rfl rfl rfl ?_
    refine r_aload_n dX11_text_147 rfl rfl ?_
    refine r_aload_n dX11_text_148 rfl rfl ?_
    refine r_get (k := 45) (i := 0) (j := 32) (v := iV (σ.1 45 0 32)) rfl rfl ho45 rfl hX11 (by decide) rfl fX11_208 dX11_text_149 (fun _ => rfl) ?_
    refine r_putI (k := 45) (i := 0) (j := 34) (ty0 := tyX11) rfl rfl ho45 rfl hX11 (by decide) rfl fX11_76 dX11_text_152 rfl tyX11_ok nmX11 rfl rfl rfl ?_
    refine r_aload_n dX11_text_155 rfl rfl ?_
    refine r_get (k := 45) (i := 0) (j := 31) (v := iV (σ.1 45 0 31)) rfl rfl ho45 rfl hX11 (by decide) rfl fX11_205 dX11_text_156 (fun _ => rfl) ?_
    refine r_if_eq (tgt := 164) dX11_text_159 (by decide) (fun c => ?_) (fun c => ?_)
    · have H := H.1 c
      refine r_aload_n dX11_text_164 rfl rfl ?_
      refine r_get (k := 45) (i := 0) (j := 3) (v := rV 47 0) rfl rfl ho45 rfl hX11 (by decide) rfl fX11_13 dX11_text_165 (fun _ => rfl) ?_
      refine r_callS (z := 2) (As := [rV 47 0]) (st := []) kX11_half s_X11_half lX11_309 dX11_text_168 rfl rfl rfl rfl (Nat.le_of_ble_eq_true rfl) ?_
      exact H
    · have H := H.2 c
      refine r_iconst (v := (-1 : Int32)) dX11_text_162 rfl ?_
      exact r_iret dX11_text_163 rfl H
  · have H := H.2 c
    refine r_aload_n dX11_text_124 rfl rfl ?_
    refine r_get (k := 45) (i := 0) (j := 29) (v := iV (σ.1 45 0 29)) rfl rfl ho45 rfl hX11 (by decide) rfl fX11_170 dX11_text_125 (fun _ => rfl) ?_
    refine r_iconst (v := (4 : Int32)) dX11_text_128 rfl ?_
    refine r_icmp_eq (tgt := 139) dX11_text_129 (by decide) (fun c => ?_) (fun c => ?_)
    · have H := H.1 c
      refine r_aload_n dX11_text_139 rfl rfl ?_
      refine r_aload_n dX11_text_140 rfl rfl ?_
      refine r_get (k := 45) (i := 0) (j := 31) (v := iV (σ.1 45 0 31)) rfl rfl ho45 rfl hX11 (by decide) rfl fX11_205 dX11_text_141 (fun _ => rfl) ?_
      refine r_putI (k := 45) (i := 0) (j := 33) (ty0 := tyX11) rfl rfl ho45 rfl hX11 (by decide) rfl fX11_306 dX11_text_144 rfl tyX11_ok nmX11 rfl rfl rfl ?_
      refine r_aload_n dX11_text_147 rfl rfl ?_
      refine r_aload_n dX11_text_148 rfl rfl ?_
      refine r_get (k := 45) (i := 0) (j := 32) (v := iV (σ.1 45 0 32)) rfl rfl ho45 rfl hX11 (by decide) rfl fX11_208 dX11_text_149 (fun _ => rfl) ?_
      refine r_putI (k := 45) (i := 0) (j := 34) (ty0 := tyX11) rfl rfl ho45 rfl hX11 (by decide) rfl fX11_76 dX11_text_152 rfl tyX11_ok nmX11 rfl rfl rfl ?_
      refine r_aload_n dX11_text_155 rfl rfl ?_
      refine r_get (k := 45) (i := 0) (j := 31) (v := iV (σ.1 45 0 31)) rfl rfl ho45 rfl hX11 (by decide) rfl fX11_205 dX11_text_156 (fun _ => rfl) ?_
      refine r_if_eq (tgt := 164) dX11_text_159 (by decide) (fun c => ?_) (fun c => ?_)
      · have H := H.1 c
        refine r_aload_n dX11_text_164 rfl rfl ?_
        refine r_get (k := 45) (i := 0) (j := 3) (v := rV 47 0) rfl rfl ho45 rfl hX11 (by decide) rfl fX11_13 dX11_text_165 (fun _ => rfl) ?_
        refine r_callS (z := 2) (As := [rV 47 0]) (st := []) kX11_half s_X11_half lX11_309 dX11_text_168 rfl rfl rfl rfl (Nat.le_of_ble_eq_true rfl) ?_
        exact H
      · have H := H.2 c
        refine r_iconst (v := (-1 : Int32)) dX11_text_162 rfl ?_
        exact r_iret dX11_text_163 rfl H
    · have H := H.2 c
      refine r_aload_n dX11_text_132 rfl rfl ?_
      refine r_callV (z := 4) (k := 45) (i := 0) (As := []) (st := []) kX11_line i_X11_line e_X11_line lX11_303 dX11_text_133 rfl rfl ho45 rfl rfl rfl rfl rfl (Nat.le_of_ble_eq_true rfl) ?_
      exact H
set_option maxRecDepth 100000 in
theorem bX11_text_136 {d : Nat} {Q : Option MV → MS → Prop} {x1 : Int32} {x2 : Int32} {σ : MS}  (H : R mj_OM d mX11_text Q 117 [some (rV 45 0), some (iV x1), some (iV x2)] [] σ) : R mj_OM d mX11_text Q 136 [some (rV 45 0), some (iV x1), some (iV x2)] [] σ := by
  refine r_goto (tgt := 117) dX11_text_136 (by decide) ?_
  exact H
set_option maxRecDepth 100000 in
theorem bX11_text_171 {d : Nat} {Q : Option MV → MS → Prop} {x1 : Int32} {x2 : Int32} {σ : MS}  (H : (R mj_OM d mX11_half (fun r σ' => R mj_OM (d + 1) mX11_text Q 178 [some (rV 45 0), some (iV x1), some (iV x2)] (r.toList ++ []) σ') 0 [some (rV 48 0), none, none] [] σ)) : R mj_OM (d + 1) mX11_text Q 171 [some (rV 45 0), some (iV x1), some (iV x2)] [] σ := by
  refine r_aload_n dX11_text_171 rfl rfl ?_
  refine r_get (k := 45) (i := 0) (j := 4) (v := rV 48 0) rfl rfl ho45 rfl hX11 (by decide) rfl fX11_16 dX11_text_172 (fun _ => rfl) ?_
  refine r_callS (z := 2) (As := [rV 48 0]) (st := []) kX11_half s_X11_half lX11_309 dX11_text_175 rfl rfl rfl rfl (Nat.le_of_ble_eq_true rfl) ?_
  exact H
set_option maxRecDepth 100000 in
theorem bX11_text_178 {d : Nat} {Q : Option MV → MS → Prop} {x1 : Int32} {x2 : Int32} {σ : MS}  (H : (R mj_OM d mX11_half (fun r σ' => R mj_OM (d + 1) mX11_text Q 185 [some (rV 45 0), some (iV x1), some (iV x2)] (r.toList ++ []) σ') 0 [some (rV 49 0), none, none] [] σ)) : R mj_OM (d + 1) mX11_text Q 178 [some (rV 45 0), some (iV x1), some (iV x2)] [] σ := by
  refine r_aload_n dX11_text_178 rfl rfl ?_
  refine r_get (k := 45) (i := 0) (j := 5) (v := rV 49 0) rfl rfl ho45 rfl hX11 (by decide) rfl fX11_19 dX11_text_179 (fun _ => rfl) ?_
  refine r_callS (z := 2) (As := [rV 49 0]) (st := []) kX11_half s_X11_half lX11_309 dX11_text_182 rfl rfl rfl rfl (Nat.le_of_ble_eq_true rfl) ?_
  exact H
set_option maxRecDepth 100000 in
theorem bX11_text_185 {d : Nat} {Q : Option MV → MS → Prop} {x1 : Int32} {x2 : Int32} {σ : MS}  (H : (R mj_OM d mX11_half (fun r σ' => R mj_OM (d + 1) mX11_text Q 192 [some (rV 45 0), some (iV x1), some (iV x2)] (r.toList ++ []) σ') 0 [some (rV 50 0), none, none] [] σ)) : R mj_OM (d + 1) mX11_text Q 185 [some (rV 45 0), some (iV x1), some (iV x2)] [] σ := by
  refine r_aload_n dX11_text_185 rfl rfl ?_
  refine r_get (k := 45) (i := 0) (j := 6) (v := rV 50 0) rfl rfl ho45 rfl hX11 (by decide) rfl fX11_22 dX11_text_186 (fun _ => rfl) ?_
  refine r_callS (z := 2) (As := [rV 50 0]) (st := []) kX11_half s_X11_half lX11_309 dX11_text_189 rfl rfl rfl rfl (Nat.le_of_ble_eq_true rfl) ?_
  exact H
set_option maxRecDepth 100000 in
theorem bX11_text_192 {d : Nat} {Q : Option MV → MS → Prop} {x1 : Int32} {x2 : Int32} {σ : MS}  (H : (R mj_OM d mX11_half (fun r σ' => R mj_OM (d + 1) mX11_text Q 199 [some (rV 45 0), some (iV x1), some (iV x2)] (r.toList ++ []) σ') 0 [some (rV 51 0), none, none] [] σ)) : R mj_OM (d + 1) mX11_text Q 192 [some (rV 45 0), some (iV x1), some (iV x2)] [] σ := by
  refine r_aload_n dX11_text_192 rfl rfl ?_
  refine r_get (k := 45) (i := 0) (j := 7) (v := rV 51 0) rfl rfl ho45 rfl hX11 (by decide) rfl fX11_25 dX11_text_193 (fun _ => rfl) ?_
  refine r_callS (z := 2) (As := [rV 51 0]) (st := []) kX11_half s_X11_half lX11_309 dX11_text_196 rfl rfl rfl rfl (Nat.le_of_ble_eq_true rfl) ?_
  exact H
set_option maxRecDepth 100000 in
theorem bX11_text_199 {d : Nat} {Q : Option MV → MS → Prop} {x1 : Int32} {x2 : Int32} {σ : MS}  (H : (R mj_OM d mX11_half (fun r σ' => R mj_OM (d + 1) mX11_text Q 206 [some (rV 45 0), some (iV x1), some (iV x2)] (r.toList ++ []) σ') 0 [some (rV 52 0), none, none] [] σ)) : R mj_OM (d + 1) mX11_text Q 199 [some (rV 45 0), some (iV x1), some (iV x2)] [] σ := by
  refine r_aload_n dX11_text_199 rfl rfl ?_
  refine r_get (k := 45) (i := 0) (j := 8) (v := rV 52 0) rfl rfl ho45 rfl hX11 (by decide) rfl fX11_28 dX11_text_200 (fun _ => rfl) ?_
  refine r_callS (z := 2) (As := [rV 52 0]) (st := []) kX11_half s_X11_half lX11_309 dX11_text_203 rfl rfl rfl rfl (Nat.le_of_ble_eq_true rfl) ?_
  exact H
set_option maxRecDepth 100000 in
theorem bX11_text_206 {d : Nat} {Q : Option MV → MS → Prop} {x1 : Int32} {x2 : Int32} {σ : MS}  (H : (R mj_OM d mX11_half (fun r σ' => R mj_OM (d + 1) mX11_text Q 213 [some (rV 45 0), some (iV x1), some (iV x2)] (r.toList ++ []) σ') 0 [some (rV 53 0), none, none] [] σ)) : R mj_OM (d + 1) mX11_text Q 206 [some (rV 45 0), some (iV x1), some (iV x2)] [] σ := by
  refine r_aload_n dX11_text_206 rfl rfl ?_
  refine r_get (k := 45) (i := 0) (j := 9) (v := rV 53 0) rfl rfl ho45 rfl hX11 (by decide) rfl fX11_31 dX11_text_207 (fun _ => rfl) ?_
  refine r_callS (z := 2) (As := [rV 53 0]) (st := []) kX11_half s_X11_half lX11_309 dX11_text_210 rfl rfl rfl rfl (Nat.le_of_ble_eq_true rfl) ?_
  exact H
set_option maxRecDepth 100000 in
theorem bX11_text_213 {d : Nat} {Q : Option MV → MS → Prop} {x1 : Int32} {x2 : Int32} {σ : MS}  (H : (R mj_OM d mX11_half (fun r σ' => R mj_OM (d + 1) mX11_text Q 220 [some (rV 45 0), some (iV x1), some (iV x2)] (r.toList ++ []) σ') 0 [some (rV 54 0), none, none] [] σ)) : R mj_OM (d + 1) mX11_text Q 213 [some (rV 45 0), some (iV x1), some (iV x2)] [] σ := by
  refine r_aload_n dX11_text_213 rfl rfl ?_
  refine r_get (k := 45) (i := 0) (j := 10) (v := rV 54 0) rfl rfl ho45 rfl hX11 (by decide) rfl fX11_34 dX11_text_214 (fun _ => rfl) ?_
  refine r_callS (z := 2) (As := [rV 54 0]) (st := []) kX11_half s_X11_half lX11_309 dX11_text_217 rfl rfl rfl rfl (Nat.le_of_ble_eq_true rfl) ?_
  exact H
set_option maxRecDepth 100000 in
theorem bX11_text_220 {d : Nat} {Q : Option MV → MS → Prop} {x1 : Int32} {x2 : Int32} {σ : MS}  (H : (R mj_OM d mX11_half (fun r σ' => R mj_OM (d + 1) mX11_text Q 227 [some (rV 45 0), some (iV x1), some (iV x2)] (r.toList ++ []) σ') 0 [some (rV 55 0), none, none] [] σ)) : R mj_OM (d + 1) mX11_text Q 220 [some (rV 45 0), some (iV x1), some (iV x2)] [] σ := by
  refine r_aload_n dX11_text_220 rfl rfl ?_
  refine r_get (k := 45) (i := 0) (j := 11) (v := rV 55 0) rfl rfl ho45 rfl hX11 (by decide) rfl fX11_37 dX11_text_221 (fun _ => rfl) ?_
  refine r_callS (z := 2) (As := [rV 55 0]) (st := []) kX11_half s_X11_half lX11_309 dX11_text_224 rfl rfl rfl rfl (Nat.le_of_ble_eq_true rfl) ?_
  exact H
set_option maxRecDepth 100000 in
theorem bX11_text_227 {d : Nat} {Q : Option MV → MS → Prop} {x1 : Int32} {x2 : Int32} {σ : MS}  (H : (R mj_OM d mX11_half (fun r σ' => R mj_OM (d + 1) mX11_text Q 234 [some (rV 45 0), some (iV x1), some (iV x2)] (r.toList ++ []) σ') 0 [some (rV 56 0), none, none] [] σ)) : R mj_OM (d + 1) mX11_text Q 227 [some (rV 45 0), some (iV x1), some (iV x2)] [] σ := by
  refine r_aload_n dX11_text_227 rfl rfl ?_
  refine r_get (k := 45) (i := 0) (j := 12) (v := rV 56 0) rfl rfl ho45 rfl hX11 (by decide) rfl fX11_40 dX11_text_228 (fun _ => rfl) ?_
  refine r_callS (z := 2) (As := [rV 56 0]) (st := []) kX11_half s_X11_half lX11_309 dX11_text_231 rfl rfl rfl rfl (Nat.le_of_ble_eq_true rfl) ?_
  exact H
set_option maxRecDepth 100000 in
theorem bX11_text_234 {d : Nat} {Q : Option MV → MS → Prop} {x1 : Int32} {x2 : Int32} {σ : MS}  (H : (R mj_OM d mX11_half (fun r σ' => R mj_OM (d + 1) mX11_text Q 241 [some (rV 45 0), some (iV x1), some (iV x2)] (r.toList ++ []) σ') 0 [some (rV 57 0), none, none] [] σ)) : R mj_OM (d + 1) mX11_text Q 234 [some (rV 45 0), some (iV x1), some (iV x2)] [] σ := by
  refine r_aload_n dX11_text_234 rfl rfl ?_
  refine r_get (k := 45) (i := 0) (j := 13) (v := rV 57 0) rfl rfl ho45 rfl hX11 (by decide) rfl fX11_43 dX11_text_235 (fun _ => rfl) ?_
  refine r_callS (z := 2) (As := [rV 57 0]) (st := []) kX11_half s_X11_half lX11_309 dX11_text_238 rfl rfl rfl rfl (Nat.le_of_ble_eq_true rfl) ?_
  exact H
set_option maxRecDepth 100000 in
theorem bX11_text_241 {d : Nat} {Q : Option MV → MS → Prop} {x1 : Int32} {x2 : Int32} {σ : MS}  (H : (R mj_OM d mX11_half (fun r σ' => R mj_OM (d + 1) mX11_text Q 248 [some (rV 45 0), some (iV x1), some (iV x2)] (r.toList ++ []) σ') 0 [some (rV 58 0), none, none] [] σ)) : R mj_OM (d + 1) mX11_text Q 241 [some (rV 45 0), some (iV x1), some (iV x2)] [] σ := by
  refine r_aload_n dX11_text_241 rfl rfl ?_
  refine r_get (k := 45) (i := 0) (j := 14) (v := rV 58 0) rfl rfl ho45 rfl hX11 (by decide) rfl fX11_46 dX11_text_242 (fun _ => rfl) ?_
  refine r_callS (z := 2) (As := [rV 58 0]) (st := []) kX11_half s_X11_half lX11_309 dX11_text_245 rfl rfl rfl rfl (Nat.le_of_ble_eq_true rfl) ?_
  exact H
set_option maxRecDepth 100000 in
theorem bX11_text_248 {d : Nat} {Q : Option MV → MS → Prop} {x1 : Int32} {x2 : Int32} {σ : MS}  (H : (R mj_OM d mX11_half (fun r σ' => R mj_OM (d + 1) mX11_text Q 255 [some (rV 45 0), some (iV x1), some (iV x2)] (r.toList ++ []) σ') 0 [some (rV 59 0), none, none] [] σ)) : R mj_OM (d + 1) mX11_text Q 248 [some (rV 45 0), some (iV x1), some (iV x2)] [] σ := by
  refine r_aload_n dX11_text_248 rfl rfl ?_
  refine r_get (k := 45) (i := 0) (j := 15) (v := rV 59 0) rfl rfl ho45 rfl hX11 (by decide) rfl fX11_49 dX11_text_249 (fun _ => rfl) ?_
  refine r_callS (z := 2) (As := [rV 59 0]) (st := []) kX11_half s_X11_half lX11_309 dX11_text_252 rfl rfl rfl rfl (Nat.le_of_ble_eq_true rfl) ?_
  exact H
set_option maxRecDepth 100000 in
theorem bX11_text_255 {d : Nat} {Q : Option MV → MS → Prop} {x1 : Int32} {x2 : Int32} {σ : MS}  (H : (R mj_OM d mX11_half (fun r σ' => R mj_OM (d + 1) mX11_text Q 262 [some (rV 45 0), some (iV x1), some (iV x2)] (r.toList ++ []) σ') 0 [some (rV 60 0), none, none] [] σ)) : R mj_OM (d + 1) mX11_text Q 255 [some (rV 45 0), some (iV x1), some (iV x2)] [] σ := by
  refine r_aload_n dX11_text_255 rfl rfl ?_
  refine r_get (k := 45) (i := 0) (j := 16) (v := rV 60 0) rfl rfl ho45 rfl hX11 (by decide) rfl fX11_52 dX11_text_256 (fun _ => rfl) ?_
  refine r_callS (z := 2) (As := [rV 60 0]) (st := []) kX11_half s_X11_half lX11_309 dX11_text_259 rfl rfl rfl rfl (Nat.le_of_ble_eq_true rfl) ?_
  exact H
set_option maxRecDepth 100000 in
theorem bX11_text_262 {d : Nat} {Q : Option MV → MS → Prop} {x1 : Int32} {x2 : Int32} {σ : MS}  (H : (R mj_OM d mX11_half (fun r σ' => R mj_OM (d + 1) mX11_text Q 269 [some (rV 45 0), some (iV x1), some (iV x2)] (r.toList ++ []) σ') 0 [some (rV 61 0), none, none] [] σ)) : R mj_OM (d + 1) mX11_text Q 262 [some (rV 45 0), some (iV x1), some (iV x2)] [] σ := by
  refine r_aload_n dX11_text_262 rfl rfl ?_
  refine r_get (k := 45) (i := 0) (j := 17) (v := rV 61 0) rfl rfl ho45 rfl hX11 (by decide) rfl fX11_55 dX11_text_263 (fun _ => rfl) ?_
  refine r_callS (z := 2) (As := [rV 61 0]) (st := []) kX11_half s_X11_half lX11_309 dX11_text_266 rfl rfl rfl rfl (Nat.le_of_ble_eq_true rfl) ?_
  exact H
set_option maxRecDepth 100000 in
theorem bX11_text_269 {d : Nat} {Q : Option MV → MS → Prop} {x1 : Int32} {x2 : Int32} {σ : MS}  (H : (R mj_OM d mX11_half (fun r σ' => R mj_OM (d + 1) mX11_text Q 276 [some (rV 45 0), some (iV x1), some (iV x2)] (r.toList ++ []) σ') 0 [some (rV 62 0), none, none] [] σ)) : R mj_OM (d + 1) mX11_text Q 269 [some (rV 45 0), some (iV x1), some (iV x2)] [] σ := by
  refine r_aload_n dX11_text_269 rfl rfl ?_
  refine r_get (k := 45) (i := 0) (j := 18) (v := rV 62 0) rfl rfl ho45 rfl hX11 (by decide) rfl fX11_58 dX11_text_270 (fun _ => rfl) ?_
  refine r_callS (z := 2) (As := [rV 62 0]) (st := []) kX11_half s_X11_half lX11_309 dX11_text_273 rfl rfl rfl rfl (Nat.le_of_ble_eq_true rfl) ?_
  exact H
set_option maxRecDepth 100000 in
theorem bX11_text_276 {d : Nat} {Q : Option MV → MS → Prop} {x1 : Int32} {x2 : Int32} {σ : MS}  (H : (R mj_OM d mX11_half (fun r σ' => R mj_OM (d + 1) mX11_text Q 283 [some (rV 45 0), some (iV x1), some (iV x2)] (r.toList ++ []) σ') 0 [some (rV 63 0), none, none] [] σ)) : R mj_OM (d + 1) mX11_text Q 276 [some (rV 45 0), some (iV x1), some (iV x2)] [] σ := by
  refine r_aload_n dX11_text_276 rfl rfl ?_
  refine r_get (k := 45) (i := 0) (j := 19) (v := rV 63 0) rfl rfl ho45 rfl hX11 (by decide) rfl fX11_61 dX11_text_277 (fun _ => rfl) ?_
  refine r_callS (z := 2) (As := [rV 63 0]) (st := []) kX11_half s_X11_half lX11_309 dX11_text_280 rfl rfl rfl rfl (Nat.le_of_ble_eq_true rfl) ?_
  exact H
set_option maxRecDepth 100000 in
theorem bX11_text_283 {d : Nat} {Q : Option MV → MS → Prop} {x1 : Int32} {x2 : Int32} {σ : MS}  (H : (R mj_OM d mX11_half (fun r σ' => R mj_OM (d + 1) mX11_text Q 290 [some (rV 45 0), some (iV x1), some (iV x2)] (r.toList ++ []) σ') 0 [some (rV 64 0), none, none] [] σ)) : R mj_OM (d + 1) mX11_text Q 283 [some (rV 45 0), some (iV x1), some (iV x2)] [] σ := by
  refine r_aload_n dX11_text_283 rfl rfl ?_
  refine r_get (k := 45) (i := 0) (j := 20) (v := rV 64 0) rfl rfl ho45 rfl hX11 (by decide) rfl fX11_64 dX11_text_284 (fun _ => rfl) ?_
  refine r_callS (z := 2) (As := [rV 64 0]) (st := []) kX11_half s_X11_half lX11_309 dX11_text_287 rfl rfl rfl rfl (Nat.le_of_ble_eq_true rfl) ?_
  exact H
set_option maxRecDepth 100000 in
theorem bX11_text_290 {d : Nat} {Q : Option MV → MS → Prop} {x1 : Int32} {x2 : Int32} {σ : MS}  (H : (R mj_OM d mX11_half (fun r σ' => R mj_OM (d + 1) mX11_text Q 297 [some (rV 45 0), some (iV x1), some (iV x2)] (r.toList ++ []) σ') 0 [some (rV 65 0), none, none] [] σ)) : R mj_OM (d + 1) mX11_text Q 290 [some (rV 45 0), some (iV x1), some (iV x2)] [] σ := by
  refine r_aload_n dX11_text_290 rfl rfl ?_
  refine r_get (k := 45) (i := 0) (j := 21) (v := rV 65 0) rfl rfl ho45 rfl hX11 (by decide) rfl fX11_67 dX11_text_291 (fun _ => rfl) ?_
  refine r_callS (z := 2) (As := [rV 65 0]) (st := []) kX11_half s_X11_half lX11_309 dX11_text_294 rfl rfl rfl rfl (Nat.le_of_ble_eq_true rfl) ?_
  exact H
set_option maxRecDepth 100000 in
theorem bX11_text_297 {d : Nat} {Q : Option MV → MS → Prop} {x1 : Int32} {x2 : Int32} {σ : MS}  (H : (R mj_OM d mX11_half (fun r σ' => R mj_OM (d + 1) mX11_text Q 304 [some (rV 45 0), some (iV x1), some (iV x2)] (r.toList ++ []) σ') 0 [some (rV 66 0), none, none] [] σ)) : R mj_OM (d + 1) mX11_text Q 297 [some (rV 45 0), some (iV x1), some (iV x2)] [] σ := by
  refine r_aload_n dX11_text_297 rfl rfl ?_
  refine r_get (k := 45) (i := 0) (j := 22) (v := rV 66 0) rfl rfl ho45 rfl hX11 (by decide) rfl fX11_70 dX11_text_298 (fun _ => rfl) ?_
  refine r_callS (z := 2) (As := [rV 66 0]) (st := []) kX11_half s_X11_half lX11_309 dX11_text_301 rfl rfl rfl rfl (Nat.le_of_ble_eq_true rfl) ?_
  exact H
set_option maxRecDepth 100000 in
theorem bX11_text_304 {d : Nat} {Q : Option MV → MS → Prop} {x1 : Int32} {x2 : Int32} {σ : MS}  (H : (R mj_OM d mX11_half (fun r σ' => R mj_OM (d + 1) mX11_text Q 311 [some (rV 45 0), some (iV x1), some (iV x2)] (r.toList ++ []) σ') 0 [some (rV 67 0), none, none] [] σ)) : R mj_OM (d + 1) mX11_text Q 304 [some (rV 45 0), some (iV x1), some (iV x2)] [] σ := by
  refine r_aload_n dX11_text_304 rfl rfl ?_
  refine r_get (k := 45) (i := 0) (j := 23) (v := rV 67 0) rfl rfl ho45 rfl hX11 (by decide) rfl fX11_73 dX11_text_305 (fun _ => rfl) ?_
  refine r_callS (z := 2) (As := [rV 67 0]) (st := []) kX11_half s_X11_half lX11_309 dX11_text_308 rfl rfl rfl rfl (Nat.le_of_ble_eq_true rfl) ?_
  exact H
set_option maxRecDepth 100000 in
theorem bX11_text_311 {d : Nat} {Q : Option MV → MS → Prop} {x1 : Int32} {x2 : Int32} {σ : MS}  (H : (R mj_OM d mX11_begins (fun r σ' => R mj_OM (d + 1) mX11_text Q 335 [some (rV 45 0), some (iV x1), some (iV x2)] (r.toList ++ []) σ') 0 [some (rV 45 0)] [] (uI (uI (uI (uI σ 45 0 61 (0 : Int32)) 45 0 62 (-1 : Int32)) 45 0 47 (0 : Int32)) 45 0 48 (0 : Int32)))) : R mj_OM (d + 1) mX11_text Q 311 [some (rV 45 0), some (iV x1), some (iV x2)] [] σ := by
  refine r_aload_n dX11_text_311 rfl rfl ?_
  refine r_iconst (v := (0 : Int32)) dX11_text_312 rfl ?_
  refine r_putI (k := 45) (i := 0) (j := 61) (ty0 := tyX11) rfl rfl ho45 rfl hX11 (by decide) rfl fX11_313 dX11_text_313 rfl tyX11_ok nmX11 rfl rfl rfl ?_
  refine r_aload_n dX11_text_316 rfl rfl ?_
  refine r_iconst (v := (-1 : Int32)) dX11_text_317 rfl ?_
  refine r_putI (k := 45) (i := 0) (j := 62) (ty0 := tyX11) rfl rfl ho45 rfl hX11 (by decide) rfl fX11_123 dX11_text_318 rfl tyX11_ok nmX11 rfl rfl rfl ?_
  refine r_aload_n dX11_text_321 rfl rfl ?_
  refine r_iconst (v := (0 : Int32)) dX11_text_322 rfl ?_
  refine r_putI (k := 45) (i := 0) (j := 47) (ty0 := tyX11) rfl rfl ho45 rfl hX11 (by decide) rfl fX11_316 dX11_text_323 rfl tyX11_ok nmX11 rfl (by decide) (by decide) ?_
  refine r_aload_n dX11_text_326 rfl rfl ?_
  refine r_iconst (v := (0 : Int32)) dX11_text_327 rfl ?_
  refine r_putI (k := 45) (i := 0) (j := 48) (ty0 := tyX11) rfl rfl ho45 rfl hX11 (by decide) rfl fX11_320 dX11_text_328 rfl tyX11_ok nmX11 rfl rfl rfl ?_
  refine r_aload_n dX11_text_331 rfl rfl ?_
  refine r_callV (z := 0) (k := 45) (i := 0) (As := []) (st := []) kX11_begins i_X11_begins e_X11_begins lX11_148 dX11_text_332 rfl rfl ho45 rfl rfl rfl rfl rfl (Nat.le_of_ble_eq_true rfl) ?_
  exact H
set_option maxRecDepth 100000 in
theorem bX11_text_335 {d : Nat} {Q : Option MV → MS → Prop} {x1 : Int32} {x2 : Int32} {σ : MS}  (H : Q (some (iV (σ.1 45 0 25))) σ) : R mj_OM d mX11_text Q 335 [some (rV 45 0), some (iV x1), some (iV x2)] [] σ := by
  refine r_aload_n dX11_text_335 rfl rfl ?_
  refine r_get (k := 45) (i := 0) (j := 25) (v := iV (σ.1 45 0 25)) rfl rfl ho45 rfl hX11 (by decide) rfl fX11_267 dX11_text_336 (fun _ => rfl) ?_
  exact r_iret dX11_text_339 rfl H
set_option maxRecDepth 100000 in
theorem bX11_fault_0 {d : Nat} {Q : Option MV → MS → Prop} {x1 : Int32} {σ : MS}  (H : ((¬ x1 = 0 → ((¬ x1 = (1 : Int32) → Q (some (iV (-1 : Int32))) (uI σ 45 0 0 (0 : Int32))) ∧ (x1 = (1 : Int32) → Q (some (iV (σ.1 45 0 34))) (uI σ 45 0 0 (0 : Int32))))) ∧ (x1 = 0 → Q (some (iV (σ.1 45 0 33))) (uI σ 45 0 0 (0 : Int32))))) : R mj_OM d mX11_fault Q 0 [some (rV 45 0), some (iV x1)] [] σ := by
  refine r_aload_n dX11_fault_0 rfl rfl ?_
  refine r_iconst (v := (0 : Int32)) dX11_fault_1 rfl ?_
  refine r_putI (k := 45) (i := 0) (j := 0) (ty0 := tyX11) rfl rfl ho45 rfl hX11 (by decide) rfl fX11_151 dX11_fault_2 rfl tyX11_ok nmX11 rfl rfl rfl ?_
  refine r_iload_n dX11_fault_5 rfl rfl ?_
  refine r_if_ne (tgt := 16) dX11_fault_6 (by decide) (fun c => ?_) (fun c => ?_)
  · have H := H.1 c
    refine r_iload_n dX11_fault_16 rfl rfl ?_
    refine r_iconst (v := (1 : Int32)) dX11_fault_17 rfl ?_
    refine r_icmp_ne (tgt := 28) dX11_fault_18 (by decide) (fun c => ?_) (fun c => ?_)
    · have H := H.1 c
      refine r_iconst (v := (-1 : Int32)) dX11_fault_28 rfl ?_
      exact r_iret dX11_fault_29 rfl H
    · have H := H.2 c
      refine r_aload_n dX11_fault_21 rfl rfl ?_
      refine r_get (k := 45) (i := 0) (j := 34) (v := iV (σ.1 45 0 34)) rfl rfl ho45 rfl hX11 (by decide) rfl fX11_76 dX11_fault_22 (fun _ => rfl) ?_
      refine r_goto (tgt := 29) dX11_fault_25 (by decide) ?_
      exact r_iret dX11_fault_29 rfl H
  · have H := H.2 c
    refine r_aload_n dX11_fault_9 rfl rfl ?_
    refine r_get (k := 45) (i := 0) (j := 33) (v := iV (σ.1 45 0 33)) rfl rfl ho45 rfl hX11 (by decide) rfl fX11_306 dX11_fault_10 (fun _ => rfl) ?_
    refine r_goto (tgt := 29) dX11_fault_13 (by decide) ?_
    exact r_iret dX11_fault_29 rfl H
set_option maxRecDepth 100000 in
theorem bX11_named_0 {d : Nat} {Q : Option MV → MS → Prop} {x1 : Int32} {σ : MS}  (H : (vp_in (0 : Int32) 18 ∧ (R mj_OM d mX11_found (fun r σ' => R mj_OM (d + 1) mX11_named Q 20 [some (rV 45 0), some (iV x1)] (r.toList ++ []) σ') 0 [some (rV 48 0), some (iV (0 : Int32)), some (iV (σ.1 47 0 0)), some (iV x1), none] [] (uI σ 45 0 0 (0 : Int32))))) : R mj_OM (d + 1) mX11_named Q 0 [some (rV 45 0), some (iV x1)] [] σ := by
  refine r_aload_n dX11_named_0 rfl rfl ?_
  refine r_iconst (v := (0 : Int32)) dX11_named_1 rfl ?_
  refine r_putI (k := 45) (i := 0) (j := 0) (ty0 := tyX11) rfl rfl ho45 rfl hX11 (by decide) rfl fX11_151 dX11_named_2 rfl tyX11_ok nmX11 rfl rfl rfl ?_
  refine r_aload_n dX11_named_5 rfl rfl ?_
  refine r_get (k := 45) (i := 0) (j := 4) (v := rV 48 0) rfl rfl ho45 rfl hX11 (by decide) rfl fX11_16 dX11_named_6 (fun _ => rfl) ?_
  refine r_iconst (v := (0 : Int32)) dX11_named_9 rfl ?_
  refine r_aload_n dX11_named_10 rfl rfl ?_
  refine r_get (k := 45) (i := 0) (j := 3) (v := rV 47 0) rfl rfl ho45 rfl hX11 (by decide) rfl fX11_13 dX11_named_11 (fun _ => rfl) ?_
  refine r_iconst (v := (0 : Int32)) dX11_named_14 rfl ?_
  obtain ⟨q1, H⟩ := H
  refine r_iald (k := 47) (i := 0) rfl ho47 q1 dX11_named_15 ?_
  refine r_iload_n dX11_named_16 rfl rfl ?_
  refine r_callS (z := 1) (As := [rV 48 0, iV (0 : Int32), iV (σ.1 47 0 0), iV x1]) (st := []) kX11_found s_X11_found lX11_217 dX11_named_17 rfl rfl rfl rfl (Nat.le_of_ble_eq_true rfl) ?_
  exact H
set_option maxRecDepth 100000 in
theorem bX11_named_20 {d : Nat} {Q : Option MV → MS → Prop} {x1 : Int32} {s0 : Int32} {σ : MS}  (H : Q (some (iV s0)) σ) : R mj_OM d mX11_named Q 20 [some (rV 45 0), some (iV x1)] [iV s0] σ := by
  exact r_iret dX11_named_20 rfl H
set_option maxRecDepth 100000 in
theorem bX11_is_0 {d : Nat} {Q : Option MV → MS → Prop} {x0 : Int32} {σ : MS}  (H : ((x0 = 0 → Q (some (lV (0 : Int64))) σ) ∧ (¬ x0 = 0 → Q (some (lV (1 : Int64))) σ))) : R mj_OM d mX11_is Q 0 [some (iV x0)] [] σ := by
  refine r_iload_n dX11_is_0 rfl rfl ?_
  refine r_if_eq (tgt := 8) dX11_is_1 (by decide) (fun c => ?_) (fun c => ?_)
  · have H := H.1 c
    refine r_lconst (v := (0 : Int64)) dX11_is_8 rfl ?_
    exact r_lret dX11_is_9 rfl H
  · have H := H.2 c
    refine r_lconst (v := (1 : Int64)) dX11_is_4 rfl ?_
    refine r_goto (tgt := 9) dX11_is_5 (by decide) ?_
    exact r_lret dX11_is_9 rfl H
set_option maxRecDepth 100000 in
theorem bX11_works_0 {d : Nat} {Q : Option MV → MS → Prop} {x1 : Int32} {σ : MS}  (H : (vp_in ((σ.1 45 0 39) - (1 : Int32)) 64 ∧ ((¬ x1 = (260 : Int32) → (vp_in ((σ.1 45 0 39) - (2 : Int32)) 64 ∧ ((x1 = 42 → (((lg_cmp (σ.2.1 69 0 ((((σ.1 45 0 39) - (2 : Int32))).toNatClampNeg)) (0 : Int64)) = 0 → R mj_OM (d + 1) mX11_works Q 212 [some (rV 45 0), some (iV x1), some (lV (σ.2.1 69 0 ((((σ.1 45 0 39) - (1 : Int32))).toNatClampNeg))), none, some (lV (σ.2.1 69 0 ((((σ.1 45 0 39) - (2 : Int32))).toNatClampNeg))), none, none, none] [] (uI σ 45 0 39 ((σ.1 45 0 39) - (1 : Int32)))) ∧ (¬ (lg_cmp (σ.2.1 69 0 ((((σ.1 45 0 39) - (2 : Int32))).toNatClampNeg)) (0 : Int64)) = 0 → ((¬ (if 0 < (σ.2.1 69 0 ((((σ.1 45 0 39) - (2 : Int32))).toNatClampNeg)) then (σ.2.1 69 0 ((((σ.1 45 0 39) - (2 : Int32))).toNatClampNeg)) else -(σ.2.1 69 0 ((((σ.1 45 0 39) - (2 : Int32))).toNatClampNeg))) = 0) ∧ (((lg_cmp (if 0 < (σ.2.1 69 0 ((((σ.1 45 0 39) - (1 : Int32))).toNatClampNeg)) then (σ.2.1 69 0 ((((σ.1 45 0 39) - (1 : Int32))).toNatClampNeg)) else -(σ.2.1 69 0 ((((σ.1 45 0 39) - (1 : Int32))).toNatClampNeg))) ((1000000000000 : Int64) / (if 0 < (σ.2.1 69 0 ((((σ.1 45 0 39) - (2 : Int32))).toNatClampNeg)) then (σ.2.1 69 0 ((((σ.1 45 0 39) - (2 : Int32))).toNatClampNeg)) else -(σ.2.1 69 0 ((((σ.1 45 0 39) - (2 : Int32))).toNatClampNeg))))) ≤ 0 → R mj_OM (d + 1) mX11_works Q 212 [some (rV 45 0), some (iV x1), some (lV (σ.2.1 69 0 ((((σ.1 45 0 39) - (1 : Int32))).toNatClampNeg))), none, some (lV (σ.2.1 69 0 ((((σ.1 45 0 39) - (2 : Int32))).toNatClampNeg))), none, none, none] [] (uI σ 45 0 39 ((σ.1 45 0 39) - (1 : Int32)))) ∧ (¬ (lg_cmp (if 0 < (σ.2.1 69 0 ((((σ.1 45 0 39) - (1 : Int32))).toNatClampNeg)) then (σ.2.1 69 0 ((((σ.1 45 0 39) - (1 : Int32))).toNatClampNeg)) else -(σ.2.1 69 0 ((((σ.1 45 0 39) - (1 : Int32))).toNatClampNeg))) ((1000000000000 : Int64) / (if 0 < (σ.2.1 69 0 ((((σ.1 45 0 39) - (2 : Int32))).toNatClampNeg)) then (σ.2.1 69 0 ((((σ.1 45 0 39) - (2 : Int32))).toNatClampNeg)) else -(σ.2.1 69 0 ((((σ.1 45 0 39) - (2 : Int32))).toNatClampNeg))))) ≤ 0 → Q (some (iV (0 : Int32))) (uI σ 45 0 39 ((σ.1 45 0 39) - (1 : Int32))))))))) ∧ (¬ x1 = 42 → ((x1 = 43 → R mj_OM (d + 1) mX11_works Q 407 [some (rV 45 0), some (iV x1), some (lV (σ.2.1 69 0 ((((σ.1 45 0 39) - (1 : Int32))).toNatClampNeg))), none, some (lV (σ.2.1 69 0 ((((σ.1 45 0 39) - (2 : Int32))).toNatClampNeg))), none, some (lV ((σ.2.1 69 0 ((((σ.1 45 0 39) - (2 : Int32))).toNatClampNeg)) + (σ.2.1 69 0 ((((σ.1 45 0 39) - (1 : Int32))).toNatClampNeg)))), none] [] (uI σ 45 0 39 ((σ.1 45 0 39) - (1 : Int32)))) ∧ (¬ x1 = 43 → ((x1 = 45 → R mj_OM (d + 1) mX11_works Q 407 [some (rV 45 0), some (iV x1), some (lV (σ.2.1 69 0 ((((σ.1 45 0 39) - (1 : Int32))).toNatClampNeg))), none, some (lV (σ.2.1 69 0 ((((σ.1 45 0 39) - (2 : Int32))).toNatClampNeg))), none, some (lV ((σ.2.1 69 0 ((((σ.1 45 0 39) - (2 : Int32))).toNatClampNeg)) - (σ.2.1 69 0 ((((σ.1 45 0 39) - (1 : Int32))).toNatClampNeg)))), none] [] (uI σ 45 0 39 ((σ.1 45 0 39) - (1 : Int32)))) ∧ (¬ x1 = 45 → ((x1 = 47 → ((¬ (lg_cmp (σ.2.1 69 0 ((((σ.1 45 0 39) - (1 : Int32))).toNatClampNeg)) (0 : Int64)) = 0 → ((¬ (σ.2.1 69 0 ((((σ.1 45 0 39) - (1 : Int32))).toNatClampNeg)) = 0) ∧ R mj_OM (d + 1) mX11_works Q 407 [some (rV 45 0), some (iV x1), some (lV (σ.2.1 69 0 ((((σ.1 45 0 39) - (1 : Int32))).toNatClampNeg))), none, some (lV (σ.2.1 69 0 ((((σ.1 45 0 39) - (2 : Int32))).toNatClampNeg))), none, some (lV ((σ.2.1 69 0 ((((σ.1 45 0 39) - (2 : Int32))).toNatClampNeg)) / (σ.2.1 69 0 ((((σ.1 45 0 39) - (1 : Int32))).toNatClampNeg)))), none] [] (uI σ 45 0 39 ((σ.1 45 0 39) - (1 : Int32))))) ∧ ((lg_cmp (σ.2.1 69 0 ((((σ.1 45 0 39) - (1 : Int32))).toNatClampNeg)) (0 : Int64)) = 0 → Q (some (iV (0 : Int32))) (uI σ 45 0 39 ((σ.1 45 0 39) - (1 : Int32)))))) ∧ (¬ x1 = 47 → ((x1 = 60 → ((0 ≤ (lg_cmp (σ.2.1 69 0 ((((σ.1 45 0 39) - (2 : Int32))).toNatClampNeg)) (σ.2.1 69 0 ((((σ.1 45 0 39) - (1 : Int32))).toNatClampNeg))) → (R mj_OM d mX11_is (fun r σ' => R mj_OM (d + 1) mX11_works Q 253 [some (rV 45 0), some (iV x1), some (lV (σ.2.1 69 0 ((((σ.1 45 0 39) - (1 : Int32))).toNatClampNeg))), none, some (lV (σ.2.1 69 0 ((((σ.1 45 0 39) - (2 : Int32))).toNatClampNeg))), none, none, none] (r.toList ++ []) σ') 0 [some (iV (0 : Int32))] [] (uI σ 45 0 39 ((σ.1 45 0 39) - (1 : Int32))))) ∧ (¬ 0 ≤ (lg_cmp (σ.2.1 69 0 ((((σ.1 45 0 39) - (2 : Int32))).toNatClampNeg)) (σ.2.1 69 0 ((((σ.1 45 0 39) - (1 : Int32))).toNatClampNeg))) → (R mj_OM d mX11_is (fun r σ' => R mj_OM (d + 1) mX11_works Q 253 [some (rV 45 0), some (iV x1), some (lV (σ.2.1 69 0 ((((σ.1 45 0 39) - (1 : Int32))).toNatClampNeg))), none, some (lV (σ.2.1 69 0 ((((σ.1 45 0 39) - (2 : Int32))).toNatClampNeg))), none, none, none] (r.toList ++ []) σ') 0 [some (iV (1 : Int32))] [] (uI σ 45 0 39 ((σ.1 45 0 39) - (1 : Int32))))))) ∧ (¬ x1 = 60 → ((x1 = 61 → ((¬ (lg_cmp (σ.2.1 69 0 ((((σ.1 45 0 39) - (2 : Int32))).toNatClampNeg)) (σ.2.1 69 0 ((((σ.1 45 0 39) - (1 : Int32))).toNatClampNeg))) = 0 → (R mj_OM d mX11_is (fun r σ' => R mj_OM (d + 1) mX11_works Q 293 [some (rV 45 0), some (iV x1), some (lV (σ.2.1 69 0 ((((σ.1 45 0 39) - (1 : Int32))).toNatClampNeg))), none, some (lV (σ.2.1 69 0 ((((σ.1 45 0 39) - (2 : Int32))).toNatClampNeg))), none, none, none] (r.toList ++ []) σ') 0 [some (iV (0 : Int32))] [] (uI σ 45 0 39 ((σ.1 45 0 39) - (1 : Int32))))) ∧ ((lg_cmp (σ.2.1 69 0 ((((σ.1 45 0 39) - (2 : Int32))).toNatClampNeg)) (σ.2.1 69 0 ((((σ.1 45 0 39) - (1 : Int32))).toNatClampNeg))) = 0 → (R mj_OM d mX11_is (fun r σ' => R mj_OM (d + 1) mX11_works Q 293 [some (rV 45 0), some (iV x1), some (lV (σ.2.1 69 0 ((((σ.1 45 0 39) - (1 : Int32))).toNatClampNeg))), none, some (lV (σ.2.1 69 0 ((((σ.1 45 0 39) - (2 : Int32))).toNatClampNeg))), none, none, none] (r.toList ++ []) σ') 0 [some (iV (1 : Int32))] [] (uI σ 45 0 39 ((σ.1 45 0 39) - (1 : Int32))))))) ∧ (¬ x1 = 61 → ((x1 = 62 → (((lg_cmp (σ.2.1 69 0 ((((σ.1 45 0 39) - (2 : Int32))).toNatClampNeg)) (σ.2.1 69 0 ((((σ.1 45 0 39) - (1 : Int32))).toNatClampNeg))) ≤ 0 → (R mj_OM d mX11_is (fun r σ' => R mj_OM (d + 1) mX11_works Q 273 [some (rV 45 0), some (iV x1), some (lV (σ.2.1 69 0 ((((σ.1 45 0 39) - (1 : Int32))).toNatClampNeg))), none, some (lV (σ.2.1 69 0 ((((σ.1 45 0 39) - (2 : Int32))).toNatClampNeg))), none, none, none] (r.toList ++ []) σ') 0 [some (iV (0 : Int32))] [] (uI σ 45 0 39 ((σ.1 45 0 39) - (1 : Int32))))) ∧ (¬ (lg_cmp (σ.2.1 69 0 ((((σ.1 45 0 39) - (2 : Int32))).toNatClampNeg)) (σ.2.1 69 0 ((((σ.1 45 0 39) - (1 : Int32))).toNatClampNeg))) ≤ 0 → (R mj_OM d mX11_is (fun r σ' => R mj_OM (d + 1) mX11_works Q 273 [some (rV 45 0), some (iV x1), some (lV (σ.2.1 69 0 ((((σ.1 45 0 39) - (1 : Int32))).toNatClampNeg))), none, some (lV (σ.2.1 69 0 ((((σ.1 45 0 39) - (2 : Int32))).toNatClampNeg))), none, none, none] (r.toList ++ []) σ') 0 [some (iV (1 : Int32))] [] (uI σ 45 0 39 ((σ.1 45 0 39) - (1 : Int32))))))) ∧ (¬ x1 = 62 → ((x1 = 256 → ((0 < (lg_cmp (σ.2.1 69 0 ((((σ.1 45 0 39) - (2 : Int32))).toNatClampNeg)) (σ.2.1 69 0 ((((σ.1 45 0 39) - (1 : Int32))).toNatClampNeg))) → (R mj_OM d mX11_is (fun r σ' => R mj_OM (d + 1) mX11_works Q 313 [some (rV 45 0), some (iV x1), some (lV (σ.2.1 69 0 ((((σ.1 45 0 39) - (1 : Int32))).toNatClampNeg))), none, some (lV (σ.2.1 69 0 ((((σ.1 45 0 39) - (2 : Int32))).toNatClampNeg))), none, none, none] (r.toList ++ []) σ') 0 [some (iV (0 : Int32))] [] (uI σ 45 0 39 ((σ.1 45 0 39) - (1 : Int32))))) ∧ (¬ 0 < (lg_cmp (σ.2.1 69 0 ((((σ.1 45 0 39) - (2 : Int32))).toNatClampNeg)) (σ.2.1 69 0 ((((σ.1 45 0 39) - (1 : Int32))).toNatClampNeg))) → (R mj_OM d mX11_is (fun r σ' => R mj_OM (d + 1) mX11_works Q 313 [some (rV 45 0), some (iV x1), some (lV (σ.2.1 69 0 ((((σ.1 45 0 39) - (1 : Int32))).toNatClampNeg))), none, some (lV (σ.2.1 69 0 ((((σ.1 45 0 39) - (2 : Int32))).toNatClampNeg))), none, none, none] (r.toList ++ []) σ') 0 [some (iV (1 : Int32))] [] (uI σ 45 0 39 ((σ.1 45 0 39) - (1 : Int32))))))) ∧ (¬ x1 = 256 → ((x1 = 257 → (((lg_cmp (σ.2.1 69 0 ((((σ.1 45 0 39) - (2 : Int32))).toNatClampNeg)) (σ.2.1 69 0 ((((σ.1 45 0 39) - (1 : Int32))).toNatClampNeg))) = 0 → (R mj_OM d mX11_is (fun r σ' => R mj_OM (d + 1) mX11_works Q 353 [some (rV 45 0), some (iV x1), some (lV (σ.2.1 69 0 ((((σ.1 45 0 39) - (1 : Int32))).toNatClampNeg))), none, some (lV (σ.2.1 69 0 ((((σ.1 45 0 39) - (2 : Int32))).toNatClampNeg))), none, none, none] (r.toList ++ []) σ') 0 [some (iV (0 : Int32))] [] (uI σ 45 0 39 ((σ.1 45 0 39) - (1 : Int32))))) ∧ (¬ (lg_cmp (σ.2.1 69 0 ((((σ.1 45 0 39) - (2 : Int32))).toNatClampNeg)) (σ.2.1 69 0 ((((σ.1 45 0 39) - (1 : Int32))).toNatClampNeg))) = 0 → (R mj_OM d mX11_is (fun r σ' => R mj_OM (d + 1) mX11_works Q 353 [some (rV 45 0), some (iV x1), some (lV (σ.2.1 69 0 ((((σ.1 45 0 39) - (1 : Int32))).toNatClampNeg))), none, some (lV (σ.2.1 69 0 ((((σ.1 45 0 39) - (2 : Int32))).toNatClampNeg))), none, none, none] (r.toList ++ []) σ') 0 [some (iV (1 : Int32))] [] (uI σ 45 0 39 ((σ.1 45 0 39) - (1 : Int32))))))) ∧ (¬ x1 = 257 → ((x1 = 258 → (((lg_cmp (σ.2.1 69 0 ((((σ.1 45 0 39) - (2 : Int32))).toNatClampNeg)) (σ.2.1 69 0 ((((σ.1 45 0 39) - (1 : Int32))).toNatClampNeg))) < 0 → (R mj_OM d mX11_is (fun r σ' => R mj_OM (d + 1) mX11_works Q 333 [some (rV 45 0), some (iV x1), some (lV (σ.2.1 69 0 ((((σ.1 45 0 39) - (1 : Int32))).toNatClampNeg))), none, some (lV (σ.2.1 69 0 ((((σ.1 45 0 39) - (2 : Int32))).toNatClampNeg))), none, none, none] (r.toList ++ []) σ') 0 [some (iV (0 : Int32))] [] (uI σ 45 0 39 ((σ.1 45 0 39) - (1 : Int32))))) ∧ (¬ (lg_cmp (σ.2.1 69 0 ((((σ.1 45 0 39) - (2 : Int32))).toNatClampNeg)) (σ.2.1 69 0 ((((σ.1 45 0 39) - (1 : Int32))).toNatClampNeg))) < 0 → (R mj_OM d mX11_is (fun r σ' => R mj_OM (d + 1) mX11_works Q 333 [some (rV 45 0), some (iV x1), some (lV (σ.2.1 69 0 ((((σ.1 45 0 39) - (1 : Int32))).toNatClampNeg))), none, some (lV (σ.2.1 69 0 ((((σ.1 45 0 39) - (2 : Int32))).toNatClampNeg))), none, none, none] (r.toList ++ []) σ') 0 [some (iV (1 : Int32))] [] (uI σ 45 0 39 ((σ.1 45 0 39) - (1 : Int32))))))) ∧ (¬ x1 = 258 → ((x1 = 261 → (((lg_cmp (σ.2.1 69 0 ((((σ.1 45 0 39) - (2 : Int32))).toNatClampNeg)) (0 : Int64)) = 0 → R mj_OM (d + 1) mX11_works Q 375 [some (rV 45 0), some (iV x1), some (lV (σ.2.1 69 0 ((((σ.1 45 0 39) - (1 : Int32))).toNatClampNeg))), none, some (lV (σ.2.1 69 0 ((((σ.1 45 0 39) - (2 : Int32))).toNatClampNeg))), none, none, none] [] (uI σ 45 0 39 ((σ.1 45 0 39) - (1 : Int32)))) ∧ (¬ (lg_cmp (σ.2.1 69 0 ((((σ.1 45 0 39) - (2 : Int32))).toNatClampNeg)) (0 : Int64)) = 0 → (((lg_cmp (σ.2.1 69 0 ((((σ.1 45 0 39) - (1 : Int32))).toNatClampNeg)) (0 : Int64)) = 0 → R mj_OM (d + 1) mX11_works Q 375 [some (rV 45 0), some (iV x1), some (lV (σ.2.1 69 0 ((((σ.1 45 0 39) - (1 : Int32))).toNatClampNeg))), none, some (lV (σ.2.1 69 0 ((((σ.1 45 0 39) - (2 : Int32))).toNatClampNeg))), none, none, none] [] (uI σ 45 0 39 ((σ.1 45 0 39) - (1 : Int32)))) ∧ (¬ (lg_cmp (σ.2.1 69 0 ((((σ.1 45 0 39) - (1 : Int32))).toNatClampNeg)) (0 : Int64)) = 0 → (R mj_OM d mX11_is (fun r σ' => R mj_OM (d + 1) mX11_works Q 379 [some (rV 45 0), some (iV x1), some (lV (σ.2.1 69 0 ((((σ.1 45 0 39) - (1 : Int32))).toNatClampNeg))), none, some (lV (σ.2.1 69 0 ((((σ.1 45 0 39) - (2 : Int32))).toNatClampNeg))), none, none, none] (r.toList ++ []) σ') 0 [some (iV (1 : Int32))] [] (uI σ 45 0 39 ((σ.1 45 0 39) - (1 : Int32))))))))) ∧ (¬ x1 = 261 → ((¬ (lg_cmp (σ.2.1 69 0 ((((σ.1 45 0 39) - (2 : Int32))).toNatClampNeg)) (0 : Int64)) = 0 → R mj_OM (d + 1) mX11_works Q 397 [some (rV 45 0), some (iV x1), some (lV (σ.2.1 69 0 ((((σ.1 45 0 39) - (1 : Int32))).toNatClampNeg))), none, some (lV (σ.2.1 69 0 ((((σ.1 45 0 39) - (2 : Int32))).toNatClampNeg))), none, none, none] [] (uI σ 45 0 39 ((σ.1 45 0 39) - (1 : Int32)))) ∧ ((lg_cmp (σ.2.1 69 0 ((((σ.1 45 0 39) - (2 : Int32))).toNatClampNeg)) (0 : Int64)) = 0 → (((lg_cmp (σ.2.1 69 0 ((((σ.1 45 0 39) - (1 : Int32))).toNatClampNeg)) (0 : Int64)) = 0 → (R mj_OM d mX11_is (fun r σ' => R mj_OM (d + 1) mX11_works Q 405 [some (rV 45 0), some (iV x1), some (lV (σ.2.1 69 0 ((((σ.1 45 0 39) - (1 : Int32))).toNatClampNeg))), none, some (lV (σ.2.1 69 0 ((((σ.1 45 0 39) - (2 : Int32))).toNatClampNeg))), none, none, none] (r.toList ++ []) σ') 0 [some (iV (0 : Int32))] [] (uI σ 45 0 39 ((σ.1 45 0 39) - (1 : Int32))))) ∧ (¬ (lg_cmp (σ.2.1 69 0 ((((σ.1 45 0 39) - (1 : Int32))).toNatClampNeg)) (0 : Int64)) = 0 → R mj_OM (d + 1) mX11_works Q 397 [some (rV 45 0), some (iV x1), some (lV (σ.2.1 69 0 ((((σ.1 45 0 39) - (1 : Int32))).toNatClampNeg))), none, some (lV (σ.2.1 69 0 ((((σ.1 45 0 39) - (2 : Int32))).toNatClampNeg))), none, none, none] [] (uI σ 45 0 39 ((σ.1 45 0 39) - (1 : Int32))))))))))))))))))))))))))))))) ∧ (x1 = (260 : Int32) → ((¬ (lg_cmp (σ.2.1 69 0 ((((σ.1 45 0 39) - (1 : Int32))).toNatClampNeg)) (0 : Int64)) = 0 → (R mj_OM d mX11_is (fun r σ' => R mj_OM (d + 1) mX11_works Q 43 [some (rV 45 0), some (iV x1), some (lV (σ.2.1 69 0 ((((σ.1 45 0 39) - (1 : Int32))).toNatClampNeg))), none, none, none, none, none] (r.toList ++ [iV ((σ.1 45 0 39) - (1 : Int32)), rV 69 0]) σ') 0 [some (iV (0 : Int32))] [] σ)) ∧ ((lg_cmp (σ.2.1 69 0 ((((σ.1 45 0 39) - (1 : Int32))).toNatClampNeg)) (0 : Int64)) = 0 → (R mj_OM d mX11_is (fun r σ' => R mj_OM (d + 1) mX11_works Q 43 [some (rV 45 0), some (iV x1), some (lV (σ.2.1 69 0 ((((σ.1 45 0 39) - (1 : Int32))).toNatClampNeg))), none, none, none, none, none] (r.toList ++ [iV ((σ.1 45 0 39) - (1 : Int32)), rV 69 0]) σ') 0 [some (iV (1 : Int32))] [] σ))))))) : R mj_OM (d + 1) mX11_works Q 0 [some (rV 45 0), some (iV x1), none, none, none, none, none, none] [] σ := by
  refine r_aload_n dX11_works_0 rfl rfl ?_
  refine r_get (k := 45) (i := 0) (j := 38) (v := rV 69 0) rfl rfl ho45 rfl hX11 (by decide) rfl fX11_84 dX11_works_1 (fun _ => rfl) ?_
  refine r_aload_n dX11_works_4 rfl rfl ?_
  refine r_get (k := 45) (i := 0) (j := 39) (v := iV (σ.1 45 0 39)) rfl rfl ho45 rfl hX11 (by decide) rfl fX11_323 dX11_works_5 (fun _ => rfl) ?_
  refine r_iconst (v := (1 : Int32)) dX11_works_8 rfl ?_
  refine r_isub dX11_works_9 ?_
  obtain ⟨q1, H⟩ := H
  refine r_lald (k := 69) (i := 0) rfl ho69 q1 dX11_works_10 ?_
  refine r_lstore_n dX11_works_11 rfl (by decide) rfl ?_
  refine r_iload_n dX11_works_12 rfl rfl ?_
  refine r_sipush (v := (260 : Int32)) dX11_works_13 rfl ?_
  refine r_icmp_ne (tgt := 46) dX11_works_16 (by decide) (fun c => ?_) (fun c => ?_)
  · have H := H.1 c
    refine r_aload_n dX11_works_46 rfl rfl ?_
    refine r_get (k := 45) (i := 0) (j := 38) (v := rV 69 0) rfl rfl ho45 rfl hX11 (by decide) rfl fX11_84 dX11_works_47 (fun _ => rfl) ?_
    refine r_aload_n dX11_works_50 rfl rfl ?_
    refine r_get (k := 45) (i := 0) (j := 39) (v := iV (σ.1 45 0 39)) rfl rfl ho45 rfl hX11 (by decide) rfl fX11_323 dX11_works_51 (fun _ => rfl) ?_
    refine r_iconst (v := (2 : Int32)) dX11_works_54 rfl ?_
    refine r_isub dX11_works_55 ?_
    obtain ⟨q2, H⟩ := H
    refine r_lald (k := 69) (i := 0) rfl ho69 q2 dX11_works_56 ?_
    refine r_lstore dX11_works_57 (by decide) rfl ?_
    refine r_aload_n dX11_works_59 rfl rfl ?_
    refine r_dup_r dX11_works_60 ?_
    refine r_get (k := 45) (i := 0) (j := 39) (v := iV (σ.1 45 0 39)) rfl rfl ho45 rfl hX11 (by decide) rfl fX11_323 dX11_works_61 (fun _ => rfl) ?_
    refine r_iconst (v := (1 : Int32)) dX11_works_64 rfl ?_
    refine r_isub dX11_works_65 ?_
    refine r_putI (k := 45) (i := 0) (j := 39) (ty0 := tyX11) rfl rfl ho45 rfl hX11 (by decide) rfl fX11_323 dX11_works_66 rfl tyX11_ok nmX11 rfl rfl rfl ?_
    refine r_iload_n dX11_works_69 rfl rfl ?_
    by_cases c42 : x1 = 42
    · have H := H.1 c42
      refine r_lookup (tgt := 186) (off := 116) dX11_works_70 (by decide) (by rw [c42]; rfl) (by decide) ?_
      refine r_lload dX11_works_186 rfl ?_
      refine r_lconst (v := (0 : Int64)) dX11_works_188 rfl ?_
      refine r_lcmp dX11_works_189 ?_
      refine r_if_eq (tgt := 212) dX11_works_190 (by decide) (fun c => ?_) (fun c => ?_)
      · have H := H.1 c
        exact H
      · have H := H.2 c
        refine r_lload_n dX11_works_193 rfl rfl ?_
        refine r_mabsl lX11_330 dX11_works_194 (Nat.le_of_ble_eq_true rfl) ?_
        refine r_ldc2 (v := (1000000000000 : Int64)) olX11_336 dX11_works_197 ?_
        refine r_lload dX11_works_200 rfl ?_
        refine r_mabsl lX11_330 dX11_works_202 (Nat.le_of_ble_eq_true rfl) ?_
        obtain ⟨q3, H⟩ := H
        refine r_ldiv dX11_works_205 q3 ?_
        refine r_lcmp dX11_works_206 ?_
        refine r_if_le (tgt := 212) dX11_works_207 (by decide) (fun c => ?_) (fun c => ?_)
        · have H := H.1 c
          exact H
        · have H := H.2 c
          refine r_iconst (v := (0 : Int32)) dX11_works_210 rfl ?_
          exact r_zret dX11_works_211 rfl (by decide) H
    replace H := H.2 c42
    by_cases c43 : x1 = 43
    · have H := H.1 c43
      refine r_lookup (tgt := 168) (off := 98) dX11_works_70 (by decide) (by rw [c43]; rfl) (by decide) ?_
      refine r_lload dX11_works_168 rfl ?_
      refine r_lload_n dX11_works_170 rfl rfl ?_
      refine r_ladd dX11_works_171 ?_
      refine r_lstore dX11_works_172 (by decide) rfl ?_
      refine r_goto (tgt := 407) dX11_works_174 (by decide) ?_
      exact H
    replace H := H.2 c43
    by_cases c45 : x1 = 45
    · have H := H.1 c45
      refine r_lookup (tgt := 177) (off := 107) dX11_works_70 (by decide) (by rw [c45]; rfl) (by decide) ?_
      refine r_lload dX11_works_177 rfl ?_
      refine r_lload_n dX11_works_179 rfl rfl ?_
      refine r_lsub dX11_works_180 ?_
      refine r_lstore dX11_works_181 (by decide) rfl ?_
      refine r_goto (tgt := 407) dX11_works_183 (by decide) ?_
      exact H
    replace H := H.2 c45
    by_cases c47 : x1 = 47
    · have H := H.1 c47
      refine r_lookup (tgt := 221) (off := 151) dX11_works_70 (by decide) (by rw [c47]; rfl) (by decide) ?_
      refine r_lload_n dX11_works_221 rfl rfl ?_
      refine r_lconst (v := (0 : Int64)) dX11_works_222 rfl ?_
      refine r_lcmp dX11_works_223 ?_
      refine r_if_ne (tgt := 229) dX11_works_224 (by decide) (fun c => ?_) (fun c => ?_)
      · have H := H.1 c
        refine r_lload dX11_works_229 rfl ?_
        refine r_lload_n dX11_works_231 rfl rfl ?_
        obtain ⟨q4, H⟩ := H
        refine r_ldiv dX11_works_232 q4 ?_
        refine r_lstore dX11_works_233 (by decide) rfl ?_
        refine r_goto (tgt := 407) dX11_works_235 (by decide) ?_
        exact H
      · have H := H.2 c
        refine r_iconst (v := (0 : Int32)) dX11_works_227 rfl ?_
        exact r_zret dX11_works_228 rfl (by decide) H
    replace H := H.2 c47
    by_cases c60 : x1 = 60
    · have H := H.1 c60
      refine r_lookup (tgt := 238) (off := 168) dX11_works_70 (by decide) (by rw [c60]; rfl) (by decide) ?_
      refine r_lload dX11_works_238 rfl ?_
      refine r_lload_n dX11_works_240 rfl rfl ?_
      refine r_lcmp dX11_works_241 ?_
      refine r_if_ge (tgt := 249) dX11_works_242 (by decide) (fun c => ?_) (fun c => ?_)
      · have H := H.1 c
        refine r_iconst (v := (0 : Int32)) dX11_works_249 rfl ?_
        refine r_callS (z := 0) (As := [iV (0 : Int32)]) (st := []) kX11_is s_X11_is lX11_326 dX11_works_250 rfl rfl rfl rfl (Nat.le_of_ble_eq_true rfl) ?_
        exact H
      · have H := H.2 c
        refine r_iconst (v := (1 : Int32)) dX11_works_245 rfl ?_
        refine r_goto (tgt := 250) dX11_works_246 (by decide) ?_
        refine r_callS (z := 0) (As := [iV (1 : Int32)]) (st := []) kX11_is s_X11_is lX11_326 dX11_works_250 rfl rfl rfl rfl (Nat.le_of_ble_eq_true rfl) ?_
        exact H
    replace H := H.2 c60
    by_cases c61 : x1 = 61
    · have H := H.1 c61
      refine r_lookup (tgt := 278) (off := 208) dX11_works_70 (by decide) (by rw [c61]; rfl) (by decide) ?_
      refine r_lload dX11_works_278 rfl ?_
      refine r_lload_n dX11_works_280 rfl rfl ?_
      refine r_lcmp dX11_works_281 ?_
      refine r_if_ne (tgt := 289) dX11_works_282 (by decide) (fun c => ?_) (fun c => ?_)
      · have H := H.1 c
        refine r_iconst (v := (0 : Int32)) dX11_works_289 rfl ?_
        refine r_callS (z := 0) (As := [iV (0 : Int32)]) (st := []) kX11_is s_X11_is lX11_326 dX11_works_290 rfl rfl rfl rfl (Nat.le_of_ble_eq_true rfl) ?_
        exact H
      · have H := H.2 c
        refine r_iconst (v := (1 : Int32)) dX11_works_285 rfl ?_
        refine r_goto (tgt := 290) dX11_works_286 (by decide) ?_
        refine r_callS (z := 0) (As := [iV (1 : Int32)]) (st := []) kX11_is s_X11_is lX11_326 dX11_works_290 rfl rfl rfl rfl (Nat.le_of_ble_eq_true rfl) ?_
        exact H
    replace H := H.2 c61
    by_cases c62 : x1 = 62
    · have H := H.1 c62
      refine r_lookup (tgt := 258) (off := 188) dX11_works_70 (by decide) (by rw [c62]; rfl) (by decide) ?_
      refine r_lload dX11_works_258 rfl ?_
      refine r_lload_n dX11_works_260 rfl rfl ?_
      refine r_lcmp dX11_works_261 ?_
      refine r_if_le (tgt := 269) dX11_works_262 (by decide) (fun c => ?_) (fun c => ?_)
      · have H := H.1 c
        refine r_iconst (v := (0 : Int32)) dX11_works_269 rfl ?_
        refine r_callS (z := 0) (As := [iV (0 : Int32)]) (st := []) kX11_is s_X11_is lX11_326 dX11_works_270 rfl rfl rfl rfl (Nat.le_of_ble_eq_true rfl) ?_
        exact H
      · have H := H.2 c
        refine r_iconst (v := (1 : Int32)) dX11_works_265 rfl ?_
        refine r_goto (tgt := 270) dX11_works_266 (by decide) ?_
        refine r_callS (z := 0) (As := [iV (1 : Int32)]) (st := []) kX11_is s_X11_is lX11_326 dX11_works_270 rfl rfl rfl rfl (Nat.le_of_ble_eq_true rfl) ?_
        exact H
    replace H := H.2 c62
    by_cases c256 : x1 = 256
    · have H := H.1 c256
      refine r_lookup (tgt := 298) (off := 228) dX11_works_70 (by decide) (by rw [c256]; rfl) (by decide) ?_
      refine r_lload dX11_works_298 rfl ?_
      refine r_lload_n dX11_works_300 rfl rfl ?_
      refine r_lcmp dX11_works_301 ?_
      refine r_if_gt (tgt := 309) dX11_works_302 (by decide) (fun c => ?_) (fun c => ?_)
      · have H := H.1 c
        refine r_iconst (v := (0 : Int32)) dX11_works_309 rfl ?_
        refine r_callS (z := 0) (As := [iV (0 : Int32)]) (st := []) kX11_is s_X11_is lX11_326 dX11_works_310 rfl rfl rfl rfl (Nat.le_of_ble_eq_true rfl) ?_
        exact H
      · have H := H.2 c
        refine r_iconst (v := (1 : Int32)) dX11_works_305 rfl ?_
        refine r_goto (tgt := 310) dX11_works_306 (by decide) ?_
        refine r_callS (z := 0) (As := [iV (1 : Int32)]) (st := []) kX11_is s_X11_is lX11_326 dX11_works_310 rfl rfl rfl rfl (Nat.le_of_ble_eq_true rfl) ?_
        exact H
    replace H := H.2 c256
    by_cases c257 : x1 = 257
    · have H := H.1 c257
      refine r_lookup (tgt := 338) (off := 268) dX11_works_70 (by decide) (by rw [c257]; rfl) (by decide) ?_
      refine r_lload dX11_works_338 rfl ?_
      refine r_lload_n dX11_works_340 rfl rfl ?_
      refine r_lcmp dX11_works_341 ?_
      refine r_if_eq (tgt := 349) dX11_works_342 (by decide) (fun c => ?_) (fun c => ?_)
      · have H := H.1 c
        refine r_iconst (v := (0 : Int32)) dX11_works_349 rfl ?_
        refine r_callS (z := 0) (As := [iV (0 : Int32)]) (st := []) kX11_is s_X11_is lX11_326 dX11_works_350 rfl rfl rfl rfl (Nat.le_of_ble_eq_true rfl) ?_
        exact H
      · have H := H.2 c
        refine r_iconst (v := (1 : Int32)) dX11_works_345 rfl ?_
        refine r_goto (tgt := 350) dX11_works_346 (by decide) ?_
        refine r_callS (z := 0) (As := [iV (1 : Int32)]) (st := []) kX11_is s_X11_is lX11_326 dX11_works_350 rfl rfl rfl rfl (Nat.le_of_ble_eq_true rfl) ?_
        exact H
    replace H := H.2 c257
    by_cases c258 : x1 = 258
    · have H := H.1 c258
      refine r_lookup (tgt := 318) (off := 248) dX11_works_70 (by decide) (by rw [c258]; rfl) (by decide) ?_
      refine r_lload dX11_works_318 rfl ?_
      refine r_lload_n dX11_works_320 rfl rfl ?_
      refine r_lcmp dX11_works_321 ?_
      refine r_if_lt (tgt := 329) dX11_works_322 (by decide) (fun c => ?_) (fun c => ?_)
      · have H := H.1 c
        refine r_iconst (v := (0 : Int32)) dX11_works_329 rfl ?_
        refine r_callS (z := 0) (As := [iV (0 : Int32)]) (st := []) kX11_is s_X11_is lX11_326 dX11_works_330 rfl rfl rfl rfl (Nat.le_of_ble_eq_true rfl) ?_
        exact H
      · have H := H.2 c
        refine r_iconst (v := (1 : Int32)) dX11_works_325 rfl ?_
        refine r_goto (tgt := 330) dX11_works_326 (by decide) ?_
        refine r_callS (z := 0) (As := [iV (1 : Int32)]) (st := []) kX11_is s_X11_is lX11_326 dX11_works_330 rfl rfl rfl rfl (Nat.le_of_ble_eq_true rfl) ?_
        exact H
    replace H := H.2 c258
    by_cases c261 : x1 = 261
    · have H := H.1 c261
      refine r_lookup (tgt := 358) (off := 288) dX11_works_70 (by decide) (by rw [c261]; rfl) (by decide) ?_
      refine r_lload dX11_works_358 rfl ?_
      refine r_lconst (v := (0 : Int64)) dX11_works_360 rfl ?_
      refine r_lcmp dX11_works_361 ?_
      refine r_if_eq (tgt := 375) dX11_works_362 (by decide) (fun c => ?_) (fun c => ?_)
      · have H := H.1 c
        exact H
      · have H := H.2 c
        refine r_lload_n dX11_works_365 rfl rfl ?_
        refine r_lconst (v := (0 : Int64)) dX11_works_366 rfl ?_
        refine r_lcmp dX11_works_367 ?_
        refine r_if_eq (tgt := 375) dX11_works_368 (by decide) (fun c => ?_) (fun c => ?_)
        · have H := H.1 c
          exact H
        · have H := H.2 c
          refine r_iconst (v := (1 : Int32)) dX11_works_371 rfl ?_
          refine r_goto (tgt := 376) dX11_works_372 (by decide) ?_
          refine r_callS (z := 0) (As := [iV (1 : Int32)]) (st := []) kX11_is s_X11_is lX11_326 dX11_works_376 rfl rfl rfl rfl (Nat.le_of_ble_eq_true rfl) ?_
          exact H
    replace H := H.2 c261
    refine r_lookup (tgt := 384) (off := 314) dX11_works_70 (by decide) ((lv_osw c42 (by decide)).trans ((lv_osw c43 (by decide)).trans ((lv_osw c45 (by decide)).trans ((lv_osw c47 (by decide)).trans ((lv_osw c60 (by decide)).trans ((lv_osw c61 (by decide)).trans ((lv_osw c62 (by decide)).trans ((lv_osw c256 (by decide)).trans ((lv_osw c257 (by decide)).trans ((lv_osw c258 (by decide)).trans ((lv_osw c261 (by decide)).trans rfl))))))))))) (by decide) ?_
    refine r_lload dX11_works_384 rfl ?_
    refine r_lconst (v := (0 : Int64)) dX11_works_386 rfl ?_
    refine r_lcmp dX11_works_387 ?_
    refine r_if_ne (tgt := 397) dX11_works_388 (by decide) (fun c => ?_) (fun c => ?_)
    · have H := H.1 c
      exact H
    · have H := H.2 c
      refine r_lload_n dX11_works_391 rfl rfl ?_
      refine r_lconst (v := (0 : Int64)) dX11_works_392 rfl ?_
      refine r_lcmp dX11_works_393 ?_
      refine r_if_eq (tgt := 401) dX11_works_394 (by decide) (fun c => ?_) (fun c => ?_)
      · have H := H.1 c
        refine r_iconst (v := (0 : Int32)) dX11_works_401 rfl ?_
        refine r_callS (z := 0) (As := [iV (0 : Int32)]) (st := []) kX11_is s_X11_is lX11_326 dX11_works_402 rfl rfl rfl rfl (Nat.le_of_ble_eq_true rfl) ?_
        exact H
      · have H := H.2 c
        exact H
  · have H := H.2 c
    refine r_aload_n dX11_works_19 rfl rfl ?_
    refine r_get (k := 45) (i := 0) (j := 38) (v := rV 69 0) rfl rfl ho45 rfl hX11 (by decide) rfl fX11_84 dX11_works_20 (fun _ => rfl) ?_
    refine r_aload_n dX11_works_23 rfl rfl ?_
    refine r_get (k := 45) (i := 0) (j := 39) (v := iV (σ.1 45 0 39)) rfl rfl ho45 rfl hX11 (by decide) rfl fX11_323 dX11_works_24 (fun _ => rfl) ?_
    refine r_iconst (v := (1 : Int32)) dX11_works_27 rfl ?_
    refine r_isub dX11_works_28 ?_
    refine r_lload_n dX11_works_29 rfl rfl ?_
    refine r_lconst (v := (0 : Int64)) dX11_works_30 rfl ?_
    refine r_lcmp dX11_works_31 ?_
    refine r_if_ne (tgt := 39) dX11_works_32 (by decide) (fun c => ?_) (fun c => ?_)
    · have H := H.1 c
      refine r_iconst (v := (0 : Int32)) dX11_works_39 rfl ?_
      refine r_callS (z := 0) (As := [iV (0 : Int32)]) (st := [iV ((σ.1 45 0 39) - (1 : Int32)), rV 69 0]) kX11_is s_X11_is lX11_326 dX11_works_40 rfl rfl rfl rfl (Nat.le_of_ble_eq_true rfl) ?_
      exact H
    · have H := H.2 c
      refine r_iconst (v := (1 : Int32)) dX11_works_35 rfl ?_
      refine r_goto (tgt := 40) dX11_works_36 (by decide) ?_
      refine r_callS (z := 0) (As := [iV (1 : Int32)]) (st := [iV ((σ.1 45 0 39) - (1 : Int32)), rV 69 0]) kX11_is s_X11_is lX11_326 dX11_works_40 rfl rfl rfl rfl (Nat.le_of_ble_eq_true rfl) ?_
      exact H
set_option maxRecDepth 100000 in
theorem bX11_works_43 {d : Nat} {Q : Option MV → MS → Prop} {x1 : Int32} {x2 : Int64} {s0 : Int64} {s1 : Int32} {σ : MS}  (H : (vp_in s1 64 ∧ Q (some (iV (1 : Int32))) (uL σ 69 0 ((s1).toNatClampNeg) s0))) : R mj_OM d mX11_works Q 43 [some (rV 45 0), some (iV x1), some (lV x2), none, none, none, none, none] [lV s0, iV s1, rV 69 0] σ := by
  obtain ⟨q1, H⟩ := H
  refine r_last (k := 69) (i := 0) rfl ho69 q1 dX11_works_43 ?_
  refine r_iconst (v := (1 : Int32)) dX11_works_44 rfl ?_
  exact r_zret dX11_works_45 rfl (by decide) H
set_option maxRecDepth 100000 in
theorem bX11_works_212 {d : Nat} {Q : Option MV → MS → Prop} {x1 : Int32} {x2 : Int64} {x4 : Int64} {σ : MS}  (H : R mj_OM d mX11_works Q 407 [some (rV 45 0), some (iV x1), some (lV x2), none, some (lV x4), none, some (lV (x4 * x2)), none] [] σ) : R mj_OM d mX11_works Q 212 [some (rV 45 0), some (iV x1), some (lV x2), none, some (lV x4), none, none, none] [] σ := by
  refine r_lload dX11_works_212 rfl ?_
  refine r_lload_n dX11_works_214 rfl rfl ?_
  refine r_lmul dX11_works_215 ?_
  refine r_lstore dX11_works_216 (by decide) rfl ?_
  refine r_goto (tgt := 407) dX11_works_218 (by decide) ?_
  exact H
set_option maxRecDepth 100000 in
theorem bX11_works_253 {d : Nat} {Q : Option MV → MS → Prop} {x1 : Int32} {x2 : Int64} {x4 : Int64} {s0 : Int64} {σ : MS}  (H : R mj_OM d mX11_works Q 407 [some (rV 45 0), some (iV x1), some (lV x2), none, some (lV x4), none, some (lV s0), none] [] σ) : R mj_OM d mX11_works Q 253 [some (rV 45 0), some (iV x1), some (lV x2), none, some (lV x4), none, none, none] [lV s0] σ := by
  refine r_lstore dX11_works_253 (by decide) rfl ?_
  refine r_goto (tgt := 407) dX11_works_255 (by decide) ?_
  exact H
set_option maxRecDepth 100000 in
theorem bX11_works_273 {d : Nat} {Q : Option MV → MS → Prop} {x1 : Int32} {x2 : Int64} {x4 : Int64} {s0 : Int64} {σ : MS}  (H : R mj_OM d mX11_works Q 407 [some (rV 45 0), some (iV x1), some (lV x2), none, some (lV x4), none, some (lV s0), none] [] σ) : R mj_OM d mX11_works Q 273 [some (rV 45 0), some (iV x1), some (lV x2), none, some (lV x4), none, none, none] [lV s0] σ := by
  refine r_lstore dX11_works_273 (by decide) rfl ?_
  refine r_goto (tgt := 407) dX11_works_275 (by decide) ?_
  exact H
set_option maxRecDepth 100000 in
theorem bX11_works_293 {d : Nat} {Q : Option MV → MS → Prop} {x1 : Int32} {x2 : Int64} {x4 : Int64} {s0 : Int64} {σ : MS}  (H : R mj_OM d mX11_works Q 407 [some (rV 45 0), some (iV x1), some (lV x2), none, some (lV x4), none, some (lV s0), none] [] σ) : R mj_OM d mX11_works Q 293 [some (rV 45 0), some (iV x1), some (lV x2), none, some (lV x4), none, none, none] [lV s0] σ := by
  refine r_lstore dX11_works_293 (by decide) rfl ?_
  refine r_goto (tgt := 407) dX11_works_295 (by decide) ?_
  exact H
set_option maxRecDepth 100000 in
theorem bX11_works_313 {d : Nat} {Q : Option MV → MS → Prop} {x1 : Int32} {x2 : Int64} {x4 : Int64} {s0 : Int64} {σ : MS}  (H : R mj_OM d mX11_works Q 407 [some (rV 45 0), some (iV x1), some (lV x2), none, some (lV x4), none, some (lV s0), none] [] σ) : R mj_OM d mX11_works Q 313 [some (rV 45 0), some (iV x1), some (lV x2), none, some (lV x4), none, none, none] [lV s0] σ := by
  refine r_lstore dX11_works_313 (by decide) rfl ?_
  refine r_goto (tgt := 407) dX11_works_315 (by decide) ?_
  exact H
set_option maxRecDepth 100000 in
theorem bX11_works_333 {d : Nat} {Q : Option MV → MS → Prop} {x1 : Int32} {x2 : Int64} {x4 : Int64} {s0 : Int64} {σ : MS}  (H : R mj_OM d mX11_works Q 407 [some (rV 45 0), some (iV x1), some (lV x2), none, some (lV x4), none, some (lV s0), none] [] σ) : R mj_OM d mX11_works Q 333 [some (rV 45 0), some (iV x1), some (lV x2), none, some (lV x4), none, none, none] [lV s0] σ := by
  refine r_lstore dX11_works_333 (by decide) rfl ?_
  refine r_goto (tgt := 407) dX11_works_335 (by decide) ?_
  exact H
set_option maxRecDepth 100000 in
theorem bX11_works_353 {d : Nat} {Q : Option MV → MS → Prop} {x1 : Int32} {x2 : Int64} {x4 : Int64} {s0 : Int64} {σ : MS}  (H : R mj_OM d mX11_works Q 407 [some (rV 45 0), some (iV x1), some (lV x2), none, some (lV x4), none, some (lV s0), none] [] σ) : R mj_OM d mX11_works Q 353 [some (rV 45 0), some (iV x1), some (lV x2), none, some (lV x4), none, none, none] [lV s0] σ := by
  refine r_lstore dX11_works_353 (by decide) rfl ?_
  refine r_goto (tgt := 407) dX11_works_355 (by decide) ?_
  exact H
set_option maxRecDepth 100000 in
theorem bX11_works_375 {d : Nat} {Q : Option MV → MS → Prop} {x1 : Int32} {x2 : Int64} {x4 : Int64} {σ : MS}  (H : (R mj_OM d mX11_is (fun r σ' => R mj_OM (d + 1) mX11_works Q 379 [some (rV 45 0), some (iV x1), some (lV x2), none, some (lV x4), none, none, none] (r.toList ++ []) σ') 0 [some (iV (0 : Int32))] [] σ)) : R mj_OM (d + 1) mX11_works Q 375 [some (rV 45 0), some (iV x1), some (lV x2), none, some (lV x4), none, none, none] [] σ := by
  refine r_iconst (v := (0 : Int32)) dX11_works_375 rfl ?_
  refine r_callS (z := 0) (As := [iV (0 : Int32)]) (st := []) kX11_is s_X11_is lX11_326 dX11_works_376 rfl rfl rfl rfl (Nat.le_of_ble_eq_true rfl) ?_
  exact H
set_option maxRecDepth 100000 in
theorem bX11_works_379 {d : Nat} {Q : Option MV → MS → Prop} {x1 : Int32} {x2 : Int64} {x4 : Int64} {s0 : Int64} {σ : MS}  (H : R mj_OM d mX11_works Q 407 [some (rV 45 0), some (iV x1), some (lV x2), none, some (lV x4), none, some (lV s0), none] [] σ) : R mj_OM d mX11_works Q 379 [some (rV 45 0), some (iV x1), some (lV x2), none, some (lV x4), none, none, none] [lV s0] σ := by
  refine r_lstore dX11_works_379 (by decide) rfl ?_
  refine r_goto (tgt := 407) dX11_works_381 (by decide) ?_
  exact H
set_option maxRecDepth 100000 in
theorem bX11_works_397 {d : Nat} {Q : Option MV → MS → Prop} {x1 : Int32} {x2 : Int64} {x4 : Int64} {σ : MS}  (H : (R mj_OM d mX11_is (fun r σ' => R mj_OM (d + 1) mX11_works Q 405 [some (rV 45 0), some (iV x1), some (lV x2), none, some (lV x4), none, none, none] (r.toList ++ []) σ') 0 [some (iV (1 : Int32))] [] σ)) : R mj_OM (d + 1) mX11_works Q 397 [some (rV 45 0), some (iV x1), some (lV x2), none, some (lV x4), none, none, none] [] σ := by
  refine r_iconst (v := (1 : Int32)) dX11_works_397 rfl ?_
  refine r_goto (tgt := 402) dX11_works_398 (by decide) ?_
  refine r_callS (z := 0) (As := [iV (1 : Int32)]) (st := []) kX11_is s_X11_is lX11_326 dX11_works_402 rfl rfl rfl rfl (Nat.le_of_ble_eq_true rfl) ?_
  exact H
set_option maxRecDepth 100000 in
theorem bX11_works_405 {d : Nat} {Q : Option MV → MS → Prop} {x1 : Int32} {x2 : Int64} {x4 : Int64} {s0 : Int64} {σ : MS}  (H : R mj_OM d mX11_works Q 407 [some (rV 45 0), some (iV x1), some (lV x2), none, some (lV x4), none, some (lV s0), none] [] σ) : R mj_OM d mX11_works Q 405 [some (rV 45 0), some (iV x1), some (lV x2), none, some (lV x4), none, none, none] [lV s0] σ := by
  refine r_lstore dX11_works_405 (by decide) rfl ?_
  exact H
set_option maxRecDepth 100000 in
theorem bX11_works_407 {d : Nat} {Q : Option MV → MS → Prop} {x1 : Int32} {x2 : Int64} {x4 : Int64} {x6 : Int64} {σ : MS}  (H : (vp_in ((σ.1 45 0 39) - (1 : Int32)) 64 ∧ ((0 < (lg_cmp x6 (1000000000000 : Int64)) → R mj_OM d mX11_works Q 442 [some (rV 45 0), some (iV x1), some (lV x2), none, some (lV x4), none, some (lV x6), none] [] (uL σ 69 0 ((((σ.1 45 0 39) - (1 : Int32))).toNatClampNeg) x6)) ∧ (¬ 0 < (lg_cmp x6 (1000000000000 : Int64)) → (((lg_cmp x6 (-1000000000000 : Int64)) < 0 → R mj_OM d mX11_works Q 442 [some (rV 45 0), some (iV x1), some (lV x2), none, some (lV x4), none, some (lV x6), none] [] (uL σ 69 0 ((((σ.1 45 0 39) - (1 : Int32))).toNatClampNeg) x6)) ∧ (¬ (lg_cmp x6 (-1000000000000 : Int64)) < 0 → Q (some (iV (1 : Int32))) (uL σ 69 0 ((((σ.1 45 0 39) - (1 : Int32))).toNatClampNeg) x6))))))) : R mj_OM d mX11_works Q 407 [some (rV 45 0), some (iV x1), some (lV x2), none, some (lV x4), none, some (lV x6), none] [] σ := by
  refine r_aload_n dX11_works_407 rfl rfl ?_
  refine r_get (k := 45) (i := 0) (j := 38) (v := rV 69 0) rfl rfl ho45 rfl hX11 (by decide) rfl fX11_84 dX11_works_408 (fun _ => rfl) ?_
  refine r_aload_n dX11_works_411 rfl rfl ?_
  refine r_get (k := 45) (i := 0) (j := 39) (v := iV (σ.1 45 0 39)) rfl rfl ho45 rfl hX11 (by decide) rfl fX11_323 dX11_works_412 (fun _ => rfl) ?_
  refine r_iconst (v := (1 : Int32)) dX11_works_415 rfl ?_
  refine r_isub dX11_works_416 ?_
  refine r_lload dX11_works_417 rfl ?_
  obtain ⟨q1, H⟩ := H
  refine r_last (k := 69) (i := 0) rfl ho69 q1 dX11_works_419 ?_
  refine r_lload dX11_works_420 rfl ?_
  refine r_ldc2 (v := (1000000000000 : Int64)) olX11_336 dX11_works_422 ?_
  refine r_lcmp dX11_works_425 ?_
  refine r_if_gt (tgt := 442) dX11_works_426 (by decide) (fun c => ?_) (fun c => ?_)
  · have H := H.1 c
    exact H
  · have H := H.2 c
    refine r_lload dX11_works_429 rfl ?_
    refine r_ldc2 (v := (-1000000000000 : Int64)) olX11_338 dX11_works_431 ?_
    refine r_lcmp dX11_works_434 ?_
    refine r_if_lt (tgt := 442) dX11_works_435 (by decide) (fun c => ?_) (fun c => ?_)
    · have H := H.1 c
      exact H
    · have H := H.2 c
      refine r_iconst (v := (1 : Int32)) dX11_works_438 rfl ?_
      refine r_goto (tgt := 443) dX11_works_439 (by decide) ?_
      exact r_zret dX11_works_443 rfl (by decide) H
set_option maxRecDepth 100000 in
theorem bX11_works_442 {d : Nat} {Q : Option MV → MS → Prop} {x1 : Int32} {x2 : Int64} {x4 : Int64} {x6 : Int64} {σ : MS}  (H : Q (some (iV (0 : Int32))) σ) : R mj_OM d mX11_works Q 442 [some (rV 45 0), some (iV x1), some (lV x2), none, some (lV x4), none, some (lV x6), none] [] σ := by
  refine r_iconst (v := (0 : Int32)) dX11_works_442 rfl ?_
  exact r_zret dX11_works_443 rfl (by decide) H
set_option maxRecDepth 100000 in
theorem bX11_goes_0 {d : Nat} {Q : Option MV → MS → Prop} {x1 : Int32} {σ : MS}  (H : (vp_in x1 6 ∧ R mj_OM d mX11_goes Q 12 [some (rV 45 0), some (iV x1), some (iV (σ.1 64 0 ((x1).toNatClampNeg)))] [] (uI σ 45 0 39 (0 : Int32)))) : R mj_OM d mX11_goes Q 0 [some (rV 45 0), some (iV x1), none] [] σ := by
  refine r_aload_n dX11_goes_0 rfl rfl ?_
  refine r_iconst (v := (0 : Int32)) dX11_goes_1 rfl ?_
  refine r_putI (k := 45) (i := 0) (j := 39) (ty0 := tyX11) rfl rfl ho45 rfl hX11 (by decide) rfl fX11_323 dX11_goes_2 rfl tyX11_ok nmX11 rfl rfl rfl ?_
  refine r_aload_n dX11_goes_5 rfl rfl ?_
  refine r_get (k := 45) (i := 0) (j := 20) (v := rV 64 0) rfl rfl ho45 rfl hX11 (by decide) rfl fX11_64 dX11_goes_6 (fun _ => rfl) ?_
  refine r_iload_n dX11_goes_9 rfl rfl ?_
  obtain ⟨q1, H⟩ := H
  refine r_iald (k := 64) (i := 0) rfl ho64 q1 dX11_goes_10 ?_
  refine r_istore_n dX11_goes_11 rfl (by decide) rfl ?_
  exact H
set_option maxRecDepth 100000 in
theorem bX11_goes_12 {d : Nat} {Q : Option MV → MS → Prop} {x1 : Int32} {x2 : Int32} {σ : MS}  (H : (vp_in x1 6 ∧ (((σ.1 65 0 ((x1).toNatClampNeg)) ≤ x2 → Q (some (iV (1 : Int32))) σ) ∧ (¬ (σ.1 65 0 ((x1).toNatClampNeg)) ≤ x2 → (vp_in x2 128 ∧ ((¬ (σ.1 66 0 ((x2).toNatClampNeg)) = (2 : Int32) → ((¬ (σ.1 66 0 ((x2).toNatClampNeg)) = 0 → (vp_in (σ.1 67 0 ((x2).toNatClampNeg)) 7 ∧ vp_in (σ.1 45 0 39) 64 ∧ R mj_OM (d + 1) mX11_goes Q 12 [some (rV 45 0), some (iV x1), some (iV (x2 + (1 : Int32)))] [] (uI (uL σ 69 0 (((σ.1 45 0 39)).toNatClampNeg) (σ.2.1 68 0 (((σ.1 67 0 ((x2).toNatClampNeg))).toNatClampNeg))) 45 0 39 ((σ.1 45 0 39) + (1 : Int32))))) ∧ ((σ.1 66 0 ((x2).toNatClampNeg)) = 0 → (vp_in (σ.1 45 0 39) 64 ∧ R mj_OM (d + 1) mX11_goes Q 12 [some (rV 45 0), some (iV x1), some (iV (x2 + (1 : Int32)))] [] (uI (uL σ 69 0 (((σ.1 45 0 39)).toNatClampNeg) ((σ.1 67 0 ((x2).toNatClampNeg)).toInt64)) 45 0 39 ((σ.1 45 0 39) + (1 : Int32))))))) ∧ ((σ.1 66 0 ((x2).toNatClampNeg)) = (2 : Int32) → (R mj_OM d mX11_works (fun r σ' => R mj_OM (d + 1) mX11_goes Q 42 [some (rV 45 0), some (iV x1), some (iV x2)] (r.toList ++ []) σ') 0 [some (rV 45 0), some (iV (σ.1 67 0 ((x2).toNatClampNeg))), none, none, none, none, none, none] [] σ)))))))) : R mj_OM (d + 1) mX11_goes Q 12 [some (rV 45 0), some (iV x1), some (iV x2)] [] σ := by
  refine r_iload_n dX11_goes_12 rfl rfl ?_
  refine r_aload_n dX11_goes_13 rfl rfl ?_
  refine r_get (k := 45) (i := 0) (j := 21) (v := rV 65 0) rfl rfl ho45 rfl hX11 (by decide) rfl fX11_67 dX11_goes_14 (fun _ => rfl) ?_
  refine r_iload_n dX11_goes_17 rfl rfl ?_
  obtain ⟨q1, H⟩ := H
  refine r_iald (k := 65) (i := 0) rfl ho65 q1 dX11_goes_18 ?_
  refine r_icmp_ge (tgt := 102) dX11_goes_19 (by decide) (fun c => ?_) (fun c => ?_)
  · have H := H.1 c
    refine r_iconst (v := (1 : Int32)) dX11_goes_102 rfl ?_
    exact r_zret dX11_goes_103 rfl (by decide) H
  · have H := H.2 c
    refine r_aload_n dX11_goes_22 rfl rfl ?_
    refine r_get (k := 45) (i := 0) (j := 22) (v := rV 66 0) rfl rfl ho45 rfl hX11 (by decide) rfl fX11_70 dX11_goes_23 (fun _ => rfl) ?_
    refine r_iload_n dX11_goes_26 rfl rfl ?_
    obtain ⟨q2, H⟩ := H
    refine r_iald (k := 66) (i := 0) rfl ho66 q2 dX11_goes_27 ?_
    refine r_iconst (v := (2 : Int32)) dX11_goes_28 rfl ?_
    refine r_icmp_ne (tgt := 47) dX11_goes_29 (by decide) (fun c => ?_) (fun c => ?_)
    · have H := H.1 c
      refine r_aload_n dX11_goes_47 rfl rfl ?_
      refine r_get (k := 45) (i := 0) (j := 38) (v := rV 69 0) rfl rfl ho45 rfl hX11 (by decide) rfl fX11_84 dX11_goes_48 (fun _ => rfl) ?_
      refine r_aload_n dX11_goes_51 rfl rfl ?_
      refine r_get (k := 45) (i := 0) (j := 39) (v := iV (σ.1 45 0 39)) rfl rfl ho45 rfl hX11 (by decide) rfl fX11_323 dX11_goes_52 (fun _ => rfl) ?_
      refine r_aload_n dX11_goes_55 rfl rfl ?_
      refine r_get (k := 45) (i := 0) (j := 22) (v := rV 66 0) rfl rfl ho45 rfl hX11 (by decide) rfl fX11_70 dX11_goes_56 (fun _ => rfl) ?_
      refine r_iload_n dX11_goes_59 rfl rfl ?_
      refine r_iald (k := 66) (i := 0) rfl ho66 q2 dX11_goes_60 ?_
      refine r_if_ne (tgt := 74) dX11_goes_61 (by decide) (fun c => ?_) (fun c => ?_)
      · have H := H.1 c
        refine r_aload_n dX11_goes_74 rfl rfl ?_
        refine r_get (k := 45) (i := 0) (j := 37) (v := rV 68 0) rfl rfl ho45 rfl hX11 (by decide) rfl fX11_80 dX11_goes_75 (fun _ => rfl) ?_
        refine r_aload_n dX11_goes_78 rfl rfl ?_
        refine r_get (k := 45) (i := 0) (j := 23) (v := rV 67 0) rfl rfl ho45 rfl hX11 (by decide) rfl fX11_73 dX11_goes_79 (fun _ => rfl) ?_
        refine r_iload_n dX11_goes_82 rfl rfl ?_
        refine r_iald (k := 67) (i := 0) rfl ho67 q2 dX11_goes_83 ?_
        obtain ⟨q3, H⟩ := H
        refine r_lald (k := 68) (i := 0) rfl ho68 q3 dX11_goes_84 ?_
        obtain ⟨q4, H⟩ := H
        refine r_last (k := 69) (i := 0) rfl ho69 q4 dX11_goes_85 ?_
        refine r_aload_n dX11_goes_86 rfl rfl ?_
        refine r_dup_r dX11_goes_87 ?_
        refine r_get (k := 45) (i := 0) (j := 39) (v := iV (σ.1 45 0 39)) rfl rfl ho45 rfl hX11 (by decide) rfl fX11_323 dX11_goes_88 (fun _ => rfl) ?_
        refine r_iconst (v := (1 : Int32)) dX11_goes_91 rfl ?_
        refine r_iadd dX11_goes_92 ?_
        refine r_putI (k := 45) (i := 0) (j := 39) (ty0 := tyX11) rfl rfl ho45 rfl hX11 (by decide) rfl fX11_323 dX11_goes_93 rfl tyX11_ok nmX11 rfl rfl rfl ?_
        refine r_iinc (v := x2 + (1 : Int32)) dX11_goes_96 rfl rfl (by decide) rfl ?_
        refine r_goto (tgt := 12) dX11_goes_99 (by decide) ?_
        exact H
      · have H := H.2 c
        refine r_aload_n dX11_goes_64 rfl rfl ?_
        refine r_get (k := 45) (i := 0) (j := 23) (v := rV 67 0) rfl rfl ho45 rfl hX11 (by decide) rfl fX11_73 dX11_goes_65 (fun _ => rfl) ?_
        refine r_iload_n dX11_goes_68 rfl rfl ?_
        refine r_iald (k := 67) (i := 0) rfl ho67 q2 dX11_goes_69 ?_
        refine r_i2l (v := (σ.1 67 0 ((x2).toNatClampNeg)).toInt64) dX11_goes_70 rfl ?_
        refine r_goto (tgt := 85) dX11_goes_71 (by decide) ?_
        obtain ⟨q5, H⟩ := H
        refine r_last (k := 69) (i := 0) rfl ho69 q5 dX11_goes_85 ?_
        refine r_aload_n dX11_goes_86 rfl rfl ?_
        refine r_dup_r dX11_goes_87 ?_
        refine r_get (k := 45) (i := 0) (j := 39) (v := iV (σ.1 45 0 39)) rfl rfl ho45 rfl hX11 (by decide) rfl fX11_323 dX11_goes_88 (fun _ => rfl) ?_
        refine r_iconst (v := (1 : Int32)) dX11_goes_91 rfl ?_
        refine r_iadd dX11_goes_92 ?_
        refine r_putI (k := 45) (i := 0) (j := 39) (ty0 := tyX11) rfl rfl ho45 rfl hX11 (by decide) rfl fX11_323 dX11_goes_93 rfl tyX11_ok nmX11 rfl rfl rfl ?_
        refine r_iinc (v := x2 + (1 : Int32)) dX11_goes_96 rfl rfl (by decide) rfl ?_
        refine r_goto (tgt := 12) dX11_goes_99 (by decide) ?_
        exact H
    · have H := H.2 c
      refine r_aload_n dX11_goes_32 rfl rfl ?_
      refine r_aload_n dX11_goes_33 rfl rfl ?_
      refine r_get (k := 45) (i := 0) (j := 23) (v := rV 67 0) rfl rfl ho45 rfl hX11 (by decide) rfl fX11_73 dX11_goes_34 (fun _ => rfl) ?_
      refine r_iload_n dX11_goes_37 rfl rfl ?_
      refine r_iald (k := 67) (i := 0) rfl ho67 q2 dX11_goes_38 ?_
      refine r_callV (z := 6) (k := 45) (i := 0) (As := [iV (σ.1 67 0 ((x2).toNatClampNeg))]) (st := []) kX11_works i_X11_works e_X11_works lX11_340 dX11_goes_39 rfl rfl ho45 rfl rfl rfl rfl rfl (Nat.le_of_ble_eq_true rfl) ?_
      exact H
set_option maxRecDepth 100000 in
theorem bX11_goes_42 {d : Nat} {Q : Option MV → MS → Prop} {x1 : Int32} {x2 : Int32} {s0 : Int32} {σ : MS}  (H : ((¬ s0 = 0 → R mj_OM d mX11_goes Q 12 [some (rV 45 0), some (iV x1), some (iV (x2 + (1 : Int32)))] [] σ) ∧ (s0 = 0 → Q (some (iV (0 : Int32))) σ))) : R mj_OM d mX11_goes Q 42 [some (rV 45 0), some (iV x1), some (iV x2)] [iV s0] σ := by
  refine r_if_ne (tgt := 96) dX11_goes_42 (by decide) (fun c => ?_) (fun c => ?_)
  · have H := H.1 c
    refine r_iinc (v := x2 + (1 : Int32)) dX11_goes_96 rfl rfl (by decide) rfl ?_
    refine r_goto (tgt := 12) dX11_goes_99 (by decide) ?_
    exact H
  · have H := H.2 c
    refine r_iconst (v := (0 : Int32)) dX11_goes_45 rfl ?_
    exact r_zret dX11_goes_46 rfl (by decide) H
set_option maxRecDepth 100000 in
theorem bX11_hasLaw_0 {d : Nat} {Q : Option MV → MS → Prop} {x1 : Int32} {σ : MS}  (H : (vp_in x1 6 ∧ (((σ.1 65 0 ((x1).toNatClampNeg)) ≤ (σ.1 64 0 ((x1).toNatClampNeg)) → Q (some (iV (0 : Int32))) σ) ∧ (¬ (σ.1 65 0 ((x1).toNatClampNeg)) ≤ (σ.1 64 0 ((x1).toNatClampNeg)) → Q (some (iV (1 : Int32))) σ)))) : R mj_OM d mX11_hasLaw Q 0 [some (rV 45 0), some (iV x1)] [] σ := by
  refine r_aload_n dX11_hasLaw_0 rfl rfl ?_
  refine r_get (k := 45) (i := 0) (j := 21) (v := rV 65 0) rfl rfl ho45 rfl hX11 (by decide) rfl fX11_67 dX11_hasLaw_1 (fun _ => rfl) ?_
  refine r_iload_n dX11_hasLaw_4 rfl rfl ?_
  obtain ⟨q1, H⟩ := H
  refine r_iald (k := 65) (i := 0) rfl ho65 q1 dX11_hasLaw_5 ?_
  refine r_aload_n dX11_hasLaw_6 rfl rfl ?_
  refine r_get (k := 45) (i := 0) (j := 20) (v := rV 64 0) rfl rfl ho45 rfl hX11 (by decide) rfl fX11_64 dX11_hasLaw_7 (fun _ => rfl) ?_
  refine r_iload_n dX11_hasLaw_10 rfl rfl ?_
  refine r_iald (k := 64) (i := 0) rfl ho64 q1 dX11_hasLaw_11 ?_
  refine r_icmp_le (tgt := 19) dX11_hasLaw_12 (by decide) (fun c => ?_) (fun c => ?_)
  · have H := H.1 c
    refine r_iconst (v := (0 : Int32)) dX11_hasLaw_19 rfl ?_
    exact r_zret dX11_hasLaw_20 rfl (by decide) H
  · have H := H.2 c
    refine r_iconst (v := (1 : Int32)) dX11_hasLaw_15 rfl ?_
    refine r_goto (tgt := 20) dX11_hasLaw_16 (by decide) ?_
    exact r_zret dX11_hasLaw_20 rfl (by decide) H
set_option maxRecDepth 100000 in
theorem bX11_starts_0 {d : Nat} {Q : Option MV → MS → Prop} {x1 : Int32} {σ : MS}  (H : (vp_in x1 23 ∧ vp_in (7 : Int32) 18 ∧ R mj_OM d mX11_starts Q 36 [some (rV 45 0), some (iV x1), some (iV (0 : Int32))] [] (uI (uI (uI (uI σ 70 0 ((x1).toNatClampNeg) (0 : Int32)) 71 0 ((x1).toNatClampNeg) (σ.1 47 0 7)) 72 0 ((x1).toNatClampNeg) (0 : Int32)) 73 0 ((x1).toNatClampNeg) (0 : Int32)))) : R mj_OM d mX11_starts Q 0 [some (rV 45 0), some (iV x1), none] [] σ := by
  refine r_aload_n dX11_starts_0 rfl rfl ?_
  refine r_get (k := 45) (i := 0) (j := 40) (v := rV 70 0) rfl rfl ho45 rfl hX11 (by decide) rfl fX11_87 dX11_starts_1 (fun _ => rfl) ?_
  refine r_iload_n dX11_starts_4 rfl rfl ?_
  refine r_iconst (v := (0 : Int32)) dX11_starts_5 rfl ?_
  obtain ⟨q1, H⟩ := H
  refine r_iast (k := 70) (i := 0) rfl ho70 q1 dX11_starts_6 ?_
  refine r_aload_n dX11_starts_7 rfl rfl ?_
  refine r_get (k := 45) (i := 0) (j := 41) (v := rV 71 0) rfl rfl ho45 rfl hX11 (by decide) rfl fX11_90 dX11_starts_8 (fun _ => rfl) ?_
  refine r_iload_n dX11_starts_11 rfl rfl ?_
  refine r_aload_n dX11_starts_12 rfl rfl ?_
  refine r_get (k := 45) (i := 0) (j := 3) (v := rV 47 0) rfl rfl ho45 rfl hX11 (by decide) rfl fX11_13 dX11_starts_13 (fun _ => rfl) ?_
  refine r_bipush (v := (7 : Int32)) dX11_starts_16 rfl ?_
  obtain ⟨q2, H⟩ := H
  refine r_iald (k := 47) (i := 0) rfl ho47 q2 dX11_starts_18 ?_
  refine r_iast (k := 71) (i := 0) rfl ho71 q1 dX11_starts_19 ?_
  refine r_aload_n dX11_starts_20 rfl rfl ?_
  refine r_get (k := 45) (i := 0) (j := 42) (v := rV 72 0) rfl rfl ho45 rfl hX11 (by decide) rfl fX11_93 dX11_starts_21 (fun _ => rfl) ?_
  refine r_iload_n dX11_starts_24 rfl rfl ?_
  refine r_iconst (v := (0 : Int32)) dX11_starts_25 rfl ?_
  refine r_iast (k := 72) (i := 0) rfl ho72 q1 dX11_starts_26 ?_
  refine r_aload_n dX11_starts_27 rfl rfl ?_
  refine r_get (k := 45) (i := 0) (j := 43) (v := rV 73 0) rfl rfl ho45 rfl hX11 (by decide) rfl fX11_96 dX11_starts_28 (fun _ => rfl) ?_
  refine r_iload_n dX11_starts_31 rfl rfl ?_
  refine r_iconst (v := (0 : Int32)) dX11_starts_32 rfl ?_
  refine r_iast (k := 73) (i := 0) rfl ho73 q1 dX11_starts_33 ?_
  refine r_iconst (v := (0 : Int32)) dX11_starts_34 rfl ?_
  refine r_istore_n dX11_starts_35 rfl (by decide) rfl ?_
  exact H
set_option maxRecDepth 100000 in
theorem bX11_starts_36 {d : Nat} {Q : Option MV → MS → Prop} {x1 : Int32} {x2 : Int32} {σ : MS}  (H : (((7 : Int32) ≤ x2 → R mj_OM d mX11_starts Q 81 [some (rV 45 0), some (iV x1), some (iV (0 : Int32))] [] σ) ∧ (¬ (7 : Int32) ≤ x2 → (vp_in (0 : Int32) 18 ∧ (((σ.1 47 0 0) ≤ x2 → (vp_in (((7 : Int32) * x1) + x2) 161 ∧ R mj_OM d mX11_starts Q 36 [some (rV 45 0), some (iV x1), some (iV (x2 + (1 : Int32)))] [] (uI σ 74 0 (((((7 : Int32) * x1) + x2)).toNatClampNeg) (0 : Int32)))) ∧ (¬ (σ.1 47 0 0) ≤ x2 → (vp_in x2 14 ∧ vp_in (((7 : Int32) * x1) + x2) 161 ∧ R mj_OM d mX11_starts Q 36 [some (rV 45 0), some (iV x1), some (iV (x2 + (1 : Int32)))] [] (uI σ 74 0 (((((7 : Int32) * x1) + x2)).toNatClampNeg) (σ.1 51 0 ((x2).toNatClampNeg)))))))))) : R mj_OM d mX11_starts Q 36 [some (rV 45 0), some (iV x1), some (iV x2)] [] σ := by
  refine r_iload_n dX11_starts_36 rfl rfl ?_
  refine r_bipush (v := (7 : Int32)) dX11_starts_37 rfl ?_
  refine r_icmp_ge (tgt := 79) dX11_starts_39 (by decide) (fun c => ?_) (fun c => ?_)
  · have H := H.1 c
    refine r_iconst (v := (0 : Int32)) dX11_starts_79 rfl ?_
    refine r_istore_n dX11_starts_80 rfl (by decide) rfl ?_
    exact H
  · have H := H.2 c
    refine r_aload_n dX11_starts_42 rfl rfl ?_
    refine r_get (k := 45) (i := 0) (j := 44) (v := rV 74 0) rfl rfl ho45 rfl hX11 (by decide) rfl fX11_99 dX11_starts_43 (fun _ => rfl) ?_
    refine r_bipush (v := (7 : Int32)) dX11_starts_46 rfl ?_
    refine r_iload_n dX11_starts_48 rfl rfl ?_
    refine r_imul dX11_starts_49 ?_
    refine r_iload_n dX11_starts_50 rfl rfl ?_
    refine r_iadd dX11_starts_51 ?_
    refine r_iload_n dX11_starts_52 rfl rfl ?_
    refine r_aload_n dX11_starts_53 rfl rfl ?_
    refine r_get (k := 45) (i := 0) (j := 3) (v := rV 47 0) rfl rfl ho45 rfl hX11 (by decide) rfl fX11_13 dX11_starts_54 (fun _ => rfl) ?_
    refine r_iconst (v := (0 : Int32)) dX11_starts_57 rfl ?_
    obtain ⟨q1, H⟩ := H
    refine r_iald (k := 47) (i := 0) rfl ho47 q1 dX11_starts_58 ?_
    refine r_icmp_ge (tgt := 71) dX11_starts_59 (by decide) (fun c => ?_) (fun c => ?_)
    · have H := H.1 c
      refine r_iconst (v := (0 : Int32)) dX11_starts_71 rfl ?_
      obtain ⟨q2, H⟩ := H
      refine r_iast (k := 74) (i := 0) rfl ho74 q2 dX11_starts_72 ?_
      refine r_iinc (v := x2 + (1 : Int32)) dX11_starts_73 rfl rfl (by decide) rfl ?_
      refine r_goto (tgt := 36) dX11_starts_76 (by decide) ?_
      exact H
    · have H := H.2 c
      refine r_aload_n dX11_starts_62 rfl rfl ?_
      refine r_get (k := 45) (i := 0) (j := 7) (v := rV 51 0) rfl rfl ho45 rfl hX11 (by decide) rfl fX11_25 dX11_starts_63 (fun _ => rfl) ?_
      refine r_iload_n dX11_starts_66 rfl rfl ?_
      obtain ⟨q3, H⟩ := H
      refine r_iald (k := 51) (i := 0) rfl ho51 q3 dX11_starts_67 ?_
      refine r_goto (tgt := 72) dX11_starts_68 (by decide) ?_
      obtain ⟨q4, H⟩ := H
      refine r_iast (k := 74) (i := 0) rfl ho74 q4 dX11_starts_72 ?_
      refine r_iinc (v := x2 + (1 : Int32)) dX11_starts_73 rfl rfl (by decide) rfl ?_
      refine r_goto (tgt := 36) dX11_starts_76 (by decide) ?_
      exact H
set_option maxRecDepth 100000 in
theorem bX11_starts_81 {d : Nat} {Q : Option MV → MS → Prop} {x1 : Int32} {x2 : Int32} {σ : MS}  (H : (((8 : Int32) ≤ x2 → Q none σ) ∧ (¬ (8 : Int32) ≤ x2 → (vp_in (((8 : Int32) * x1) + x2) 184 ∧ R mj_OM d mX11_starts Q 81 [some (rV 45 0), some (iV x1), some (iV (x2 + (1 : Int32)))] [] (uI (uI σ 75 0 (((((8 : Int32) * x1) + x2)).toNatClampNeg) (0 : Int32)) 76 0 (((((8 : Int32) * x1) + x2)).toNatClampNeg) (0 : Int32)))))) : R mj_OM d mX11_starts Q 81 [some (rV 45 0), some (iV x1), some (iV x2)] [] σ := by
  refine r_iload_n dX11_starts_81 rfl rfl ?_
  refine r_bipush (v := (8 : Int32)) dX11_starts_82 rfl ?_
  refine r_icmp_ge (tgt := 117) dX11_starts_84 (by decide) (fun c => ?_) (fun c => ?_)
  · have H := H.1 c
    exact r_vret dX11_starts_117 rfl H
  · have H := H.2 c
    refine r_aload_n dX11_starts_87 rfl rfl ?_
    refine r_get (k := 45) (i := 0) (j := 45) (v := rV 75 0) rfl rfl ho45 rfl hX11 (by decide) rfl fX11_102 dX11_starts_88 (fun _ => rfl) ?_
    refine r_bipush (v := (8 : Int32)) dX11_starts_91 rfl ?_
    refine r_iload_n dX11_starts_93 rfl rfl ?_
    refine r_imul dX11_starts_94 ?_
    refine r_iload_n dX11_starts_95 rfl rfl ?_
    refine r_iadd dX11_starts_96 ?_
    refine r_iconst (v := (0 : Int32)) dX11_starts_97 rfl ?_
    obtain ⟨q1, H⟩ := H
    refine r_iast (k := 75) (i := 0) rfl ho75 q1 dX11_starts_98 ?_
    refine r_aload_n dX11_starts_99 rfl rfl ?_
    refine r_get (k := 45) (i := 0) (j := 46) (v := rV 76 0) rfl rfl ho45 rfl hX11 (by decide) rfl fX11_105 dX11_starts_100 (fun _ => rfl) ?_
    refine r_bipush (v := (8 : Int32)) dX11_starts_103 rfl ?_
    refine r_iload_n dX11_starts_105 rfl rfl ?_
    refine r_imul dX11_starts_106 ?_
    refine r_iload_n dX11_starts_107 rfl rfl ?_
    refine r_iadd dX11_starts_108 ?_
    refine r_iconst (v := (0 : Int32)) dX11_starts_109 rfl ?_
    refine r_iast (k := 76) (i := 0) rfl ho76 q1 dX11_starts_110 ?_
    refine r_iinc (v := x2 + (1 : Int32)) dX11_starts_111 rfl rfl (by decide) rfl ?_
    refine r_goto (tgt := 81) dX11_starts_114 (by decide) ?_
    exact H
set_option maxRecDepth 100000 in
theorem bX11_begins_0 {d : Nat} {Q : Option MV → MS → Prop}  {σ : MS}  (H : (R mj_OM d mX11_starts (fun r σ' => R mj_OM (d + 1) mX11_begins Q 5 [some (rV 45 0)] (r.toList ++ []) σ') 0 [some (rV 45 0), some (iV (0 : Int32)), none] [] σ)) : R mj_OM (d + 1) mX11_begins Q 0 [some (rV 45 0)] [] σ := by
  refine r_aload_n dX11_begins_0 rfl rfl ?_
  refine r_iconst (v := (0 : Int32)) dX11_begins_1 rfl ?_
  refine r_callV (z := 1) (k := 45) (i := 0) (As := [iV (0 : Int32)]) (st := []) kX11_starts i_X11_starts e_X11_starts lX11_343 dX11_begins_2 rfl rfl ho45 rfl rfl rfl rfl rfl (Nat.le_of_ble_eq_true rfl) ?_
  exact H
set_option maxRecDepth 100000 in
theorem bX11_begins_5 {d : Nat} {Q : Option MV → MS → Prop}  {σ : MS}  (H : Q none σ) : R mj_OM d mX11_begins Q 5 [some (rV 45 0)] [] σ := by
  exact r_vret dX11_begins_5 rfl H
set_option maxRecDepth 100000 in
theorem bX11_copies_0 {d : Nat} {Q : Option MV → MS → Prop} {x1 : Int32} {x2 : Int32} {σ : MS}  (H : (vp_in x2 23 ∧ vp_in x1 23 ∧ R mj_OM d mX11_copies Q 50 [some (rV 45 0), some (iV x1), some (iV x2), some (iV (0 : Int32))] [] (uI (uI (uI (uI σ 70 0 ((x1).toNatClampNeg) (σ.1 70 0 ((x2).toNatClampNeg))) 71 0 ((x1).toNatClampNeg) (σ.1 71 0 ((x2).toNatClampNeg))) 72 0 ((x1).toNatClampNeg) (σ.1 72 0 ((x2).toNatClampNeg))) 73 0 ((x1).toNatClampNeg) (σ.1 73 0 ((x2).toNatClampNeg))))) : R mj_OM d mX11_copies Q 0 [some (rV 45 0), some (iV x1), some (iV x2), none] [] σ := by
  refine r_aload_n dX11_copies_0 rfl rfl ?_
  refine r_get (k := 45) (i := 0) (j := 40) (v := rV 70 0) rfl rfl ho45 rfl hX11 (by decide) rfl fX11_87 dX11_copies_1 (fun _ => rfl) ?_
  refine r_iload_n dX11_copies_4 rfl rfl ?_
  refine r_aload_n dX11_copies_5 rfl rfl ?_
  refine r_get (k := 45) (i := 0) (j := 40) (v := rV 70 0) rfl rfl ho45 rfl hX11 (by decide) rfl fX11_87 dX11_copies_6 (fun _ => rfl) ?_
  refine r_iload_n dX11_copies_9 rfl rfl ?_
  obtain ⟨q1, H⟩ := H
  refine r_iald (k := 70) (i := 0) rfl ho70 q1 dX11_copies_10 ?_
  obtain ⟨q2, H⟩ := H
  refine r_iast (k := 70) (i := 0) rfl ho70 q2 dX11_copies_11 ?_
  refine r_aload_n dX11_copies_12 rfl rfl ?_
  refine r_get (k := 45) (i := 0) (j := 41) (v := rV 71 0) rfl rfl ho45 rfl hX11 (by decide) rfl fX11_90 dX11_copies_13 (fun _ => rfl) ?_
  refine r_iload_n dX11_copies_16 rfl rfl ?_
  refine r_aload_n dX11_copies_17 rfl rfl ?_
  refine r_get (k := 45) (i := 0) (j := 41) (v := rV 71 0) rfl rfl ho45 rfl hX11 (by decide) rfl fX11_90 dX11_copies_18 (fun _ => rfl) ?_
  refine r_iload_n dX11_copies_21 rfl rfl ?_
  refine r_iald (k := 71) (i := 0) rfl ho71 q1 dX11_copies_22 ?_
  refine r_iast (k := 71) (i := 0) rfl ho71 q2 dX11_copies_23 ?_
  refine r_aload_n dX11_copies_24 rfl rfl ?_
  refine r_get (k := 45) (i := 0) (j := 42) (v := rV 72 0) rfl rfl ho45 rfl hX11 (by decide) rfl fX11_93 dX11_copies_25 (fun _ => rfl) ?_
  refine r_iload_n dX11_copies_28 rfl rfl ?_
  refine r_aload_n dX11_copies_29 rfl rfl ?_
  refine r_get (k := 45) (i := 0) (j := 42) (v := rV 72 0) rfl rfl ho45 rfl hX11 (by decide) rfl fX11_93 dX11_copies_30 (fun _ => rfl) ?_
  refine r_iload_n dX11_copies_33 rfl rfl ?_
  refine r_iald (k := 72) (i := 0) rfl ho72 q1 dX11_copies_34 ?_
  refine r_iast (k := 72) (i := 0) rfl ho72 q2 dX11_copies_35 ?_
  refine r_aload_n dX11_copies_36 rfl rfl ?_
  refine r_get (k := 45) (i := 0) (j := 43) (v := rV 73 0) rfl rfl ho45 rfl hX11 (by decide) rfl fX11_96 dX11_copies_37 (fun _ => rfl) ?_
  refine r_iload_n dX11_copies_40 rfl rfl ?_
  refine r_aload_n dX11_copies_41 rfl rfl ?_
  refine r_get (k := 45) (i := 0) (j := 43) (v := rV 73 0) rfl rfl ho45 rfl hX11 (by decide) rfl fX11_96 dX11_copies_42 (fun _ => rfl) ?_
  refine r_iload_n dX11_copies_45 rfl rfl ?_
  refine r_iald (k := 73) (i := 0) rfl ho73 q1 dX11_copies_46 ?_
  refine r_iast (k := 73) (i := 0) rfl ho73 q2 dX11_copies_47 ?_
  refine r_iconst (v := (0 : Int32)) dX11_copies_48 rfl ?_
  refine r_istore_n dX11_copies_49 rfl (by decide) rfl ?_
  exact H
set_option maxRecDepth 100000 in
theorem bX11_copies_50 {d : Nat} {Q : Option MV → MS → Prop} {x1 : Int32} {x2 : Int32} {x3 : Int32} {σ : MS}  (H : (((7 : Int32) ≤ x3 → R mj_OM d mX11_copies Q 86 [some (rV 45 0), some (iV x1), some (iV x2), some (iV (0 : Int32))] [] σ) ∧ (¬ (7 : Int32) ≤ x3 → (vp_in (((7 : Int32) * x2) + x3) 161 ∧ vp_in (((7 : Int32) * x1) + x3) 161 ∧ R mj_OM d mX11_copies Q 50 [some (rV 45 0), some (iV x1), some (iV x2), some (iV (x3 + (1 : Int32)))] [] (uI σ 74 0 (((((7 : Int32) * x1) + x3)).toNatClampNeg) (σ.1 74 0 (((((7 : Int32) * x2) + x3)).toNatClampNeg))))))) : R mj_OM d mX11_copies Q 50 [some (rV 45 0), some (iV x1), some (iV x2), some (iV x3)] [] σ := by
  refine r_iload_n dX11_copies_50 rfl rfl ?_
  refine r_bipush (v := (7 : Int32)) dX11_copies_51 rfl ?_
  refine r_icmp_ge (tgt := 84) dX11_copies_53 (by decide) (fun c => ?_) (fun c => ?_)
  · have H := H.1 c
    refine r_iconst (v := (0 : Int32)) dX11_copies_84 rfl ?_
    refine r_istore_n dX11_copies_85 rfl (by decide) rfl ?_
    exact H
  · have H := H.2 c
    refine r_aload_n dX11_copies_56 rfl rfl ?_
    refine r_get (k := 45) (i := 0) (j := 44) (v := rV 74 0) rfl rfl ho45 rfl hX11 (by decide) rfl fX11_99 dX11_copies_57 (fun _ => rfl) ?_
    refine r_bipush (v := (7 : Int32)) dX11_copies_60 rfl ?_
    refine r_iload_n dX11_copies_62 rfl rfl ?_
    refine r_imul dX11_copies_63 ?_
    refine r_iload_n dX11_copies_64 rfl rfl ?_
    refine r_iadd dX11_copies_65 ?_
    refine r_aload_n dX11_copies_66 rfl rfl ?_
    refine r_get (k := 45) (i := 0) (j := 44) (v := rV 74 0) rfl rfl ho45 rfl hX11 (by decide) rfl fX11_99 dX11_copies_67 (fun _ => rfl) ?_
    refine r_bipush (v := (7 : Int32)) dX11_copies_70 rfl ?_
    refine r_iload_n dX11_copies_72 rfl rfl ?_
    refine r_imul dX11_copies_73 ?_
    refine r_iload_n dX11_copies_74 rfl rfl ?_
    refine r_iadd dX11_copies_75 ?_
    obtain ⟨q1, H⟩ := H
    refine r_iald (k := 74) (i := 0) rfl ho74 q1 dX11_copies_76 ?_
    obtain ⟨q2, H⟩ := H
    refine r_iast (k := 74) (i := 0) rfl ho74 q2 dX11_copies_77 ?_
    refine r_iinc (v := x3 + (1 : Int32)) dX11_copies_78 rfl rfl (by decide) rfl ?_
    refine r_goto (tgt := 50) dX11_copies_81 (by decide) ?_
    exact H
set_option maxRecDepth 100000 in
theorem bX11_copies_86 {d : Nat} {Q : Option MV → MS → Prop} {x1 : Int32} {x2 : Int32} {x3 : Int32} {σ : MS}  (H : (((8 : Int32) ≤ x3 → Q none σ) ∧ (¬ (8 : Int32) ≤ x3 → (vp_in (((8 : Int32) * x2) + x3) 184 ∧ vp_in (((8 : Int32) * x1) + x3) 184 ∧ R mj_OM d mX11_copies Q 86 [some (rV 45 0), some (iV x1), some (iV x2), some (iV (x3 + (1 : Int32)))] [] (uI (uI σ 75 0 (((((8 : Int32) * x1) + x3)).toNatClampNeg) (σ.1 75 0 (((((8 : Int32) * x2) + x3)).toNatClampNeg))) 76 0 (((((8 : Int32) * x1) + x3)).toNatClampNeg) (σ.1 76 0 (((((8 : Int32) * x2) + x3)).toNatClampNeg))))))) : R mj_OM d mX11_copies Q 86 [some (rV 45 0), some (iV x1), some (iV x2), some (iV x3)] [] σ := by
  refine r_iload_n dX11_copies_86 rfl rfl ?_
  refine r_bipush (v := (8 : Int32)) dX11_copies_87 rfl ?_
  refine r_icmp_ge (tgt := 142) dX11_copies_89 (by decide) (fun c => ?_) (fun c => ?_)
  · have H := H.1 c
    exact r_vret dX11_copies_142 rfl H
  · have H := H.2 c
    refine r_aload_n dX11_copies_92 rfl rfl ?_
    refine r_get (k := 45) (i := 0) (j := 45) (v := rV 75 0) rfl rfl ho45 rfl hX11 (by decide) rfl fX11_102 dX11_copies_93 (fun _ => rfl) ?_
    refine r_bipush (v := (8 : Int32)) dX11_copies_96 rfl ?_
    refine r_iload_n dX11_copies_98 rfl rfl ?_
    refine r_imul dX11_copies_99 ?_
    refine r_iload_n dX11_copies_100 rfl rfl ?_
    refine r_iadd dX11_copies_101 ?_
    refine r_aload_n dX11_copies_102 rfl rfl ?_
    refine r_get (k := 45) (i := 0) (j := 45) (v := rV 75 0) rfl rfl ho45 rfl hX11 (by decide) rfl fX11_102 dX11_copies_103 (fun _ => rfl) ?_
    refine r_bipush (v := (8 : Int32)) dX11_copies_106 rfl ?_
    refine r_iload_n dX11_copies_108 rfl rfl ?_
    refine r_imul dX11_copies_109 ?_
    refine r_iload_n dX11_copies_110 rfl rfl ?_
    refine r_iadd dX11_copies_111 ?_
    obtain ⟨q1, H⟩ := H
    refine r_iald (k := 75) (i := 0) rfl ho75 q1 dX11_copies_112 ?_
    obtain ⟨q2, H⟩ := H
    refine r_iast (k := 75) (i := 0) rfl ho75 q2 dX11_copies_113 ?_
    refine r_aload_n dX11_copies_114 rfl rfl ?_
    refine r_get (k := 45) (i := 0) (j := 46) (v := rV 76 0) rfl rfl ho45 rfl hX11 (by decide) rfl fX11_105 dX11_copies_115 (fun _ => rfl) ?_
    refine r_bipush (v := (8 : Int32)) dX11_copies_118 rfl ?_
    refine r_iload_n dX11_copies_120 rfl rfl ?_
    refine r_imul dX11_copies_121 ?_
    refine r_iload_n dX11_copies_122 rfl rfl ?_
    refine r_iadd dX11_copies_123 ?_
    refine r_aload_n dX11_copies_124 rfl rfl ?_
    refine r_get (k := 45) (i := 0) (j := 46) (v := rV 76 0) rfl rfl ho45 rfl hX11 (by decide) rfl fX11_105 dX11_copies_125 (fun _ => rfl) ?_
    refine r_bipush (v := (8 : Int32)) dX11_copies_128 rfl ?_
    refine r_iload_n dX11_copies_130 rfl rfl ?_
    refine r_imul dX11_copies_131 ?_
    refine r_iload_n dX11_copies_132 rfl rfl ?_
    refine r_iadd dX11_copies_133 ?_
    refine r_iald (k := 76) (i := 0) rfl ho76 q1 dX11_copies_134 ?_
    refine r_iast (k := 76) (i := 0) rfl ho76 q2 dX11_copies_135 ?_
    refine r_iinc (v := x3 + (1 : Int32)) dX11_copies_136 rfl rfl (by decide) rfl ?_
    refine r_goto (tgt := 86) dX11_copies_139 (by decide) ?_
    exact H
set_option maxRecDepth 100000 in
theorem bX11_isPond_0 {d : Nat} {Q : Option MV → MS → Prop} {x1 : Int32} {σ : MS}  (H : ((x1 < 0 → Q (some (iV (0 : Int32))) σ) ∧ (¬ x1 < 0 → (vp_in (0 : Int32) 18 ∧ (((σ.1 47 0 0) ≤ x1 → Q (some (iV (0 : Int32))) σ) ∧ (¬ (σ.1 47 0 0) ≤ x1 → Q (some (iV (1 : Int32))) σ)))))) : R mj_OM d mX11_isPond Q 0 [some (rV 45 0), some (iV x1)] [] σ := by
  refine r_iload_n dX11_isPond_0 rfl rfl ?_
  refine r_if_lt (tgt := 18) dX11_isPond_1 (by decide) (fun c => ?_) (fun c => ?_)
  · have H := H.1 c
    refine r_iconst (v := (0 : Int32)) dX11_isPond_18 rfl ?_
    exact r_zret dX11_isPond_19 rfl (by decide) H
  · have H := H.2 c
    refine r_iload_n dX11_isPond_4 rfl rfl ?_
    refine r_aload_n dX11_isPond_5 rfl rfl ?_
    refine r_get (k := 45) (i := 0) (j := 3) (v := rV 47 0) rfl rfl ho45 rfl hX11 (by decide) rfl fX11_13 dX11_isPond_6 (fun _ => rfl) ?_
    refine r_iconst (v := (0 : Int32)) dX11_isPond_9 rfl ?_
    obtain ⟨q1, H⟩ := H
    refine r_iald (k := 47) (i := 0) rfl ho47 q1 dX11_isPond_10 ?_
    refine r_icmp_ge (tgt := 18) dX11_isPond_11 (by decide) (fun c => ?_) (fun c => ?_)
    · have H := H.1 c
      refine r_iconst (v := (0 : Int32)) dX11_isPond_18 rfl ?_
      exact r_zret dX11_isPond_19 rfl (by decide) H
    · have H := H.2 c
      refine r_iconst (v := (1 : Int32)) dX11_isPond_14 rfl ?_
      refine r_goto (tgt := 19) dX11_isPond_15 (by decide) ?_
      exact r_zret dX11_isPond_19 rfl (by decide) H
set_option maxRecDepth 100000 in
theorem bX11_isPipe_0 {d : Nat} {Q : Option MV → MS → Prop} {x1 : Int32} {σ : MS}  (H : ((x1 < 0 → Q (some (iV (0 : Int32))) σ) ∧ (¬ x1 < 0 → (vp_in (2 : Int32) 18 ∧ (((σ.1 47 0 2) ≤ x1 → Q (some (iV (0 : Int32))) σ) ∧ (¬ (σ.1 47 0 2) ≤ x1 → Q (some (iV (1 : Int32))) σ)))))) : R mj_OM d mX11_isPipe Q 0 [some (rV 45 0), some (iV x1)] [] σ := by
  refine r_iload_n dX11_isPipe_0 rfl rfl ?_
  refine r_if_lt (tgt := 18) dX11_isPipe_1 (by decide) (fun c => ?_) (fun c => ?_)
  · have H := H.1 c
    refine r_iconst (v := (0 : Int32)) dX11_isPipe_18 rfl ?_
    exact r_zret dX11_isPipe_19 rfl (by decide) H
  · have H := H.2 c
    refine r_iload_n dX11_isPipe_4 rfl rfl ?_
    refine r_aload_n dX11_isPipe_5 rfl rfl ?_
    refine r_get (k := 45) (i := 0) (j := 3) (v := rV 47 0) rfl rfl ho45 rfl hX11 (by decide) rfl fX11_13 dX11_isPipe_6 (fun _ => rfl) ?_
    refine r_iconst (v := (2 : Int32)) dX11_isPipe_9 rfl ?_
    obtain ⟨q1, H⟩ := H
    refine r_iald (k := 47) (i := 0) rfl ho47 q1 dX11_isPipe_10 ?_
    refine r_icmp_ge (tgt := 18) dX11_isPipe_11 (by decide) (fun c => ?_) (fun c => ?_)
    · have H := H.1 c
      refine r_iconst (v := (0 : Int32)) dX11_isPipe_18 rfl ?_
      exact r_zret dX11_isPipe_19 rfl (by decide) H
    · have H := H.2 c
      refine r_iconst (v := (1 : Int32)) dX11_isPipe_14 rfl ?_
      refine r_goto (tgt := 19) dX11_isPipe_15 (by decide) ?_
      exact r_zret dX11_isPipe_19 rfl (by decide) H
set_option maxRecDepth 100000 in
theorem bX11_isLock_0 {d : Nat} {Q : Option MV → MS → Prop} {x1 : Int32} {σ : MS}  (H : ((x1 < 0 → Q (some (iV (0 : Int32))) σ) ∧ (¬ x1 < 0 → (vp_in (1 : Int32) 18 ∧ (((σ.1 47 0 1) ≤ x1 → Q (some (iV (0 : Int32))) σ) ∧ (¬ (σ.1 47 0 1) ≤ x1 → Q (some (iV (1 : Int32))) σ)))))) : R mj_OM d mX11_isLock Q 0 [some (rV 45 0), some (iV x1)] [] σ := by
  refine r_iload_n dX11_isLock_0 rfl rfl ?_
  refine r_if_lt (tgt := 18) dX11_isLock_1 (by decide) (fun c => ?_) (fun c => ?_)
  · have H := H.1 c
    refine r_iconst (v := (0 : Int32)) dX11_isLock_18 rfl ?_
    exact r_zret dX11_isLock_19 rfl (by decide) H
  · have H := H.2 c
    refine r_iload_n dX11_isLock_4 rfl rfl ?_
    refine r_aload_n dX11_isLock_5 rfl rfl ?_
    refine r_get (k := 45) (i := 0) (j := 3) (v := rV 47 0) rfl rfl ho45 rfl hX11 (by decide) rfl fX11_13 dX11_isLock_6 (fun _ => rfl) ?_
    refine r_iconst (v := (1 : Int32)) dX11_isLock_9 rfl ?_
    obtain ⟨q1, H⟩ := H
    refine r_iald (k := 47) (i := 0) rfl ho47 q1 dX11_isLock_10 ?_
    refine r_icmp_ge (tgt := 18) dX11_isLock_11 (by decide) (fun c => ?_) (fun c => ?_)
    · have H := H.1 c
      refine r_iconst (v := (0 : Int32)) dX11_isLock_18 rfl ?_
      exact r_zret dX11_isLock_19 rfl (by decide) H
    · have H := H.2 c
      refine r_iconst (v := (1 : Int32)) dX11_isLock_14 rfl ?_
      refine r_goto (tgt := 19) dX11_isLock_15 (by decide) ?_
      exact r_zret dX11_isLock_19 rfl (by decide) H
set_option maxRecDepth 100000 in
theorem bX11_isBoat_0 {d : Nat} {Q : Option MV → MS → Prop} {x1 : Int32} {σ : MS}  (H : ((x1 < 0 → Q (some (iV (0 : Int32))) σ) ∧ (¬ x1 < 0 → (vp_in (4 : Int32) 18 ∧ (((σ.1 47 0 4) ≤ x1 → Q (some (iV (0 : Int32))) σ) ∧ (¬ (σ.1 47 0 4) ≤ x1 → Q (some (iV (1 : Int32))) σ)))))) : R mj_OM d mX11_isBoat Q 0 [some (rV 45 0), some (iV x1)] [] σ := by
  refine r_iload_n dX11_isBoat_0 rfl rfl ?_
  refine r_if_lt (tgt := 18) dX11_isBoat_1 (by decide) (fun c => ?_) (fun c => ?_)
  · have H := H.1 c
    refine r_iconst (v := (0 : Int32)) dX11_isBoat_18 rfl ?_
    exact r_zret dX11_isBoat_19 rfl (by decide) H
  · have H := H.2 c
    refine r_iload_n dX11_isBoat_4 rfl rfl ?_
    refine r_aload_n dX11_isBoat_5 rfl rfl ?_
    refine r_get (k := 45) (i := 0) (j := 3) (v := rV 47 0) rfl rfl ho45 rfl hX11 (by decide) rfl fX11_13 dX11_isBoat_6 (fun _ => rfl) ?_
    refine r_iconst (v := (4 : Int32)) dX11_isBoat_9 rfl ?_
    obtain ⟨q1, H⟩ := H
    refine r_iald (k := 47) (i := 0) rfl ho47 q1 dX11_isBoat_10 ?_
    refine r_icmp_ge (tgt := 18) dX11_isBoat_11 (by decide) (fun c => ?_) (fun c => ?_)
    · have H := H.1 c
      refine r_iconst (v := (0 : Int32)) dX11_isBoat_18 rfl ?_
      exact r_zret dX11_isBoat_19 rfl (by decide) H
    · have H := H.2 c
      refine r_iconst (v := (1 : Int32)) dX11_isBoat_14 rfl ?_
      refine r_goto (tgt := 19) dX11_isBoat_15 (by decide) ?_
      exact r_zret dX11_isBoat_19 rfl (by decide) H
set_option maxRecDepth 100000 in
theorem bX11_bitsOf_0 {d : Nat} {Q : Option MV → MS → Prop} {x0 : Int32} {σ : MS}  (H : R mj_OM d mX11_bitsOf Q 4 [some (iV x0), some (iV (0 : Int32)), some (iV (0 : Int32))] [] σ) : R mj_OM d mX11_bitsOf Q 0 [some (iV x0), none, none] [] σ := by
  refine r_iconst (v := (0 : Int32)) dX11_bitsOf_0 rfl ?_
  refine r_istore_n dX11_bitsOf_1 rfl (by decide) rfl ?_
  refine r_iconst (v := (0 : Int32)) dX11_bitsOf_2 rfl ?_
  refine r_istore_n dX11_bitsOf_3 rfl (by decide) rfl ?_
  exact H
set_option maxRecDepth 100000 in
theorem bX11_bitsOf_4 {d : Nat} {Q : Option MV → MS → Prop} {x0 : Int32} {x1 : Int32} {x2 : Int32} {σ : MS}  (H : (((10 : Int32) ≤ x2 → Q (some (iV x1)) σ) ∧ (¬ (10 : Int32) ≤ x2 → R mj_OM d mX11_bitsOf Q 4 [some (iV x0), some (iV (x1 + ((x0 >>> (x2 &&& 31)) &&& (1 : Int32)))), some (iV (x2 + (1 : Int32)))] [] σ))) : R mj_OM d mX11_bitsOf Q 4 [some (iV x0), some (iV x1), some (iV x2)] [] σ := by
  refine r_iload_n dX11_bitsOf_4 rfl rfl ?_
  refine r_bipush (v := (10 : Int32)) dX11_bitsOf_5 rfl ?_
  refine r_icmp_ge (tgt := 24) dX11_bitsOf_7 (by decide) (fun c => ?_) (fun c => ?_)
  · have H := H.1 c
    refine r_iload_n dX11_bitsOf_24 rfl rfl ?_
    exact r_iret dX11_bitsOf_25 rfl H
  · have H := H.2 c
    refine r_iload_n dX11_bitsOf_10 rfl rfl ?_
    refine r_iload_n dX11_bitsOf_11 rfl rfl ?_
    refine r_iload_n dX11_bitsOf_12 rfl rfl ?_
    refine r_ishr dX11_bitsOf_13 ?_
    refine r_iconst (v := (1 : Int32)) dX11_bitsOf_14 rfl ?_
    refine r_iand dX11_bitsOf_15 ?_
    refine r_iadd dX11_bitsOf_16 ?_
    refine r_istore_n dX11_bitsOf_17 rfl (by decide) rfl ?_
    refine r_iinc (v := x2 + (1 : Int32)) dX11_bitsOf_18 rfl rfl (by decide) rfl ?_
    refine r_goto (tgt := 4) dX11_bitsOf_21 (by decide) ?_
    exact H
set_option maxRecDepth 100000 in
theorem bX11_fullOf_0 {d : Nat} {Q : Option MV → MS → Prop} {x1 : Int32} {x2 : Int32} {σ : MS}  (H : (vp_in x2 14 ∧ vp_in (((7 : Int32) * x1) + x2) 161 ∧ Q (some (iV (((σ.1 50 0 ((x2).toNatClampNeg)) * (σ.1 49 0 ((x2).toNatClampNeg))) + (σ.1 74 0 (((((7 : Int32) * x1) + x2)).toNatClampNeg))))) σ)) : R mj_OM d mX11_fullOf Q 0 [some (rV 45 0), some (iV x1), some (iV x2)] [] σ := by
  refine r_aload_n dX11_fullOf_0 rfl rfl ?_
  refine r_get (k := 45) (i := 0) (j := 6) (v := rV 50 0) rfl rfl ho45 rfl hX11 (by decide) rfl fX11_22 dX11_fullOf_1 (fun _ => rfl) ?_
  refine r_iload_n dX11_fullOf_4 rfl rfl ?_
  obtain ⟨q1, H⟩ := H
  refine r_iald (k := 50) (i := 0) rfl ho50 q1 dX11_fullOf_5 ?_
  refine r_aload_n dX11_fullOf_6 rfl rfl ?_
  refine r_get (k := 45) (i := 0) (j := 5) (v := rV 49 0) rfl rfl ho45 rfl hX11 (by decide) rfl fX11_19 dX11_fullOf_7 (fun _ => rfl) ?_
  refine r_iload_n dX11_fullOf_10 rfl rfl ?_
  refine r_iald (k := 49) (i := 0) rfl ho49 q1 dX11_fullOf_11 ?_
  refine r_imul dX11_fullOf_12 ?_
  refine r_aload_n dX11_fullOf_13 rfl rfl ?_
  refine r_get (k := 45) (i := 0) (j := 44) (v := rV 74 0) rfl rfl ho45 rfl hX11 (by decide) rfl fX11_99 dX11_fullOf_14 (fun _ => rfl) ?_
  refine r_bipush (v := (7 : Int32)) dX11_fullOf_17 rfl ?_
  refine r_iload_n dX11_fullOf_19 rfl rfl ?_
  refine r_imul dX11_fullOf_20 ?_
  refine r_iload_n dX11_fullOf_21 rfl rfl ?_
  refine r_iadd dX11_fullOf_22 ?_
  obtain ⟨q2, H⟩ := H
  refine r_iald (k := 74) (i := 0) rfl ho74 q2 dX11_fullOf_23 ?_
  refine r_iadd dX11_fullOf_24 ?_
  exact r_iret dX11_fullOf_25 rfl H
set_option maxRecDepth 100000 in
theorem bX11_higherBy_0 {d : Nat} {Q : Option MV → MS → Prop} {x1 : Int32} {x2 : Int32} {x3 : Int32} {σ : MS}  (H : (R mj_OM d mX11_fullOf (fun r σ' => R mj_OM (d + 1) mX11_higherBy Q 6 [some (rV 45 0), some (iV x1), some (iV x2), some (iV x3)] (r.toList ++ []) σ') 0 [some (rV 45 0), some (iV x1), some (iV x2)] [] σ)) : R mj_OM (d + 1) mX11_higherBy Q 0 [some (rV 45 0), some (iV x1), some (iV x2), some (iV x3)] [] σ := by
  refine r_aload_n dX11_higherBy_0 rfl rfl ?_
  refine r_iload_n dX11_higherBy_1 rfl rfl ?_
  refine r_iload_n dX11_higherBy_2 rfl rfl ?_
  refine r_callV (z := 0) (k := 45) (i := 0) (As := [iV x1, iV x2]) (st := []) kX11_fullOf i_X11_fullOf e_X11_fullOf lX11_346 dX11_higherBy_3 rfl rfl ho45 rfl rfl rfl rfl rfl (Nat.le_of_ble_eq_true rfl) ?_
  exact H
set_option maxRecDepth 100000 in
theorem bX11_higherBy_6 {d : Nat} {Q : Option MV → MS → Prop} {x1 : Int32} {x2 : Int32} {x3 : Int32} {s0 : Int32} {σ : MS}  (H : (vp_in x3 14 ∧ (R mj_OM d mX11_fullOf (fun r σ' => R mj_OM (d + 1) mX11_higherBy Q 19 [some (rV 45 0), some (iV x1), some (iV x2), some (iV x3)] (r.toList ++ [iV (s0 * (σ.1 49 0 ((x3).toNatClampNeg)))]) σ') 0 [some (rV 45 0), some (iV x1), some (iV x3)] [] σ))) : R mj_OM (d + 1) mX11_higherBy Q 6 [some (rV 45 0), some (iV x1), some (iV x2), some (iV x3)] [iV s0] σ := by
  refine r_aload_n dX11_higherBy_6 rfl rfl ?_
  refine r_get (k := 45) (i := 0) (j := 5) (v := rV 49 0) rfl rfl ho45 rfl hX11 (by decide) rfl fX11_19 dX11_higherBy_7 (fun _ => rfl) ?_
  refine r_iload_n dX11_higherBy_10 rfl rfl ?_
  obtain ⟨q1, H⟩ := H
  refine r_iald (k := 49) (i := 0) rfl ho49 q1 dX11_higherBy_11 ?_
  refine r_imul dX11_higherBy_12 ?_
  refine r_aload_n dX11_higherBy_13 rfl rfl ?_
  refine r_iload_n dX11_higherBy_14 rfl rfl ?_
  refine r_iload_n dX11_higherBy_15 rfl rfl ?_
  refine r_callV (z := 0) (k := 45) (i := 0) (As := [iV x1, iV x3]) (st := [iV (s0 * (σ.1 49 0 ((x3).toNatClampNeg)))]) kX11_fullOf i_X11_fullOf e_X11_fullOf lX11_346 dX11_higherBy_16 rfl rfl ho45 rfl rfl rfl rfl rfl (Nat.le_of_ble_eq_true rfl) ?_
  exact H
set_option maxRecDepth 100000 in
theorem bX11_higherBy_19 {d : Nat} {Q : Option MV → MS → Prop} {x1 : Int32} {x2 : Int32} {x3 : Int32} {s0 : Int32} {s1 : Int32} {σ : MS}  (H : (vp_in x2 14 ∧ Q (some (iV (s1 - (s0 * (σ.1 49 0 ((x2).toNatClampNeg)))))) σ)) : R mj_OM d mX11_higherBy Q 19 [some (rV 45 0), some (iV x1), some (iV x2), some (iV x3)] [iV s0, iV s1] σ := by
  refine r_aload_n dX11_higherBy_19 rfl rfl ?_
  refine r_get (k := 45) (i := 0) (j := 5) (v := rV 49 0) rfl rfl ho45 rfl hX11 (by decide) rfl fX11_19 dX11_higherBy_20 (fun _ => rfl) ?_
  refine r_iload_n dX11_higherBy_23 rfl rfl ?_
  obtain ⟨q1, H⟩ := H
  refine r_iald (k := 49) (i := 0) rfl ho49 q1 dX11_higherBy_24 ?_
  refine r_imul dX11_higherBy_25 ?_
  refine r_isub dX11_higherBy_26 ?_
  exact r_iret dX11_higherBy_27 rfl H
set_option maxRecDepth 100000 in
theorem bX11_isHigh_0 {d : Nat} {Q : Option MV → MS → Prop} {x1 : Int32} {x2 : Int32} {x3 : Int32} {σ : MS}  (H : (R mj_OM d mX11_fullOf (fun r σ' => R mj_OM (d + 1) mX11_isHigh Q 6 [some (rV 45 0), some (iV x1), some (iV x2), some (iV x3)] (r.toList ++ []) σ') 0 [some (rV 45 0), some (iV x1), some (iV x2)] [] σ)) : R mj_OM (d + 1) mX11_isHigh Q 0 [some (rV 45 0), some (iV x1), some (iV x2), some (iV x3)] [] σ := by
  refine r_aload_n dX11_isHigh_0 rfl rfl ?_
  refine r_iload_n dX11_isHigh_1 rfl rfl ?_
  refine r_iload_n dX11_isHigh_2 rfl rfl ?_
  refine r_callV (z := 0) (k := 45) (i := 0) (As := [iV x1, iV x2]) (st := []) kX11_fullOf i_X11_fullOf e_X11_fullOf lX11_346 dX11_isHigh_3 rfl rfl ho45 rfl rfl rfl rfl rfl (Nat.le_of_ble_eq_true rfl) ?_
  exact H
set_option maxRecDepth 100000 in
theorem bX11_isHigh_6 {d : Nat} {Q : Option MV → MS → Prop} {x1 : Int32} {x2 : Int32} {x3 : Int32} {s0 : Int32} {σ : MS}  (H : (vp_in x2 14 ∧ ((s0 < (x3 * (σ.1 49 0 ((x2).toNatClampNeg))) → Q (some (iV (0 : Int32))) σ) ∧ (¬ s0 < (x3 * (σ.1 49 0 ((x2).toNatClampNeg))) → Q (some (iV (1 : Int32))) σ)))) : R mj_OM d mX11_isHigh Q 6 [some (rV 45 0), some (iV x1), some (iV x2), some (iV x3)] [iV s0] σ := by
  refine r_iload_n dX11_isHigh_6 rfl rfl ?_
  refine r_aload_n dX11_isHigh_7 rfl rfl ?_
  refine r_get (k := 45) (i := 0) (j := 5) (v := rV 49 0) rfl rfl ho45 rfl hX11 (by decide) rfl fX11_19 dX11_isHigh_8 (fun _ => rfl) ?_
  refine r_iload_n dX11_isHigh_11 rfl rfl ?_
  obtain ⟨q1, H⟩ := H
  refine r_iald (k := 49) (i := 0) rfl ho49 q1 dX11_isHigh_12 ?_
  refine r_imul dX11_isHigh_13 ?_
  refine r_icmp_lt (tgt := 21) dX11_isHigh_14 (by decide) (fun c => ?_) (fun c => ?_)
  · have H := H.1 c
    refine r_iconst (v := (0 : Int32)) dX11_isHigh_21 rfl ?_
    exact r_zret dX11_isHigh_22 rfl (by decide) H
  · have H := H.2 c
    refine r_iconst (v := (1 : Int32)) dX11_isHigh_17 rfl ?_
    refine r_goto (tgt := 22) dX11_isHigh_18 (by decide) ?_
    exact r_zret dX11_isHigh_22 rfl (by decide) H
set_option maxRecDepth 100000 in
theorem bX11_sourceOf_0 {d : Nat} {Q : Option MV → MS → Prop} {x1 : Int32} {x2 : Int32} {σ : MS}  (H : (vp_in x2 20 ∧ (R mj_OM d mX11_higherBy (fun r σ' => R mj_OM (d + 1) mX11_sourceOf Q 17 [some (rV 45 0), some (iV x1), some (iV x2)] (r.toList ++ []) σ') 0 [some (rV 45 0), some (iV x1), some (iV (σ.1 56 0 ((x2).toNatClampNeg))), some (iV (σ.1 57 0 ((x2).toNatClampNeg)))] [] σ))) : R mj_OM (d + 1) mX11_sourceOf Q 0 [some (rV 45 0), some (iV x1), some (iV x2)] [] σ := by
  refine r_aload_n dX11_sourceOf_0 rfl rfl ?_
  refine r_iload_n dX11_sourceOf_1 rfl rfl ?_
  refine r_aload_n dX11_sourceOf_2 rfl rfl ?_
  refine r_get (k := 45) (i := 0) (j := 12) (v := rV 56 0) rfl rfl ho45 rfl hX11 (by decide) rfl fX11_40 dX11_sourceOf_3 (fun _ => rfl) ?_
  refine r_iload_n dX11_sourceOf_6 rfl rfl ?_
  obtain ⟨q1, H⟩ := H
  refine r_iald (k := 56) (i := 0) rfl ho56 q1 dX11_sourceOf_7 ?_
  refine r_aload_n dX11_sourceOf_8 rfl rfl ?_
  refine r_get (k := 45) (i := 0) (j := 13) (v := rV 57 0) rfl rfl ho45 rfl hX11 (by decide) rfl fX11_43 dX11_sourceOf_9 (fun _ => rfl) ?_
  refine r_iload_n dX11_sourceOf_12 rfl rfl ?_
  refine r_iald (k := 57) (i := 0) rfl ho57 q1 dX11_sourceOf_13 ?_
  refine r_callV (z := 0) (k := 45) (i := 0) (As := [iV x1, iV (σ.1 56 0 ((x2).toNatClampNeg)), iV (σ.1 57 0 ((x2).toNatClampNeg))]) (st := []) kX11_higherBy i_X11_higherBy e_X11_higherBy lX11_349 dX11_sourceOf_14 rfl rfl ho45 rfl rfl rfl rfl rfl (Nat.le_of_ble_eq_true rfl) ?_
  exact H
set_option maxRecDepth 100000 in
theorem bX11_sourceOf_17 {d : Nat} {Q : Option MV → MS → Prop} {x1 : Int32} {x2 : Int32} {s0 : Int32} {σ : MS}  (H : ((s0 < 0 → (vp_in x2 20 ∧ Q (some (iV (σ.1 57 0 ((x2).toNatClampNeg)))) σ)) ∧ (¬ s0 < 0 → (vp_in x2 20 ∧ Q (some (iV (σ.1 56 0 ((x2).toNatClampNeg)))) σ)))) : R mj_OM d mX11_sourceOf Q 17 [some (rV 45 0), some (iV x1), some (iV x2)] [iV s0] σ := by
  refine r_if_lt (tgt := 29) dX11_sourceOf_17 (by decide) (fun c => ?_) (fun c => ?_)
  · have H := H.1 c
    refine r_aload_n dX11_sourceOf_29 rfl rfl ?_
    refine r_get (k := 45) (i := 0) (j := 13) (v := rV 57 0) rfl rfl ho45 rfl hX11 (by decide) rfl fX11_43 dX11_sourceOf_30 (fun _ => rfl) ?_
    refine r_iload_n dX11_sourceOf_33 rfl rfl ?_
    obtain ⟨q1, H⟩ := H
    refine r_iald (k := 57) (i := 0) rfl ho57 q1 dX11_sourceOf_34 ?_
    exact r_iret dX11_sourceOf_35 rfl H
  · have H := H.2 c
    refine r_aload_n dX11_sourceOf_20 rfl rfl ?_
    refine r_get (k := 45) (i := 0) (j := 12) (v := rV 56 0) rfl rfl ho45 rfl hX11 (by decide) rfl fX11_40 dX11_sourceOf_21 (fun _ => rfl) ?_
    refine r_iload_n dX11_sourceOf_24 rfl rfl ?_
    obtain ⟨q2, H⟩ := H
    refine r_iald (k := 56) (i := 0) rfl ho56 q2 dX11_sourceOf_25 ?_
    refine r_goto (tgt := 35) dX11_sourceOf_26 (by decide) ?_
    exact r_iret dX11_sourceOf_35 rfl H
set_option maxRecDepth 100000 in
theorem bX11_sinkOf_0 {d : Nat} {Q : Option MV → MS → Prop} {x1 : Int32} {x2 : Int32} {σ : MS}  (H : (R mj_OM d mX11_sourceOf (fun r σ' => R mj_OM (d + 1) mX11_sinkOf Q 6 [some (rV 45 0), some (iV x1), some (iV x2)] (r.toList ++ []) σ') 0 [some (rV 45 0), some (iV x1), some (iV x2)] [] σ)) : R mj_OM (d + 1) mX11_sinkOf Q 0 [some (rV 45 0), some (iV x1), some (iV x2)] [] σ := by
  refine r_aload_n dX11_sinkOf_0 rfl rfl ?_
  refine r_iload_n dX11_sinkOf_1 rfl rfl ?_
  refine r_iload_n dX11_sinkOf_2 rfl rfl ?_
  refine r_callV (z := 0) (k := 45) (i := 0) (As := [iV x1, iV x2]) (st := []) kX11_sourceOf i_X11_sourceOf e_X11_sourceOf lX11_353 dX11_sinkOf_3 rfl rfl ho45 rfl rfl rfl rfl rfl (Nat.le_of_ble_eq_true rfl) ?_
  exact H
set_option maxRecDepth 100000 in
theorem bX11_sinkOf_6 {d : Nat} {Q : Option MV → MS → Prop} {x1 : Int32} {x2 : Int32} {s0 : Int32} {σ : MS}  (H : (vp_in x2 20 ∧ ((¬ s0 = (σ.1 56 0 ((x2).toNatClampNeg)) → Q (some (iV (σ.1 56 0 ((x2).toNatClampNeg)))) σ) ∧ (s0 = (σ.1 56 0 ((x2).toNatClampNeg)) → Q (some (iV (σ.1 57 0 ((x2).toNatClampNeg)))) σ)))) : R mj_OM d mX11_sinkOf Q 6 [some (rV 45 0), some (iV x1), some (iV x2)] [iV s0] σ := by
  refine r_aload_n dX11_sinkOf_6 rfl rfl ?_
  refine r_get (k := 45) (i := 0) (j := 12) (v := rV 56 0) rfl rfl ho45 rfl hX11 (by decide) rfl fX11_40 dX11_sinkOf_7 (fun _ => rfl) ?_
  refine r_iload_n dX11_sinkOf_10 rfl rfl ?_
  obtain ⟨q1, H⟩ := H
  refine r_iald (k := 56) (i := 0) rfl ho56 q1 dX11_sinkOf_11 ?_
  refine r_icmp_ne (tgt := 24) dX11_sinkOf_12 (by decide) (fun c => ?_) (fun c => ?_)
  · have H := H.1 c
    refine r_aload_n dX11_sinkOf_24 rfl rfl ?_
    refine r_get (k := 45) (i := 0) (j := 12) (v := rV 56 0) rfl rfl ho45 rfl hX11 (by decide) rfl fX11_40 dX11_sinkOf_25 (fun _ => rfl) ?_
    refine r_iload_n dX11_sinkOf_28 rfl rfl ?_
    refine r_iald (k := 56) (i := 0) rfl ho56 q1 dX11_sinkOf_29 ?_
    exact r_iret dX11_sinkOf_30 rfl H
  · have H := H.2 c
    refine r_aload_n dX11_sinkOf_15 rfl rfl ?_
    refine r_get (k := 45) (i := 0) (j := 13) (v := rV 57 0) rfl rfl ho45 rfl hX11 (by decide) rfl fX11_43 dX11_sinkOf_16 (fun _ => rfl) ?_
    refine r_iload_n dX11_sinkOf_19 rfl rfl ?_
    refine r_iald (k := 57) (i := 0) rfl ho57 q1 dX11_sinkOf_20 ?_
    refine r_goto (tgt := 30) dX11_sinkOf_21 (by decide) ?_
    exact r_iret dX11_sinkOf_30 rfl H
set_option maxRecDepth 100000 in
theorem bX11_runOf_0 {d : Nat} {Q : Option MV → MS → Prop} {x1 : Int32} {x2 : Int32} {σ : MS}  (H : (R mj_OM d mX11_sourceOf (fun r σ' => R mj_OM (d + 1) mX11_runOf Q 6 [some (rV 45 0), some (iV x1), some (iV x2), none, none] (r.toList ++ []) σ') 0 [some (rV 45 0), some (iV x1), some (iV x2)] [] σ)) : R mj_OM (d + 1) mX11_runOf Q 0 [some (rV 45 0), some (iV x1), some (iV x2), none, none] [] σ := by
  refine r_aload_n dX11_runOf_0 rfl rfl ?_
  refine r_iload_n dX11_runOf_1 rfl rfl ?_
  refine r_iload_n dX11_runOf_2 rfl rfl ?_
  refine r_callV (z := 0) (k := 45) (i := 0) (As := [iV x1, iV x2]) (st := []) kX11_sourceOf i_X11_sourceOf e_X11_sourceOf lX11_353 dX11_runOf_3 rfl rfl ho45 rfl rfl rfl rfl rfl (Nat.le_of_ble_eq_true rfl) ?_
  exact H
set_option maxRecDepth 100000 in
theorem bX11_runOf_6 {d : Nat} {Q : Option MV → MS → Prop} {x1 : Int32} {x2 : Int32} {s0 : Int32} {σ : MS}  (H : (R mj_OM d mX11_sinkOf (fun r σ' => R mj_OM (d + 1) mX11_runOf Q 13 [some (rV 45 0), some (iV x1), some (iV x2), some (iV s0), none] (r.toList ++ []) σ') 0 [some (rV 45 0), some (iV x1), some (iV x2)] [] σ)) : R mj_OM (d + 1) mX11_runOf Q 6 [some (rV 45 0), some (iV x1), some (iV x2), none, none] [iV s0] σ := by
  refine r_istore_n dX11_runOf_6 rfl (by decide) rfl ?_
  refine r_aload_n dX11_runOf_7 rfl rfl ?_
  refine r_iload_n dX11_runOf_8 rfl rfl ?_
  refine r_iload_n dX11_runOf_9 rfl rfl ?_
  refine r_callV (z := 0) (k := 45) (i := 0) (As := [iV x1, iV x2]) (st := []) kX11_sinkOf i_X11_sinkOf e_X11_sinkOf lX11_356 dX11_runOf_10 rfl rfl ho45 rfl rfl rfl rfl rfl (Nat.le_of_ble_eq_true rfl) ?_
  exact H
set_option maxRecDepth 100000 in
theorem bX11_runOf_13 {d : Nat} {Q : Option MV → MS → Prop} {x1 : Int32} {x2 : Int32} {x3 : Int32} {s0 : Int32} {σ : MS}  (H : (vp_in (((7 : Int32) * x1) + x3) 161 ∧ (R mj_OM d mX11_higherBy (fun r σ' => R mj_OM (d + 1) mX11_runOf Q 34 [some (rV 45 0), some (iV x1), some (iV x2), some (iV x3), some (iV s0)] (r.toList ++ [iV (σ.1 74 0 (((((7 : Int32) * x1) + x3)).toNatClampNeg))]) σ') 0 [some (rV 45 0), some (iV x1), some (iV x3), some (iV s0)] [] σ))) : R mj_OM (d + 1) mX11_runOf Q 13 [some (rV 45 0), some (iV x1), some (iV x2), some (iV x3), none] [iV s0] σ := by
  refine r_istore dX11_runOf_13 (by decide) rfl ?_
  refine r_aload_n dX11_runOf_15 rfl rfl ?_
  refine r_get (k := 45) (i := 0) (j := 44) (v := rV 74 0) rfl rfl ho45 rfl hX11 (by decide) rfl fX11_99 dX11_runOf_16 (fun _ => rfl) ?_
  refine r_bipush (v := (7 : Int32)) dX11_runOf_19 rfl ?_
  refine r_iload_n dX11_runOf_21 rfl rfl ?_
  refine r_imul dX11_runOf_22 ?_
  refine r_iload_n dX11_runOf_23 rfl rfl ?_
  refine r_iadd dX11_runOf_24 ?_
  obtain ⟨q1, H⟩ := H
  refine r_iald (k := 74) (i := 0) rfl ho74 q1 dX11_runOf_25 ?_
  refine r_aload_n dX11_runOf_26 rfl rfl ?_
  refine r_iload_n dX11_runOf_27 rfl rfl ?_
  refine r_iload_n dX11_runOf_28 rfl rfl ?_
  refine r_iload dX11_runOf_29 rfl ?_
  refine r_callV (z := 0) (k := 45) (i := 0) (As := [iV x1, iV x3, iV s0]) (st := [iV (σ.1 74 0 (((((7 : Int32) * x1) + x3)).toNatClampNeg))]) kX11_higherBy i_X11_higherBy e_X11_higherBy lX11_349 dX11_runOf_31 rfl rfl ho45 rfl rfl rfl rfl rfl (Nat.le_of_ble_eq_true rfl) ?_
  exact H
set_option maxRecDepth 100000 in
theorem bX11_runOf_34 {d : Nat} {Q : Option MV → MS → Prop} {x1 : Int32} {x2 : Int32} {x3 : Int32} {x4 : Int32} {s0 : Int32} {s1 : Int32} {σ : MS}  (H : (vp_in x3 14 ∧ vp_in x4 14 ∧ (¬ ((σ.1 49 0 ((x3).toNatClampNeg)) + (σ.1 49 0 ((x4).toNatClampNeg))) = 0) ∧ Q (some (iV (if (s0 / ((σ.1 49 0 ((x3).toNatClampNeg)) + (σ.1 49 0 ((x4).toNatClampNeg)))) < s1 then (s0 / ((σ.1 49 0 ((x3).toNatClampNeg)) + (σ.1 49 0 ((x4).toNatClampNeg)))) else s1))) σ)) : R mj_OM (d + 1) mX11_runOf Q 34 [some (rV 45 0), some (iV x1), some (iV x2), some (iV x3), some (iV x4)] [iV s0, iV s1] σ := by
  refine r_aload_n dX11_runOf_34 rfl rfl ?_
  refine r_get (k := 45) (i := 0) (j := 5) (v := rV 49 0) rfl rfl ho45 rfl hX11 (by decide) rfl fX11_19 dX11_runOf_35 (fun _ => rfl) ?_
  refine r_iload_n dX11_runOf_38 rfl rfl ?_
  obtain ⟨q1, H⟩ := H
  refine r_iald (k := 49) (i := 0) rfl ho49 q1 dX11_runOf_39 ?_
  refine r_aload_n dX11_runOf_40 rfl rfl ?_
  refine r_get (k := 45) (i := 0) (j := 5) (v := rV 49 0) rfl rfl ho45 rfl hX11 (by decide) rfl fX11_19 dX11_runOf_41 (fun _ => rfl) ?_
  refine r_iload dX11_runOf_44 rfl ?_
  obtain ⟨q2, H⟩ := H
  refine r_iald (k := 49) (i := 0) rfl ho49 q2 dX11_runOf_46 ?_
  refine r_iadd dX11_runOf_47 ?_
  obtain ⟨q3, H⟩ := H
  refine r_idiv dX11_runOf_48 q3 ?_
  refine r_mmin lX11_359 dX11_runOf_49 (Nat.le_of_ble_eq_true rfl) ?_
  exact r_iret dX11_runOf_52 rfl H
set_option maxRecDepth 100000 in
theorem bX11_flows_0 {d : Nat} {Q : Option MV → MS → Prop} {x1 : Int32} {x2 : Int32} {x3 : Int32} {σ : MS}  (H : (R mj_OM d mX11_runOf (fun r σ' => R mj_OM (d + 1) mX11_flows Q 7 [some (rV 45 0), some (iV x1), some (iV x2), some (iV x3), none, none, none] (r.toList ++ [iV x3]) σ') 0 [some (rV 45 0), some (iV x1), some (iV x2), none, none] [] σ)) : R mj_OM (d + 1) mX11_flows Q 0 [some (rV 45 0), some (iV x1), some (iV x2), some (iV x3), none, none, none] [] σ := by
  refine r_iload_n dX11_flows_0 rfl rfl ?_
  refine r_aload_n dX11_flows_1 rfl rfl ?_
  refine r_iload_n dX11_flows_2 rfl rfl ?_
  refine r_iload_n dX11_flows_3 rfl rfl ?_
  refine r_callV (z := 2) (k := 45) (i := 0) (As := [iV x1, iV x2]) (st := [iV x3]) kX11_runOf i_X11_runOf e_X11_runOf lX11_362 dX11_flows_4 rfl rfl ho45 rfl rfl rfl rfl rfl (Nat.le_of_ble_eq_true rfl) ?_
  exact H
set_option maxRecDepth 100000 in
theorem bX11_flows_7 {d : Nat} {Q : Option MV → MS → Prop} {x1 : Int32} {x2 : Int32} {x3 : Int32} {s0 : Int32} {s1 : Int32} {σ : MS}  (H : (R mj_OM d mX11_sourceOf (fun r σ' => R mj_OM (d + 1) mX11_flows Q 18 [some (rV 45 0), some (iV x1), some (iV x2), some (iV x3), some (iV (if s0 < s1 then s0 else s1)), none, none] (r.toList ++ []) σ') 0 [some (rV 45 0), some (iV x1), some (iV x2)] [] σ)) : R mj_OM (d + 1) mX11_flows Q 7 [some (rV 45 0), some (iV x1), some (iV x2), some (iV x3), none, none, none] [iV s0, iV s1] σ := by
  refine r_mmin lX11_359 dX11_flows_7 (Nat.le_of_ble_eq_true rfl) ?_
  refine r_istore dX11_flows_10 (by decide) rfl ?_
  refine r_aload_n dX11_flows_12 rfl rfl ?_
  refine r_iload_n dX11_flows_13 rfl rfl ?_
  refine r_iload_n dX11_flows_14 rfl rfl ?_
  refine r_callV (z := 0) (k := 45) (i := 0) (As := [iV x1, iV x2]) (st := []) kX11_sourceOf i_X11_sourceOf e_X11_sourceOf lX11_353 dX11_flows_15 rfl rfl ho45 rfl rfl rfl rfl rfl (Nat.le_of_ble_eq_true rfl) ?_
  exact H
set_option maxRecDepth 100000 in
theorem bX11_flows_18 {d : Nat} {Q : Option MV → MS → Prop} {x1 : Int32} {x2 : Int32} {x3 : Int32} {x4 : Int32} {s0 : Int32} {σ : MS}  (H : (R mj_OM d mX11_sinkOf (fun r σ' => R mj_OM (d + 1) mX11_flows Q 26 [some (rV 45 0), some (iV x1), some (iV x2), some (iV x3), some (iV x4), some (iV s0), none] (r.toList ++ []) σ') 0 [some (rV 45 0), some (iV x1), some (iV x2)] [] σ)) : R mj_OM (d + 1) mX11_flows Q 18 [some (rV 45 0), some (iV x1), some (iV x2), some (iV x3), some (iV x4), none, none] [iV s0] σ := by
  refine r_istore dX11_flows_18 (by decide) rfl ?_
  refine r_aload_n dX11_flows_20 rfl rfl ?_
  refine r_iload_n dX11_flows_21 rfl rfl ?_
  refine r_iload_n dX11_flows_22 rfl rfl ?_
  refine r_callV (z := 0) (k := 45) (i := 0) (As := [iV x1, iV x2]) (st := []) kX11_sinkOf i_X11_sinkOf e_X11_sinkOf lX11_356 dX11_flows_23 rfl rfl ho45 rfl rfl rfl rfl rfl (Nat.le_of_ble_eq_true rfl) ?_
  exact H
set_option maxRecDepth 100000 in
theorem bX11_flows_26 {d : Nat} {Q : Option MV → MS → Prop} {x1 : Int32} {x2 : Int32} {x3 : Int32} {x4 : Int32} {x5 : Int32} {s0 : Int32} {σ : MS}  (H : (vp_in (((7 : Int32) * x1) + x5) 161 ∧ vp_in (((7 : Int32) * x1) + s0) 161 ∧ Q (some (iV x4)) (uI (uI σ 74 0 (((((7 : Int32) * x1) + x5)).toNatClampNeg) ((σ.1 74 0 (((((7 : Int32) * x1) + x5)).toNatClampNeg)) - x4)) 74 0 (((((7 : Int32) * x1) + s0)).toNatClampNeg) (((uI σ 74 0 (((((7 : Int32) * x1) + x5)).toNatClampNeg) ((σ.1 74 0 (((((7 : Int32) * x1) + x5)).toNatClampNeg)) - x4)).1 74 0 (((((7 : Int32) * x1) + s0)).toNatClampNeg)) + x4)))) : R mj_OM d mX11_flows Q 26 [some (rV 45 0), some (iV x1), some (iV x2), some (iV x3), some (iV x4), some (iV x5), none] [iV s0] σ := by
  refine r_istore dX11_flows_26 (by decide) rfl ?_
  refine r_aload_n dX11_flows_28 rfl rfl ?_
  refine r_get (k := 45) (i := 0) (j := 44) (v := rV 74 0) rfl rfl ho45 rfl hX11 (by decide) rfl fX11_99 dX11_flows_29 (fun _ => rfl) ?_
  refine r_bipush (v := (7 : Int32)) dX11_flows_32 rfl ?_
  refine r_iload_n dX11_flows_34 rfl rfl ?_
  refine r_imul dX11_flows_35 ?_
  refine r_iload dX11_flows_36 rfl ?_
  refine r_iadd dX11_flows_38 ?_
  refine r_dup2_ri dX11_flows_39 ?_
  obtain ⟨q1, H⟩ := H
  refine r_iald (k := 74) (i := 0) rfl ho74 q1 dX11_flows_40 ?_
  refine r_iload dX11_flows_41 rfl ?_
  refine r_isub dX11_flows_43 ?_
  refine r_iast (k := 74) (i := 0) rfl ho74 q1 dX11_flows_44 ?_
  refine r_aload_n dX11_flows_45 rfl rfl ?_
  refine r_get (k := 45) (i := 0) (j := 44) (v := rV 74 0) rfl rfl ho45 rfl hX11 (by decide) rfl fX11_99 dX11_flows_46 (fun _ => rfl) ?_
  refine r_bipush (v := (7 : Int32)) dX11_flows_49 rfl ?_
  refine r_iload_n dX11_flows_51 rfl rfl ?_
  refine r_imul dX11_flows_52 ?_
  refine r_iload dX11_flows_53 rfl ?_
  refine r_iadd dX11_flows_55 ?_
  refine r_dup2_ri dX11_flows_56 ?_
  obtain ⟨q2, H⟩ := H
  refine r_iald (k := 74) (i := 0) rfl ho74 q2 dX11_flows_57 ?_
  refine r_iload dX11_flows_58 rfl ?_
  refine r_iadd dX11_flows_60 ?_
  refine r_iast (k := 74) (i := 0) rfl ho74 q2 dX11_flows_61 ?_
  refine r_iload dX11_flows_62 rfl ?_
  exact r_iret dX11_flows_64 rfl H
set_option maxRecDepth 100000 in
theorem bX11_isJammed_0 {d : Nat} {Q : Option MV → MS → Prop} {x1 : Int32} {x2 : Int32} {σ : MS}  (H : (vp_in x1 23 ∧ ((¬ (((σ.1 73 0 ((x1).toNatClampNeg)) >>> (x2 &&& 31)) &&& (1 : Int32)) = (1 : Int32) → Q (some (iV (0 : Int32))) σ) ∧ ((((σ.1 73 0 ((x1).toNatClampNeg)) >>> (x2 &&& 31)) &&& (1 : Int32)) = (1 : Int32) → Q (some (iV (1 : Int32))) σ)))) : R mj_OM d mX11_isJammed Q 0 [some (rV 45 0), some (iV x1), some (iV x2)] [] σ := by
  refine r_aload_n dX11_isJammed_0 rfl rfl ?_
  refine r_get (k := 45) (i := 0) (j := 43) (v := rV 73 0) rfl rfl ho45 rfl hX11 (by decide) rfl fX11_96 dX11_isJammed_1 (fun _ => rfl) ?_
  refine r_iload_n dX11_isJammed_4 rfl rfl ?_
  obtain ⟨q1, H⟩ := H
  refine r_iald (k := 73) (i := 0) rfl ho73 q1 dX11_isJammed_5 ?_
  refine r_iload_n dX11_isJammed_6 rfl rfl ?_
  refine r_ishr dX11_isJammed_7 ?_
  refine r_iconst (v := (1 : Int32)) dX11_isJammed_8 rfl ?_
  refine r_iand dX11_isJammed_9 ?_
  refine r_iconst (v := (1 : Int32)) dX11_isJammed_10 rfl ?_
  refine r_icmp_ne (tgt := 18) dX11_isJammed_11 (by decide) (fun c => ?_) (fun c => ?_)
  · have H := H.1 c
    refine r_iconst (v := (0 : Int32)) dX11_isJammed_18 rfl ?_
    exact r_zret dX11_isJammed_19 rfl (by decide) H
  · have H := H.2 c
    refine r_iconst (v := (1 : Int32)) dX11_isJammed_14 rfl ?_
    refine r_goto (tgt := 19) dX11_isJammed_15 (by decide) ?_
    exact r_zret dX11_isJammed_19 rfl (by decide) H
set_option maxRecDepth 100000 in
theorem bX11_isTurned_0 {d : Nat} {Q : Option MV → MS → Prop} {x1 : Int32} {x2 : Int32} {σ : MS}  (H : R mj_OM d mX11_isTurned Q 2 [some (rV 45 0), some (iV x1), some (iV x2), some (iV (0 : Int32))] [] σ) : R mj_OM d mX11_isTurned Q 0 [some (rV 45 0), some (iV x1), some (iV x2), none] [] σ := by
  refine r_iconst (v := (0 : Int32)) dX11_isTurned_0 rfl ?_
  refine r_istore_n dX11_isTurned_1 rfl (by decide) rfl ?_
  exact H
set_option maxRecDepth 100000 in
theorem bX11_isTurned_2 {d : Nat} {Q : Option MV → MS → Prop} {x1 : Int32} {x2 : Int32} {x3 : Int32} {σ : MS}  (H : (vp_in (3 : Int32) 18 ∧ (((σ.1 47 0 3) ≤ x3 → Q (some (iV (0 : Int32))) σ) ∧ (¬ (σ.1 47 0 3) ≤ x3 → (vp_in x3 24 ∧ ((¬ (σ.1 59 0 ((x3).toNatClampNeg)) = x2 → R mj_OM d mX11_isTurned Q 2 [some (rV 45 0), some (iV x1), some (iV x2), some (iV (x3 + (1 : Int32)))] [] σ) ∧ ((σ.1 59 0 ((x3).toNatClampNeg)) = x2 → (vp_in x1 23 ∧ (((σ.1 70 0 ((x1).toNatClampNeg)) < (σ.1 60 0 ((x3).toNatClampNeg)) → R mj_OM d mX11_isTurned Q 2 [some (rV 45 0), some (iV x1), some (iV x2), some (iV (x3 + (1 : Int32)))] [] σ) ∧ (¬ (σ.1 70 0 ((x1).toNatClampNeg)) < (σ.1 60 0 ((x3).toNatClampNeg)) → ((((σ.1 60 0 ((x3).toNatClampNeg)) + (σ.1 61 0 ((x3).toNatClampNeg))) ≤ (σ.1 70 0 ((x1).toNatClampNeg)) → R mj_OM d mX11_isTurned Q 2 [some (rV 45 0), some (iV x1), some (iV x2), some (iV (x3 + (1 : Int32)))] [] σ) ∧ (¬ ((σ.1 60 0 ((x3).toNatClampNeg)) + (σ.1 61 0 ((x3).toNatClampNeg))) ≤ (σ.1 70 0 ((x1).toNatClampNeg)) → Q (some (iV (1 : Int32))) σ)))))))))))) : R mj_OM d mX11_isTurned Q 2 [some (rV 45 0), some (iV x1), some (iV x2), some (iV x3)] [] σ := by
  refine r_iload_n dX11_isTurned_2 rfl rfl ?_
  refine r_aload_n dX11_isTurned_3 rfl rfl ?_
  refine r_get (k := 45) (i := 0) (j := 3) (v := rV 47 0) rfl rfl ho45 rfl hX11 (by decide) rfl fX11_13 dX11_isTurned_4 (fun _ => rfl) ?_
  refine r_iconst (v := (3 : Int32)) dX11_isTurned_7 rfl ?_
  obtain ⟨q1, H⟩ := H
  refine r_iald (k := 47) (i := 0) rfl ho47 q1 dX11_isTurned_8 ?_
  refine r_icmp_ge (tgt := 67) dX11_isTurned_9 (by decide) (fun c => ?_) (fun c => ?_)
  · have H := H.1 c
    refine r_iconst (v := (0 : Int32)) dX11_isTurned_67 rfl ?_
    exact r_zret dX11_isTurned_68 rfl (by decide) H
  · have H := H.2 c
    refine r_aload_n dX11_isTurned_12 rfl rfl ?_
    refine r_get (k := 45) (i := 0) (j := 15) (v := rV 59 0) rfl rfl ho45 rfl hX11 (by decide) rfl fX11_49 dX11_isTurned_13 (fun _ => rfl) ?_
    refine r_iload_n dX11_isTurned_16 rfl rfl ?_
    obtain ⟨q2, H⟩ := H
    refine r_iald (k := 59) (i := 0) rfl ho59 q2 dX11_isTurned_17 ?_
    refine r_iload_n dX11_isTurned_18 rfl rfl ?_
    refine r_icmp_ne (tgt := 61) dX11_isTurned_19 (by decide) (fun c => ?_) (fun c => ?_)
    · have H := H.1 c
      refine r_iinc (v := x3 + (1 : Int32)) dX11_isTurned_61 rfl rfl (by decide) rfl ?_
      refine r_goto (tgt := 2) dX11_isTurned_64 (by decide) ?_
      exact H
    · have H := H.2 c
      refine r_aload_n dX11_isTurned_22 rfl rfl ?_
      refine r_get (k := 45) (i := 0) (j := 40) (v := rV 70 0) rfl rfl ho45 rfl hX11 (by decide) rfl fX11_87 dX11_isTurned_23 (fun _ => rfl) ?_
      refine r_iload_n dX11_isTurned_26 rfl rfl ?_
      obtain ⟨q3, H⟩ := H
      refine r_iald (k := 70) (i := 0) rfl ho70 q3 dX11_isTurned_27 ?_
      refine r_aload_n dX11_isTurned_28 rfl rfl ?_
      refine r_get (k := 45) (i := 0) (j := 16) (v := rV 60 0) rfl rfl ho45 rfl hX11 (by decide) rfl fX11_52 dX11_isTurned_29 (fun _ => rfl) ?_
      refine r_iload_n dX11_isTurned_32 rfl rfl ?_
      refine r_iald (k := 60) (i := 0) rfl ho60 q2 dX11_isTurned_33 ?_
      refine r_icmp_lt (tgt := 61) dX11_isTurned_34 (by decide) (fun c => ?_) (fun c => ?_)
      · have H := H.1 c
        refine r_iinc (v := x3 + (1 : Int32)) dX11_isTurned_61 rfl rfl (by decide) rfl ?_
        refine r_goto (tgt := 2) dX11_isTurned_64 (by decide) ?_
        exact H
      · have H := H.2 c
        refine r_aload_n dX11_isTurned_37 rfl rfl ?_
        refine r_get (k := 45) (i := 0) (j := 40) (v := rV 70 0) rfl rfl ho45 rfl hX11 (by decide) rfl fX11_87 dX11_isTurned_38 (fun _ => rfl) ?_
        refine r_iload_n dX11_isTurned_41 rfl rfl ?_
        refine r_iald (k := 70) (i := 0) rfl ho70 q3 dX11_isTurned_42 ?_
        refine r_aload_n dX11_isTurned_43 rfl rfl ?_
        refine r_get (k := 45) (i := 0) (j := 16) (v := rV 60 0) rfl rfl ho45 rfl hX11 (by decide) rfl fX11_52 dX11_isTurned_44 (fun _ => rfl) ?_
        refine r_iload_n dX11_isTurned_47 rfl rfl ?_
        refine r_iald (k := 60) (i := 0) rfl ho60 q2 dX11_isTurned_48 ?_
        refine r_aload_n dX11_isTurned_49 rfl rfl ?_
        refine r_get (k := 45) (i := 0) (j := 17) (v := rV 61 0) rfl rfl ho45 rfl hX11 (by decide) rfl fX11_55 dX11_isTurned_50 (fun _ => rfl) ?_
        refine r_iload_n dX11_isTurned_53 rfl rfl ?_
        refine r_iald (k := 61) (i := 0) rfl ho61 q2 dX11_isTurned_54 ?_
        refine r_iadd dX11_isTurned_55 ?_
        refine r_icmp_ge (tgt := 61) dX11_isTurned_56 (by decide) (fun c => ?_) (fun c => ?_)
        · have H := H.1 c
          refine r_iinc (v := x3 + (1 : Int32)) dX11_isTurned_61 rfl rfl (by decide) rfl ?_
          refine r_goto (tgt := 2) dX11_isTurned_64 (by decide) ?_
          exact H
        · have H := H.2 c
          refine r_iconst (v := (1 : Int32)) dX11_isTurned_59 rfl ?_
          exact r_zret dX11_isTurned_60 rfl (by decide) H
set_option maxRecDepth 100000 in
theorem bX11_isOpen_0 {d : Nat} {Q : Option MV → MS → Prop} {x1 : Int32} {x2 : Int32} {σ : MS}  (H : ((¬ (σ.1 45 0 49) = (4 : Int32) → ((¬ (σ.1 45 0 49) = (2 : Int32) → (R mj_OM d mX11_isJammed (fun r σ' => R mj_OM (d + 1) mX11_isOpen Q 32 [some (rV 45 0), some (iV x1), some (iV x2)] (r.toList ++ []) σ') 0 [some (rV 45 0), some (iV x1), some (iV x2)] [] σ)) ∧ ((σ.1 45 0 49) = (2 : Int32) → ((x2 = (σ.1 45 0 50) → Q (some (iV (0 : Int32))) σ) ∧ (¬ x2 = (σ.1 45 0 50) → (R mj_OM d mX11_isJammed (fun r σ' => R mj_OM (d + 1) mX11_isOpen Q 32 [some (rV 45 0), some (iV x1), some (iV x2)] (r.toList ++ []) σ') 0 [some (rV 45 0), some (iV x1), some (iV x2)] [] σ)))))) ∧ ((σ.1 45 0 49) = (4 : Int32) → Q (some (iV (1 : Int32))) σ))) : R mj_OM (d + 1) mX11_isOpen Q 0 [some (rV 45 0), some (iV x1), some (iV x2)] [] σ := by
  refine r_aload_n dX11_isOpen_0 rfl rfl ?_
  refine r_get (k := 45) (i := 0) (j := 49) (v := iV (σ.1 45 0 49)) rfl rfl ho45 rfl hX11 (by decide) rfl fX11_365 dX11_isOpen_1 (fun _ => rfl) ?_
  refine r_iconst (v := (4 : Int32)) dX11_isOpen_4 rfl ?_
  refine r_icmp_ne (tgt := 10) dX11_isOpen_5 (by decide) (fun c => ?_) (fun c => ?_)
  · have H := H.1 c
    refine r_aload_n dX11_isOpen_10 rfl rfl ?_
    refine r_get (k := 45) (i := 0) (j := 49) (v := iV (σ.1 45 0 49)) rfl rfl ho45 rfl hX11 (by decide) rfl fX11_365 dX11_isOpen_11 (fun _ => rfl) ?_
    refine r_iconst (v := (2 : Int32)) dX11_isOpen_14 rfl ?_
    refine r_icmp_ne (tgt := 26) dX11_isOpen_15 (by decide) (fun c => ?_) (fun c => ?_)
    · have H := H.1 c
      refine r_aload_n dX11_isOpen_26 rfl rfl ?_
      refine r_iload_n dX11_isOpen_27 rfl rfl ?_
      refine r_iload_n dX11_isOpen_28 rfl rfl ?_
      refine r_callV (z := 0) (k := 45) (i := 0) (As := [iV x1, iV x2]) (st := []) kX11_isJammed i_X11_isJammed e_X11_isJammed lX11_368 dX11_isOpen_29 rfl rfl ho45 rfl rfl rfl rfl rfl (Nat.le_of_ble_eq_true rfl) ?_
      exact H
    · have H := H.2 c
      refine r_iload_n dX11_isOpen_18 rfl rfl ?_
      refine r_aload_n dX11_isOpen_19 rfl rfl ?_
      refine r_get (k := 45) (i := 0) (j := 50) (v := iV (σ.1 45 0 50)) rfl rfl ho45 rfl hX11 (by decide) rfl fX11_108 dX11_isOpen_20 (fun _ => rfl) ?_
      refine r_icmp_eq (tgt := 48) dX11_isOpen_23 (by decide) (fun c => ?_) (fun c => ?_)
      · have H := H.1 c
        refine r_iconst (v := (0 : Int32)) dX11_isOpen_48 rfl ?_
        exact r_zret dX11_isOpen_49 rfl (by decide) H
      · have H := H.2 c
        refine r_aload_n dX11_isOpen_26 rfl rfl ?_
        refine r_iload_n dX11_isOpen_27 rfl rfl ?_
        refine r_iload_n dX11_isOpen_28 rfl rfl ?_
        refine r_callV (z := 0) (k := 45) (i := 0) (As := [iV x1, iV x2]) (st := []) kX11_isJammed i_X11_isJammed e_X11_isJammed lX11_368 dX11_isOpen_29 rfl rfl ho45 rfl rfl rfl rfl rfl (Nat.le_of_ble_eq_true rfl) ?_
        exact H
  · have H := H.2 c
    refine r_iconst (v := (1 : Int32)) dX11_isOpen_8 rfl ?_
    exact r_zret dX11_isOpen_9 rfl (by decide) H
set_option maxRecDepth 100000 in
theorem bX11_isOpen_32 {d : Nat} {Q : Option MV → MS → Prop} {x1 : Int32} {x2 : Int32} {s0 : Int32} {σ : MS}  (H : ((¬ s0 = 0 → Q (some (iV (0 : Int32))) σ) ∧ (s0 = 0 → (R mj_OM d mX11_isTurned (fun r σ' => R mj_OM (d + 1) mX11_isOpen Q 41 [some (rV 45 0), some (iV x1), some (iV x2)] (r.toList ++ []) σ') 0 [some (rV 45 0), some (iV x1), some (iV x2), none] [] σ)))) : R mj_OM (d + 1) mX11_isOpen Q 32 [some (rV 45 0), some (iV x1), some (iV x2)] [iV s0] σ := by
  refine r_if_ne (tgt := 48) dX11_isOpen_32 (by decide) (fun c => ?_) (fun c => ?_)
  · have H := H.1 c
    refine r_iconst (v := (0 : Int32)) dX11_isOpen_48 rfl ?_
    exact r_zret dX11_isOpen_49 rfl (by decide) H
  · have H := H.2 c
    refine r_aload_n dX11_isOpen_35 rfl rfl ?_
    refine r_iload_n dX11_isOpen_36 rfl rfl ?_
    refine r_iload_n dX11_isOpen_37 rfl rfl ?_
    refine r_callV (z := 1) (k := 45) (i := 0) (As := [iV x1, iV x2]) (st := []) kX11_isTurned i_X11_isTurned e_X11_isTurned lX11_372 dX11_isOpen_38 rfl rfl ho45 rfl rfl rfl rfl rfl (Nat.le_of_ble_eq_true rfl) ?_
    exact H
set_option maxRecDepth 100000 in
theorem bX11_isOpen_41 {d : Nat} {Q : Option MV → MS → Prop} {x1 : Int32} {x2 : Int32} {s0 : Int32} {σ : MS}  (H : ((s0 = 0 → Q (some (iV (0 : Int32))) σ) ∧ (¬ s0 = 0 → Q (some (iV (1 : Int32))) σ))) : R mj_OM d mX11_isOpen Q 41 [some (rV 45 0), some (iV x1), some (iV x2)] [iV s0] σ := by
  refine r_if_eq (tgt := 48) dX11_isOpen_41 (by decide) (fun c => ?_) (fun c => ?_)
  · have H := H.1 c
    refine r_iconst (v := (0 : Int32)) dX11_isOpen_48 rfl ?_
    exact r_zret dX11_isOpen_49 rfl (by decide) H
  · have H := H.2 c
    refine r_iconst (v := (1 : Int32)) dX11_isOpen_44 rfl ?_
    refine r_goto (tgt := 49) dX11_isOpen_45 (by decide) ?_
    exact r_zret dX11_isOpen_49 rfl (by decide) H
set_option maxRecDepth 100000 in
theorem bX11_openMany_0 {d : Nat} {Q : Option MV → MS → Prop} {x1 : Int32} {σ : MS}  (H : R mj_OM d mX11_openMany Q 4 [some (rV 45 0), some (iV x1), some (iV (0 : Int32)), some (iV (0 : Int32))] [] σ) : R mj_OM d mX11_openMany Q 0 [some (rV 45 0), some (iV x1), none, none] [] σ := by
  refine r_iconst (v := (0 : Int32)) dX11_openMany_0 rfl ?_
  refine r_istore_n dX11_openMany_1 rfl (by decide) rfl ?_
  refine r_iconst (v := (0 : Int32)) dX11_openMany_2 rfl ?_
  refine r_istore_n dX11_openMany_3 rfl (by decide) rfl ?_
  exact H
set_option maxRecDepth 100000 in
theorem bX11_openMany_4 {d : Nat} {Q : Option MV → MS → Prop} {x1 : Int32} {x2 : Int32} {x3 : Int32} {σ : MS}  (H : (vp_in (2 : Int32) 18 ∧ (((σ.1 47 0 2) ≤ x3 → Q (some (iV x2)) σ) ∧ (¬ (σ.1 47 0 2) ≤ x3 → (R mj_OM d mX11_isOpen (fun r σ' => R mj_OM (d + 1) mX11_openMany Q 21 [some (rV 45 0), some (iV x1), some (iV x2), some (iV x3)] (r.toList ++ [iV x2]) σ') 0 [some (rV 45 0), some (iV x1), some (iV x3)] [] σ))))) : R mj_OM (d + 1) mX11_openMany Q 4 [some (rV 45 0), some (iV x1), some (iV x2), some (iV x3)] [] σ := by
  refine r_iload_n dX11_openMany_4 rfl rfl ?_
  refine r_aload_n dX11_openMany_5 rfl rfl ?_
  refine r_get (k := 45) (i := 0) (j := 3) (v := rV 47 0) rfl rfl ho45 rfl hX11 (by decide) rfl fX11_13 dX11_openMany_6 (fun _ => rfl) ?_
  refine r_iconst (v := (2 : Int32)) dX11_openMany_9 rfl ?_
  obtain ⟨q1, H⟩ := H
  refine r_iald (k := 47) (i := 0) rfl ho47 q1 dX11_openMany_10 ?_
  refine r_icmp_ge (tgt := 37) dX11_openMany_11 (by decide) (fun c => ?_) (fun c => ?_)
  · have H := H.1 c
    refine r_iload_n dX11_openMany_37 rfl rfl ?_
    exact r_iret dX11_openMany_38 rfl H
  · have H := H.2 c
    refine r_iload_n dX11_openMany_14 rfl rfl ?_
    refine r_aload_n dX11_openMany_15 rfl rfl ?_
    refine r_iload_n dX11_openMany_16 rfl rfl ?_
    refine r_iload_n dX11_openMany_17 rfl rfl ?_
    refine r_callV (z := 0) (k := 45) (i := 0) (As := [iV x1, iV x3]) (st := [iV x2]) kX11_isOpen i_X11_isOpen e_X11_isOpen lX11_375 dX11_openMany_18 rfl rfl ho45 rfl rfl rfl rfl rfl (Nat.le_of_ble_eq_true rfl) ?_
    exact H
set_option maxRecDepth 100000 in
theorem bX11_openMany_21 {d : Nat} {Q : Option MV → MS → Prop} {x1 : Int32} {x2 : Int32} {x3 : Int32} {s0 : Int32} {s1 : Int32} {σ : MS}  (H : ((s0 = 0 → R mj_OM d mX11_openMany Q 4 [some (rV 45 0), some (iV x1), some (iV (s1 + (0 : Int32))), some (iV (x3 + (1 : Int32)))] [] σ) ∧ (¬ s0 = 0 → R mj_OM d mX11_openMany Q 4 [some (rV 45 0), some (iV x1), some (iV (s1 + (1 : Int32))), some (iV (x3 + (1 : Int32)))] [] σ))) : R mj_OM d mX11_openMany Q 21 [some (rV 45 0), some (iV x1), some (iV x2), some (iV x3)] [iV s0, iV s1] σ := by
  refine r_if_eq (tgt := 28) dX11_openMany_21 (by decide) (fun c => ?_) (fun c => ?_)
  · have H := H.1 c
    refine r_iconst (v := (0 : Int32)) dX11_openMany_28 rfl ?_
    refine r_iadd dX11_openMany_29 ?_
    refine r_istore_n dX11_openMany_30 rfl (by decide) rfl ?_
    refine r_iinc (v := x3 + (1 : Int32)) dX11_openMany_31 rfl rfl (by decide) rfl ?_
    refine r_goto (tgt := 4) dX11_openMany_34 (by decide) ?_
    exact H
  · have H := H.2 c
    refine r_iconst (v := (1 : Int32)) dX11_openMany_24 rfl ?_
    refine r_goto (tgt := 29) dX11_openMany_25 (by decide) ?_
    refine r_iadd dX11_openMany_29 ?_
    refine r_istore_n dX11_openMany_30 rfl (by decide) rfl ?_
    refine r_iinc (v := x3 + (1 : Int32)) dX11_openMany_31 rfl rfl (by decide) rfl ?_
    refine r_goto (tgt := 4) dX11_openMany_34 (by decide) ?_
    exact H
set_option maxRecDepth 100000 in
theorem bX11_boatsOf_0 {d : Nat} {Q : Option MV → MS → Prop} {x1 : Int32} {x2 : Int32} {σ : MS}  (H : R mj_OM d mX11_boatsOf Q 5 [some (rV 45 0), some (iV x1), some (iV x2), some (iV (0 : Int32)), some (iV (0 : Int32))] [] σ) : R mj_OM d mX11_boatsOf Q 0 [some (rV 45 0), some (iV x1), some (iV x2), none, none] [] σ := by
  refine r_iconst (v := (0 : Int32)) dX11_boatsOf_0 rfl ?_
  refine r_istore_n dX11_boatsOf_1 rfl (by decide) rfl ?_
  refine r_iconst (v := (0 : Int32)) dX11_boatsOf_2 rfl ?_
  refine r_istore dX11_boatsOf_3 (by decide) rfl ?_
  exact H
set_option maxRecDepth 100000 in
theorem bX11_boatsOf_5 {d : Nat} {Q : Option MV → MS → Prop} {x1 : Int32} {x2 : Int32} {x3 : Int32} {x4 : Int32} {σ : MS}  (H : (vp_in (4 : Int32) 18 ∧ (((σ.1 47 0 4) ≤ x4 → Q (some (iV x3)) σ) ∧ (¬ (σ.1 47 0 4) ≤ x4 → (vp_in (((8 : Int32) * x1) + x4) 184 ∧ ((¬ (σ.1 75 0 (((((8 : Int32) * x1) + x4)).toNatClampNeg)) = x2 → R mj_OM d mX11_boatsOf Q 5 [some (rV 45 0), some (iV x1), some (iV x2), some (iV (x3 + (0 : Int32))), some (iV (x4 + (1 : Int32)))] [] σ) ∧ ((σ.1 75 0 (((((8 : Int32) * x1) + x4)).toNatClampNeg)) = x2 → R mj_OM d mX11_boatsOf Q 5 [some (rV 45 0), some (iV x1), some (iV x2), some (iV (x3 + (1 : Int32))), some (iV (x4 + (1 : Int32)))] [] σ))))))) : R mj_OM d mX11_boatsOf Q 5 [some (rV 45 0), some (iV x1), some (iV x2), some (iV x3), some (iV x4)] [] σ := by
  refine r_iload dX11_boatsOf_5 rfl ?_
  refine r_aload_n dX11_boatsOf_7 rfl rfl ?_
  refine r_get (k := 45) (i := 0) (j := 3) (v := rV 47 0) rfl rfl ho45 rfl hX11 (by decide) rfl fX11_13 dX11_boatsOf_8 (fun _ => rfl) ?_
  refine r_iconst (v := (4 : Int32)) dX11_boatsOf_11 rfl ?_
  obtain ⟨q1, H⟩ := H
  refine r_iald (k := 47) (i := 0) rfl ho47 q1 dX11_boatsOf_12 ?_
  refine r_icmp_ge (tgt := 46) dX11_boatsOf_13 (by decide) (fun c => ?_) (fun c => ?_)
  · have H := H.1 c
    refine r_iload_n dX11_boatsOf_46 rfl rfl ?_
    exact r_iret dX11_boatsOf_47 rfl H
  · have H := H.2 c
    refine r_iload_n dX11_boatsOf_16 rfl rfl ?_
    refine r_aload_n dX11_boatsOf_17 rfl rfl ?_
    refine r_get (k := 45) (i := 0) (j := 45) (v := rV 75 0) rfl rfl ho45 rfl hX11 (by decide) rfl fX11_102 dX11_boatsOf_18 (fun _ => rfl) ?_
    refine r_bipush (v := (8 : Int32)) dX11_boatsOf_21 rfl ?_
    refine r_iload_n dX11_boatsOf_23 rfl rfl ?_
    refine r_imul dX11_boatsOf_24 ?_
    refine r_iload dX11_boatsOf_25 rfl ?_
    refine r_iadd dX11_boatsOf_27 ?_
    obtain ⟨q2, H⟩ := H
    refine r_iald (k := 75) (i := 0) rfl ho75 q2 dX11_boatsOf_28 ?_
    refine r_iload_n dX11_boatsOf_29 rfl rfl ?_
    refine r_icmp_ne (tgt := 37) dX11_boatsOf_30 (by decide) (fun c => ?_) (fun c => ?_)
    · have H := H.1 c
      refine r_iconst (v := (0 : Int32)) dX11_boatsOf_37 rfl ?_
      refine r_iadd dX11_boatsOf_38 ?_
      refine r_istore_n dX11_boatsOf_39 rfl (by decide) rfl ?_
      refine r_iinc (v := x4 + (1 : Int32)) dX11_boatsOf_40 rfl rfl (by decide) rfl ?_
      refine r_goto (tgt := 5) dX11_boatsOf_43 (by decide) ?_
      exact H
    · have H := H.2 c
      refine r_iconst (v := (1 : Int32)) dX11_boatsOf_33 rfl ?_
      refine r_goto (tgt := 38) dX11_boatsOf_34 (by decide) ?_
      refine r_iadd dX11_boatsOf_38 ?_
      refine r_istore_n dX11_boatsOf_39 rfl (by decide) rfl ?_
      refine r_iinc (v := x4 + (1 : Int32)) dX11_boatsOf_40 rfl rfl (by decide) rfl ?_
      refine r_goto (tgt := 5) dX11_boatsOf_43 (by decide) ?_
      exact H
set_option maxRecDepth 100000 in
theorem bX11_calls_0 {d : Nat} {Q : Option MV → MS → Prop} {x1 : Int32} {x2 : Int32} {x3 : Int32} {σ : MS}  (H : (vp_in x2 14 ∧ vp_in (0 : Int32) 7 ∧ vp_in (1 : Int32) 7 ∧ vp_in (((7 : Int32) * x1) + x2) 161 ∧ vp_in (2 : Int32) 7 ∧ vp_in (3 : Int32) 7 ∧ (R mj_OM d mX11_openMany (fun r σ' => R mj_OM (d + 1) mX11_calls Q 62 [some (rV 45 0), some (iV x1), some (iV x2), some (iV x3)] (r.toList ++ [iV (4 : Int32), rV 68 0]) σ') 0 [some (rV 45 0), some (iV x1), none, none] [] (uL (uL (uL (uL σ 68 0 0 ((σ.1 49 0 ((x2).toNatClampNeg)).toInt64)) 68 0 1 ((σ.1 50 0 ((x2).toNatClampNeg)).toInt64)) 68 0 2 ((σ.1 74 0 (((((7 : Int32) * x1) + x2)).toNatClampNeg)).toInt64)) 68 0 3 x3.toInt64)))) : R mj_OM (d + 1) mX11_calls Q 0 [some (rV 45 0), some (iV x1), some (iV x2), some (iV x3)] [] σ := by
  refine r_aload_n dX11_calls_0 rfl rfl ?_
  refine r_get (k := 45) (i := 0) (j := 37) (v := rV 68 0) rfl rfl ho45 rfl hX11 (by decide) rfl fX11_80 dX11_calls_1 (fun _ => rfl) ?_
  refine r_iconst (v := (0 : Int32)) dX11_calls_4 rfl ?_
  refine r_aload_n dX11_calls_5 rfl rfl ?_
  refine r_get (k := 45) (i := 0) (j := 5) (v := rV 49 0) rfl rfl ho45 rfl hX11 (by decide) rfl fX11_19 dX11_calls_6 (fun _ => rfl) ?_
  refine r_iload_n dX11_calls_9 rfl rfl ?_
  obtain ⟨q1, H⟩ := H
  refine r_iald (k := 49) (i := 0) rfl ho49 q1 dX11_calls_10 ?_
  refine r_i2l (v := (σ.1 49 0 ((x2).toNatClampNeg)).toInt64) dX11_calls_11 rfl ?_
  obtain ⟨q2, H⟩ := H
  refine r_last (k := 68) (i := 0) rfl ho68 q2 dX11_calls_12 ?_
  refine r_aload_n dX11_calls_13 rfl rfl ?_
  refine r_get (k := 45) (i := 0) (j := 37) (v := rV 68 0) rfl rfl ho45 rfl hX11 (by decide) rfl fX11_80 dX11_calls_14 (fun _ => rfl) ?_
  refine r_iconst (v := (1 : Int32)) dX11_calls_17 rfl ?_
  refine r_aload_n dX11_calls_18 rfl rfl ?_
  refine r_get (k := 45) (i := 0) (j := 6) (v := rV 50 0) rfl rfl ho45 rfl hX11 (by decide) rfl fX11_22 dX11_calls_19 (fun _ => rfl) ?_
  refine r_iload_n dX11_calls_22 rfl rfl ?_
  refine r_iald (k := 50) (i := 0) rfl ho50 q1 dX11_calls_23 ?_
  refine r_i2l (v := (σ.1 50 0 ((x2).toNatClampNeg)).toInt64) dX11_calls_24 rfl ?_
  obtain ⟨q3, H⟩ := H
  refine r_last (k := 68) (i := 0) rfl ho68 q3 dX11_calls_25 ?_
  refine r_aload_n dX11_calls_26 rfl rfl ?_
  refine r_get (k := 45) (i := 0) (j := 37) (v := rV 68 0) rfl rfl ho45 rfl hX11 (by decide) rfl fX11_80 dX11_calls_27 (fun _ => rfl) ?_
  refine r_iconst (v := (2 : Int32)) dX11_calls_30 rfl ?_
  refine r_aload_n dX11_calls_31 rfl rfl ?_
  refine r_get (k := 45) (i := 0) (j := 44) (v := rV 74 0) rfl rfl ho45 rfl hX11 (by decide) rfl fX11_99 dX11_calls_32 (fun _ => rfl) ?_
  refine r_bipush (v := (7 : Int32)) dX11_calls_35 rfl ?_
  refine r_iload_n dX11_calls_37 rfl rfl ?_
  refine r_imul dX11_calls_38 ?_
  refine r_iload_n dX11_calls_39 rfl rfl ?_
  refine r_iadd dX11_calls_40 ?_
  obtain ⟨q4, H⟩ := H
  refine r_iald (k := 74) (i := 0) rfl ho74 q4 dX11_calls_41 ?_
  refine r_i2l (v := (σ.1 74 0 (((((7 : Int32) * x1) + x2)).toNatClampNeg)).toInt64) dX11_calls_42 rfl ?_
  obtain ⟨q5, H⟩ := H
  refine r_last (k := 68) (i := 0) rfl ho68 q5 dX11_calls_43 ?_
  refine r_aload_n dX11_calls_44 rfl rfl ?_
  refine r_get (k := 45) (i := 0) (j := 37) (v := rV 68 0) rfl rfl ho45 rfl hX11 (by decide) rfl fX11_80 dX11_calls_45 (fun _ => rfl) ?_
  refine r_iconst (v := (3 : Int32)) dX11_calls_48 rfl ?_
  refine r_iload_n dX11_calls_49 rfl rfl ?_
  refine r_i2l (v := x3.toInt64) dX11_calls_50 rfl ?_
  obtain ⟨q6, H⟩ := H
  refine r_last (k := 68) (i := 0) rfl ho68 q6 dX11_calls_51 ?_
  refine r_aload_n dX11_calls_52 rfl rfl ?_
  refine r_get (k := 45) (i := 0) (j := 37) (v := rV 68 0) rfl rfl ho45 rfl hX11 (by decide) rfl fX11_80 dX11_calls_53 (fun _ => rfl) ?_
  refine r_iconst (v := (4 : Int32)) dX11_calls_56 rfl ?_
  refine r_aload_n dX11_calls_57 rfl rfl ?_
  refine r_iload_n dX11_calls_58 rfl rfl ?_
  refine r_callV (z := 2) (k := 45) (i := 0) (As := [iV x1]) (st := [iV (4 : Int32), rV 68 0]) kX11_openMany i_X11_openMany e_X11_openMany lX11_378 dX11_calls_59 rfl rfl ho45 rfl rfl rfl rfl rfl (Nat.le_of_ble_eq_true rfl) ?_
  exact H
set_option maxRecDepth 100000 in
theorem bX11_calls_62 {d : Nat} {Q : Option MV → MS → Prop} {x1 : Int32} {x2 : Int32} {x3 : Int32} {s0 : Int32} {s1 : Int32} {σ : MS}  (H : (vp_in s1 7 ∧ (R mj_OM d mX11_boatsOf (fun r σ' => R mj_OM (d + 1) mX11_calls Q 75 [some (rV 45 0), some (iV x1), some (iV x2), some (iV x3)] (r.toList ++ [iV (5 : Int32), rV 68 0]) σ') 0 [some (rV 45 0), some (iV x1), some (iV (1 : Int32)), none, none] [] (uL σ 68 0 ((s1).toNatClampNeg) s0.toInt64)))) : R mj_OM (d + 1) mX11_calls Q 62 [some (rV 45 0), some (iV x1), some (iV x2), some (iV x3)] [iV s0, iV s1, rV 68 0] σ := by
  refine r_i2l (v := s0.toInt64) dX11_calls_62 rfl ?_
  obtain ⟨q1, H⟩ := H
  refine r_last (k := 68) (i := 0) rfl ho68 q1 dX11_calls_63 ?_
  refine r_aload_n dX11_calls_64 rfl rfl ?_
  refine r_get (k := 45) (i := 0) (j := 37) (v := rV 68 0) rfl rfl ho45 rfl hX11 (by decide) rfl fX11_80 dX11_calls_65 (fun _ => rfl) ?_
  refine r_iconst (v := (5 : Int32)) dX11_calls_68 rfl ?_
  refine r_aload_n dX11_calls_69 rfl rfl ?_
  refine r_iload_n dX11_calls_70 rfl rfl ?_
  refine r_iconst (v := (1 : Int32)) dX11_calls_71 rfl ?_
  refine r_callV (z := 2) (k := 45) (i := 0) (As := [iV x1, iV (1 : Int32)]) (st := [iV (5 : Int32), rV 68 0]) kX11_boatsOf i_X11_boatsOf e_X11_boatsOf lX11_381 dX11_calls_72 rfl rfl ho45 rfl rfl rfl rfl rfl (Nat.le_of_ble_eq_true rfl) ?_
  exact H
set_option maxRecDepth 100000 in
theorem bX11_calls_75 {d : Nat} {Q : Option MV → MS → Prop} {x1 : Int32} {x2 : Int32} {x3 : Int32} {s0 : Int32} {s1 : Int32} {σ : MS}  (H : (vp_in s1 7 ∧ vp_in x1 23 ∧ vp_in (6 : Int32) 7 ∧ Q none (uL (uL σ 68 0 ((s1).toNatClampNeg) s0.toInt64) 68 0 6 ((σ.1 70 0 ((x1).toNatClampNeg)).toInt64)))) : R mj_OM d mX11_calls Q 75 [some (rV 45 0), some (iV x1), some (iV x2), some (iV x3)] [iV s0, iV s1, rV 68 0] σ := by
  refine r_i2l (v := s0.toInt64) dX11_calls_75 rfl ?_
  obtain ⟨q1, H⟩ := H
  refine r_last (k := 68) (i := 0) rfl ho68 q1 dX11_calls_76 ?_
  refine r_aload_n dX11_calls_77 rfl rfl ?_
  refine r_get (k := 45) (i := 0) (j := 37) (v := rV 68 0) rfl rfl ho45 rfl hX11 (by decide) rfl fX11_80 dX11_calls_78 (fun _ => rfl) ?_
  refine r_bipush (v := (6 : Int32)) dX11_calls_81 rfl ?_
  refine r_aload_n dX11_calls_83 rfl rfl ?_
  refine r_get (k := 45) (i := 0) (j := 40) (v := rV 70 0) rfl rfl ho45 rfl hX11 (by decide) rfl fX11_87 dX11_calls_84 (fun _ => rfl) ?_
  refine r_iload_n dX11_calls_87 rfl rfl ?_
  obtain ⟨q2, H⟩ := H
  refine r_iald (k := 70) (i := 0) rfl ho70 q2 dX11_calls_88 ?_
  refine r_i2l (v := (σ.1 70 0 ((x1).toNatClampNeg)).toInt64) dX11_calls_89 rfl ?_
  obtain ⟨q3, H⟩ := H
  refine r_last (k := 68) (i := 0) rfl ho68 q3 dX11_calls_90 ?_
  exact r_vret dX11_calls_91 rfl H
set_option maxRecDepth 100000 in
theorem bX11_within_0 {d : Nat} {Q : Option MV → MS → Prop} {x1 : Int32} {x2 : Int32} {x3 : Int32} {σ : MS}  (H : (R mj_OM d mX11_hasLaw (fun r σ' => R mj_OM (d + 1) mX11_within Q 5 [some (rV 45 0), some (iV x1), some (iV x2), some (iV x3)] (r.toList ++ []) σ') 0 [some (rV 45 0), some (iV x1)] [] σ)) : R mj_OM (d + 1) mX11_within Q 0 [some (rV 45 0), some (iV x1), some (iV x2), some (iV x3)] [] σ := by
  refine r_aload_n dX11_within_0 rfl rfl ?_
  refine r_iload_n dX11_within_1 rfl rfl ?_
  refine r_callV (z := 0) (k := 45) (i := 0) (As := [iV x1]) (st := []) kX11_hasLaw i_X11_hasLaw e_X11_hasLaw lX11_384 dX11_within_2 rfl rfl ho45 rfl rfl rfl rfl rfl (Nat.le_of_ble_eq_true rfl) ?_
  exact H
set_option maxRecDepth 100000 in
theorem bX11_within_5 {d : Nat} {Q : Option MV → MS → Prop} {x1 : Int32} {x2 : Int32} {x3 : Int32} {s0 : Int32} {σ : MS}  (H : ((s0 = 0 → Q (some (iV x3)) σ) ∧ (¬ s0 = 0 → (R mj_OM d mX11_goes (fun r σ' => R mj_OM (d + 1) mX11_within Q 13 [some (rV 45 0), some (iV x1), some (iV x2), some (iV x3)] (r.toList ++ []) σ') 0 [some (rV 45 0), some (iV x1), none] [] σ)))) : R mj_OM (d + 1) mX11_within Q 5 [some (rV 45 0), some (iV x1), some (iV x2), some (iV x3)] [iV s0] σ := by
  refine r_if_eq (tgt := 16) dX11_within_5 (by decide) (fun c => ?_) (fun c => ?_)
  · have H := H.1 c
    refine r_iload_n dX11_within_16 rfl rfl ?_
    exact r_iret dX11_within_17 rfl H
  · have H := H.2 c
    refine r_aload_n dX11_within_8 rfl rfl ?_
    refine r_iload_n dX11_within_9 rfl rfl ?_
    refine r_callV (z := 1) (k := 45) (i := 0) (As := [iV x1]) (st := []) kX11_goes i_X11_goes e_X11_goes lX11_387 dX11_within_10 rfl rfl ho45 rfl rfl rfl rfl rfl (Nat.le_of_ble_eq_true rfl) ?_
    exact H
set_option maxRecDepth 100000 in
theorem bX11_within_13 {d : Nat} {Q : Option MV → MS → Prop} {x1 : Int32} {x2 : Int32} {x3 : Int32} {s0 : Int32} {σ : MS}  (H : ((¬ s0 = 0 → (vp_in (0 : Int32) 64 ∧ Q (some (iV ((if (if (σ.2.1 69 0 0) < x2.toInt64 then (σ.2.1 69 0 0) else x2.toInt64) < (0 : Int64) then (0 : Int64) else (if (σ.2.1 69 0 0) < x2.toInt64 then (σ.2.1 69 0 0) else x2.toInt64)).toInt32))) σ)) ∧ (s0 = 0 → Q (some (iV x3)) σ))) : R mj_OM (d + 1) mX11_within Q 13 [some (rV 45 0), some (iV x1), some (iV x2), some (iV x3)] [iV s0] σ := by
  refine r_if_ne (tgt := 18) dX11_within_13 (by decide) (fun c => ?_) (fun c => ?_)
  · have H := H.1 c
    refine r_lconst (v := (0 : Int64)) dX11_within_18 rfl ?_
    refine r_iload_n dX11_within_19 rfl rfl ?_
    refine r_i2l (v := x2.toInt64) dX11_within_20 rfl ?_
    refine r_aload_n dX11_within_21 rfl rfl ?_
    refine r_get (k := 45) (i := 0) (j := 38) (v := rV 69 0) rfl rfl ho45 rfl hX11 (by decide) rfl fX11_84 dX11_within_22 (fun _ => rfl) ?_
    refine r_iconst (v := (0 : Int32)) dX11_within_25 rfl ?_
    obtain ⟨q1, H⟩ := H
    refine r_lald (k := 69) (i := 0) rfl ho69 q1 dX11_within_26 ?_
    refine r_mminl lX11_390 dX11_within_27 (Nat.le_of_ble_eq_true rfl) ?_
    refine r_mmaxl lX11_393 dX11_within_30 (Nat.le_of_ble_eq_true rfl) ?_
    refine r_l2i (v := (if (if (σ.2.1 69 0 0) < x2.toInt64 then (σ.2.1 69 0 0) else x2.toInt64) < (0 : Int64) then (0 : Int64) else (if (σ.2.1 69 0 0) < x2.toInt64 then (σ.2.1 69 0 0) else x2.toInt64)).toInt32) dX11_within_33 rfl ?_
    exact r_iret dX11_within_34 rfl H
  · have H := H.2 c
    refine r_iload_n dX11_within_16 rfl rfl ?_
    exact r_iret dX11_within_17 rfl H
set_option maxRecDepth 100000 in
theorem bX11_doesJam_0 {d : Nat} {Q : Option MV → MS → Prop} {x1 : Int32} {x2 : Int32} {σ : MS}  (H : ((¬ (σ.1 45 0 49) = (5 : Int32) → (vp_in (6 : Int32) 18 ∧ ((x2 = 0 → (((σ.1 47 0 6) < (50 : Int32) → Q (some (iV (0 : Int32))) σ) ∧ (¬ (σ.1 47 0 6) < (50 : Int32) → Q (some (iV (1 : Int32))) σ))) ∧ (¬ x2 = 0 → (((σ.1 47 0 6) = 0 → (((σ.1 47 0 6) < (50 : Int32) → Q (some (iV (0 : Int32))) σ) ∧ (¬ (σ.1 47 0 6) < (50 : Int32) → Q (some (iV (1 : Int32))) σ))) ∧ (¬ (σ.1 47 0 6) = 0 → ((¬ (σ.1 47 0 6) = (100 : Int32) → (vp_in x1 23 ∧ (((σ.1 47 0 6) ≤ ((((uI σ 71 0 ((x1).toNatClampNeg) ((((σ.1 71 0 ((x1).toNatClampNeg)) * (1103515245 : Int32)) + (12345 : Int32)) &&& (2147483647 : Int32))).1 71 0 ((x1).toNatClampNeg)) >>> ((16 : Int32) &&& 31)) - (((uI σ 71 0 ((x1).toNatClampNeg) ((((σ.1 71 0 ((x1).toNatClampNeg)) * (1103515245 : Int32)) + (12345 : Int32)) &&& (2147483647 : Int32))).1 71 0 ((x1).toNatClampNeg)) >>> ((16 : Int32) &&& 31)) / (100 : Int32) * (100 : Int32)) → Q (some (iV (0 : Int32))) (uI σ 71 0 ((x1).toNatClampNeg) ((((σ.1 71 0 ((x1).toNatClampNeg)) * (1103515245 : Int32)) + (12345 : Int32)) &&& (2147483647 : Int32)))) ∧ (¬ (σ.1 47 0 6) ≤ ((((uI σ 71 0 ((x1).toNatClampNeg) ((((σ.1 71 0 ((x1).toNatClampNeg)) * (1103515245 : Int32)) + (12345 : Int32)) &&& (2147483647 : Int32))).1 71 0 ((x1).toNatClampNeg)) >>> ((16 : Int32) &&& 31)) - (((uI σ 71 0 ((x1).toNatClampNeg) ((((σ.1 71 0 ((x1).toNatClampNeg)) * (1103515245 : Int32)) + (12345 : Int32)) &&& (2147483647 : Int32))).1 71 0 ((x1).toNatClampNeg)) >>> ((16 : Int32) &&& 31)) / (100 : Int32) * (100 : Int32)) → Q (some (iV (1 : Int32))) (uI σ 71 0 ((x1).toNatClampNeg) ((((σ.1 71 0 ((x1).toNatClampNeg)) * (1103515245 : Int32)) + (12345 : Int32)) &&& (2147483647 : Int32))))))) ∧ ((σ.1 47 0 6) = (100 : Int32) → (((σ.1 47 0 6) < (50 : Int32) → Q (some (iV (0 : Int32))) σ) ∧ (¬ (σ.1 47 0 6) < (50 : Int32) → Q (some (iV (1 : Int32))) σ)))))))))) ∧ ((σ.1 45 0 49) = (5 : Int32) → Q (some (iV (0 : Int32))) σ))) : R mj_OM d mX11_doesJam Q 0 [some (rV 45 0), some (iV x1), some (iV x2), none] [] σ := by
  refine r_aload_n dX11_doesJam_0 rfl rfl ?_
  refine r_get (k := 45) (i := 0) (j := 49) (v := iV (σ.1 45 0 49)) rfl rfl ho45 rfl hX11 (by decide) rfl fX11_365 dX11_doesJam_1 (fun _ => rfl) ?_
  refine r_iconst (v := (5 : Int32)) dX11_doesJam_4 rfl ?_
  refine r_icmp_ne (tgt := 10) dX11_doesJam_5 (by decide) (fun c => ?_) (fun c => ?_)
  · have H := H.1 c
    refine r_aload_n dX11_doesJam_10 rfl rfl ?_
    refine r_get (k := 45) (i := 0) (j := 3) (v := rV 47 0) rfl rfl ho45 rfl hX11 (by decide) rfl fX11_13 dX11_doesJam_11 (fun _ => rfl) ?_
    refine r_bipush (v := (6 : Int32)) dX11_doesJam_14 rfl ?_
    obtain ⟨q1, H⟩ := H
    refine r_iald (k := 47) (i := 0) rfl ho47 q1 dX11_doesJam_16 ?_
    refine r_istore_n dX11_doesJam_17 rfl (by decide) rfl ?_
    refine r_iload_n dX11_doesJam_18 rfl rfl ?_
    refine r_if_eq (tgt := 32) dX11_doesJam_19 (by decide) (fun c => ?_) (fun c => ?_)
    · have H := H.1 c
      refine r_iload_n dX11_doesJam_32 rfl rfl ?_
      refine r_bipush (v := (50 : Int32)) dX11_doesJam_33 rfl ?_
      refine r_icmp_lt (tgt := 42) dX11_doesJam_35 (by decide) (fun c => ?_) (fun c => ?_)
      · have H := H.1 c
        refine r_iconst (v := (0 : Int32)) dX11_doesJam_42 rfl ?_
        exact r_zret dX11_doesJam_43 rfl (by decide) H
      · have H := H.2 c
        refine r_iconst (v := (1 : Int32)) dX11_doesJam_38 rfl ?_
        refine r_goto (tgt := 43) dX11_doesJam_39 (by decide) ?_
        exact r_zret dX11_doesJam_43 rfl (by decide) H
    · have H := H.2 c
      refine r_iload_n dX11_doesJam_22 rfl rfl ?_
      refine r_if_eq (tgt := 32) dX11_doesJam_23 (by decide) (fun c => ?_) (fun c => ?_)
      · have H := H.1 c
        refine r_iload_n dX11_doesJam_32 rfl rfl ?_
        refine r_bipush (v := (50 : Int32)) dX11_doesJam_33 rfl ?_
        refine r_icmp_lt (tgt := 42) dX11_doesJam_35 (by decide) (fun c => ?_) (fun c => ?_)
        · have H := H.1 c
          refine r_iconst (v := (0 : Int32)) dX11_doesJam_42 rfl ?_
          exact r_zret dX11_doesJam_43 rfl (by decide) H
        · have H := H.2 c
          refine r_iconst (v := (1 : Int32)) dX11_doesJam_38 rfl ?_
          refine r_goto (tgt := 43) dX11_doesJam_39 (by decide) ?_
          exact r_zret dX11_doesJam_43 rfl (by decide) H
      · have H := H.2 c
        refine r_iload_n dX11_doesJam_26 rfl rfl ?_
        refine r_bipush (v := (100 : Int32)) dX11_doesJam_27 rfl ?_
        refine r_icmp_ne (tgt := 44) dX11_doesJam_29 (by decide) (fun c => ?_) (fun c => ?_)
        · have H := H.1 c
          refine r_aload_n dX11_doesJam_44 rfl rfl ?_
          refine r_get (k := 45) (i := 0) (j := 41) (v := rV 71 0) rfl rfl ho45 rfl hX11 (by decide) rfl fX11_90 dX11_doesJam_45 (fun _ => rfl) ?_
          refine r_iload_n dX11_doesJam_48 rfl rfl ?_
          refine r_aload_n dX11_doesJam_49 rfl rfl ?_
          refine r_get (k := 45) (i := 0) (j := 41) (v := rV 71 0) rfl rfl ho45 rfl hX11 (by decide) rfl fX11_90 dX11_doesJam_50 (fun _ => rfl) ?_
          refine r_iload_n dX11_doesJam_53 rfl rfl ?_
          obtain ⟨q2, H⟩ := H
          refine r_iald (k := 71) (i := 0) rfl ho71 q2 dX11_doesJam_54 ?_
          refine r_ldcw (v := (1103515245 : Int32)) oX11_396 dX11_doesJam_55 ?_
          refine r_imul dX11_doesJam_58 ?_
          refine r_sipush (v := (12345 : Int32)) dX11_doesJam_59 rfl ?_
          refine r_iadd dX11_doesJam_62 ?_
          refine r_ldcw (v := (2147483647 : Int32)) oX11_399 dX11_doesJam_63 ?_
          refine r_iand dX11_doesJam_66 ?_
          refine r_iast (k := 71) (i := 0) rfl ho71 q2 dX11_doesJam_67 ?_
          refine r_aload_n dX11_doesJam_68 rfl rfl ?_
          refine r_get (k := 45) (i := 0) (j := 41) (v := rV 71 0) rfl rfl ho45 rfl hX11 (by decide) rfl fX11_90 dX11_doesJam_69 (fun _ => rfl) ?_
          refine r_iload_n dX11_doesJam_72 rfl rfl ?_
          refine r_iald (k := 71) (i := 0) rfl ho71 q2 dX11_doesJam_73 ?_
          refine r_bipush (v := (16 : Int32)) dX11_doesJam_74 rfl ?_
          refine r_ishr dX11_doesJam_76 ?_
          refine r_bipush (v := (100 : Int32)) dX11_doesJam_77 rfl ?_
          refine r_irem dX11_doesJam_79 (by decide) ?_
          refine r_iload_n dX11_doesJam_80 rfl rfl ?_
          refine r_icmp_ge (tgt := 88) dX11_doesJam_81 (by decide) (fun c => ?_) (fun c => ?_)
          · have H := H.1 c
            refine r_iconst (v := (0 : Int32)) dX11_doesJam_88 rfl ?_
            exact r_zret dX11_doesJam_89 rfl (by decide) H
          · have H := H.2 c
            refine r_iconst (v := (1 : Int32)) dX11_doesJam_84 rfl ?_
            refine r_goto (tgt := 89) dX11_doesJam_85 (by decide) ?_
            exact r_zret dX11_doesJam_89 rfl (by decide) H
        · have H := H.2 c
          refine r_iload_n dX11_doesJam_32 rfl rfl ?_
          refine r_bipush (v := (50 : Int32)) dX11_doesJam_33 rfl ?_
          refine r_icmp_lt (tgt := 42) dX11_doesJam_35 (by decide) (fun c => ?_) (fun c => ?_)
          · have H := H.1 c
            refine r_iconst (v := (0 : Int32)) dX11_doesJam_42 rfl ?_
            exact r_zret dX11_doesJam_43 rfl (by decide) H
          · have H := H.2 c
            refine r_iconst (v := (1 : Int32)) dX11_doesJam_38 rfl ?_
            refine r_goto (tgt := 43) dX11_doesJam_39 (by decide) ?_
            exact r_zret dX11_doesJam_43 rfl (by decide) H
  · have H := H.2 c
    refine r_iconst (v := (0 : Int32)) dX11_doesJam_8 rfl ?_
    exact r_zret dX11_doesJam_9 rfl (by decide) H
set_option maxRecDepth 100000 in
theorem bX11_opens_0 {d : Nat} {Q : Option MV → MS → Prop} {x1 : Int32} {x2 : Int32} {x3 : Int32} {σ : MS}  (H : (R mj_OM d mX11_sourceOf (fun r σ' => R mj_OM (d + 1) mX11_opens Q 8 [some (rV 45 0), some (iV x1), some (iV x2), some (iV x3)] (r.toList ++ [iV x1, rV 45 0]) σ') 0 [some (rV 45 0), some (iV x1), some (iV x2)] [] σ)) : R mj_OM (d + 1) mX11_opens Q 0 [some (rV 45 0), some (iV x1), some (iV x2), some (iV x3)] [] σ := by
  refine r_aload_n dX11_opens_0 rfl rfl ?_
  refine r_iload_n dX11_opens_1 rfl rfl ?_
  refine r_aload_n dX11_opens_2 rfl rfl ?_
  refine r_iload_n dX11_opens_3 rfl rfl ?_
  refine r_iload_n dX11_opens_4 rfl rfl ?_
  refine r_callV (z := 0) (k := 45) (i := 0) (As := [iV x1, iV x2]) (st := [iV x1, rV 45 0]) kX11_sourceOf i_X11_sourceOf e_X11_sourceOf lX11_353 dX11_opens_5 rfl rfl ho45 rfl rfl rfl rfl rfl (Nat.le_of_ble_eq_true rfl) ?_
  exact H
set_option maxRecDepth 100000 in
theorem bX11_opens_8 {d : Nat} {Q : Option MV → MS → Prop} {x1 : Int32} {x2 : Int32} {x3 : Int32} {s0 : Int32} {s1 : Int32} {σ : MS}  (H : (vp_in x2 20 ∧ (R mj_OM d mX11_calls (fun r σ' => R mj_OM (d + 1) mX11_opens Q 17 [some (rV 45 0), some (iV x1), some (iV x2), some (iV x3)] (r.toList ++ []) σ') 0 [some (rV 45 0), some (iV s1), some (iV s0), some (iV (σ.1 58 0 ((x2).toNatClampNeg)))] [] σ))) : R mj_OM (d + 1) mX11_opens Q 8 [some (rV 45 0), some (iV x1), some (iV x2), some (iV x3)] [iV s0, iV s1, rV 45 0] σ := by
  refine r_aload_n dX11_opens_8 rfl rfl ?_
  refine r_get (k := 45) (i := 0) (j := 14) (v := rV 58 0) rfl rfl ho45 rfl hX11 (by decide) rfl fX11_46 dX11_opens_9 (fun _ => rfl) ?_
  refine r_iload_n dX11_opens_12 rfl rfl ?_
  obtain ⟨q1, H⟩ := H
  refine r_iald (k := 58) (i := 0) rfl ho58 q1 dX11_opens_13 ?_
  refine r_callV (z := 0) (k := 45) (i := 0) (As := [iV s1, iV s0, iV (σ.1 58 0 ((x2).toNatClampNeg))]) (st := []) kX11_calls i_X11_calls e_X11_calls lX11_400 dX11_opens_14 rfl rfl ho45 rfl rfl rfl rfl rfl (Nat.le_of_ble_eq_true rfl) ?_
  exact H
set_option maxRecDepth 100000 in
theorem bX11_opens_17 {d : Nat} {Q : Option MV → MS → Prop} {x1 : Int32} {x2 : Int32} {x3 : Int32} {σ : MS}  (H : (vp_in x2 20 ∧ (R mj_OM d mX11_within (fun r σ' => R mj_OM (d + 1) mX11_opens Q 33 [some (rV 45 0), some (iV x1), some (iV x2), some (iV x3)] (r.toList ++ [iV x2, iV x1, rV 45 0]) σ') 0 [some (rV 45 0), some (iV (0 : Int32)), some (iV (99 : Int32)), some (iV (σ.1 58 0 ((x2).toNatClampNeg)))] [] σ))) : R mj_OM (d + 1) mX11_opens Q 17 [some (rV 45 0), some (iV x1), some (iV x2), some (iV x3)] [] σ := by
  refine r_aload_n dX11_opens_17 rfl rfl ?_
  refine r_iload_n dX11_opens_18 rfl rfl ?_
  refine r_iload_n dX11_opens_19 rfl rfl ?_
  refine r_aload_n dX11_opens_20 rfl rfl ?_
  refine r_iconst (v := (0 : Int32)) dX11_opens_21 rfl ?_
  refine r_bipush (v := (99 : Int32)) dX11_opens_22 rfl ?_
  refine r_aload_n dX11_opens_24 rfl rfl ?_
  refine r_get (k := 45) (i := 0) (j := 14) (v := rV 58 0) rfl rfl ho45 rfl hX11 (by decide) rfl fX11_46 dX11_opens_25 (fun _ => rfl) ?_
  refine r_iload_n dX11_opens_28 rfl rfl ?_
  obtain ⟨q1, H⟩ := H
  refine r_iald (k := 58) (i := 0) rfl ho58 q1 dX11_opens_29 ?_
  refine r_callV (z := 0) (k := 45) (i := 0) (As := [iV (0 : Int32), iV (99 : Int32), iV (σ.1 58 0 ((x2).toNatClampNeg))]) (st := [iV x2, iV x1, rV 45 0]) kX11_within i_X11_within e_X11_within lX11_404 dX11_opens_30 rfl rfl ho45 rfl rfl rfl rfl rfl (Nat.le_of_ble_eq_true rfl) ?_
  exact H
set_option maxRecDepth 100000 in
theorem bX11_opens_33 {d : Nat} {Q : Option MV → MS → Prop} {x1 : Int32} {x2 : Int32} {x3 : Int32} {s0 : Int32} {s1 : Int32} {s2 : Int32} {σ : MS}  (H : (R mj_OM d mX11_flows (fun r σ' => R mj_OM (d + 1) mX11_opens Q 36 [some (rV 45 0), some (iV x1), some (iV x2), some (iV x3)] (r.toList ++ []) σ') 0 [some (rV 45 0), some (iV s2), some (iV s1), some (iV s0), none, none, none] [] σ)) : R mj_OM (d + 1) mX11_opens Q 33 [some (rV 45 0), some (iV x1), some (iV x2), some (iV x3)] [iV s0, iV s1, iV s2, rV 45 0] σ := by
  refine r_callV (z := 3) (k := 45) (i := 0) (As := [iV s2, iV s1, iV s0]) (st := []) kX11_flows i_X11_flows e_X11_flows lX11_407 dX11_opens_33 rfl rfl ho45 rfl rfl rfl rfl rfl (Nat.le_of_ble_eq_true rfl) ?_
  exact H
set_option maxRecDepth 100000 in
theorem bX11_opens_36 {d : Nat} {Q : Option MV → MS → Prop} {x1 : Int32} {x2 : Int32} {x3 : Int32} {s0 : Int32} {σ : MS}  (H : (R mj_OM d mX11_doesJam (fun r σ' => R mj_OM (d + 1) mX11_opens Q 43 [some (rV 45 0), some (iV x1), some (iV x2), some (iV x3)] (r.toList ++ []) σ') 0 [some (rV 45 0), some (iV x1), some (iV x3), none] [] σ)) : R mj_OM (d + 1) mX11_opens Q 36 [some (rV 45 0), some (iV x1), some (iV x2), some (iV x3)] [iV s0] σ := by
  refine r_pop_i dX11_opens_36 ?_
  refine r_aload_n dX11_opens_37 rfl rfl ?_
  refine r_iload_n dX11_opens_38 rfl rfl ?_
  refine r_iload_n dX11_opens_39 rfl rfl ?_
  refine r_callV (z := 1) (k := 45) (i := 0) (As := [iV x1, iV x3]) (st := []) kX11_doesJam i_X11_doesJam e_X11_doesJam lX11_410 dX11_opens_40 rfl rfl ho45 rfl rfl rfl rfl rfl (Nat.le_of_ble_eq_true rfl) ?_
  exact H
set_option maxRecDepth 100000 in
theorem bX11_opens_43 {d : Nat} {Q : Option MV → MS → Prop} {x1 : Int32} {x2 : Int32} {x3 : Int32} {s0 : Int32} {σ : MS}  (H : ((s0 = 0 → Q none σ) ∧ (¬ s0 = 0 → (vp_in x1 23 ∧ Q none (uI σ 73 0 ((x1).toNatClampNeg) ((σ.1 73 0 ((x1).toNatClampNeg)) ||| ((1 : Int32) <<< (x2 &&& 31)))))))) : R mj_OM d mX11_opens Q 43 [some (rV 45 0), some (iV x1), some (iV x2), some (iV x3)] [iV s0] σ := by
  refine r_if_eq (tgt := 58) dX11_opens_43 (by decide) (fun c => ?_) (fun c => ?_)
  · have H := H.1 c
    exact r_vret dX11_opens_58 rfl H
  · have H := H.2 c
    refine r_aload_n dX11_opens_46 rfl rfl ?_
    refine r_get (k := 45) (i := 0) (j := 43) (v := rV 73 0) rfl rfl ho45 rfl hX11 (by decide) rfl fX11_96 dX11_opens_47 (fun _ => rfl) ?_
    refine r_iload_n dX11_opens_50 rfl rfl ?_
    refine r_dup2_ri dX11_opens_51 ?_
    obtain ⟨q1, H⟩ := H
    refine r_iald (k := 73) (i := 0) rfl ho73 q1 dX11_opens_52 ?_
    refine r_iconst (v := (1 : Int32)) dX11_opens_53 rfl ?_
    refine r_iload_n dX11_opens_54 rfl rfl ?_
    refine r_ishl dX11_opens_55 ?_
    refine r_ior dX11_opens_56 ?_
    refine r_iast (k := 73) (i := 0) rfl ho73 q1 dX11_opens_57 ?_
    exact r_vret dX11_opens_58 rfl H
set_option maxRecDepth 100000 in
theorem bX11_more_0 {d : Nat} {Q : Option MV → MS → Prop} {x1 : Int32} {x2 : Int32} {σ : MS}  (H : Q (some (iV (if x1 < (if (x1 + x2) < (9999 : Int32) then (x1 + x2) else (9999 : Int32)) then (if (x1 + x2) < (9999 : Int32) then (x1 + x2) else (9999 : Int32)) else x1))) σ) : R mj_OM (d + 1) mX11_more Q 0 [some (rV 45 0), some (iV x1), some (iV x2)] [] σ := by
  refine r_iload_n dX11_more_0 rfl rfl ?_
  refine r_sipush (v := (9999 : Int32)) dX11_more_1 rfl ?_
  refine r_iload_n dX11_more_4 rfl rfl ?_
  refine r_iload_n dX11_more_5 rfl rfl ?_
  refine r_iadd dX11_more_6 ?_
  refine r_mmin lX11_359 dX11_more_7 (Nat.le_of_ble_eq_true rfl) ?_
  refine r_mmax lX11_414 dX11_more_10 (Nat.le_of_ble_eq_true rfl) ?_
  exact r_iret dX11_more_13 rfl H
set_option maxRecDepth 100000 in
theorem bX11_loses_0 {d : Nat} {Q : Option MV → MS → Prop} {x1 : Int32} {x2 : Int32} {σ : MS}  (H : (R mj_OM d mX11_calls (fun r σ' => R mj_OM (d + 1) mX11_loses Q 14 [some (rV 45 0), some (iV x1), some (iV x2), some (iV (((7 : Int32) * x1) + x2)), none] (r.toList ++ []) σ') 0 [some (rV 45 0), some (iV x1), some (iV x2), some (iV (0 : Int32))] [] σ)) : R mj_OM (d + 1) mX11_loses Q 0 [some (rV 45 0), some (iV x1), some (iV x2), none, none] [] σ := by
  refine r_bipush (v := (7 : Int32)) dX11_loses_0 rfl ?_
  refine r_iload_n dX11_loses_2 rfl rfl ?_
  refine r_imul dX11_loses_3 ?_
  refine r_iload_n dX11_loses_4 rfl rfl ?_
  refine r_iadd dX11_loses_5 ?_
  refine r_istore_n dX11_loses_6 rfl (by decide) rfl ?_
  refine r_aload_n dX11_loses_7 rfl rfl ?_
  refine r_iload_n dX11_loses_8 rfl rfl ?_
  refine r_iload_n dX11_loses_9 rfl rfl ?_
  refine r_iconst (v := (0 : Int32)) dX11_loses_10 rfl ?_
  refine r_callV (z := 0) (k := 45) (i := 0) (As := [iV x1, iV x2, iV (0 : Int32)]) (st := []) kX11_calls i_X11_calls e_X11_calls lX11_400 dX11_loses_11 rfl rfl ho45 rfl rfl rfl rfl rfl (Nat.le_of_ble_eq_true rfl) ?_
  exact H
set_option maxRecDepth 100000 in
theorem bX11_loses_14 {d : Nat} {Q : Option MV → MS → Prop} {x1 : Int32} {x2 : Int32} {x3 : Int32} {σ : MS}  (H : ((¬ x2 = (σ.1 45 0 51) → (R mj_OM d mX11_within (fun r σ' => R mj_OM (d + 1) mX11_loses Q 37 [some (rV 45 0), some (iV x1), some (iV x2), some (iV x3), none] (r.toList ++ []) σ') 0 [some (rV 45 0), some (iV (1 : Int32)), some (iV (99 : Int32)), some (iV (0 : Int32))] [] σ)) ∧ (x2 = (σ.1 45 0 51) → (vp_in x3 161 ∧ Q none (uI σ 74 0 ((x3).toNatClampNeg) (if (0 : Int32) < ((σ.1 74 0 ((x3).toNatClampNeg)) - (σ.1 45 0 52)) then ((σ.1 74 0 ((x3).toNatClampNeg)) - (σ.1 45 0 52)) else (0 : Int32))))))) : R mj_OM (d + 1) mX11_loses Q 14 [some (rV 45 0), some (iV x1), some (iV x2), some (iV x3), none] [] σ := by
  refine r_iload_n dX11_loses_14 rfl rfl ?_
  refine r_aload_n dX11_loses_15 rfl rfl ?_
  refine r_get (k := 45) (i := 0) (j := 51) (v := iV (σ.1 45 0 51)) rfl rfl ho45 rfl hX11 (by decide) rfl fX11_111 dX11_loses_16 (fun _ => rfl) ?_
  refine r_icmp_ne (tgt := 29) dX11_loses_19 (by decide) (fun c => ?_) (fun c => ?_)
  · have H := H.1 c
    refine r_aload_n dX11_loses_29 rfl rfl ?_
    refine r_iconst (v := (1 : Int32)) dX11_loses_30 rfl ?_
    refine r_bipush (v := (99 : Int32)) dX11_loses_31 rfl ?_
    refine r_iconst (v := (0 : Int32)) dX11_loses_33 rfl ?_
    refine r_callV (z := 0) (k := 45) (i := 0) (As := [iV (1 : Int32), iV (99 : Int32), iV (0 : Int32)]) (st := []) kX11_within i_X11_within e_X11_within lX11_404 dX11_loses_34 rfl rfl ho45 rfl rfl rfl rfl rfl (Nat.le_of_ble_eq_true rfl) ?_
    exact H
  · have H := H.2 c
    refine r_aload_n dX11_loses_22 rfl rfl ?_
    refine r_get (k := 45) (i := 0) (j := 52) (v := iV (σ.1 45 0 52)) rfl rfl ho45 rfl hX11 (by decide) rfl fX11_416 dX11_loses_23 (fun _ => rfl) ?_
    refine r_goto (tgt := 37) dX11_loses_26 (by decide) ?_
    refine r_istore dX11_loses_37 (by decide) rfl ?_
    refine r_aload_n dX11_loses_39 rfl rfl ?_
    refine r_get (k := 45) (i := 0) (j := 44) (v := rV 74 0) rfl rfl ho45 rfl hX11 (by decide) rfl fX11_99 dX11_loses_40 (fun _ => rfl) ?_
    refine r_iload_n dX11_loses_43 rfl rfl ?_
    refine r_iconst (v := (0 : Int32)) dX11_loses_44 rfl ?_
    refine r_aload_n dX11_loses_45 rfl rfl ?_
    refine r_get (k := 45) (i := 0) (j := 44) (v := rV 74 0) rfl rfl ho45 rfl hX11 (by decide) rfl fX11_99 dX11_loses_46 (fun _ => rfl) ?_
    refine r_iload_n dX11_loses_49 rfl rfl ?_
    obtain ⟨q1, H⟩ := H
    refine r_iald (k := 74) (i := 0) rfl ho74 q1 dX11_loses_50 ?_
    refine r_iload dX11_loses_51 rfl ?_
    refine r_isub dX11_loses_53 ?_
    refine r_mmax lX11_414 dX11_loses_54 (Nat.le_of_ble_eq_true rfl) ?_
    refine r_iast (k := 74) (i := 0) rfl ho74 q1 dX11_loses_57 ?_
    exact r_vret dX11_loses_58 rfl H
set_option maxRecDepth 100000 in
theorem bX11_loses_37 {d : Nat} {Q : Option MV → MS → Prop} {x1 : Int32} {x2 : Int32} {x3 : Int32} {s0 : Int32} {σ : MS}  (H : (vp_in x3 161 ∧ Q none (uI σ 74 0 ((x3).toNatClampNeg) (if (0 : Int32) < ((σ.1 74 0 ((x3).toNatClampNeg)) - s0) then ((σ.1 74 0 ((x3).toNatClampNeg)) - s0) else (0 : Int32))))) : R mj_OM (d + 1) mX11_loses Q 37 [some (rV 45 0), some (iV x1), some (iV x2), some (iV x3), none] [iV s0] σ := by
  refine r_istore dX11_loses_37 (by decide) rfl ?_
  refine r_aload_n dX11_loses_39 rfl rfl ?_
  refine r_get (k := 45) (i := 0) (j := 44) (v := rV 74 0) rfl rfl ho45 rfl hX11 (by decide) rfl fX11_99 dX11_loses_40 (fun _ => rfl) ?_
  refine r_iload_n dX11_loses_43 rfl rfl ?_
  refine r_iconst (v := (0 : Int32)) dX11_loses_44 rfl ?_
  refine r_aload_n dX11_loses_45 rfl rfl ?_
  refine r_get (k := 45) (i := 0) (j := 44) (v := rV 74 0) rfl rfl ho45 rfl hX11 (by decide) rfl fX11_99 dX11_loses_46 (fun _ => rfl) ?_
  refine r_iload_n dX11_loses_49 rfl rfl ?_
  obtain ⟨q1, H⟩ := H
  refine r_iald (k := 74) (i := 0) rfl ho74 q1 dX11_loses_50 ?_
  refine r_iload dX11_loses_51 rfl ?_
  refine r_isub dX11_loses_53 ?_
  refine r_mmax lX11_414 dX11_loses_54 (Nat.le_of_ble_eq_true rfl) ?_
  refine r_iast (k := 74) (i := 0) rfl ho74 q1 dX11_loses_57 ?_
  exact r_vret dX11_loses_58 rfl H
set_option maxRecDepth 100000 in
theorem bX11_boatIn_0 {d : Nat} {Q : Option MV → MS → Prop} {x1 : Int32} {x2 : Int32} {σ : MS}  (H : R mj_OM d mX11_boatIn Q 2 [some (rV 45 0), some (iV x1), some (iV x2), some (iV (0 : Int32))] [] σ) : R mj_OM d mX11_boatIn Q 0 [some (rV 45 0), some (iV x1), some (iV x2), none] [] σ := by
  refine r_iconst (v := (0 : Int32)) dX11_boatIn_0 rfl ?_
  refine r_istore_n dX11_boatIn_1 rfl (by decide) rfl ?_
  exact H
set_option maxRecDepth 100000 in
theorem bX11_boatIn_2 {d : Nat} {Q : Option MV → MS → Prop} {x1 : Int32} {x2 : Int32} {x3 : Int32} {σ : MS}  (H : (vp_in (4 : Int32) 18 ∧ (((σ.1 47 0 4) ≤ x3 → Q (some (iV (-1 : Int32))) σ) ∧ (¬ (σ.1 47 0 4) ≤ x3 → (vp_in x3 16 ∧ ((¬ (σ.1 62 0 ((x3).toNatClampNeg)) = x2 → R mj_OM d mX11_boatIn Q 2 [some (rV 45 0), some (iV x1), some (iV x2), some (iV (x3 + (1 : Int32)))] [] σ) ∧ ((σ.1 62 0 ((x3).toNatClampNeg)) = x2 → (vp_in (((8 : Int32) * x1) + x3) 184 ∧ ((¬ (σ.1 75 0 (((((8 : Int32) * x1) + x3)).toNatClampNeg)) = (1 : Int32) → R mj_OM d mX11_boatIn Q 2 [some (rV 45 0), some (iV x1), some (iV x2), some (iV (x3 + (1 : Int32)))] [] σ) ∧ ((σ.1 75 0 (((((8 : Int32) * x1) + x3)).toNatClampNeg)) = (1 : Int32) → Q (some (iV x3)) σ)))))))))) : R mj_OM d mX11_boatIn Q 2 [some (rV 45 0), some (iV x1), some (iV x2), some (iV x3)] [] σ := by
  refine r_iload_n dX11_boatIn_2 rfl rfl ?_
  refine r_aload_n dX11_boatIn_3 rfl rfl ?_
  refine r_get (k := 45) (i := 0) (j := 3) (v := rV 47 0) rfl rfl ho45 rfl hX11 (by decide) rfl fX11_13 dX11_boatIn_4 (fun _ => rfl) ?_
  refine r_iconst (v := (4 : Int32)) dX11_boatIn_7 rfl ?_
  obtain ⟨q1, H⟩ := H
  refine r_iald (k := 47) (i := 0) rfl ho47 q1 dX11_boatIn_8 ?_
  refine r_icmp_ge (tgt := 45) dX11_boatIn_9 (by decide) (fun c => ?_) (fun c => ?_)
  · have H := H.1 c
    refine r_iconst (v := (-1 : Int32)) dX11_boatIn_45 rfl ?_
    exact r_iret dX11_boatIn_46 rfl H
  · have H := H.2 c
    refine r_aload_n dX11_boatIn_12 rfl rfl ?_
    refine r_get (k := 45) (i := 0) (j := 18) (v := rV 62 0) rfl rfl ho45 rfl hX11 (by decide) rfl fX11_58 dX11_boatIn_13 (fun _ => rfl) ?_
    refine r_iload_n dX11_boatIn_16 rfl rfl ?_
    obtain ⟨q2, H⟩ := H
    refine r_iald (k := 62) (i := 0) rfl ho62 q2 dX11_boatIn_17 ?_
    refine r_iload_n dX11_boatIn_18 rfl rfl ?_
    refine r_icmp_ne (tgt := 39) dX11_boatIn_19 (by decide) (fun c => ?_) (fun c => ?_)
    · have H := H.1 c
      refine r_iinc (v := x3 + (1 : Int32)) dX11_boatIn_39 rfl rfl (by decide) rfl ?_
      refine r_goto (tgt := 2) dX11_boatIn_42 (by decide) ?_
      exact H
    · have H := H.2 c
      refine r_aload_n dX11_boatIn_22 rfl rfl ?_
      refine r_get (k := 45) (i := 0) (j := 45) (v := rV 75 0) rfl rfl ho45 rfl hX11 (by decide) rfl fX11_102 dX11_boatIn_23 (fun _ => rfl) ?_
      refine r_bipush (v := (8 : Int32)) dX11_boatIn_26 rfl ?_
      refine r_iload_n dX11_boatIn_28 rfl rfl ?_
      refine r_imul dX11_boatIn_29 ?_
      refine r_iload_n dX11_boatIn_30 rfl rfl ?_
      refine r_iadd dX11_boatIn_31 ?_
      obtain ⟨q3, H⟩ := H
      refine r_iald (k := 75) (i := 0) rfl ho75 q3 dX11_boatIn_32 ?_
      refine r_iconst (v := (1 : Int32)) dX11_boatIn_33 rfl ?_
      refine r_icmp_ne (tgt := 39) dX11_boatIn_34 (by decide) (fun c => ?_) (fun c => ?_)
      · have H := H.1 c
        refine r_iinc (v := x3 + (1 : Int32)) dX11_boatIn_39 rfl rfl (by decide) rfl ?_
        refine r_goto (tgt := 2) dX11_boatIn_42 (by decide) ?_
        exact H
      · have H := H.2 c
        refine r_iload_n dX11_boatIn_37 rfl rfl ?_
        exact r_iret dX11_boatIn_38 rfl H
set_option maxRecDepth 100000 in
theorem bX11_moves_0 {d : Nat} {Q : Option MV → MS → Prop} {x1 : Int32} {x2 : Int32} {σ : MS}  (H : (vp_in x2 16 ∧ vp_in (σ.1 62 0 ((x2).toNatClampNeg)) 6 ∧ (R mj_OM d mX11_fullOf (fun r σ' => R mj_OM (d + 1) mX11_moves Q 31 [some (rV 45 0), some (iV x1), some (iV x2), some (iV (((8 : Int32) * x1) + x2)), some (iV (σ.1 62 0 ((x2).toNatClampNeg))), some (iV (σ.1 53 0 (((σ.1 62 0 ((x2).toNatClampNeg))).toNatClampNeg))), none] (r.toList ++ []) σ') 0 [some (rV 45 0), some (iV x1), some (iV (σ.1 53 0 (((σ.1 62 0 ((x2).toNatClampNeg))).toNatClampNeg)))] [] σ))) : R mj_OM (d + 1) mX11_moves Q 0 [some (rV 45 0), some (iV x1), some (iV x2), none, none, none, none] [] σ := by
  refine r_bipush (v := (8 : Int32)) dX11_moves_0 rfl ?_
  refine r_iload_n dX11_moves_2 rfl rfl ?_
  refine r_imul dX11_moves_3 ?_
  refine r_iload_n dX11_moves_4 rfl rfl ?_
  refine r_iadd dX11_moves_5 ?_
  refine r_istore_n dX11_moves_6 rfl (by decide) rfl ?_
  refine r_aload_n dX11_moves_7 rfl rfl ?_
  refine r_get (k := 45) (i := 0) (j := 18) (v := rV 62 0) rfl rfl ho45 rfl hX11 (by decide) rfl fX11_58 dX11_moves_8 (fun _ => rfl) ?_
  refine r_iload_n dX11_moves_11 rfl rfl ?_
  obtain ⟨q1, H⟩ := H
  refine r_iald (k := 62) (i := 0) rfl ho62 q1 dX11_moves_12 ?_
  refine r_istore dX11_moves_13 (by decide) rfl ?_
  refine r_aload_n dX11_moves_15 rfl rfl ?_
  refine r_get (k := 45) (i := 0) (j := 9) (v := rV 53 0) rfl rfl ho45 rfl hX11 (by decide) rfl fX11_31 dX11_moves_16 (fun _ => rfl) ?_
  refine r_iload dX11_moves_19 rfl ?_
  obtain ⟨q2, H⟩ := H
  refine r_iald (k := 53) (i := 0) rfl ho53 q2 dX11_moves_21 ?_
  refine r_istore dX11_moves_22 (by decide) rfl ?_
  refine r_aload_n dX11_moves_24 rfl rfl ?_
  refine r_iload_n dX11_moves_25 rfl rfl ?_
  refine r_iload dX11_moves_26 rfl ?_
  refine r_callV (z := 0) (k := 45) (i := 0) (As := [iV x1, iV (σ.1 53 0 (((σ.1 62 0 ((x2).toNatClampNeg))).toNatClampNeg))]) (st := []) kX11_fullOf i_X11_fullOf e_X11_fullOf lX11_346 dX11_moves_28 rfl rfl ho45 rfl rfl rfl rfl rfl (Nat.le_of_ble_eq_true rfl) ?_
  exact H
set_option maxRecDepth 100000 in
theorem bX11_moves_31 {d : Nat} {Q : Option MV → MS → Prop} {x1 : Int32} {x2 : Int32} {x3 : Int32} {x4 : Int32} {x5 : Int32} {s0 : Int32} {σ : MS}  (H : (vp_in x4 6 ∧ vp_in x5 14 ∧ ((((σ.1 54 0 ((x4).toNatClampNeg)) * (σ.1 49 0 ((x5).toNatClampNeg))) < s0 → (vp_in x3 184 ∧ ((¬ (σ.1 75 0 ((x3).toNatClampNeg)) = 0 → ((¬ (σ.1 75 0 ((x3).toNatClampNeg)) = (1 : Int32) → (((σ.1 75 0 ((x3).toNatClampNeg)) = (2 : Int32) → Q none σ) ∧ (¬ (σ.1 75 0 ((x3).toNatClampNeg)) = (2 : Int32) → (vp_in x1 23 ∧ vp_in x2 16 ∧ (((σ.1 70 0 ((x1).toNatClampNeg)) < (σ.1 63 0 ((x2).toNatClampNeg)) → Q none σ) ∧ (¬ (σ.1 70 0 ((x1).toNatClampNeg)) < (σ.1 63 0 ((x2).toNatClampNeg)) → Q none (uI σ 76 0 ((x3).toNatClampNeg) ((σ.1 76 0 ((x3).toNatClampNeg)) + (1 : Int32))))))))) ∧ ((σ.1 75 0 ((x3).toNatClampNeg)) = (1 : Int32) → (R mj_OM d mX11_isHigh (fun r σ' => R mj_OM (d + 1) mX11_moves Q 127 [some (rV 45 0), some (iV x1), some (iV x2), some (iV x3), some (iV x4), some (iV x5), some (iV (0 : Int32))] (r.toList ++ []) σ') 0 [some (rV 45 0), some (iV x1), some (iV x5), some (iV (σ.1 55 0 ((x4).toNatClampNeg)))] [] σ)))) ∧ ((σ.1 75 0 ((x3).toNatClampNeg)) = 0 → (vp_in x1 23 ∧ vp_in x2 16 ∧ (((σ.1 70 0 ((x1).toNatClampNeg)) < (σ.1 63 0 ((x2).toNatClampNeg)) → ((¬ (σ.1 75 0 ((x3).toNatClampNeg)) = (1 : Int32) → (((σ.1 75 0 ((x3).toNatClampNeg)) = (2 : Int32) → Q none σ) ∧ (¬ (σ.1 75 0 ((x3).toNatClampNeg)) = (2 : Int32) → (((σ.1 70 0 ((x1).toNatClampNeg)) < (σ.1 63 0 ((x2).toNatClampNeg)) → Q none σ) ∧ (¬ (σ.1 70 0 ((x1).toNatClampNeg)) < (σ.1 63 0 ((x2).toNatClampNeg)) → Q none (uI σ 76 0 ((x3).toNatClampNeg) ((σ.1 76 0 ((x3).toNatClampNeg)) + (1 : Int32)))))))) ∧ ((σ.1 75 0 ((x3).toNatClampNeg)) = (1 : Int32) → (R mj_OM d mX11_isHigh (fun r σ' => R mj_OM (d + 1) mX11_moves Q 127 [some (rV 45 0), some (iV x1), some (iV x2), some (iV x3), some (iV x4), some (iV x5), some (iV (0 : Int32))] (r.toList ++ []) σ') 0 [some (rV 45 0), some (iV x1), some (iV x5), some (iV (σ.1 55 0 ((x4).toNatClampNeg)))] [] σ)))) ∧ (¬ (σ.1 70 0 ((x1).toNatClampNeg)) < (σ.1 63 0 ((x2).toNatClampNeg)) → (R mj_OM d mX11_boatIn (fun r σ' => R mj_OM (d + 1) mX11_moves Q 87 [some (rV 45 0), some (iV x1), some (iV x2), some (iV x3), some (iV x4), some (iV x5), some (iV (0 : Int32))] (r.toList ++ []) σ') 0 [some (rV 45 0), some (iV x1), some (iV x4), none] [] σ)))))))) ∧ (¬ ((σ.1 54 0 ((x4).toNatClampNeg)) * (σ.1 49 0 ((x5).toNatClampNeg))) < s0 → (vp_in x3 184 ∧ ((¬ (σ.1 75 0 ((x3).toNatClampNeg)) = 0 → ((¬ (σ.1 75 0 ((x3).toNatClampNeg)) = (1 : Int32) → (((σ.1 75 0 ((x3).toNatClampNeg)) = (2 : Int32) → Q none σ) ∧ (¬ (σ.1 75 0 ((x3).toNatClampNeg)) = (2 : Int32) → (vp_in x1 23 ∧ vp_in x2 16 ∧ (((σ.1 70 0 ((x1).toNatClampNeg)) < (σ.1 63 0 ((x2).toNatClampNeg)) → Q none σ) ∧ (¬ (σ.1 70 0 ((x1).toNatClampNeg)) < (σ.1 63 0 ((x2).toNatClampNeg)) → Q none (uI σ 76 0 ((x3).toNatClampNeg) ((σ.1 76 0 ((x3).toNatClampNeg)) + (1 : Int32))))))))) ∧ ((σ.1 75 0 ((x3).toNatClampNeg)) = (1 : Int32) → (R mj_OM d mX11_isHigh (fun r σ' => R mj_OM (d + 1) mX11_moves Q 127 [some (rV 45 0), some (iV x1), some (iV x2), some (iV x3), some (iV x4), some (iV x5), some (iV (1 : Int32))] (r.toList ++ []) σ') 0 [some (rV 45 0), some (iV x1), some (iV x5), some (iV (σ.1 55 0 ((x4).toNatClampNeg)))] [] σ)))) ∧ ((σ.1 75 0 ((x3).toNatClampNeg)) = 0 → (vp_in x1 23 ∧ vp_in x2 16 ∧ (((σ.1 70 0 ((x1).toNatClampNeg)) < (σ.1 63 0 ((x2).toNatClampNeg)) → ((¬ (σ.1 75 0 ((x3).toNatClampNeg)) = (1 : Int32) → (((σ.1 75 0 ((x3).toNatClampNeg)) = (2 : Int32) → Q none σ) ∧ (¬ (σ.1 75 0 ((x3).toNatClampNeg)) = (2 : Int32) → (((σ.1 70 0 ((x1).toNatClampNeg)) < (σ.1 63 0 ((x2).toNatClampNeg)) → Q none σ) ∧ (¬ (σ.1 70 0 ((x1).toNatClampNeg)) < (σ.1 63 0 ((x2).toNatClampNeg)) → Q none (uI σ 76 0 ((x3).toNatClampNeg) ((σ.1 76 0 ((x3).toNatClampNeg)) + (1 : Int32)))))))) ∧ ((σ.1 75 0 ((x3).toNatClampNeg)) = (1 : Int32) → (R mj_OM d mX11_isHigh (fun r σ' => R mj_OM (d + 1) mX11_moves Q 127 [some (rV 45 0), some (iV x1), some (iV x2), some (iV x3), some (iV x4), some (iV x5), some (iV (1 : Int32))] (r.toList ++ []) σ') 0 [some (rV 45 0), some (iV x1), some (iV x5), some (iV (σ.1 55 0 ((x4).toNatClampNeg)))] [] σ)))) ∧ (¬ (σ.1 70 0 ((x1).toNatClampNeg)) < (σ.1 63 0 ((x2).toNatClampNeg)) → (R mj_OM d mX11_boatIn (fun r σ' => R mj_OM (d + 1) mX11_moves Q 87 [some (rV 45 0), some (iV x1), some (iV x2), some (iV x3), some (iV x4), some (iV x5), some (iV (1 : Int32))] (r.toList ++ []) σ') 0 [some (rV 45 0), some (iV x1), some (iV x4), none] [] σ))))))))))) : R mj_OM (d + 1) mX11_moves Q 31 [some (rV 45 0), some (iV x1), some (iV x2), some (iV x3), some (iV x4), some (iV x5), none] [iV s0] σ := by
  refine r_aload_n dX11_moves_31 rfl rfl ?_
  refine r_get (k := 45) (i := 0) (j := 10) (v := rV 54 0) rfl rfl ho45 rfl hX11 (by decide) rfl fX11_34 dX11_moves_32 (fun _ => rfl) ?_
  refine r_iload dX11_moves_35 rfl ?_
  obtain ⟨q1, H⟩ := H
  refine r_iald (k := 54) (i := 0) rfl ho54 q1 dX11_moves_37 ?_
  refine r_aload_n dX11_moves_38 rfl rfl ?_
  refine r_get (k := 45) (i := 0) (j := 5) (v := rV 49 0) rfl rfl ho45 rfl hX11 (by decide) rfl fX11_19 dX11_moves_39 (fun _ => rfl) ?_
  refine r_iload dX11_moves_42 rfl ?_
  obtain ⟨q2, H⟩ := H
  refine r_iald (k := 49) (i := 0) rfl ho49 q2 dX11_moves_44 ?_
  refine r_imul dX11_moves_45 ?_
  refine r_icmp_gt (tgt := 53) dX11_moves_46 (by decide) (fun c => ?_) (fun c => ?_)
  · have H := H.1 c
    refine r_iconst (v := (0 : Int32)) dX11_moves_53 rfl ?_
    refine r_istore dX11_moves_54 (by decide) rfl ?_
    refine r_aload_n dX11_moves_56 rfl rfl ?_
    refine r_get (k := 45) (i := 0) (j := 45) (v := rV 75 0) rfl rfl ho45 rfl hX11 (by decide) rfl fX11_102 dX11_moves_57 (fun _ => rfl) ?_
    refine r_iload_n dX11_moves_60 rfl rfl ?_
    obtain ⟨q3, H⟩ := H
    refine r_iald (k := 75) (i := 0) rfl ho75 q3 dX11_moves_61 ?_
    refine r_if_ne (tgt := 103) dX11_moves_62 (by decide) (fun c => ?_) (fun c => ?_)
    · have H := H.1 c
      refine r_aload_n dX11_moves_103 rfl rfl ?_
      refine r_get (k := 45) (i := 0) (j := 45) (v := rV 75 0) rfl rfl ho45 rfl hX11 (by decide) rfl fX11_102 dX11_moves_104 (fun _ => rfl) ?_
      refine r_iload_n dX11_moves_107 rfl rfl ?_
      refine r_iald (k := 75) (i := 0) rfl ho75 q3 dX11_moves_108 ?_
      refine r_iconst (v := (1 : Int32)) dX11_moves_109 rfl ?_
      refine r_icmp_ne (tgt := 163) dX11_moves_110 (by decide) (fun c => ?_) (fun c => ?_)
      · have H := H.1 c
        refine r_aload_n dX11_moves_163 rfl rfl ?_
        refine r_get (k := 45) (i := 0) (j := 45) (v := rV 75 0) rfl rfl ho45 rfl hX11 (by decide) rfl fX11_102 dX11_moves_164 (fun _ => rfl) ?_
        refine r_iload_n dX11_moves_167 rfl rfl ?_
        refine r_iald (k := 75) (i := 0) rfl ho75 q3 dX11_moves_168 ?_
        refine r_iconst (v := (2 : Int32)) dX11_moves_169 rfl ?_
        refine r_icmp_eq (tgt := 198) dX11_moves_170 (by decide) (fun c => ?_) (fun c => ?_)
        · have H := H.1 c
          exact r_vret dX11_moves_198 rfl H
        · have H := H.2 c
          refine r_aload_n dX11_moves_173 rfl rfl ?_
          refine r_get (k := 45) (i := 0) (j := 40) (v := rV 70 0) rfl rfl ho45 rfl hX11 (by decide) rfl fX11_87 dX11_moves_174 (fun _ => rfl) ?_
          refine r_iload_n dX11_moves_177 rfl rfl ?_
          obtain ⟨q4, H⟩ := H
          refine r_iald (k := 70) (i := 0) rfl ho70 q4 dX11_moves_178 ?_
          refine r_aload_n dX11_moves_179 rfl rfl ?_
          refine r_get (k := 45) (i := 0) (j := 19) (v := rV 63 0) rfl rfl ho45 rfl hX11 (by decide) rfl fX11_61 dX11_moves_180 (fun _ => rfl) ?_
          refine r_iload_n dX11_moves_183 rfl rfl ?_
          obtain ⟨q5, H⟩ := H
          refine r_iald (k := 63) (i := 0) rfl ho63 q5 dX11_moves_184 ?_
          refine r_icmp_lt (tgt := 198) dX11_moves_185 (by decide) (fun c => ?_) (fun c => ?_)
          · have H := H.1 c
            exact r_vret dX11_moves_198 rfl H
          · have H := H.2 c
            refine r_aload_n dX11_moves_188 rfl rfl ?_
            refine r_get (k := 45) (i := 0) (j := 46) (v := rV 76 0) rfl rfl ho45 rfl hX11 (by decide) rfl fX11_105 dX11_moves_189 (fun _ => rfl) ?_
            refine r_iload_n dX11_moves_192 rfl rfl ?_
            refine r_dup2_ri dX11_moves_193 ?_
            refine r_iald (k := 76) (i := 0) rfl ho76 q3 dX11_moves_194 ?_
            refine r_iconst (v := (1 : Int32)) dX11_moves_195 rfl ?_
            refine r_iadd dX11_moves_196 ?_
            refine r_iast (k := 76) (i := 0) rfl ho76 q3 dX11_moves_197 ?_
            exact r_vret dX11_moves_198 rfl H
      · have H := H.2 c
        refine r_aload_n dX11_moves_113 rfl rfl ?_
        refine r_iload_n dX11_moves_114 rfl rfl ?_
        refine r_iload dX11_moves_115 rfl ?_
        refine r_aload_n dX11_moves_117 rfl rfl ?_
        refine r_get (k := 45) (i := 0) (j := 11) (v := rV 55 0) rfl rfl ho45 rfl hX11 (by decide) rfl fX11_37 dX11_moves_118 (fun _ => rfl) ?_
        refine r_iload dX11_moves_121 rfl ?_
        refine r_iald (k := 55) (i := 0) rfl ho55 q1 dX11_moves_123 ?_
        refine r_callV (z := 0) (k := 45) (i := 0) (As := [iV x1, iV x5, iV (σ.1 55 0 ((x4).toNatClampNeg))]) (st := []) kX11_isHigh i_X11_isHigh e_X11_isHigh lX11_422 dX11_moves_124 rfl rfl ho45 rfl rfl rfl rfl rfl (Nat.le_of_ble_eq_true rfl) ?_
        exact H
    · have H := H.2 c
      refine r_aload_n dX11_moves_65 rfl rfl ?_
      refine r_get (k := 45) (i := 0) (j := 40) (v := rV 70 0) rfl rfl ho45 rfl hX11 (by decide) rfl fX11_87 dX11_moves_66 (fun _ => rfl) ?_
      refine r_iload_n dX11_moves_69 rfl rfl ?_
      obtain ⟨q6, H⟩ := H
      refine r_iald (k := 70) (i := 0) rfl ho70 q6 dX11_moves_70 ?_
      refine r_aload_n dX11_moves_71 rfl rfl ?_
      refine r_get (k := 45) (i := 0) (j := 19) (v := rV 63 0) rfl rfl ho45 rfl hX11 (by decide) rfl fX11_61 dX11_moves_72 (fun _ => rfl) ?_
      refine r_iload_n dX11_moves_75 rfl rfl ?_
      obtain ⟨q7, H⟩ := H
      refine r_iald (k := 63) (i := 0) rfl ho63 q7 dX11_moves_76 ?_
      refine r_icmp_lt (tgt := 103) dX11_moves_77 (by decide) (fun c => ?_) (fun c => ?_)
      · have H := H.1 c
        refine r_aload_n dX11_moves_103 rfl rfl ?_
        refine r_get (k := 45) (i := 0) (j := 45) (v := rV 75 0) rfl rfl ho45 rfl hX11 (by decide) rfl fX11_102 dX11_moves_104 (fun _ => rfl) ?_
        refine r_iload_n dX11_moves_107 rfl rfl ?_
        refine r_iald (k := 75) (i := 0) rfl ho75 q3 dX11_moves_108 ?_
        refine r_iconst (v := (1 : Int32)) dX11_moves_109 rfl ?_
        refine r_icmp_ne (tgt := 163) dX11_moves_110 (by decide) (fun c => ?_) (fun c => ?_)
        · have H := H.1 c
          refine r_aload_n dX11_moves_163 rfl rfl ?_
          refine r_get (k := 45) (i := 0) (j := 45) (v := rV 75 0) rfl rfl ho45 rfl hX11 (by decide) rfl fX11_102 dX11_moves_164 (fun _ => rfl) ?_
          refine r_iload_n dX11_moves_167 rfl rfl ?_
          refine r_iald (k := 75) (i := 0) rfl ho75 q3 dX11_moves_168 ?_
          refine r_iconst (v := (2 : Int32)) dX11_moves_169 rfl ?_
          refine r_icmp_eq (tgt := 198) dX11_moves_170 (by decide) (fun c => ?_) (fun c => ?_)
          · have H := H.1 c
            exact r_vret dX11_moves_198 rfl H
          · have H := H.2 c
            refine r_aload_n dX11_moves_173 rfl rfl ?_
            refine r_get (k := 45) (i := 0) (j := 40) (v := rV 70 0) rfl rfl ho45 rfl hX11 (by decide) rfl fX11_87 dX11_moves_174 (fun _ => rfl) ?_
            refine r_iload_n dX11_moves_177 rfl rfl ?_
            refine r_iald (k := 70) (i := 0) rfl ho70 q6 dX11_moves_178 ?_
            refine r_aload_n dX11_moves_179 rfl rfl ?_
            refine r_get (k := 45) (i := 0) (j := 19) (v := rV 63 0) rfl rfl ho45 rfl hX11 (by decide) rfl fX11_61 dX11_moves_180 (fun _ => rfl) ?_
            refine r_iload_n dX11_moves_183 rfl rfl ?_
            refine r_iald (k := 63) (i := 0) rfl ho63 q7 dX11_moves_184 ?_
            refine r_icmp_lt (tgt := 198) dX11_moves_185 (by decide) (fun c => ?_) (fun c => ?_)
            · have H := H.1 c
              exact r_vret dX11_moves_198 rfl H
            · have H := H.2 c
              refine r_aload_n dX11_moves_188 rfl rfl ?_
              refine r_get (k := 45) (i := 0) (j := 46) (v := rV 76 0) rfl rfl ho45 rfl hX11 (by decide) rfl fX11_105 dX11_moves_189 (fun _ => rfl) ?_
              refine r_iload_n dX11_moves_192 rfl rfl ?_
              refine r_dup2_ri dX11_moves_193 ?_
              refine r_iald (k := 76) (i := 0) rfl ho76 q3 dX11_moves_194 ?_
              refine r_iconst (v := (1 : Int32)) dX11_moves_195 rfl ?_
              refine r_iadd dX11_moves_196 ?_
              refine r_iast (k := 76) (i := 0) rfl ho76 q3 dX11_moves_197 ?_
              exact r_vret dX11_moves_198 rfl H
        · have H := H.2 c
          refine r_aload_n dX11_moves_113 rfl rfl ?_
          refine r_iload_n dX11_moves_114 rfl rfl ?_
          refine r_iload dX11_moves_115 rfl ?_
          refine r_aload_n dX11_moves_117 rfl rfl ?_
          refine r_get (k := 45) (i := 0) (j := 11) (v := rV 55 0) rfl rfl ho45 rfl hX11 (by decide) rfl fX11_37 dX11_moves_118 (fun _ => rfl) ?_
          refine r_iload dX11_moves_121 rfl ?_
          refine r_iald (k := 55) (i := 0) rfl ho55 q1 dX11_moves_123 ?_
          refine r_callV (z := 0) (k := 45) (i := 0) (As := [iV x1, iV x5, iV (σ.1 55 0 ((x4).toNatClampNeg))]) (st := []) kX11_isHigh i_X11_isHigh e_X11_isHigh lX11_422 dX11_moves_124 rfl rfl ho45 rfl rfl rfl rfl rfl (Nat.le_of_ble_eq_true rfl) ?_
          exact H
      · have H := H.2 c
        refine r_aload_n dX11_moves_80 rfl rfl ?_
        refine r_iload_n dX11_moves_81 rfl rfl ?_
        refine r_iload dX11_moves_82 rfl ?_
        refine r_callV (z := 1) (k := 45) (i := 0) (As := [iV x1, iV x4]) (st := []) kX11_boatIn i_X11_boatIn e_X11_boatIn lX11_419 dX11_moves_84 rfl rfl ho45 rfl rfl rfl rfl rfl (Nat.le_of_ble_eq_true rfl) ?_
        exact H
  · have H := H.2 c
    refine r_iconst (v := (1 : Int32)) dX11_moves_49 rfl ?_
    refine r_goto (tgt := 54) dX11_moves_50 (by decide) ?_
    refine r_istore dX11_moves_54 (by decide) rfl ?_
    refine r_aload_n dX11_moves_56 rfl rfl ?_
    refine r_get (k := 45) (i := 0) (j := 45) (v := rV 75 0) rfl rfl ho45 rfl hX11 (by decide) rfl fX11_102 dX11_moves_57 (fun _ => rfl) ?_
    refine r_iload_n dX11_moves_60 rfl rfl ?_
    obtain ⟨q8, H⟩ := H
    refine r_iald (k := 75) (i := 0) rfl ho75 q8 dX11_moves_61 ?_
    refine r_if_ne (tgt := 103) dX11_moves_62 (by decide) (fun c => ?_) (fun c => ?_)
    · have H := H.1 c
      refine r_aload_n dX11_moves_103 rfl rfl ?_
      refine r_get (k := 45) (i := 0) (j := 45) (v := rV 75 0) rfl rfl ho45 rfl hX11 (by decide) rfl fX11_102 dX11_moves_104 (fun _ => rfl) ?_
      refine r_iload_n dX11_moves_107 rfl rfl ?_
      refine r_iald (k := 75) (i := 0) rfl ho75 q8 dX11_moves_108 ?_
      refine r_iconst (v := (1 : Int32)) dX11_moves_109 rfl ?_
      refine r_icmp_ne (tgt := 163) dX11_moves_110 (by decide) (fun c => ?_) (fun c => ?_)
      · have H := H.1 c
        refine r_aload_n dX11_moves_163 rfl rfl ?_
        refine r_get (k := 45) (i := 0) (j := 45) (v := rV 75 0) rfl rfl ho45 rfl hX11 (by decide) rfl fX11_102 dX11_moves_164 (fun _ => rfl) ?_
        refine r_iload_n dX11_moves_167 rfl rfl ?_
        refine r_iald (k := 75) (i := 0) rfl ho75 q8 dX11_moves_168 ?_
        refine r_iconst (v := (2 : Int32)) dX11_moves_169 rfl ?_
        refine r_icmp_eq (tgt := 198) dX11_moves_170 (by decide) (fun c => ?_) (fun c => ?_)
        · have H := H.1 c
          exact r_vret dX11_moves_198 rfl H
        · have H := H.2 c
          refine r_aload_n dX11_moves_173 rfl rfl ?_
          refine r_get (k := 45) (i := 0) (j := 40) (v := rV 70 0) rfl rfl ho45 rfl hX11 (by decide) rfl fX11_87 dX11_moves_174 (fun _ => rfl) ?_
          refine r_iload_n dX11_moves_177 rfl rfl ?_
          obtain ⟨q9, H⟩ := H
          refine r_iald (k := 70) (i := 0) rfl ho70 q9 dX11_moves_178 ?_
          refine r_aload_n dX11_moves_179 rfl rfl ?_
          refine r_get (k := 45) (i := 0) (j := 19) (v := rV 63 0) rfl rfl ho45 rfl hX11 (by decide) rfl fX11_61 dX11_moves_180 (fun _ => rfl) ?_
          refine r_iload_n dX11_moves_183 rfl rfl ?_
          obtain ⟨q10, H⟩ := H
          refine r_iald (k := 63) (i := 0) rfl ho63 q10 dX11_moves_184 ?_
          refine r_icmp_lt (tgt := 198) dX11_moves_185 (by decide) (fun c => ?_) (fun c => ?_)
          · have H := H.1 c
            exact r_vret dX11_moves_198 rfl H
          · have H := H.2 c
            refine r_aload_n dX11_moves_188 rfl rfl ?_
            refine r_get (k := 45) (i := 0) (j := 46) (v := rV 76 0) rfl rfl ho45 rfl hX11 (by decide) rfl fX11_105 dX11_moves_189 (fun _ => rfl) ?_
            refine r_iload_n dX11_moves_192 rfl rfl ?_
            refine r_dup2_ri dX11_moves_193 ?_
            refine r_iald (k := 76) (i := 0) rfl ho76 q8 dX11_moves_194 ?_
            refine r_iconst (v := (1 : Int32)) dX11_moves_195 rfl ?_
            refine r_iadd dX11_moves_196 ?_
            refine r_iast (k := 76) (i := 0) rfl ho76 q8 dX11_moves_197 ?_
            exact r_vret dX11_moves_198 rfl H
      · have H := H.2 c
        refine r_aload_n dX11_moves_113 rfl rfl ?_
        refine r_iload_n dX11_moves_114 rfl rfl ?_
        refine r_iload dX11_moves_115 rfl ?_
        refine r_aload_n dX11_moves_117 rfl rfl ?_
        refine r_get (k := 45) (i := 0) (j := 11) (v := rV 55 0) rfl rfl ho45 rfl hX11 (by decide) rfl fX11_37 dX11_moves_118 (fun _ => rfl) ?_
        refine r_iload dX11_moves_121 rfl ?_
        refine r_iald (k := 55) (i := 0) rfl ho55 q1 dX11_moves_123 ?_
        refine r_callV (z := 0) (k := 45) (i := 0) (As := [iV x1, iV x5, iV (σ.1 55 0 ((x4).toNatClampNeg))]) (st := []) kX11_isHigh i_X11_isHigh e_X11_isHigh lX11_422 dX11_moves_124 rfl rfl ho45 rfl rfl rfl rfl rfl (Nat.le_of_ble_eq_true rfl) ?_
        exact H
    · have H := H.2 c
      refine r_aload_n dX11_moves_65 rfl rfl ?_
      refine r_get (k := 45) (i := 0) (j := 40) (v := rV 70 0) rfl rfl ho45 rfl hX11 (by decide) rfl fX11_87 dX11_moves_66 (fun _ => rfl) ?_
      refine r_iload_n dX11_moves_69 rfl rfl ?_
      obtain ⟨q11, H⟩ := H
      refine r_iald (k := 70) (i := 0) rfl ho70 q11 dX11_moves_70 ?_
      refine r_aload_n dX11_moves_71 rfl rfl ?_
      refine r_get (k := 45) (i := 0) (j := 19) (v := rV 63 0) rfl rfl ho45 rfl hX11 (by decide) rfl fX11_61 dX11_moves_72 (fun _ => rfl) ?_
      refine r_iload_n dX11_moves_75 rfl rfl ?_
      obtain ⟨q12, H⟩ := H
      refine r_iald (k := 63) (i := 0) rfl ho63 q12 dX11_moves_76 ?_
      refine r_icmp_lt (tgt := 103) dX11_moves_77 (by decide) (fun c => ?_) (fun c => ?_)
      · have H := H.1 c
        refine r_aload_n dX11_moves_103 rfl rfl ?_
        refine r_get (k := 45) (i := 0) (j := 45) (v := rV 75 0) rfl rfl ho45 rfl hX11 (by decide) rfl fX11_102 dX11_moves_104 (fun _ => rfl) ?_
        refine r_iload_n dX11_moves_107 rfl rfl ?_
        refine r_iald (k := 75) (i := 0) rfl ho75 q8 dX11_moves_108 ?_
        refine r_iconst (v := (1 : Int32)) dX11_moves_109 rfl ?_
        refine r_icmp_ne (tgt := 163) dX11_moves_110 (by decide) (fun c => ?_) (fun c => ?_)
        · have H := H.1 c
          refine r_aload_n dX11_moves_163 rfl rfl ?_
          refine r_get (k := 45) (i := 0) (j := 45) (v := rV 75 0) rfl rfl ho45 rfl hX11 (by decide) rfl fX11_102 dX11_moves_164 (fun _ => rfl) ?_
          refine r_iload_n dX11_moves_167 rfl rfl ?_
          refine r_iald (k := 75) (i := 0) rfl ho75 q8 dX11_moves_168 ?_
          refine r_iconst (v := (2 : Int32)) dX11_moves_169 rfl ?_
          refine r_icmp_eq (tgt := 198) dX11_moves_170 (by decide) (fun c => ?_) (fun c => ?_)
          · have H := H.1 c
            exact r_vret dX11_moves_198 rfl H
          · have H := H.2 c
            refine r_aload_n dX11_moves_173 rfl rfl ?_
            refine r_get (k := 45) (i := 0) (j := 40) (v := rV 70 0) rfl rfl ho45 rfl hX11 (by decide) rfl fX11_87 dX11_moves_174 (fun _ => rfl) ?_
            refine r_iload_n dX11_moves_177 rfl rfl ?_
            refine r_iald (k := 70) (i := 0) rfl ho70 q11 dX11_moves_178 ?_
            refine r_aload_n dX11_moves_179 rfl rfl ?_
            refine r_get (k := 45) (i := 0) (j := 19) (v := rV 63 0) rfl rfl ho45 rfl hX11 (by decide) rfl fX11_61 dX11_moves_180 (fun _ => rfl) ?_
            refine r_iload_n dX11_moves_183 rfl rfl ?_
            refine r_iald (k := 63) (i := 0) rfl ho63 q12 dX11_moves_184 ?_
            refine r_icmp_lt (tgt := 198) dX11_moves_185 (by decide) (fun c => ?_) (fun c => ?_)
            · have H := H.1 c
              exact r_vret dX11_moves_198 rfl H
            · have H := H.2 c
              refine r_aload_n dX11_moves_188 rfl rfl ?_
              refine r_get (k := 45) (i := 0) (j := 46) (v := rV 76 0) rfl rfl ho45 rfl hX11 (by decide) rfl fX11_105 dX11_moves_189 (fun _ => rfl) ?_
              refine r_iload_n dX11_moves_192 rfl rfl ?_
              refine r_dup2_ri dX11_moves_193 ?_
              refine r_iald (k := 76) (i := 0) rfl ho76 q8 dX11_moves_194 ?_
              refine r_iconst (v := (1 : Int32)) dX11_moves_195 rfl ?_
              refine r_iadd dX11_moves_196 ?_
              refine r_iast (k := 76) (i := 0) rfl ho76 q8 dX11_moves_197 ?_
              exact r_vret dX11_moves_198 rfl H
        · have H := H.2 c
          refine r_aload_n dX11_moves_113 rfl rfl ?_
          refine r_iload_n dX11_moves_114 rfl rfl ?_
          refine r_iload dX11_moves_115 rfl ?_
          refine r_aload_n dX11_moves_117 rfl rfl ?_
          refine r_get (k := 45) (i := 0) (j := 11) (v := rV 55 0) rfl rfl ho45 rfl hX11 (by decide) rfl fX11_37 dX11_moves_118 (fun _ => rfl) ?_
          refine r_iload dX11_moves_121 rfl ?_
          refine r_iald (k := 55) (i := 0) rfl ho55 q1 dX11_moves_123 ?_
          refine r_callV (z := 0) (k := 45) (i := 0) (As := [iV x1, iV x5, iV (σ.1 55 0 ((x4).toNatClampNeg))]) (st := []) kX11_isHigh i_X11_isHigh e_X11_isHigh lX11_422 dX11_moves_124 rfl rfl ho45 rfl rfl rfl rfl rfl (Nat.le_of_ble_eq_true rfl) ?_
          exact H
      · have H := H.2 c
        refine r_aload_n dX11_moves_80 rfl rfl ?_
        refine r_iload_n dX11_moves_81 rfl rfl ?_
        refine r_iload dX11_moves_82 rfl ?_
        refine r_callV (z := 1) (k := 45) (i := 0) (As := [iV x1, iV x4]) (st := []) kX11_boatIn i_X11_boatIn e_X11_boatIn lX11_419 dX11_moves_84 rfl rfl ho45 rfl rfl rfl rfl rfl (Nat.le_of_ble_eq_true rfl) ?_
        exact H
set_option maxRecDepth 100000 in
theorem bX11_moves_87 {d : Nat} {Q : Option MV → MS → Prop} {x1 : Int32} {x2 : Int32} {x3 : Int32} {x4 : Int32} {x5 : Int32} {x6 : Int32} {s0 : Int32} {σ : MS}  (H : ((¬ s0 = (-1 : Int32) → (vp_in x3 184 ∧ ((¬ (σ.1 75 0 ((x3).toNatClampNeg)) = (1 : Int32) → (((σ.1 75 0 ((x3).toNatClampNeg)) = (2 : Int32) → Q none σ) ∧ (¬ (σ.1 75 0 ((x3).toNatClampNeg)) = (2 : Int32) → (vp_in x1 23 ∧ vp_in x2 16 ∧ (((σ.1 70 0 ((x1).toNatClampNeg)) < (σ.1 63 0 ((x2).toNatClampNeg)) → Q none σ) ∧ (¬ (σ.1 70 0 ((x1).toNatClampNeg)) < (σ.1 63 0 ((x2).toNatClampNeg)) → Q none (uI σ 76 0 ((x3).toNatClampNeg) ((σ.1 76 0 ((x3).toNatClampNeg)) + (1 : Int32))))))))) ∧ ((σ.1 75 0 ((x3).toNatClampNeg)) = (1 : Int32) → (vp_in x4 6 ∧ (R mj_OM d mX11_isHigh (fun r σ' => R mj_OM (d + 1) mX11_moves Q 127 [some (rV 45 0), some (iV x1), some (iV x2), some (iV x3), some (iV x4), some (iV x5), some (iV x6)] (r.toList ++ []) σ') 0 [some (rV 45 0), some (iV x1), some (iV x5), some (iV (σ.1 55 0 ((x4).toNatClampNeg)))] [] σ)))))) ∧ (s0 = (-1 : Int32) → ((x6 = 0 → (vp_in x3 184 ∧ ((¬ (σ.1 75 0 ((x3).toNatClampNeg)) = (1 : Int32) → (((σ.1 75 0 ((x3).toNatClampNeg)) = (2 : Int32) → Q none σ) ∧ (¬ (σ.1 75 0 ((x3).toNatClampNeg)) = (2 : Int32) → (vp_in x1 23 ∧ vp_in x2 16 ∧ (((σ.1 70 0 ((x1).toNatClampNeg)) < (σ.1 63 0 ((x2).toNatClampNeg)) → Q none σ) ∧ (¬ (σ.1 70 0 ((x1).toNatClampNeg)) < (σ.1 63 0 ((x2).toNatClampNeg)) → Q none (uI σ 76 0 ((x3).toNatClampNeg) ((σ.1 76 0 ((x3).toNatClampNeg)) + (1 : Int32))))))))) ∧ ((σ.1 75 0 ((x3).toNatClampNeg)) = (1 : Int32) → (vp_in x4 6 ∧ (R mj_OM d mX11_isHigh (fun r σ' => R mj_OM (d + 1) mX11_moves Q 127 [some (rV 45 0), some (iV x1), some (iV x2), some (iV x3), some (iV x4), some (iV x5), some (iV x6)] (r.toList ++ []) σ') 0 [some (rV 45 0), some (iV x1), some (iV x5), some (iV (σ.1 55 0 ((x4).toNatClampNeg)))] [] σ)))))) ∧ (¬ x6 = 0 → (vp_in x3 184 ∧ ((¬ ((uI σ 75 0 ((x3).toNatClampNeg) (1 : Int32)).1 75 0 ((x3).toNatClampNeg)) = (1 : Int32) → ((((uI σ 75 0 ((x3).toNatClampNeg) (1 : Int32)).1 75 0 ((x3).toNatClampNeg)) = (2 : Int32) → Q none (uI σ 75 0 ((x3).toNatClampNeg) (1 : Int32))) ∧ (¬ ((uI σ 75 0 ((x3).toNatClampNeg) (1 : Int32)).1 75 0 ((x3).toNatClampNeg)) = (2 : Int32) → (vp_in x1 23 ∧ vp_in x2 16 ∧ (((σ.1 70 0 ((x1).toNatClampNeg)) < (σ.1 63 0 ((x2).toNatClampNeg)) → Q none (uI σ 75 0 ((x3).toNatClampNeg) (1 : Int32))) ∧ (¬ (σ.1 70 0 ((x1).toNatClampNeg)) < (σ.1 63 0 ((x2).toNatClampNeg)) → Q none (uI (uI σ 75 0 ((x3).toNatClampNeg) (1 : Int32)) 76 0 ((x3).toNatClampNeg) ((σ.1 76 0 ((x3).toNatClampNeg)) + (1 : Int32))))))))) ∧ (((uI σ 75 0 ((x3).toNatClampNeg) (1 : Int32)).1 75 0 ((x3).toNatClampNeg)) = (1 : Int32) → (vp_in x4 6 ∧ (R mj_OM d mX11_isHigh (fun r σ' => R mj_OM (d + 1) mX11_moves Q 127 [some (rV 45 0), some (iV x1), some (iV x2), some (iV x3), some (iV x4), some (iV x5), some (iV x6)] (r.toList ++ []) σ') 0 [some (rV 45 0), some (iV x1), some (iV x5), some (iV (σ.1 55 0 ((x4).toNatClampNeg)))] [] (uI σ 75 0 ((x3).toNatClampNeg) (1 : Int32)))))))))))) : R mj_OM (d + 1) mX11_moves Q 87 [some (rV 45 0), some (iV x1), some (iV x2), some (iV x3), some (iV x4), some (iV x5), some (iV x6)] [iV s0] σ := by
  refine r_iconst (v := (-1 : Int32)) dX11_moves_87 rfl ?_
  refine r_icmp_ne (tgt := 103) dX11_moves_88 (by decide) (fun c => ?_) (fun c => ?_)
  · have H := H.1 c
    refine r_aload_n dX11_moves_103 rfl rfl ?_
    refine r_get (k := 45) (i := 0) (j := 45) (v := rV 75 0) rfl rfl ho45 rfl hX11 (by decide) rfl fX11_102 dX11_moves_104 (fun _ => rfl) ?_
    refine r_iload_n dX11_moves_107 rfl rfl ?_
    obtain ⟨q1, H⟩ := H
    refine r_iald (k := 75) (i := 0) rfl ho75 q1 dX11_moves_108 ?_
    refine r_iconst (v := (1 : Int32)) dX11_moves_109 rfl ?_
    refine r_icmp_ne (tgt := 163) dX11_moves_110 (by decide) (fun c => ?_) (fun c => ?_)
    · have H := H.1 c
      refine r_aload_n dX11_moves_163 rfl rfl ?_
      refine r_get (k := 45) (i := 0) (j := 45) (v := rV 75 0) rfl rfl ho45 rfl hX11 (by decide) rfl fX11_102 dX11_moves_164 (fun _ => rfl) ?_
      refine r_iload_n dX11_moves_167 rfl rfl ?_
      refine r_iald (k := 75) (i := 0) rfl ho75 q1 dX11_moves_168 ?_
      refine r_iconst (v := (2 : Int32)) dX11_moves_169 rfl ?_
      refine r_icmp_eq (tgt := 198) dX11_moves_170 (by decide) (fun c => ?_) (fun c => ?_)
      · have H := H.1 c
        exact r_vret dX11_moves_198 rfl H
      · have H := H.2 c
        refine r_aload_n dX11_moves_173 rfl rfl ?_
        refine r_get (k := 45) (i := 0) (j := 40) (v := rV 70 0) rfl rfl ho45 rfl hX11 (by decide) rfl fX11_87 dX11_moves_174 (fun _ => rfl) ?_
        refine r_iload_n dX11_moves_177 rfl rfl ?_
        obtain ⟨q2, H⟩ := H
        refine r_iald (k := 70) (i := 0) rfl ho70 q2 dX11_moves_178 ?_
        refine r_aload_n dX11_moves_179 rfl rfl ?_
        refine r_get (k := 45) (i := 0) (j := 19) (v := rV 63 0) rfl rfl ho45 rfl hX11 (by decide) rfl fX11_61 dX11_moves_180 (fun _ => rfl) ?_
        refine r_iload_n dX11_moves_183 rfl rfl ?_
        obtain ⟨q3, H⟩ := H
        refine r_iald (k := 63) (i := 0) rfl ho63 q3 dX11_moves_184 ?_
        refine r_icmp_lt (tgt := 198) dX11_moves_185 (by decide) (fun c => ?_) (fun c => ?_)
        · have H := H.1 c
          exact r_vret dX11_moves_198 rfl H
        · have H := H.2 c
          refine r_aload_n dX11_moves_188 rfl rfl ?_
          refine r_get (k := 45) (i := 0) (j := 46) (v := rV 76 0) rfl rfl ho45 rfl hX11 (by decide) rfl fX11_105 dX11_moves_189 (fun _ => rfl) ?_
          refine r_iload_n dX11_moves_192 rfl rfl ?_
          refine r_dup2_ri dX11_moves_193 ?_
          refine r_iald (k := 76) (i := 0) rfl ho76 q1 dX11_moves_194 ?_
          refine r_iconst (v := (1 : Int32)) dX11_moves_195 rfl ?_
          refine r_iadd dX11_moves_196 ?_
          refine r_iast (k := 76) (i := 0) rfl ho76 q1 dX11_moves_197 ?_
          exact r_vret dX11_moves_198 rfl H
    · have H := H.2 c
      refine r_aload_n dX11_moves_113 rfl rfl ?_
      refine r_iload_n dX11_moves_114 rfl rfl ?_
      refine r_iload dX11_moves_115 rfl ?_
      refine r_aload_n dX11_moves_117 rfl rfl ?_
      refine r_get (k := 45) (i := 0) (j := 11) (v := rV 55 0) rfl rfl ho45 rfl hX11 (by decide) rfl fX11_37 dX11_moves_118 (fun _ => rfl) ?_
      refine r_iload dX11_moves_121 rfl ?_
      obtain ⟨q4, H⟩ := H
      refine r_iald (k := 55) (i := 0) rfl ho55 q4 dX11_moves_123 ?_
      refine r_callV (z := 0) (k := 45) (i := 0) (As := [iV x1, iV x5, iV (σ.1 55 0 ((x4).toNatClampNeg))]) (st := []) kX11_isHigh i_X11_isHigh e_X11_isHigh lX11_422 dX11_moves_124 rfl rfl ho45 rfl rfl rfl rfl rfl (Nat.le_of_ble_eq_true rfl) ?_
      exact H
  · have H := H.2 c
    refine r_iload dX11_moves_91 rfl ?_
    refine r_if_eq (tgt := 103) dX11_moves_93 (by decide) (fun c => ?_) (fun c => ?_)
    · have H := H.1 c
      refine r_aload_n dX11_moves_103 rfl rfl ?_
      refine r_get (k := 45) (i := 0) (j := 45) (v := rV 75 0) rfl rfl ho45 rfl hX11 (by decide) rfl fX11_102 dX11_moves_104 (fun _ => rfl) ?_
      refine r_iload_n dX11_moves_107 rfl rfl ?_
      obtain ⟨q5, H⟩ := H
      refine r_iald (k := 75) (i := 0) rfl ho75 q5 dX11_moves_108 ?_
      refine r_iconst (v := (1 : Int32)) dX11_moves_109 rfl ?_
      refine r_icmp_ne (tgt := 163) dX11_moves_110 (by decide) (fun c => ?_) (fun c => ?_)
      · have H := H.1 c
        refine r_aload_n dX11_moves_163 rfl rfl ?_
        refine r_get (k := 45) (i := 0) (j := 45) (v := rV 75 0) rfl rfl ho45 rfl hX11 (by decide) rfl fX11_102 dX11_moves_164 (fun _ => rfl) ?_
        refine r_iload_n dX11_moves_167 rfl rfl ?_
        refine r_iald (k := 75) (i := 0) rfl ho75 q5 dX11_moves_168 ?_
        refine r_iconst (v := (2 : Int32)) dX11_moves_169 rfl ?_
        refine r_icmp_eq (tgt := 198) dX11_moves_170 (by decide) (fun c => ?_) (fun c => ?_)
        · have H := H.1 c
          exact r_vret dX11_moves_198 rfl H
        · have H := H.2 c
          refine r_aload_n dX11_moves_173 rfl rfl ?_
          refine r_get (k := 45) (i := 0) (j := 40) (v := rV 70 0) rfl rfl ho45 rfl hX11 (by decide) rfl fX11_87 dX11_moves_174 (fun _ => rfl) ?_
          refine r_iload_n dX11_moves_177 rfl rfl ?_
          obtain ⟨q6, H⟩ := H
          refine r_iald (k := 70) (i := 0) rfl ho70 q6 dX11_moves_178 ?_
          refine r_aload_n dX11_moves_179 rfl rfl ?_
          refine r_get (k := 45) (i := 0) (j := 19) (v := rV 63 0) rfl rfl ho45 rfl hX11 (by decide) rfl fX11_61 dX11_moves_180 (fun _ => rfl) ?_
          refine r_iload_n dX11_moves_183 rfl rfl ?_
          obtain ⟨q7, H⟩ := H
          refine r_iald (k := 63) (i := 0) rfl ho63 q7 dX11_moves_184 ?_
          refine r_icmp_lt (tgt := 198) dX11_moves_185 (by decide) (fun c => ?_) (fun c => ?_)
          · have H := H.1 c
            exact r_vret dX11_moves_198 rfl H
          · have H := H.2 c
            refine r_aload_n dX11_moves_188 rfl rfl ?_
            refine r_get (k := 45) (i := 0) (j := 46) (v := rV 76 0) rfl rfl ho45 rfl hX11 (by decide) rfl fX11_105 dX11_moves_189 (fun _ => rfl) ?_
            refine r_iload_n dX11_moves_192 rfl rfl ?_
            refine r_dup2_ri dX11_moves_193 ?_
            refine r_iald (k := 76) (i := 0) rfl ho76 q5 dX11_moves_194 ?_
            refine r_iconst (v := (1 : Int32)) dX11_moves_195 rfl ?_
            refine r_iadd dX11_moves_196 ?_
            refine r_iast (k := 76) (i := 0) rfl ho76 q5 dX11_moves_197 ?_
            exact r_vret dX11_moves_198 rfl H
      · have H := H.2 c
        refine r_aload_n dX11_moves_113 rfl rfl ?_
        refine r_iload_n dX11_moves_114 rfl rfl ?_
        refine r_iload dX11_moves_115 rfl ?_
        refine r_aload_n dX11_moves_117 rfl rfl ?_
        refine r_get (k := 45) (i := 0) (j := 11) (v := rV 55 0) rfl rfl ho45 rfl hX11 (by decide) rfl fX11_37 dX11_moves_118 (fun _ => rfl) ?_
        refine r_iload dX11_moves_121 rfl ?_
        obtain ⟨q8, H⟩ := H
        refine r_iald (k := 55) (i := 0) rfl ho55 q8 dX11_moves_123 ?_
        refine r_callV (z := 0) (k := 45) (i := 0) (As := [iV x1, iV x5, iV (σ.1 55 0 ((x4).toNatClampNeg))]) (st := []) kX11_isHigh i_X11_isHigh e_X11_isHigh lX11_422 dX11_moves_124 rfl rfl ho45 rfl rfl rfl rfl rfl (Nat.le_of_ble_eq_true rfl) ?_
        exact H
    · have H := H.2 c
      refine r_aload_n dX11_moves_96 rfl rfl ?_
      refine r_get (k := 45) (i := 0) (j := 45) (v := rV 75 0) rfl rfl ho45 rfl hX11 (by decide) rfl fX11_102 dX11_moves_97 (fun _ => rfl) ?_
      refine r_iload_n dX11_moves_100 rfl rfl ?_
      refine r_iconst (v := (1 : Int32)) dX11_moves_101 rfl ?_
      obtain ⟨q9, H⟩ := H
      refine r_iast (k := 75) (i := 0) rfl ho75 q9 dX11_moves_102 ?_
      refine r_aload_n dX11_moves_103 rfl rfl ?_
      refine r_get (k := 45) (i := 0) (j := 45) (v := rV 75 0) rfl rfl ho45 rfl hX11 (by decide) rfl fX11_102 dX11_moves_104 (fun _ => rfl) ?_
      refine r_iload_n dX11_moves_107 rfl rfl ?_
      refine r_iald (k := 75) (i := 0) rfl ho75 q9 dX11_moves_108 ?_
      refine r_iconst (v := (1 : Int32)) dX11_moves_109 rfl ?_
      refine r_icmp_ne (tgt := 163) dX11_moves_110 (by decide) (fun c => ?_) (fun c => ?_)
      · have H := H.1 c
        refine r_aload_n dX11_moves_163 rfl rfl ?_
        refine r_get (k := 45) (i := 0) (j := 45) (v := rV 75 0) rfl rfl ho45 rfl hX11 (by decide) rfl fX11_102 dX11_moves_164 (fun _ => rfl) ?_
        refine r_iload_n dX11_moves_167 rfl rfl ?_
        refine r_iald (k := 75) (i := 0) rfl ho75 q9 dX11_moves_168 ?_
        refine r_iconst (v := (2 : Int32)) dX11_moves_169 rfl ?_
        refine r_icmp_eq (tgt := 198) dX11_moves_170 (by decide) (fun c => ?_) (fun c => ?_)
        · have H := H.1 c
          exact r_vret dX11_moves_198 rfl H
        · have H := H.2 c
          refine r_aload_n dX11_moves_173 rfl rfl ?_
          refine r_get (k := 45) (i := 0) (j := 40) (v := rV 70 0) rfl rfl ho45 rfl hX11 (by decide) rfl fX11_87 dX11_moves_174 (fun _ => rfl) ?_
          refine r_iload_n dX11_moves_177 rfl rfl ?_
          obtain ⟨q10, H⟩ := H
          refine r_iald (k := 70) (i := 0) rfl ho70 q10 dX11_moves_178 ?_
          refine r_aload_n dX11_moves_179 rfl rfl ?_
          refine r_get (k := 45) (i := 0) (j := 19) (v := rV 63 0) rfl rfl ho45 rfl hX11 (by decide) rfl fX11_61 dX11_moves_180 (fun _ => rfl) ?_
          refine r_iload_n dX11_moves_183 rfl rfl ?_
          obtain ⟨q11, H⟩ := H
          refine r_iald (k := 63) (i := 0) rfl ho63 q11 dX11_moves_184 ?_
          refine r_icmp_lt (tgt := 198) dX11_moves_185 (by decide) (fun c => ?_) (fun c => ?_)
          · have H := H.1 c
            exact r_vret dX11_moves_198 rfl H
          · have H := H.2 c
            refine r_aload_n dX11_moves_188 rfl rfl ?_
            refine r_get (k := 45) (i := 0) (j := 46) (v := rV 76 0) rfl rfl ho45 rfl hX11 (by decide) rfl fX11_105 dX11_moves_189 (fun _ => rfl) ?_
            refine r_iload_n dX11_moves_192 rfl rfl ?_
            refine r_dup2_ri dX11_moves_193 ?_
            refine r_iald (k := 76) (i := 0) rfl ho76 q9 dX11_moves_194 ?_
            refine r_iconst (v := (1 : Int32)) dX11_moves_195 rfl ?_
            refine r_iadd dX11_moves_196 ?_
            refine r_iast (k := 76) (i := 0) rfl ho76 q9 dX11_moves_197 ?_
            exact r_vret dX11_moves_198 rfl H
      · have H := H.2 c
        refine r_aload_n dX11_moves_113 rfl rfl ?_
        refine r_iload_n dX11_moves_114 rfl rfl ?_
        refine r_iload dX11_moves_115 rfl ?_
        refine r_aload_n dX11_moves_117 rfl rfl ?_
        refine r_get (k := 45) (i := 0) (j := 11) (v := rV 55 0) rfl rfl ho45 rfl hX11 (by decide) rfl fX11_37 dX11_moves_118 (fun _ => rfl) ?_
        refine r_iload dX11_moves_121 rfl ?_
        obtain ⟨q12, H⟩ := H
        refine r_iald (k := 55) (i := 0) rfl ho55 q12 dX11_moves_123 ?_
        refine r_callV (z := 0) (k := 45) (i := 0) (As := [iV x1, iV x5, iV (σ.1 55 0 ((x4).toNatClampNeg))]) (st := []) kX11_isHigh i_X11_isHigh e_X11_isHigh lX11_422 dX11_moves_124 rfl rfl ho45 rfl rfl rfl rfl rfl (Nat.le_of_ble_eq_true rfl) ?_
        exact H
set_option maxRecDepth 100000 in
theorem bX11_moves_127 {d : Nat} {Q : Option MV → MS → Prop} {x1 : Int32} {x2 : Int32} {x3 : Int32} {x4 : Int32} {x5 : Int32} {x6 : Int32} {s0 : Int32} {σ : MS}  (H : ((s0 = 0 → (vp_in x3 184 ∧ (((σ.1 75 0 ((x3).toNatClampNeg)) = (2 : Int32) → Q none σ) ∧ (¬ (σ.1 75 0 ((x3).toNatClampNeg)) = (2 : Int32) → (vp_in x1 23 ∧ vp_in x2 16 ∧ (((σ.1 70 0 ((x1).toNatClampNeg)) < (σ.1 63 0 ((x2).toNatClampNeg)) → Q none σ) ∧ (¬ (σ.1 70 0 ((x1).toNatClampNeg)) < (σ.1 63 0 ((x2).toNatClampNeg)) → Q none (uI σ 76 0 ((x3).toNatClampNeg) ((σ.1 76 0 ((x3).toNatClampNeg)) + (1 : Int32)))))))))) ∧ (¬ s0 = 0 → (R mj_OM d mX11_calls (fun r σ' => R mj_OM (d + 1) mX11_moves Q 138 [some (rV 45 0), some (iV x1), some (iV x2), some (iV x3), some (iV x4), some (iV x5), some (iV x6)] (r.toList ++ []) σ') 0 [some (rV 45 0), some (iV x1), some (iV x5), some (iV (0 : Int32))] [] σ)))) : R mj_OM (d + 1) mX11_moves Q 127 [some (rV 45 0), some (iV x1), some (iV x2), some (iV x3), some (iV x4), some (iV x5), some (iV x6)] [iV s0] σ := by
  refine r_if_eq (tgt := 163) dX11_moves_127 (by decide) (fun c => ?_) (fun c => ?_)
  · have H := H.1 c
    refine r_aload_n dX11_moves_163 rfl rfl ?_
    refine r_get (k := 45) (i := 0) (j := 45) (v := rV 75 0) rfl rfl ho45 rfl hX11 (by decide) rfl fX11_102 dX11_moves_164 (fun _ => rfl) ?_
    refine r_iload_n dX11_moves_167 rfl rfl ?_
    obtain ⟨q1, H⟩ := H
    refine r_iald (k := 75) (i := 0) rfl ho75 q1 dX11_moves_168 ?_
    refine r_iconst (v := (2 : Int32)) dX11_moves_169 rfl ?_
    refine r_icmp_eq (tgt := 198) dX11_moves_170 (by decide) (fun c => ?_) (fun c => ?_)
    · have H := H.1 c
      exact r_vret dX11_moves_198 rfl H
    · have H := H.2 c
      refine r_aload_n dX11_moves_173 rfl rfl ?_
      refine r_get (k := 45) (i := 0) (j := 40) (v := rV 70 0) rfl rfl ho45 rfl hX11 (by decide) rfl fX11_87 dX11_moves_174 (fun _ => rfl) ?_
      refine r_iload_n dX11_moves_177 rfl rfl ?_
      obtain ⟨q2, H⟩ := H
      refine r_iald (k := 70) (i := 0) rfl ho70 q2 dX11_moves_178 ?_
      refine r_aload_n dX11_moves_179 rfl rfl ?_
      refine r_get (k := 45) (i := 0) (j := 19) (v := rV 63 0) rfl rfl ho45 rfl hX11 (by decide) rfl fX11_61 dX11_moves_180 (fun _ => rfl) ?_
      refine r_iload_n dX11_moves_183 rfl rfl ?_
      obtain ⟨q3, H⟩ := H
      refine r_iald (k := 63) (i := 0) rfl ho63 q3 dX11_moves_184 ?_
      refine r_icmp_lt (tgt := 198) dX11_moves_185 (by decide) (fun c => ?_) (fun c => ?_)
      · have H := H.1 c
        exact r_vret dX11_moves_198 rfl H
      · have H := H.2 c
        refine r_aload_n dX11_moves_188 rfl rfl ?_
        refine r_get (k := 45) (i := 0) (j := 46) (v := rV 76 0) rfl rfl ho45 rfl hX11 (by decide) rfl fX11_105 dX11_moves_189 (fun _ => rfl) ?_
        refine r_iload_n dX11_moves_192 rfl rfl ?_
        refine r_dup2_ri dX11_moves_193 ?_
        refine r_iald (k := 76) (i := 0) rfl ho76 q1 dX11_moves_194 ?_
        refine r_iconst (v := (1 : Int32)) dX11_moves_195 rfl ?_
        refine r_iadd dX11_moves_196 ?_
        refine r_iast (k := 76) (i := 0) rfl ho76 q1 dX11_moves_197 ?_
        exact r_vret dX11_moves_198 rfl H
  · have H := H.2 c
    refine r_aload_n dX11_moves_130 rfl rfl ?_
    refine r_iload_n dX11_moves_131 rfl rfl ?_
    refine r_iload dX11_moves_132 rfl ?_
    refine r_iconst (v := (0 : Int32)) dX11_moves_134 rfl ?_
    refine r_callV (z := 0) (k := 45) (i := 0) (As := [iV x1, iV x5, iV (0 : Int32)]) (st := []) kX11_calls i_X11_calls e_X11_calls lX11_400 dX11_moves_135 rfl rfl ho45 rfl rfl rfl rfl rfl (Nat.le_of_ble_eq_true rfl) ?_
    exact H
set_option maxRecDepth 100000 in
theorem bX11_moves_138 {d : Nat} {Q : Option MV → MS → Prop} {x1 : Int32} {x2 : Int32} {x3 : Int32} {x4 : Int32} {x5 : Int32} {x6 : Int32} {σ : MS}  (H : (vp_in x1 23 ∧ (R mj_OM d mX11_within (fun r σ' => R mj_OM (d + 1) mX11_moves Q 154 [some (rV 45 0), some (iV x1), some (iV x2), some (iV x3), some (iV x4), some (iV x5), some (iV x6)] (r.toList ++ [iV (σ.1 72 0 ((x1).toNatClampNeg)), iV x1, rV 72 0]) σ') 0 [some (rV 45 0), some (iV (2 : Int32)), some (iV (999 : Int32)), some (iV (1 : Int32))] [] σ))) : R mj_OM (d + 1) mX11_moves Q 138 [some (rV 45 0), some (iV x1), some (iV x2), some (iV x3), some (iV x4), some (iV x5), some (iV x6)] [] σ := by
  refine r_aload_n dX11_moves_138 rfl rfl ?_
  refine r_get (k := 45) (i := 0) (j := 42) (v := rV 72 0) rfl rfl ho45 rfl hX11 (by decide) rfl fX11_93 dX11_moves_139 (fun _ => rfl) ?_
  refine r_iload_n dX11_moves_142 rfl rfl ?_
  refine r_dup2_ri dX11_moves_143 ?_
  obtain ⟨q1, H⟩ := H
  refine r_iald (k := 72) (i := 0) rfl ho72 q1 dX11_moves_144 ?_
  refine r_aload_n dX11_moves_145 rfl rfl ?_
  refine r_iconst (v := (2 : Int32)) dX11_moves_146 rfl ?_
  refine r_sipush (v := (999 : Int32)) dX11_moves_147 rfl ?_
  refine r_iconst (v := (1 : Int32)) dX11_moves_150 rfl ?_
  refine r_callV (z := 0) (k := 45) (i := 0) (As := [iV (2 : Int32), iV (999 : Int32), iV (1 : Int32)]) (st := [iV (σ.1 72 0 ((x1).toNatClampNeg)), iV x1, rV 72 0]) kX11_within i_X11_within e_X11_within lX11_404 dX11_moves_151 rfl rfl ho45 rfl rfl rfl rfl rfl (Nat.le_of_ble_eq_true rfl) ?_
  exact H
set_option maxRecDepth 100000 in
theorem bX11_moves_154 {d : Nat} {Q : Option MV → MS → Prop} {x1 : Int32} {x2 : Int32} {x3 : Int32} {x4 : Int32} {x5 : Int32} {x6 : Int32} {s0 : Int32} {s1 : Int32} {s2 : Int32} {σ : MS}  (H : (vp_in s2 23 ∧ vp_in x3 184 ∧ ((((uI (uI σ 72 0 ((s2).toNatClampNeg) (s1 + s0)) 75 0 ((x3).toNatClampNeg) (2 : Int32)).1 75 0 ((x3).toNatClampNeg)) = (2 : Int32) → Q none (uI (uI σ 72 0 ((s2).toNatClampNeg) (s1 + s0)) 75 0 ((x3).toNatClampNeg) (2 : Int32))) ∧ (¬ ((uI (uI σ 72 0 ((s2).toNatClampNeg) (s1 + s0)) 75 0 ((x3).toNatClampNeg) (2 : Int32)).1 75 0 ((x3).toNatClampNeg)) = (2 : Int32) → (vp_in x1 23 ∧ vp_in x2 16 ∧ (((σ.1 70 0 ((x1).toNatClampNeg)) < (σ.1 63 0 ((x2).toNatClampNeg)) → Q none (uI (uI σ 72 0 ((s2).toNatClampNeg) (s1 + s0)) 75 0 ((x3).toNatClampNeg) (2 : Int32))) ∧ (¬ (σ.1 70 0 ((x1).toNatClampNeg)) < (σ.1 63 0 ((x2).toNatClampNeg)) → Q none (uI (uI (uI σ 72 0 ((s2).toNatClampNeg) (s1 + s0)) 75 0 ((x3).toNatClampNeg) (2 : Int32)) 76 0 ((x3).toNatClampNeg) ((σ.1 76 0 ((x3).toNatClampNeg)) + (1 : Int32)))))))))) : R mj_OM d mX11_moves Q 154 [some (rV 45 0), some (iV x1), some (iV x2), some (iV x3), some (iV x4), some (iV x5), some (iV x6)] [iV s0, iV s1, iV s2, rV 72 0] σ := by
  refine r_iadd dX11_moves_154 ?_
  obtain ⟨q1, H⟩ := H
  refine r_iast (k := 72) (i := 0) rfl ho72 q1 dX11_moves_155 ?_
  refine r_aload_n dX11_moves_156 rfl rfl ?_
  refine r_get (k := 45) (i := 0) (j := 45) (v := rV 75 0) rfl rfl ho45 rfl hX11 (by decide) rfl fX11_102 dX11_moves_157 (fun _ => rfl) ?_
  refine r_iload_n dX11_moves_160 rfl rfl ?_
  refine r_iconst (v := (2 : Int32)) dX11_moves_161 rfl ?_
  obtain ⟨q2, H⟩ := H
  refine r_iast (k := 75) (i := 0) rfl ho75 q2 dX11_moves_162 ?_
  refine r_aload_n dX11_moves_163 rfl rfl ?_
  refine r_get (k := 45) (i := 0) (j := 45) (v := rV 75 0) rfl rfl ho45 rfl hX11 (by decide) rfl fX11_102 dX11_moves_164 (fun _ => rfl) ?_
  refine r_iload_n dX11_moves_167 rfl rfl ?_
  refine r_iald (k := 75) (i := 0) rfl ho75 q2 dX11_moves_168 ?_
  refine r_iconst (v := (2 : Int32)) dX11_moves_169 rfl ?_
  refine r_icmp_eq (tgt := 198) dX11_moves_170 (by decide) (fun c => ?_) (fun c => ?_)
  · have H := H.1 c
    exact r_vret dX11_moves_198 rfl H
  · have H := H.2 c
    refine r_aload_n dX11_moves_173 rfl rfl ?_
    refine r_get (k := 45) (i := 0) (j := 40) (v := rV 70 0) rfl rfl ho45 rfl hX11 (by decide) rfl fX11_87 dX11_moves_174 (fun _ => rfl) ?_
    refine r_iload_n dX11_moves_177 rfl rfl ?_
    obtain ⟨q3, H⟩ := H
    refine r_iald (k := 70) (i := 0) rfl ho70 q3 dX11_moves_178 ?_
    refine r_aload_n dX11_moves_179 rfl rfl ?_
    refine r_get (k := 45) (i := 0) (j := 19) (v := rV 63 0) rfl rfl ho45 rfl hX11 (by decide) rfl fX11_61 dX11_moves_180 (fun _ => rfl) ?_
    refine r_iload_n dX11_moves_183 rfl rfl ?_
    obtain ⟨q4, H⟩ := H
    refine r_iald (k := 63) (i := 0) rfl ho63 q4 dX11_moves_184 ?_
    refine r_icmp_lt (tgt := 198) dX11_moves_185 (by decide) (fun c => ?_) (fun c => ?_)
    · have H := H.1 c
      exact r_vret dX11_moves_198 rfl H
    · have H := H.2 c
      refine r_aload_n dX11_moves_188 rfl rfl ?_
      refine r_get (k := 45) (i := 0) (j := 46) (v := rV 76 0) rfl rfl ho45 rfl hX11 (by decide) rfl fX11_105 dX11_moves_189 (fun _ => rfl) ?_
      refine r_iload_n dX11_moves_192 rfl rfl ?_
      refine r_dup2_ri dX11_moves_193 ?_
      refine r_iald (k := 76) (i := 0) rfl ho76 q2 dX11_moves_194 ?_
      refine r_iconst (v := (1 : Int32)) dX11_moves_195 rfl ?_
      refine r_iadd dX11_moves_196 ?_
      refine r_iast (k := 76) (i := 0) rfl ho76 q2 dX11_moves_197 ?_
      exact r_vret dX11_moves_198 rfl H
set_option maxRecDepth 100000 in
theorem bX11_passes_0 {d : Nat} {Q : Option MV → MS → Prop} {x1 : Int32} {x2 : Int32} {σ : MS}  (H : R mj_OM d mX11_passes Q 2 [some (rV 45 0), some (iV x1), some (iV x2), some (iV (0 : Int32))] [] σ) : R mj_OM d mX11_passes Q 0 [some (rV 45 0), some (iV x1), some (iV x2), none] [] σ := by
  refine r_iconst (v := (0 : Int32)) dX11_passes_0 rfl ?_
  refine r_istore_n dX11_passes_1 rfl (by decide) rfl ?_
  exact H
set_option maxRecDepth 100000 in
theorem bX11_passes_2 {d : Nat} {Q : Option MV → MS → Prop} {x1 : Int32} {x2 : Int32} {x3 : Int32} {σ : MS}  (H : (vp_in (0 : Int32) 18 ∧ (((σ.1 47 0 0) ≤ x3 → R mj_OM (d + 1) mX11_passes Q 60 [some (rV 45 0), some (iV x1), some (iV x2), some (iV (0 : Int32))] [] σ) ∧ (¬ (σ.1 47 0 0) ≤ x3 → (((σ.1 45 0 49) = (3 : Int32) → R mj_OM (d + 1) mX11_passes Q 60 [some (rV 45 0), some (iV x1), some (iV x2), some (iV (0 : Int32))] [] σ) ∧ (¬ (σ.1 45 0 49) = (3 : Int32) → (vp_in (((7 : Int32) * x1) + x3) 161 ∧ vp_in x3 14 ∧ (R mj_OM d mX11_more (fun r σ' => R mj_OM (d + 1) mX11_passes Q 51 [some (rV 45 0), some (iV x1), some (iV x2), some (iV x3)] (r.toList ++ [iV (((7 : Int32) * x1) + x3), rV 74 0]) σ') 0 [some (rV 45 0), some (iV (σ.1 74 0 (((((7 : Int32) * x1) + x3)).toNatClampNeg))), some (iV (σ.1 52 0 ((x3).toNatClampNeg)))] [] σ)))))))) : R mj_OM (d + 1) mX11_passes Q 2 [some (rV 45 0), some (iV x1), some (iV x2), some (iV x3)] [] σ := by
  refine r_iload_n dX11_passes_2 rfl rfl ?_
  refine r_aload_n dX11_passes_3 rfl rfl ?_
  refine r_get (k := 45) (i := 0) (j := 3) (v := rV 47 0) rfl rfl ho45 rfl hX11 (by decide) rfl fX11_13 dX11_passes_4 (fun _ => rfl) ?_
  refine r_iconst (v := (0 : Int32)) dX11_passes_7 rfl ?_
  obtain ⟨q1, H⟩ := H
  refine r_iald (k := 47) (i := 0) rfl ho47 q1 dX11_passes_8 ?_
  refine r_icmp_ge (tgt := 58) dX11_passes_9 (by decide) (fun c => ?_) (fun c => ?_)
  · have H := H.1 c
    refine r_iconst (v := (0 : Int32)) dX11_passes_58 rfl ?_
    refine r_istore_n dX11_passes_59 rfl (by decide) rfl ?_
    exact H
  · have H := H.2 c
    refine r_aload_n dX11_passes_12 rfl rfl ?_
    refine r_get (k := 45) (i := 0) (j := 49) (v := iV (σ.1 45 0 49)) rfl rfl ho45 rfl hX11 (by decide) rfl fX11_365 dX11_passes_13 (fun _ => rfl) ?_
    refine r_iconst (v := (3 : Int32)) dX11_passes_16 rfl ?_
    refine r_icmp_eq (tgt := 58) dX11_passes_17 (by decide) (fun c => ?_) (fun c => ?_)
    · have H := H.1 c
      refine r_iconst (v := (0 : Int32)) dX11_passes_58 rfl ?_
      refine r_istore_n dX11_passes_59 rfl (by decide) rfl ?_
      exact H
    · have H := H.2 c
      refine r_aload_n dX11_passes_20 rfl rfl ?_
      refine r_get (k := 45) (i := 0) (j := 44) (v := rV 74 0) rfl rfl ho45 rfl hX11 (by decide) rfl fX11_99 dX11_passes_21 (fun _ => rfl) ?_
      refine r_bipush (v := (7 : Int32)) dX11_passes_24 rfl ?_
      refine r_iload_n dX11_passes_26 rfl rfl ?_
      refine r_imul dX11_passes_27 ?_
      refine r_iload_n dX11_passes_28 rfl rfl ?_
      refine r_iadd dX11_passes_29 ?_
      refine r_aload_n dX11_passes_30 rfl rfl ?_
      refine r_aload_n dX11_passes_31 rfl rfl ?_
      refine r_get (k := 45) (i := 0) (j := 44) (v := rV 74 0) rfl rfl ho45 rfl hX11 (by decide) rfl fX11_99 dX11_passes_32 (fun _ => rfl) ?_
      refine r_bipush (v := (7 : Int32)) dX11_passes_35 rfl ?_
      refine r_iload_n dX11_passes_37 rfl rfl ?_
      refine r_imul dX11_passes_38 ?_
      refine r_iload_n dX11_passes_39 rfl rfl ?_
      refine r_iadd dX11_passes_40 ?_
      obtain ⟨q2, H⟩ := H
      refine r_iald (k := 74) (i := 0) rfl ho74 q2 dX11_passes_41 ?_
      refine r_aload_n dX11_passes_42 rfl rfl ?_
      refine r_get (k := 45) (i := 0) (j := 8) (v := rV 52 0) rfl rfl ho45 rfl hX11 (by decide) rfl fX11_28 dX11_passes_43 (fun _ => rfl) ?_
      refine r_iload_n dX11_passes_46 rfl rfl ?_
      obtain ⟨q3, H⟩ := H
      refine r_iald (k := 52) (i := 0) rfl ho52 q3 dX11_passes_47 ?_
      refine r_callV (z := 0) (k := 45) (i := 0) (As := [iV (σ.1 74 0 (((((7 : Int32) * x1) + x3)).toNatClampNeg)), iV (σ.1 52 0 ((x3).toNatClampNeg))]) (st := [iV (((7 : Int32) * x1) + x3), rV 74 0]) kX11_more i_X11_more e_X11_more lX11_426 dX11_passes_48 rfl rfl ho45 rfl rfl rfl rfl rfl (Nat.le_of_ble_eq_true rfl) ?_
      exact H
set_option maxRecDepth 100000 in
theorem bX11_passes_51 {d : Nat} {Q : Option MV → MS → Prop} {x1 : Int32} {x2 : Int32} {x3 : Int32} {s0 : Int32} {s1 : Int32} {σ : MS}  (H : (vp_in s1 161 ∧ R mj_OM d mX11_passes Q 2 [some (rV 45 0), some (iV x1), some (iV x2), some (iV (x3 + (1 : Int32)))] [] (uI σ 74 0 ((s1).toNatClampNeg) s0))) : R mj_OM d mX11_passes Q 51 [some (rV 45 0), some (iV x1), some (iV x2), some (iV x3)] [iV s0, iV s1, rV 74 0] σ := by
  obtain ⟨q1, H⟩ := H
  refine r_iast (k := 74) (i := 0) rfl ho74 q1 dX11_passes_51 ?_
  refine r_iinc (v := x3 + (1 : Int32)) dX11_passes_52 rfl rfl (by decide) rfl ?_
  refine r_goto (tgt := 2) dX11_passes_55 (by decide) ?_
  exact H
set_option maxRecDepth 100000 in
theorem bX11_passes_60 {d : Nat} {Q : Option MV → MS → Prop} {x1 : Int32} {x2 : Int32} {x3 : Int32} {σ : MS}  (H : (vp_in (2 : Int32) 18 ∧ (((σ.1 47 0 2) ≤ x3 → R mj_OM (d + 1) mX11_passes Q 94 [some (rV 45 0), some (iV x1), some (iV x2), some (iV (0 : Int32))] [] σ) ∧ (¬ (σ.1 47 0 2) ≤ x3 → (R mj_OM d mX11_isOpen (fun r σ' => R mj_OM (d + 1) mX11_passes Q 76 [some (rV 45 0), some (iV x1), some (iV x2), some (iV x3)] (r.toList ++ []) σ') 0 [some (rV 45 0), some (iV x1), some (iV x3)] [] σ))))) : R mj_OM (d + 1) mX11_passes Q 60 [some (rV 45 0), some (iV x1), some (iV x2), some (iV x3)] [] σ := by
  refine r_iload_n dX11_passes_60 rfl rfl ?_
  refine r_aload_n dX11_passes_61 rfl rfl ?_
  refine r_get (k := 45) (i := 0) (j := 3) (v := rV 47 0) rfl rfl ho45 rfl hX11 (by decide) rfl fX11_13 dX11_passes_62 (fun _ => rfl) ?_
  refine r_iconst (v := (2 : Int32)) dX11_passes_65 rfl ?_
  obtain ⟨q1, H⟩ := H
  refine r_iald (k := 47) (i := 0) rfl ho47 q1 dX11_passes_66 ?_
  refine r_icmp_ge (tgt := 92) dX11_passes_67 (by decide) (fun c => ?_) (fun c => ?_)
  · have H := H.1 c
    refine r_iconst (v := (0 : Int32)) dX11_passes_92 rfl ?_
    refine r_istore_n dX11_passes_93 rfl (by decide) rfl ?_
    exact H
  · have H := H.2 c
    refine r_aload_n dX11_passes_70 rfl rfl ?_
    refine r_iload_n dX11_passes_71 rfl rfl ?_
    refine r_iload_n dX11_passes_72 rfl rfl ?_
    refine r_callV (z := 0) (k := 45) (i := 0) (As := [iV x1, iV x3]) (st := []) kX11_isOpen i_X11_isOpen e_X11_isOpen lX11_375 dX11_passes_73 rfl rfl ho45 rfl rfl rfl rfl rfl (Nat.le_of_ble_eq_true rfl) ?_
    exact H
set_option maxRecDepth 100000 in
theorem bX11_passes_76 {d : Nat} {Q : Option MV → MS → Prop} {x1 : Int32} {x2 : Int32} {x3 : Int32} {s0 : Int32} {σ : MS}  (H : ((s0 = 0 → R mj_OM (d + 1) mX11_passes Q 60 [some (rV 45 0), some (iV x1), some (iV x2), some (iV (x3 + (1 : Int32)))] [] σ) ∧ (¬ s0 = 0 → (R mj_OM d mX11_opens (fun r σ' => R mj_OM (d + 1) mX11_passes Q 86 [some (rV 45 0), some (iV x1), some (iV x2), some (iV x3)] (r.toList ++ []) σ') 0 [some (rV 45 0), some (iV x1), some (iV x3), some (iV x2)] [] σ)))) : R mj_OM (d + 1) mX11_passes Q 76 [some (rV 45 0), some (iV x1), some (iV x2), some (iV x3)] [iV s0] σ := by
  refine r_if_eq (tgt := 86) dX11_passes_76 (by decide) (fun c => ?_) (fun c => ?_)
  · have H := H.1 c
    refine r_iinc (v := x3 + (1 : Int32)) dX11_passes_86 rfl rfl (by decide) rfl ?_
    refine r_goto (tgt := 60) dX11_passes_89 (by decide) ?_
    exact H
  · have H := H.2 c
    refine r_aload_n dX11_passes_79 rfl rfl ?_
    refine r_iload_n dX11_passes_80 rfl rfl ?_
    refine r_iload_n dX11_passes_81 rfl rfl ?_
    refine r_iload_n dX11_passes_82 rfl rfl ?_
    refine r_callV (z := 0) (k := 45) (i := 0) (As := [iV x1, iV x3, iV x2]) (st := []) kX11_opens i_X11_opens e_X11_opens lX11_429 dX11_passes_83 rfl rfl ho45 rfl rfl rfl rfl rfl (Nat.le_of_ble_eq_true rfl) ?_
    exact H
set_option maxRecDepth 100000 in
theorem bX11_passes_86 {d : Nat} {Q : Option MV → MS → Prop} {x1 : Int32} {x2 : Int32} {x3 : Int32} {σ : MS}  (H : R mj_OM d mX11_passes Q 60 [some (rV 45 0), some (iV x1), some (iV x2), some (iV (x3 + (1 : Int32)))] [] σ) : R mj_OM d mX11_passes Q 86 [some (rV 45 0), some (iV x1), some (iV x2), some (iV x3)] [] σ := by
  refine r_iinc (v := x3 + (1 : Int32)) dX11_passes_86 rfl rfl (by decide) rfl ?_
  refine r_goto (tgt := 60) dX11_passes_89 (by decide) ?_
  exact H
set_option maxRecDepth 100000 in
theorem bX11_passes_94 {d : Nat} {Q : Option MV → MS → Prop} {x1 : Int32} {x2 : Int32} {x3 : Int32} {σ : MS}  (H : (vp_in (0 : Int32) 18 ∧ (((σ.1 47 0 0) ≤ x3 → R mj_OM (d + 1) mX11_passes Q 126 [some (rV 45 0), some (iV x1), some (iV x2), some (iV (0 : Int32))] [] σ) ∧ (¬ (σ.1 47 0 0) ≤ x3 → (((σ.1 45 0 49) = (1 : Int32) → R mj_OM (d + 1) mX11_passes Q 126 [some (rV 45 0), some (iV x1), some (iV x2), some (iV (0 : Int32))] [] σ) ∧ (¬ (σ.1 45 0 49) = (1 : Int32) → (R mj_OM d mX11_loses (fun r σ' => R mj_OM (d + 1) mX11_passes Q 118 [some (rV 45 0), some (iV x1), some (iV x2), some (iV x3)] (r.toList ++ []) σ') 0 [some (rV 45 0), some (iV x1), some (iV x3), none, none] [] σ))))))) : R mj_OM (d + 1) mX11_passes Q 94 [some (rV 45 0), some (iV x1), some (iV x2), some (iV x3)] [] σ := by
  refine r_iload_n dX11_passes_94 rfl rfl ?_
  refine r_aload_n dX11_passes_95 rfl rfl ?_
  refine r_get (k := 45) (i := 0) (j := 3) (v := rV 47 0) rfl rfl ho45 rfl hX11 (by decide) rfl fX11_13 dX11_passes_96 (fun _ => rfl) ?_
  refine r_iconst (v := (0 : Int32)) dX11_passes_99 rfl ?_
  obtain ⟨q1, H⟩ := H
  refine r_iald (k := 47) (i := 0) rfl ho47 q1 dX11_passes_100 ?_
  refine r_icmp_ge (tgt := 124) dX11_passes_101 (by decide) (fun c => ?_) (fun c => ?_)
  · have H := H.1 c
    refine r_iconst (v := (0 : Int32)) dX11_passes_124 rfl ?_
    refine r_istore_n dX11_passes_125 rfl (by decide) rfl ?_
    exact H
  · have H := H.2 c
    refine r_aload_n dX11_passes_104 rfl rfl ?_
    refine r_get (k := 45) (i := 0) (j := 49) (v := iV (σ.1 45 0 49)) rfl rfl ho45 rfl hX11 (by decide) rfl fX11_365 dX11_passes_105 (fun _ => rfl) ?_
    refine r_iconst (v := (1 : Int32)) dX11_passes_108 rfl ?_
    refine r_icmp_eq (tgt := 124) dX11_passes_109 (by decide) (fun c => ?_) (fun c => ?_)
    · have H := H.1 c
      refine r_iconst (v := (0 : Int32)) dX11_passes_124 rfl ?_
      refine r_istore_n dX11_passes_125 rfl (by decide) rfl ?_
      exact H
    · have H := H.2 c
      refine r_aload_n dX11_passes_112 rfl rfl ?_
      refine r_iload_n dX11_passes_113 rfl rfl ?_
      refine r_iload_n dX11_passes_114 rfl rfl ?_
      refine r_callV (z := 2) (k := 45) (i := 0) (As := [iV x1, iV x3]) (st := []) kX11_loses i_X11_loses e_X11_loses lX11_433 dX11_passes_115 rfl rfl ho45 rfl rfl rfl rfl rfl (Nat.le_of_ble_eq_true rfl) ?_
      exact H
set_option maxRecDepth 100000 in
theorem bX11_passes_118 {d : Nat} {Q : Option MV → MS → Prop} {x1 : Int32} {x2 : Int32} {x3 : Int32} {σ : MS}  (H : R mj_OM d mX11_passes Q 94 [some (rV 45 0), some (iV x1), some (iV x2), some (iV (x3 + (1 : Int32)))] [] σ) : R mj_OM d mX11_passes Q 118 [some (rV 45 0), some (iV x1), some (iV x2), some (iV x3)] [] σ := by
  refine r_iinc (v := x3 + (1 : Int32)) dX11_passes_118 rfl rfl (by decide) rfl ?_
  refine r_goto (tgt := 94) dX11_passes_121 (by decide) ?_
  exact H
set_option maxRecDepth 100000 in
theorem bX11_passes_126 {d : Nat} {Q : Option MV → MS → Prop} {x1 : Int32} {x2 : Int32} {x3 : Int32} {σ : MS}  (H : (vp_in (4 : Int32) 18 ∧ (((σ.1 47 0 4) ≤ x3 → (vp_in x1 23 ∧ Q none (uI σ 70 0 ((x1).toNatClampNeg) ((σ.1 70 0 ((x1).toNatClampNeg)) + (1 : Int32))))) ∧ (¬ (σ.1 47 0 4) ≤ x3 → (R mj_OM d mX11_moves (fun r σ' => R mj_OM (d + 1) mX11_passes Q 142 [some (rV 45 0), some (iV x1), some (iV x2), some (iV x3)] (r.toList ++ []) σ') 0 [some (rV 45 0), some (iV x1), some (iV x3), none, none, none, none] [] σ))))) : R mj_OM (d + 1) mX11_passes Q 126 [some (rV 45 0), some (iV x1), some (iV x2), some (iV x3)] [] σ := by
  refine r_iload_n dX11_passes_126 rfl rfl ?_
  refine r_aload_n dX11_passes_127 rfl rfl ?_
  refine r_get (k := 45) (i := 0) (j := 3) (v := rV 47 0) rfl rfl ho45 rfl hX11 (by decide) rfl fX11_13 dX11_passes_128 (fun _ => rfl) ?_
  refine r_iconst (v := (4 : Int32)) dX11_passes_131 rfl ?_
  obtain ⟨q1, H⟩ := H
  refine r_iald (k := 47) (i := 0) rfl ho47 q1 dX11_passes_132 ?_
  refine r_icmp_ge (tgt := 148) dX11_passes_133 (by decide) (fun c => ?_) (fun c => ?_)
  · have H := H.1 c
    refine r_aload_n dX11_passes_148 rfl rfl ?_
    refine r_get (k := 45) (i := 0) (j := 40) (v := rV 70 0) rfl rfl ho45 rfl hX11 (by decide) rfl fX11_87 dX11_passes_149 (fun _ => rfl) ?_
    refine r_iload_n dX11_passes_152 rfl rfl ?_
    refine r_dup2_ri dX11_passes_153 ?_
    obtain ⟨q2, H⟩ := H
    refine r_iald (k := 70) (i := 0) rfl ho70 q2 dX11_passes_154 ?_
    refine r_iconst (v := (1 : Int32)) dX11_passes_155 rfl ?_
    refine r_iadd dX11_passes_156 ?_
    refine r_iast (k := 70) (i := 0) rfl ho70 q2 dX11_passes_157 ?_
    exact r_vret dX11_passes_158 rfl H
  · have H := H.2 c
    refine r_aload_n dX11_passes_136 rfl rfl ?_
    refine r_iload_n dX11_passes_137 rfl rfl ?_
    refine r_iload_n dX11_passes_138 rfl rfl ?_
    refine r_callV (z := 4) (k := 45) (i := 0) (As := [iV x1, iV x3]) (st := []) kX11_moves i_X11_moves e_X11_moves lX11_436 dX11_passes_139 rfl rfl ho45 rfl rfl rfl rfl rfl (Nat.le_of_ble_eq_true rfl) ?_
    exact H
set_option maxRecDepth 100000 in
theorem bX11_passes_142 {d : Nat} {Q : Option MV → MS → Prop} {x1 : Int32} {x2 : Int32} {x3 : Int32} {σ : MS}  (H : R mj_OM d mX11_passes Q 126 [some (rV 45 0), some (iV x1), some (iV x2), some (iV (x3 + (1 : Int32)))] [] σ) : R mj_OM d mX11_passes Q 142 [some (rV 45 0), some (iV x1), some (iV x2), some (iV x3)] [] σ := by
  refine r_iinc (v := x3 + (1 : Int32)) dX11_passes_142 rfl rfl (by decide) rfl ?_
  refine r_goto (tgt := 126) dX11_passes_145 (by decide) ?_
  exact H
set_option maxRecDepth 100000 in
theorem bX11_goesOn_0 {d : Nat} {Q : Option MV → MS → Prop} {x1 : Int32} {σ : MS}  (H : R mj_OM d mX11_goesOn Q 2 [some (rV 45 0), some (iV x1), some (iV (0 : Int32))] [] σ) : R mj_OM d mX11_goesOn Q 0 [some (rV 45 0), some (iV x1), none] [] σ := by
  refine r_iconst (v := (0 : Int32)) dX11_goesOn_0 rfl ?_
  refine r_istore_n dX11_goesOn_1 rfl (by decide) rfl ?_
  exact H
set_option maxRecDepth 100000 in
theorem bX11_goesOn_2 {d : Nat} {Q : Option MV → MS → Prop} {x1 : Int32} {x2 : Int32} {σ : MS}  (H : ((x1 ≤ x2 → Q none σ) ∧ (¬ x1 ≤ x2 → (R mj_OM d mX11_passes (fun r σ' => R mj_OM (d + 1) mX11_goesOn Q 13 [some (rV 45 0), some (iV x1), some (iV x2)] (r.toList ++ []) σ') 0 [some (rV 45 0), some (iV (1 : Int32)), some (iV (0 : Int32)), none] [] σ)))) : R mj_OM (d + 1) mX11_goesOn Q 2 [some (rV 45 0), some (iV x1), some (iV x2)] [] σ := by
  refine r_iload_n dX11_goesOn_2 rfl rfl ?_
  refine r_iload_n dX11_goesOn_3 rfl rfl ?_
  refine r_icmp_ge (tgt := 19) dX11_goesOn_4 (by decide) (fun c => ?_) (fun c => ?_)
  · have H := H.1 c
    exact r_vret dX11_goesOn_19 rfl H
  · have H := H.2 c
    refine r_aload_n dX11_goesOn_7 rfl rfl ?_
    refine r_iconst (v := (1 : Int32)) dX11_goesOn_8 rfl ?_
    refine r_iconst (v := (0 : Int32)) dX11_goesOn_9 rfl ?_
    refine r_callV (z := 1) (k := 45) (i := 0) (As := [iV (1 : Int32), iV (0 : Int32)]) (st := []) kX11_passes i_X11_passes e_X11_passes lX11_439 dX11_goesOn_10 rfl rfl ho45 rfl rfl rfl rfl rfl (Nat.le_of_ble_eq_true rfl) ?_
    exact H
set_option maxRecDepth 100000 in
theorem bX11_goesOn_13 {d : Nat} {Q : Option MV → MS → Prop} {x1 : Int32} {x2 : Int32} {σ : MS}  (H : R mj_OM d mX11_goesOn Q 2 [some (rV 45 0), some (iV x1), some (iV (x2 + (1 : Int32)))] [] σ) : R mj_OM d mX11_goesOn Q 13 [some (rV 45 0), some (iV x1), some (iV x2)] [] σ := by
  refine r_iinc (v := x2 + (1 : Int32)) dX11_goesOn_13 rfl rfl (by decide) rfl ?_
  refine r_goto (tgt := 2) dX11_goesOn_16 (by decide) ?_
  exact H
set_option maxRecDepth 100000 in
theorem bX11_sumOf_0 {d : Nat} {Q : Option MV → MS → Prop} {k1 : Nat} {n1 : Nat} {u1 : Nat} {x2 : Int32} {x3 : Int32} {σ : MS} (hk1 : mj_sch k1 = .inr (0, n1)) (gk1 : (k1, u1) ∈ mj_OM) (H : R mj_OM d mX11_sumOf Q 6 [some (rV 45 0), some (rV k1 u1), some (iV x2), some (iV x3), some (iV (0 : Int32)), some (iV (0 : Int32))] [] σ) : R mj_OM d mX11_sumOf Q 0 [some (rV 45 0), some (rV k1 u1), some (iV x2), some (iV x3), none, none] [] σ := by
  refine r_iconst (v := (0 : Int32)) dX11_sumOf_0 rfl ?_
  refine r_istore dX11_sumOf_1 (by decide) rfl ?_
  refine r_iconst (v := (0 : Int32)) dX11_sumOf_3 rfl ?_
  refine r_istore dX11_sumOf_4 (by decide) rfl ?_
  exact H
set_option maxRecDepth 100000 in
theorem bX11_sumOf_6 {d : Nat} {Q : Option MV → MS → Prop} {k1 : Nat} {n1 : Nat} {u1 : Nat} {x2 : Int32} {x3 : Int32} {x4 : Int32} {x5 : Int32} {σ : MS} (hk1 : mj_sch k1 = .inr (0, n1)) (gk1 : (k1, u1) ∈ mj_OM) (H : ((x2 ≤ x5 → Q (some (iV x4)) σ) ∧ (¬ x2 ≤ x5 → (vp_in ((x2 * x3) + x5) n1 ∧ R mj_OM d mX11_sumOf Q 6 [some (rV 45 0), some (rV k1 u1), some (iV x2), some (iV x3), some (iV (x4 + (σ.1 k1 u1 ((((x2 * x3) + x5)).toNatClampNeg)))), some (iV (x5 + (1 : Int32)))] [] σ)))) : R mj_OM d mX11_sumOf Q 6 [some (rV 45 0), some (rV k1 u1), some (iV x2), some (iV x3), some (iV x4), some (iV x5)] [] σ := by
  refine r_iload dX11_sumOf_6 rfl ?_
  refine r_iload_n dX11_sumOf_8 rfl rfl ?_
  refine r_icmp_ge (tgt := 31) dX11_sumOf_9 (by decide) (fun c => ?_) (fun c => ?_)
  · have H := H.1 c
    refine r_iload dX11_sumOf_31 rfl ?_
    exact r_iret dX11_sumOf_33 rfl H
  · have H := H.2 c
    refine r_iload dX11_sumOf_12 rfl ?_
    refine r_aload_n dX11_sumOf_14 rfl rfl ?_
    refine r_iload_n dX11_sumOf_15 rfl rfl ?_
    refine r_iload_n dX11_sumOf_16 rfl rfl ?_
    refine r_imul dX11_sumOf_17 ?_
    refine r_iload dX11_sumOf_18 rfl ?_
    refine r_iadd dX11_sumOf_20 ?_
    obtain ⟨q1, H⟩ := H
    refine r_iald (k := k1) (i := u1) hk1 gk1 q1 dX11_sumOf_21 ?_
    refine r_iadd dX11_sumOf_22 ?_
    refine r_istore dX11_sumOf_23 (by decide) rfl ?_
    refine r_iinc (v := x5 + (1 : Int32)) dX11_sumOf_25 rfl rfl (by decide) rfl ?_
    refine r_goto (tgt := 6) dX11_sumOf_28 (by decide) ?_
    exact H
