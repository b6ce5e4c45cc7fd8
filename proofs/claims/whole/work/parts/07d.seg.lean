theorem s_Md_make_0 {d : Nat} {Q : zm_Q} {S : zm_S} {a1 a2 a3 : Int32} (j1 : Nat) (o1 : ¬ a1 < 0 → ¬ 11 < a1 → ¬ a2 < 1 → ¬ 255 < a2 → zm_ix a1 j1 12)
    (l1 : ((((a1 < 0) ∨ (¬ a1 < 0 ∧ 11 < a1))) ∨ (¬ a1 < 0 ∧ ¬ 11 < a1 ∧ ((a2 < 1) ∨ (¬ a2 < 1 ∧ 255 < a2)))) → Q (some (-1)) GG S)
    (l2 : ((¬ a1 < 0 ∧ ¬ 11 < a1 ∧ ¬ a2 < 1 ∧ ¬ 255 < a2 ∧ (S 28 j1) = 1) ∨ (¬ a1 < 0 ∧ ¬ 11 < a1 ∧ ¬ a2 < 1 ∧ ¬ 255 < a2 ∧ ¬ (S 28 j1) = 1 ∧ (S 28 j1) = 2)) → zc M_Md_after d [.ref 27, .int a1, .int (a2 - 1)] S (fun v G' S' => zm_WP M_Md_make none (d + 1) 0 0 Q 54 [some (.ref 27), some (.int a1), some (.int a2), some (.int a3), none] (zm_ps v []) G' S' 0 0))
    (l3 : ¬ a1 < 0 → ¬ 11 < a1 → ¬ a2 < 1 → ¬ 255 < a2 → ¬ (S 28 j1) = 1 → ¬ (S 28 j1) = 2 → Q (some (-2)) GG S) :
    zw M_Md_make (d + 1) Q 0 [some (.ref 27), some (.int a1), some (.int a2), some (.int a3), none] [] S := by
  refine zr_iload_n (i := 1) (x := a1) (n := 1) d_Md_make_0 rfl rfl rfl ?_
  refine zr_iconst (v := 0) (n := 2) d_Md_make_1 rfl (by decide) ?_
  refine zr_bipush (v := 11) (n := 4) d_Md_make_2 rfl (by decide) ?_
  refine zr_callS (M' := M_Md_within) (mc' := 0) (ms' := 0) (av := [.int a1, .int 0, .int 11]) (rest := []) (n := 7) d_Md_make_4 rfl w_Md_84 w_Md_84k rfl rfl rfl rfl rfl (Nat.le_refl _) (Nat.le_refl _) ?_
  refine c_Md_within (a0 := a1) (a1 := 0) (a2 := 11) (fun h1 => ?_) (fun h2 h3 => ?_)
  · refine zr_if_eq (tgt := 21) (n := 10) d_Md_make_7 rfl (by decide) (fun _ => ?_) (fun h => absurd h (by decide))
    refine zr_iconst (v := (-1)) (n := 22) d_Md_make_21 rfl (by decide) ?_
    exact zr_ireturn d_Md_make_22 rfl rfl (Nat.le_refl _) (Nat.le_refl _) (l1 (Or.inl h1))
  · refine zr_if_eq (tgt := 21) (n := 10) d_Md_make_7 rfl (by decide) (fun h => absurd h (by decide)) (fun _ => ?_)
    refine zr_iload_n (i := 2) (x := a2) (n := 11) d_Md_make_10 rfl rfl rfl ?_
    refine zr_iconst (v := 1) (n := 12) d_Md_make_11 rfl (by decide) ?_
    refine zr_sipush (v := 255) (n := 15) d_Md_make_12 rfl (by decide) ?_
    refine zr_callS (M' := M_Md_within) (mc' := 0) (ms' := 0) (av := [.int a2, .int 1, .int 255]) (rest := []) (n := 18) d_Md_make_15 rfl w_Md_84 w_Md_84k rfl rfl rfl rfl rfl (Nat.le_refl _) (Nat.le_refl _) ?_
    refine c_Md_within (a0 := a2) (a1 := 1) (a2 := 255) (fun h4 => ?_) (fun h5 h6 => ?_)
    · refine zr_if_ne (tgt := 23) (n := 21) d_Md_make_18 rfl (by decide) (fun h => absurd h (by decide)) (fun _ => ?_)
      refine zr_iconst (v := (-1)) (n := 22) d_Md_make_21 rfl (by decide) ?_
      exact zr_ireturn d_Md_make_22 rfl rfl (Nat.le_refl _) (Nat.le_refl _) (l1 (Or.inr ⟨h2, h3, h4⟩))
    · refine zr_if_ne (tgt := 23) (n := 21) d_Md_make_18 rfl (by decide) (fun _ => ?_) (fun h => absurd h (by decide))
      refine zr_aload_n (i := 0) (x := 27) (n := 24) d_Md_make_23 rfl rfl rfl ?_
      refine zr_getr (n := 27) d_Md_make_24 rfl f_Md_7 gg_27 rfl ?_
      refine zr_iload_n (i := 1) (x := a1) (n := 28) d_Md_make_27 rfl rfl rfl ?_
      refine zr_iaload j1 (n := 29) d_Md_make_28 rfl gg_28 (o1 h2 h3 h5 h6) ?_
      refine zr_iconst (v := 1) (n := 30) d_Md_make_29 rfl (by decide) ?_
      refine zr_icmp_eq (tgt := 46) (n := 33) d_Md_make_30 rfl (by decide) (fun h7 => ?_) (fun h7 => ?_)
      · refine zr_aload_n (i := 0) (x := 27) (n := 47) d_Md_make_46 rfl rfl rfl ?_
        refine zr_iload_n (i := 1) (x := a1) (n := 48) d_Md_make_47 rfl rfl rfl ?_
        refine zr_iload_n (i := 2) (x := a2) (n := 49) d_Md_make_48 rfl rfl rfl ?_
        refine zr_iconst (v := 1) (n := 50) d_Md_make_49 rfl (by decide) ?_
        refine zr_isub (n := 51) d_Md_make_50 rfl ?_
        refine zr_callV (M' := M_Md_after) (mc' := 0) (ms' := 0) (av := [.int a1, .int (a2 - 1)]) (rest := []) (n := 54) d_Md_make_51 rfl w_Md_88 w_Md_88k gg_27 rfl rfl rfl rfl rfl rfl (Nat.le_refl _) (Nat.le_refl _) ?_
        exact (l2 (Or.inl ⟨h2, h3, h5, h6, h7⟩))
      · refine zr_aload_n (i := 0) (x := 27) (n := 34) d_Md_make_33 rfl rfl rfl ?_
        refine zr_getr (n := 37) d_Md_make_34 rfl f_Md_7 gg_27 rfl ?_
        refine zr_iload_n (i := 1) (x := a1) (n := 38) d_Md_make_37 rfl rfl rfl ?_
        refine zr_iaload j1 (n := 39) d_Md_make_38 rfl gg_28 (o1 h2 h3 h5 h6) ?_
        refine zr_iconst (v := 2) (n := 40) d_Md_make_39 rfl (by decide) ?_
        refine zr_icmp_eq (tgt := 46) (n := 43) d_Md_make_40 rfl (by decide) (fun h8 => ?_) (fun h8 => ?_)
        · refine zr_aload_n (i := 0) (x := 27) (n := 47) d_Md_make_46 rfl rfl rfl ?_
          refine zr_iload_n (i := 1) (x := a1) (n := 48) d_Md_make_47 rfl rfl rfl ?_
          refine zr_iload_n (i := 2) (x := a2) (n := 49) d_Md_make_48 rfl rfl rfl ?_
          refine zr_iconst (v := 1) (n := 50) d_Md_make_49 rfl (by decide) ?_
          refine zr_isub (n := 51) d_Md_make_50 rfl ?_
          refine zr_callV (M' := M_Md_after) (mc' := 0) (ms' := 0) (av := [.int a1, .int (a2 - 1)]) (rest := []) (n := 54) d_Md_make_51 rfl w_Md_88 w_Md_88k gg_27 rfl rfl rfl rfl rfl rfl (Nat.le_refl _) (Nat.le_refl _) ?_
          exact (l2 (Or.inr ⟨h2, h3, h5, h6, h7, h8⟩))
        · refine zr_bipush (v := (-2)) (n := 45) d_Md_make_43 rfl (by decide) ?_
          exact zr_ireturn d_Md_make_45 rfl rfl (Nat.le_refl _) (Nat.le_refl _) (l3 h2 h3 h5 h6 h7 h8)
theorem s_Md_make_54 {d : Nat} {Q : zm_Q} {S : zm_S} {a1 a2 a3 r : Int32}
    (l1 : r < 0 → zw M_Md_make (d + 1) Q 80 [some (.ref 27), some (.int a1), some (.int a2), some (.int a3), some (.int 1)] [] S)
    (l2 : ¬ r < 0 → zc M_Md_after d [.ref 27, .int a1, .int (a2 - 1)] S (fun v G' S' => zm_WP M_Md_make none (d + 1) 0 0 Q 69 [some (.ref 27), some (.int a1), some (.int a2), some (.int a3), none] (zm_ps v [.ref 30]) G' S' 0 0)) :
    zw M_Md_make (d + 1) Q 54 [some (.ref 27), some (.int a1), some (.int a2), some (.int a3), none] [.int r] S := by
  refine zr_if_lt (tgt := 77) (n := 57) d_Md_make_54 rfl (by decide) (fun h1 => ?_) (fun h1 => ?_)
  · refine zr_iconst (v := 1) (n := 78) d_Md_make_77 rfl (by decide) ?_
    refine zr_istore (i := 4) (L' := [some (.ref 27), some (.int a1), some (.int a2), some (.int a3), some (.int 1)]) (n := 80) d_Md_make_78 rfl rfl rfl ?_
    exact (l1 h1)
  · refine zr_aload_n (i := 0) (x := 27) (n := 58) d_Md_make_57 rfl rfl rfl ?_
    refine zr_getr (n := 61) d_Md_make_58 rfl f_Md_16 gg_27 rfl ?_
    refine zr_aload_n (i := 0) (x := 27) (n := 62) d_Md_make_61 rfl rfl rfl ?_
    refine zr_iload_n (i := 1) (x := a1) (n := 63) d_Md_make_62 rfl rfl rfl ?_
    refine zr_iload_n (i := 2) (x := a2) (n := 64) d_Md_make_63 rfl rfl rfl ?_
    refine zr_iconst (v := 1) (n := 65) d_Md_make_64 rfl (by decide) ?_
    refine zr_isub (n := 66) d_Md_make_65 rfl ?_
    refine zr_callV (M' := M_Md_after) (mc' := 0) (ms' := 0) (av := [.int a1, .int (a2 - 1)]) (rest := [.ref 30]) (n := 69) d_Md_make_66 rfl w_Md_88 w_Md_88k gg_27 rfl rfl rfl rfl rfl rfl (Nat.le_refl _) (Nat.le_refl _) ?_
    exact (l2 h1)
theorem s_Md_make_80 {d : Nat} {Q : zm_Q} {S : zm_S} {a1 a2 a3 a4 : Int32} (j1 : Nat) (o1 : 12 ≤ a4 → ¬ a4 = 12 → a3 = 0 → zm_ix a4 j1 12) (o2 : 12 ≤ a4 → ¬ a4 = 12 → ¬ a3 = 0 → zm_ix a4 j1 12) (o3 : ¬ 12 ≤ a4 → zm_ix a4 j1 12)
    (l1 : ((12 ≤ a4 ∧ ¬ a4 = 12 ∧ a3 = 0) ∨ (¬ 12 ≤ a4 ∧ (S 28 j1) = 0 ∧ ¬ a4 = 12 ∧ a3 = 0)) → Q (some a4) GG (zm_up (zm_up (zm_up (zm_up S 28 j1 3) 29 j1 a1) 30 j1 a2) 31 j1 0))
    (l2 : ((12 ≤ a4 ∧ ¬ a4 = 12 ∧ ¬ a3 = 0) ∨ (¬ 12 ≤ a4 ∧ (S 28 j1) = 0 ∧ ¬ a4 = 12 ∧ ¬ a3 = 0)) → Q (some a4) GG (zm_up (zm_up (zm_up (zm_up S 28 j1 2) 29 j1 a1) 30 j1 a2) 31 j1 0))
    (l3 : ((12 ≤ a4 ∧ a4 = 12) ∨ (¬ 12 ≤ a4 ∧ (S 28 j1) = 0 ∧ a4 = 12)) → Q (some (-4)) GG S)
    (l4 : ¬ 12 ≤ a4 → ¬ (S 28 j1) = 0 → zw M_Md_make (d + 1) Q 80 [some (.ref 27), some (.int a1), some (.int a2), some (.int a3), some (.int (a4 + 1))] [] S) :
    zw M_Md_make (d + 1) Q 80 [some (.ref 27), some (.int a1), some (.int a2), some (.int a3), some (.int a4)] [] S := by
  refine zr_iload (i := 4) (x := a4) (n := 82) d_Md_make_80 rfl rfl ?_
  refine zr_bipush (v := 12) (n := 84) d_Md_make_82 rfl (by decide) ?_
  refine zr_icmp_ge (tgt := 103) (n := 87) d_Md_make_84 rfl (by decide) (fun h1 => ?_) (fun h1 => ?_)
  · refine zr_iload (i := 4) (x := a4) (n := 105) d_Md_make_103 rfl rfl ?_
    refine zr_bipush (v := 12) (n := 107) d_Md_make_105 rfl (by decide) ?_
    refine zr_icmp_ne (tgt := 113) (n := 110) d_Md_make_107 rfl (by decide) (fun h2 => ?_) (fun h2 => ?_)
    · refine zr_aload_n (i := 0) (x := 27) (n := 114) d_Md_make_113 rfl rfl rfl ?_
      refine zr_getr (n := 117) d_Md_make_114 rfl f_Md_7 gg_27 rfl ?_
      refine zr_iload (i := 4) (x := a4) (n := 119) d_Md_make_117 rfl rfl ?_
      refine zr_iload_n (i := 3) (x := a3) (n := 120) d_Md_make_119 rfl rfl rfl ?_
      refine zr_if_eq (tgt := 127) (n := 123) d_Md_make_120 rfl (by decide) (fun h3 => ?_) (fun h3 => ?_)
      · refine zr_iconst (v := 3) (n := 128) d_Md_make_127 rfl (by decide) ?_
        refine zr_iastore j1 (n := 129) d_Md_make_128 rfl gg_28 (o1 h1 h2 h3) ?_
        refine zr_aload_n (i := 0) (x := 27) (n := 130) d_Md_make_129 rfl rfl rfl ?_
        refine zr_getr (n := 133) d_Md_make_130 rfl f_Md_13 gg_27 rfl ?_
        refine zr_iload (i := 4) (x := a4) (n := 135) d_Md_make_133 rfl rfl ?_
        refine zr_iload_n (i := 1) (x := a1) (n := 136) d_Md_make_135 rfl rfl rfl ?_
        refine zr_iastore j1 (n := 137) d_Md_make_136 rfl gg_29 (o1 h1 h2 h3) ?_
        refine zr_aload_n (i := 0) (x := 27) (n := 138) d_Md_make_137 rfl rfl rfl ?_
        refine zr_getr (n := 141) d_Md_make_138 rfl f_Md_16 gg_27 rfl ?_
        refine zr_iload (i := 4) (x := a4) (n := 143) d_Md_make_141 rfl rfl ?_
        refine zr_iload_n (i := 2) (x := a2) (n := 144) d_Md_make_143 rfl rfl rfl ?_
        refine zr_iastore j1 (n := 145) d_Md_make_144 rfl gg_30 (o1 h1 h2 h3) ?_
        refine zr_aload_n (i := 0) (x := 27) (n := 146) d_Md_make_145 rfl rfl rfl ?_
        refine zr_getr (n := 149) d_Md_make_146 rfl f_Md_19 gg_27 rfl ?_
        refine zr_iload (i := 4) (x := a4) (n := 151) d_Md_make_149 rfl rfl ?_
        refine zr_iconst (v := 0) (n := 152) d_Md_make_151 rfl (by decide) ?_
        refine zr_iastore j1 (n := 153) d_Md_make_152 rfl gg_31 (o1 h1 h2 h3) ?_
        refine zr_iload (i := 4) (x := a4) (n := 155) d_Md_make_153 rfl rfl ?_
        exact zr_ireturn d_Md_make_155 rfl rfl (Nat.le_refl _) (Nat.le_refl _) (l1 (Or.inl ⟨h1, h2, h3⟩))
      · refine zr_iconst (v := 2) (n := 124) d_Md_make_123 rfl (by decide) ?_
        refine zr_goto (tgt := 128) d_Md_make_124 (by decide) ?_
        refine zr_iastore j1 (n := 129) d_Md_make_128 rfl gg_28 (o2 h1 h2 h3) ?_
        refine zr_aload_n (i := 0) (x := 27) (n := 130) d_Md_make_129 rfl rfl rfl ?_
        refine zr_getr (n := 133) d_Md_make_130 rfl f_Md_13 gg_27 rfl ?_
        refine zr_iload (i := 4) (x := a4) (n := 135) d_Md_make_133 rfl rfl ?_
        refine zr_iload_n (i := 1) (x := a1) (n := 136) d_Md_make_135 rfl rfl rfl ?_
        refine zr_iastore j1 (n := 137) d_Md_make_136 rfl gg_29 (o2 h1 h2 h3) ?_
        refine zr_aload_n (i := 0) (x := 27) (n := 138) d_Md_make_137 rfl rfl rfl ?_
        refine zr_getr (n := 141) d_Md_make_138 rfl f_Md_16 gg_27 rfl ?_
        refine zr_iload (i := 4) (x := a4) (n := 143) d_Md_make_141 rfl rfl ?_
        refine zr_iload_n (i := 2) (x := a2) (n := 144) d_Md_make_143 rfl rfl rfl ?_
        refine zr_iastore j1 (n := 145) d_Md_make_144 rfl gg_30 (o2 h1 h2 h3) ?_
        refine zr_aload_n (i := 0) (x := 27) (n := 146) d_Md_make_145 rfl rfl rfl ?_
        refine zr_getr (n := 149) d_Md_make_146 rfl f_Md_19 gg_27 rfl ?_
        refine zr_iload (i := 4) (x := a4) (n := 151) d_Md_make_149 rfl rfl ?_
        refine zr_iconst (v := 0) (n := 152) d_Md_make_151 rfl (by decide) ?_
        refine zr_iastore j1 (n := 153) d_Md_make_152 rfl gg_31 (o2 h1 h2 h3) ?_
        refine zr_iload (i := 4) (x := a4) (n := 155) d_Md_make_153 rfl rfl ?_
        exact zr_ireturn d_Md_make_155 rfl rfl (Nat.le_refl _) (Nat.le_refl _) (l2 (Or.inl ⟨h1, h2, h3⟩))
    · refine zr_bipush (v := (-4)) (n := 112) d_Md_make_110 rfl (by decide) ?_
      exact zr_ireturn d_Md_make_112 rfl rfl (Nat.le_refl _) (Nat.le_refl _) (l3 (Or.inl ⟨h1, h2⟩))
  · refine zr_aload_n (i := 0) (x := 27) (n := 88) d_Md_make_87 rfl rfl rfl ?_
    refine zr_getr (n := 91) d_Md_make_88 rfl f_Md_7 gg_27 rfl ?_
    refine zr_iload (i := 4) (x := a4) (n := 93) d_Md_make_91 rfl rfl ?_
    refine zr_iaload j1 (n := 94) d_Md_make_93 rfl gg_28 (o3 h1) ?_
    refine zr_if_eq (tgt := 103) (n := 97) d_Md_make_94 rfl (by decide) (fun h4 => ?_) (fun h4 => ?_)
    · refine zr_iload (i := 4) (x := a4) (n := 105) d_Md_make_103 rfl rfl ?_
      refine zr_bipush (v := 12) (n := 107) d_Md_make_105 rfl (by decide) ?_
      refine zr_icmp_ne (tgt := 113) (n := 110) d_Md_make_107 rfl (by decide) (fun h5 => ?_) (fun h5 => ?_)
      · refine zr_aload_n (i := 0) (x := 27) (n := 114) d_Md_make_113 rfl rfl rfl ?_
        refine zr_getr (n := 117) d_Md_make_114 rfl f_Md_7 gg_27 rfl ?_
        refine zr_iload (i := 4) (x := a4) (n := 119) d_Md_make_117 rfl rfl ?_
        refine zr_iload_n (i := 3) (x := a3) (n := 120) d_Md_make_119 rfl rfl rfl ?_
        refine zr_if_eq (tgt := 127) (n := 123) d_Md_make_120 rfl (by decide) (fun h6 => ?_) (fun h6 => ?_)
        · refine zr_iconst (v := 3) (n := 128) d_Md_make_127 rfl (by decide) ?_
          refine zr_iastore j1 (n := 129) d_Md_make_128 rfl gg_28 (o3 h1) ?_
          refine zr_aload_n (i := 0) (x := 27) (n := 130) d_Md_make_129 rfl rfl rfl ?_
          refine zr_getr (n := 133) d_Md_make_130 rfl f_Md_13 gg_27 rfl ?_
          refine zr_iload (i := 4) (x := a4) (n := 135) d_Md_make_133 rfl rfl ?_
          refine zr_iload_n (i := 1) (x := a1) (n := 136) d_Md_make_135 rfl rfl rfl ?_
          refine zr_iastore j1 (n := 137) d_Md_make_136 rfl gg_29 (o3 h1) ?_
          refine zr_aload_n (i := 0) (x := 27) (n := 138) d_Md_make_137 rfl rfl rfl ?_
          refine zr_getr (n := 141) d_Md_make_138 rfl f_Md_16 gg_27 rfl ?_
          refine zr_iload (i := 4) (x := a4) (n := 143) d_Md_make_141 rfl rfl ?_
          refine zr_iload_n (i := 2) (x := a2) (n := 144) d_Md_make_143 rfl rfl rfl ?_
          refine zr_iastore j1 (n := 145) d_Md_make_144 rfl gg_30 (o3 h1) ?_
          refine zr_aload_n (i := 0) (x := 27) (n := 146) d_Md_make_145 rfl rfl rfl ?_
          refine zr_getr (n := 149) d_Md_make_146 rfl f_Md_19 gg_27 rfl ?_
          refine zr_iload (i := 4) (x := a4) (n := 151) d_Md_make_149 rfl rfl ?_
          refine zr_iconst (v := 0) (n := 152) d_Md_make_151 rfl (by decide) ?_
          refine zr_iastore j1 (n := 153) d_Md_make_152 rfl gg_31 (o3 h1) ?_
          refine zr_iload (i := 4) (x := a4) (n := 155) d_Md_make_153 rfl rfl ?_
          exact zr_ireturn d_Md_make_155 rfl rfl (Nat.le_refl _) (Nat.le_refl _) (l1 (Or.inr ⟨h1, h4, h5, h6⟩))
        · refine zr_iconst (v := 2) (n := 124) d_Md_make_123 rfl (by decide) ?_
          refine zr_goto (tgt := 128) d_Md_make_124 (by decide) ?_
          refine zr_iastore j1 (n := 129) d_Md_make_128 rfl gg_28 (o3 h1) ?_
          refine zr_aload_n (i := 0) (x := 27) (n := 130) d_Md_make_129 rfl rfl rfl ?_
          refine zr_getr (n := 133) d_Md_make_130 rfl f_Md_13 gg_27 rfl ?_
          refine zr_iload (i := 4) (x := a4) (n := 135) d_Md_make_133 rfl rfl ?_
          refine zr_iload_n (i := 1) (x := a1) (n := 136) d_Md_make_135 rfl rfl rfl ?_
          refine zr_iastore j1 (n := 137) d_Md_make_136 rfl gg_29 (o3 h1) ?_
          refine zr_aload_n (i := 0) (x := 27) (n := 138) d_Md_make_137 rfl rfl rfl ?_
          refine zr_getr (n := 141) d_Md_make_138 rfl f_Md_16 gg_27 rfl ?_
          refine zr_iload (i := 4) (x := a4) (n := 143) d_Md_make_141 rfl rfl ?_
          refine zr_iload_n (i := 2) (x := a2) (n := 144) d_Md_make_143 rfl rfl rfl ?_
          refine zr_iastore j1 (n := 145) d_Md_make_144 rfl gg_30 (o3 h1) ?_
          refine zr_aload_n (i := 0) (x := 27) (n := 146) d_Md_make_145 rfl rfl rfl ?_
          refine zr_getr (n := 149) d_Md_make_146 rfl f_Md_19 gg_27 rfl ?_
          refine zr_iload (i := 4) (x := a4) (n := 151) d_Md_make_149 rfl rfl ?_
          refine zr_iconst (v := 0) (n := 152) d_Md_make_151 rfl (by decide) ?_
          refine zr_iastore j1 (n := 153) d_Md_make_152 rfl gg_31 (o3 h1) ?_
          refine zr_iload (i := 4) (x := a4) (n := 155) d_Md_make_153 rfl rfl ?_
          exact zr_ireturn d_Md_make_155 rfl rfl (Nat.le_refl _) (Nat.le_refl _) (l2 (Or.inr ⟨h1, h4, h5, h6⟩))
      · refine zr_bipush (v := (-4)) (n := 112) d_Md_make_110 rfl (by decide) ?_
        exact zr_ireturn d_Md_make_112 rfl rfl (Nat.le_refl _) (Nat.le_refl _) (l3 (Or.inr ⟨h1, h4, h5⟩))
    · refine zr_iinc (i := 4) (w := 1) (x := a4) (L' := [some (.ref 27), some (.int a1), some (.int a2), some (.int a3), some (.int (a4 + 1))]) (n := 100) d_Md_make_97 rfl (by decide) rfl rfl ?_
      refine zr_goto (tgt := 80) d_Md_make_100 (by decide) ?_
      exact (l4 h1 h4)
theorem s_Md_make_69 {d : Nat} {Q : zm_Q} {S : zm_S} {a1 a2 a3 r : Int32} (j1 : Nat) (o1 : zm_ix r j1 12)
    (l1 : ¬ (S 30 j1) = a2 → zw M_Md_make (d + 1) Q 80 [some (.ref 27), some (.int a1), some (.int a2), some (.int a3), some (.int 1)] [] S)
    (l2 : (S 30 j1) = a2 → Q (some (-3)) GG S) :
    zw M_Md_make (d + 1) Q 69 [some (.ref 27), some (.int a1), some (.int a2), some (.int a3), none] [.int r, .ref 30] S := by
  refine zr_iaload j1 (n := 70) d_Md_make_69 rfl gg_30 o1 ?_
  refine zr_iload_n (i := 2) (x := a2) (n := 71) d_Md_make_70 rfl rfl rfl ?_
  refine zr_icmp_ne (tgt := 77) (n := 74) d_Md_make_71 rfl (by decide) (fun h1 => ?_) (fun h1 => ?_)
  · refine zr_iconst (v := 1) (n := 78) d_Md_make_77 rfl (by decide) ?_
    refine zr_istore (i := 4) (L' := [some (.ref 27), some (.int a1), some (.int a2), some (.int a3), some (.int 1)]) (n := 80) d_Md_make_78 rfl rfl rfl ?_
    exact (l1 h1)
  · refine zr_bipush (v := (-3)) (n := 76) d_Md_make_74 rfl (by decide) ?_
    exact zr_ireturn d_Md_make_76 rfl rfl (Nat.le_refl _) (Nat.le_refl _) (l2 h1)
theorem e_Md_make {d : Nat} {Q : zm_Q} {S : zm_S} {a1 a2 a3 : Int32} (h : zw M_Md_make (d + 1) Q 0 [some (.ref 27), some (.int a1), some (.int a2), some (.int a3), none] [] S) : zc M_Md_make (d + 1) [.ref 27, .int a1, .int a2, .int a3] S Q := zm_CC_intro (by decide) rfl rfl h
theorem s_Md_remove_0 {d : Nat} {Q : zm_Q} {S : zm_S} {a1 : Int32} (j1 : Nat) (o1 : ¬ a1 < 1 → ¬ 11 < a1 → zm_ix a1 j1 12)
    (l1 : ((a1 < 1) ∨ (¬ a1 < 1 ∧ 11 < a1)) → Q (some (-1)) GG S)
    (l2 : ¬ a1 < 1 → ¬ 11 < a1 → ¬ (S 28 j1) = 0 → zc M_Md_after d [.ref 27, .int a1, .int 0] S (fun v G' S' => zm_WP M_Md_remove none (d + 1) 0 0 Q 30 [some (.ref 27), some (.int a1)] (zm_ps v []) G' S' 0 0))
    (l3 : ¬ a1 < 1 → ¬ 11 < a1 → (S 28 j1) = 0 → Q (some (-2)) GG S) :
    zw M_Md_remove (d + 1) Q 0 [some (.ref 27), some (.int a1)] [] S := by
  refine zr_iload_n (i := 1) (x := a1) (n := 1) d_Md_remove_0 rfl rfl rfl ?_
  refine zr_iconst (v := 1) (n := 2) d_Md_remove_1 rfl (by decide) ?_
  refine zr_bipush (v := 11) (n := 4) d_Md_remove_2 rfl (by decide) ?_
  refine zr_callS (M' := M_Md_within) (mc' := 0) (ms' := 0) (av := [.int a1, .int 1, .int 11]) (rest := []) (n := 7) d_Md_remove_4 rfl w_Md_84 w_Md_84k rfl rfl rfl rfl rfl (Nat.le_refl _) (Nat.le_refl _) ?_
  refine c_Md_within (a0 := a1) (a1 := 1) (a2 := 11) (fun h1 => ?_) (fun h2 h3 => ?_)
  · refine zr_if_ne (tgt := 12) (n := 10) d_Md_remove_7 rfl (by decide) (fun h => absurd h (by decide)) (fun _ => ?_)
    refine zr_iconst (v := (-1)) (n := 11) d_Md_remove_10 rfl (by decide) ?_
    exact zr_ireturn d_Md_remove_11 rfl rfl (Nat.le_refl _) (Nat.le_refl _) (l1 h1)
  · refine zr_if_ne (tgt := 12) (n := 10) d_Md_remove_7 rfl (by decide) (fun _ => ?_) (fun h => absurd h (by decide))
    refine zr_aload_n (i := 0) (x := 27) (n := 13) d_Md_remove_12 rfl rfl rfl ?_
    refine zr_getr (n := 16) d_Md_remove_13 rfl f_Md_7 gg_27 rfl ?_
    refine zr_iload_n (i := 1) (x := a1) (n := 17) d_Md_remove_16 rfl rfl rfl ?_
    refine zr_iaload j1 (n := 18) d_Md_remove_17 rfl gg_28 (o1 h2 h3) ?_
    refine zr_if_ne (tgt := 24) (n := 21) d_Md_remove_18 rfl (by decide) (fun h4 => ?_) (fun h4 => ?_)
    · refine zr_aload_n (i := 0) (x := 27) (n := 25) d_Md_remove_24 rfl rfl rfl ?_
      refine zr_iload_n (i := 1) (x := a1) (n := 26) d_Md_remove_25 rfl rfl rfl ?_
      refine zr_iconst (v := 0) (n := 27) d_Md_remove_26 rfl (by decide) ?_
      refine zr_callV (M' := M_Md_after) (mc' := 0) (ms' := 0) (av := [.int a1, .int 0]) (rest := []) (n := 30) d_Md_remove_27 rfl w_Md_88 w_Md_88k gg_27 rfl rfl rfl rfl rfl rfl (Nat.le_refl _) (Nat.le_refl _) ?_
      exact (l2 h2 h3 h4)
    · refine zr_bipush (v := (-2)) (n := 23) d_Md_remove_21 rfl (by decide) ?_
      exact zr_ireturn d_Md_remove_23 rfl rfl (Nat.le_refl _) (Nat.le_refl _) (l3 h2 h3 h4)
theorem s_Md_remove_30 {d : Nat} {Q : zm_Q} {S : zm_S} {a1 r : Int32} (j1 : Nat) (o1 : r < 0 → zm_ix a1 j1 12)
    (l1 : r < 0 → Q (some 0) GG (zm_up S 28 j1 0))
    (l2 : ¬ r < 0 → Q (some (-5)) GG S) :
    zw M_Md_remove (d + 1) Q 30 [some (.ref 27), some (.int a1)] [.int r] S := by
  refine zr_if_lt (tgt := 36) (n := 33) d_Md_remove_30 rfl (by decide) (fun h1 => ?_) (fun h1 => ?_)
  · refine zr_aload_n (i := 0) (x := 27) (n := 37) d_Md_remove_36 rfl rfl rfl ?_
    refine zr_getr (n := 40) d_Md_remove_37 rfl f_Md_7 gg_27 rfl ?_
    refine zr_iload_n (i := 1) (x := a1) (n := 41) d_Md_remove_40 rfl rfl rfl ?_
    refine zr_iconst (v := 0) (n := 42) d_Md_remove_41 rfl (by decide) ?_
    refine zr_iastore j1 (n := 43) d_Md_remove_42 rfl gg_28 (o1 h1) ?_
    refine zr_iconst (v := 0) (n := 44) d_Md_remove_43 rfl (by decide) ?_
    exact zr_ireturn d_Md_remove_44 rfl rfl (Nat.le_refl _) (Nat.le_refl _) (l1 h1)
  · refine zr_bipush (v := (-5)) (n := 35) d_Md_remove_33 rfl (by decide) ?_
    exact zr_ireturn d_Md_remove_35 rfl rfl (Nat.le_refl _) (Nat.le_refl _) (l2 h1)
theorem e_Md_remove {d : Nat} {Q : zm_Q} {S : zm_S} {a1 : Int32} (h : zw M_Md_remove (d + 1) Q 0 [some (.ref 27), some (.int a1)] [] S) : zc M_Md_remove (d + 1) [.ref 27, .int a1] S Q := zm_CC_intro (by decide) rfl rfl h
theorem s_Md_next_0 {d : Nat} {Q : zm_Q} {S : zm_S} {a1 : Int32}
    (l1 : zc M_Md_after d [.ref 27, .int a1, .int 0] S (fun v G' S' => zm_WP M_Md_next none (d + 1) 0 0 Q 6 [some (.ref 27), some (.int a1), none, none] (zm_ps v []) G' S' 0 0)) :
    zw M_Md_next (d + 1) Q 0 [some (.ref 27), some (.int a1), none, none] [] S := by
  refine zr_aload_n (i := 0) (x := 27) (n := 1) d_Md_next_0 rfl rfl rfl ?_
  refine zr_iload_n (i := 1) (x := a1) (n := 2) d_Md_next_1 rfl rfl rfl ?_
  refine zr_iconst (v := 0) (n := 3) d_Md_next_2 rfl (by decide) ?_
  refine zr_callV (M' := M_Md_after) (mc' := 0) (ms' := 0) (av := [.int a1, .int 0]) (rest := []) (n := 6) d_Md_next_3 rfl w_Md_88 w_Md_88k gg_27 rfl rfl rfl rfl rfl rfl (Nat.le_refl _) (Nat.le_refl _) ?_
  exact l1
theorem s_Md_next_6 {d : Nat} {Q : zm_Q} {S : zm_S} {a1 r : Int32}
    (l1 : zw M_Md_next (d + 1) Q 9 [some (.ref 27), none, some (.int r), some (.int a1)] [] S) :
    zw M_Md_next (d + 1) Q 6 [some (.ref 27), some (.int a1), none, none] [.int r] S := by
  refine zr_istore_n (i := 2) (L' := [some (.ref 27), some (.int a1), some (.int r), none]) (n := 7) d_Md_next_6 rfl rfl rfl rfl ?_
  refine zr_iload_n (i := 1) (x := a1) (n := 8) d_Md_next_7 rfl rfl rfl ?_
  refine zr_istore_n (i := 3) (L' := [some (.ref 27), some (.int a1), some (.int r), some (.int a1)]) (n := 9) d_Md_next_8 rfl rfl rfl rfl ?_
  exact zr_weak (zm_LE.cons (zm_LE.skip (zm_LE.cons (zm_LE.cons zm_LE.nil)))) l1
theorem s_Md_next_9 {d : Nat} {Q : zm_Q} {S : zm_S} {a2 a3 : Int32} (j1 : Nat) (o1 : ¬ 0 ≤ a2 → ¬ a3 = 0 → zm_ix a3 j1 12)
    (l1 : ((0 ≤ a2) ∨ (¬ 0 ≤ a2 ∧ a3 = 0)) → Q (some a2) GG S)
    (l2 : ¬ 0 ≤ a2 → ¬ a3 = 0 → zc M_Md_after d [.ref 27, .int (S 29 j1), .int (S 30 j1)] S (fun v G' S' => zm_WP M_Md_next none (d + 1) 0 0 Q 33 [some (.ref 27), none, none, some (.int a3)] (zm_ps v []) G' S' 0 0)) :
    zw M_Md_next (d + 1) Q 9 [some (.ref 27), none, some (.int a2), some (.int a3)] [] S := by
  refine zr_iload_n (i := 2) (x := a2) (n := 10) d_Md_next_9 rfl rfl rfl ?_
  refine zr_if_ge (tgt := 44) (n := 13) d_Md_next_10 rfl (by decide) (fun h1 => ?_) (fun h1 => ?_)
  · refine zr_iload_n (i := 2) (x := a2) (n := 45) d_Md_next_44 rfl rfl rfl ?_
    exact zr_ireturn d_Md_next_45 rfl rfl (Nat.le_refl _) (Nat.le_refl _) (l1 (Or.inl h1))
  · refine zr_iload_n (i := 3) (x := a3) (n := 14) d_Md_next_13 rfl rfl rfl ?_
    refine zr_if_eq (tgt := 44) (n := 17) d_Md_next_14 rfl (by decide) (fun h2 => ?_) (fun h2 => ?_)
    · refine zr_iload_n (i := 2) (x := a2) (n := 45) d_Md_next_44 rfl rfl rfl ?_
      exact zr_ireturn d_Md_next_45 rfl rfl (Nat.le_refl _) (Nat.le_refl _) (l1 (Or.inr ⟨h1, h2⟩))
    · refine zr_aload_n (i := 0) (x := 27) (n := 18) d_Md_next_17 rfl rfl rfl ?_
      refine zr_aload_n (i := 0) (x := 27) (n := 19) d_Md_next_18 rfl rfl rfl ?_
      refine zr_getr (n := 22) d_Md_next_19 rfl f_Md_13 gg_27 rfl ?_
      refine zr_iload_n (i := 3) (x := a3) (n := 23) d_Md_next_22 rfl rfl rfl ?_
      refine zr_iaload j1 (n := 24) d_Md_next_23 rfl gg_29 (o1 h1 h2) ?_
      refine zr_aload_n (i := 0) (x := 27) (n := 25) d_Md_next_24 rfl rfl rfl ?_
      refine zr_getr (n := 28) d_Md_next_25 rfl f_Md_16 gg_27 rfl ?_
      refine zr_iload_n (i := 3) (x := a3) (n := 29) d_Md_next_28 rfl rfl rfl ?_
      refine zr_iaload j1 (n := 30) d_Md_next_29 rfl gg_30 (o1 h1 h2) ?_
      refine zr_weak (zm_LE.cons (zm_LE.cons (zm_LE.skip (zm_LE.cons zm_LE.nil)))) ?_
      refine zr_callV (M' := M_Md_after) (mc' := 0) (ms' := 0) (av := [.int (S 29 j1), .int (S 30 j1)]) (rest := []) (n := 33) d_Md_next_30 rfl w_Md_88 w_Md_88k gg_27 rfl rfl rfl rfl rfl rfl (Nat.le_refl _) (Nat.le_refl _) ?_
      exact (l2 h1 h2)
theorem s_Md_next_33 {d : Nat} {Q : zm_Q} {S : zm_S} {a3 r : Int32} (j1 : Nat) (o1 : zm_ix a3 j1 12)
    (l1 : zw M_Md_next (d + 1) Q 9 [some (.ref 27), none, some (.int r), some (.int (S 29 j1))] [] S) :
    zw M_Md_next (d + 1) Q 33 [some (.ref 27), none, none, some (.int a3)] [.int r] S := by
  refine zr_istore_n (i := 2) (L' := [some (.ref 27), none, some (.int r), some (.int a3)]) (n := 34) d_Md_next_33 rfl rfl rfl rfl ?_
  refine zr_aload_n (i := 0) (x := 27) (n := 35) d_Md_next_34 rfl rfl rfl ?_
  refine zr_getr (n := 38) d_Md_next_35 rfl f_Md_13 gg_27 rfl ?_
  refine zr_iload_n (i := 3) (x := a3) (n := 39) d_Md_next_38 rfl rfl rfl ?_
  refine zr_iaload j1 (n := 40) d_Md_next_39 rfl gg_29 o1 ?_
  refine zr_istore_n (i := 3) (L' := [some (.ref 27), none, some (.int r), some (.int (S 29 j1))]) (n := 41) d_Md_next_40 rfl rfl rfl rfl ?_
  refine zr_goto (tgt := 9) d_Md_next_41 (by decide) ?_
  exact l1
theorem e_Md_next {d : Nat} {Q : zm_Q} {S : zm_S} {a1 : Int32} (h : zw M_Md_next (d + 1) Q 0 [some (.ref 27), some (.int a1), none, none] [] S) : zc M_Md_next (d + 1) [.ref 27, .int a1] S Q := zm_CC_intro (by decide) rfl rfl h
theorem s_Md_payload_0 {d : Nat} {Q : zm_Q} {S : zm_S} {a1 : Int32} (j1 : Nat) (o1 : zm_ix a1 j1 12)
    (l1 : ¬ (S 28 j1) = 3 → zw M_Md_payload d Q 21 [some (.ref 27), some (.int a1), some (.int 0), some (.int 1)] [] S)
    (l2 : (S 28 j1) = 3 → Q (some (S 31 j1)) GG S) :
    zw M_Md_payload d Q 0 [some (.ref 27), some (.int a1), none, none] [] S := by
  refine zr_aload_n (i := 0) (x := 27) (n := 1) d_Md_payload_0 rfl rfl rfl ?_
  refine zr_getr (n := 4) d_Md_payload_1 rfl f_Md_7 gg_27 rfl ?_
  refine zr_iload_n (i := 1) (x := a1) (n := 5) d_Md_payload_4 rfl rfl rfl ?_
  refine zr_iaload j1 (n := 6) d_Md_payload_5 rfl gg_28 o1 ?_
  refine zr_iconst (v := 3) (n := 7) d_Md_payload_6 rfl (by decide) ?_
  refine zr_icmp_ne (tgt := 17) (n := 10) d_Md_payload_7 rfl (by decide) (fun h1 => ?_) (fun h1 => ?_)
  · refine zr_iconst (v := 0) (n := 18) d_Md_payload_17 rfl (by decide) ?_
    refine zr_istore_n (i := 2) (L' := [some (.ref 27), some (.int a1), some (.int 0), none]) (n := 19) d_Md_payload_18 rfl rfl rfl rfl ?_
    refine zr_iconst (v := 1) (n := 20) d_Md_payload_19 rfl (by decide) ?_
    refine zr_istore_n (i := 3) (L' := [some (.ref 27), some (.int a1), some (.int 0), some (.int 1)]) (n := 21) d_Md_payload_20 rfl rfl rfl rfl ?_
    exact (l1 h1)
  · refine zr_aload_n (i := 0) (x := 27) (n := 11) d_Md_payload_10 rfl rfl rfl ?_
    refine zr_getr (n := 14) d_Md_payload_11 rfl f_Md_19 gg_27 rfl ?_
    refine zr_iload_n (i := 1) (x := a1) (n := 15) d_Md_payload_14 rfl rfl rfl ?_
    refine zr_iaload j1 (n := 16) d_Md_payload_15 rfl gg_31 o1 ?_
    exact zr_ireturn d_Md_payload_16 rfl rfl (Nat.le_refl _) (Nat.le_refl _) (l2 h1)
theorem s_Md_payload_21 {d : Nat} {Q : zm_Q} {S : zm_S} {a1 a2 a3 : Int32} (j1 : Nat) (o1 : ¬ 12 ≤ a3 → zm_ix a3 j1 12)
    (l1 : 12 ≤ a3 → Q (some a2) GG S)
    (l2 : ((¬ 12 ≤ a3 ∧ (S 28 j1) = 0) ∨ (¬ 12 ≤ a3 ∧ ¬ (S 28 j1) = 0 ∧ ¬ (S 29 j1) = a1)) → zw M_Md_payload d Q 21 [some (.ref 27), some (.int a1), some (.int a2), some (.int (a3 + 1))] [] S)
    (l3 : ¬ 12 ≤ a3 → ¬ (S 28 j1) = 0 → (S 29 j1) = a1 → zw M_Md_payload d Q 21 [some (.ref 27), some (.int a1), some (.int (a2 + 4)), some (.int (a3 + 1))] [] S) :
    zw M_Md_payload d Q 21 [some (.ref 27), some (.int a1), some (.int a2), some (.int a3)] [] S := by
  refine zr_iload_n (i := 3) (x := a3) (n := 22) d_Md_payload_21 rfl rfl rfl ?_
  refine zr_bipush (v := 12) (n := 24) d_Md_payload_22 rfl (by decide) ?_
  refine zr_icmp_ge (tgt := 60) (n := 27) d_Md_payload_24 rfl (by decide) (fun h1 => ?_) (fun h1 => ?_)
  · refine zr_iload_n (i := 2) (x := a2) (n := 61) d_Md_payload_60 rfl rfl rfl ?_
    exact zr_ireturn d_Md_payload_61 rfl rfl (Nat.le_refl _) (Nat.le_refl _) (l1 h1)
  · refine zr_aload_n (i := 0) (x := 27) (n := 28) d_Md_payload_27 rfl rfl rfl ?_
    refine zr_getr (n := 31) d_Md_payload_28 rfl f_Md_7 gg_27 rfl ?_
    refine zr_iload_n (i := 3) (x := a3) (n := 32) d_Md_payload_31 rfl rfl rfl ?_
    refine zr_iaload j1 (n := 33) d_Md_payload_32 rfl gg_28 (o1 h1) ?_
    refine zr_if_eq (tgt := 52) (n := 36) d_Md_payload_33 rfl (by decide) (fun h2 => ?_) (fun h2 => ?_)
    · refine zr_iload_n (i := 2) (x := a2) (n := 53) d_Md_payload_52 rfl rfl rfl ?_
      refine zr_istore_n (i := 2) (L' := [some (.ref 27), some (.int a1), some (.int a2), some (.int a3)]) (n := 54) d_Md_payload_53 rfl rfl rfl rfl ?_
      refine zr_iinc (i := 3) (w := 1) (x := a3) (L' := [some (.ref 27), some (.int a1), some (.int a2), some (.int (a3 + 1))]) (n := 57) d_Md_payload_54 rfl (by decide) rfl rfl ?_
      refine zr_goto (tgt := 21) d_Md_payload_57 (by decide) ?_
      exact (l2 (Or.inl ⟨h1, h2⟩))
    · refine zr_aload_n (i := 0) (x := 27) (n := 37) d_Md_payload_36 rfl rfl rfl ?_
      refine zr_getr (n := 40) d_Md_payload_37 rfl f_Md_13 gg_27 rfl ?_
      refine zr_iload_n (i := 3) (x := a3) (n := 41) d_Md_payload_40 rfl rfl rfl ?_
      refine zr_iaload j1 (n := 42) d_Md_payload_41 rfl gg_29 (o1 h1) ?_
      refine zr_iload_n (i := 1) (x := a1) (n := 43) d_Md_payload_42 rfl rfl rfl ?_
      refine zr_icmp_ne (tgt := 52) (n := 46) d_Md_payload_43 rfl (by decide) (fun h3 => ?_) (fun h3 => ?_)
      · refine zr_iload_n (i := 2) (x := a2) (n := 53) d_Md_payload_52 rfl rfl rfl ?_
        refine zr_istore_n (i := 2) (L' := [some (.ref 27), some (.int a1), some (.int a2), some (.int a3)]) (n := 54) d_Md_payload_53 rfl rfl rfl rfl ?_
        refine zr_iinc (i := 3) (w := 1) (x := a3) (L' := [some (.ref 27), some (.int a1), some (.int a2), some (.int (a3 + 1))]) (n := 57) d_Md_payload_54 rfl (by decide) rfl rfl ?_
        refine zr_goto (tgt := 21) d_Md_payload_57 (by decide) ?_
        exact (l2 (Or.inr ⟨h1, h2, h3⟩))
      · refine zr_iload_n (i := 2) (x := a2) (n := 47) d_Md_payload_46 rfl rfl rfl ?_
        refine zr_iconst (v := 4) (n := 48) d_Md_payload_47 rfl (by decide) ?_
        refine zr_iadd (n := 49) d_Md_payload_48 rfl ?_
        refine zr_goto (tgt := 53) d_Md_payload_49 (by decide) ?_
        refine zr_istore_n (i := 2) (L' := [some (.ref 27), some (.int a1), some (.int (a2 + 4)), some (.int a3)]) (n := 54) d_Md_payload_53 rfl rfl rfl rfl ?_
        refine zr_iinc (i := 3) (w := 1) (x := a3) (L' := [some (.ref 27), some (.int a1), some (.int (a2 + 4)), some (.int (a3 + 1))]) (n := 57) d_Md_payload_54 rfl (by decide) rfl rfl ?_
        refine zr_goto (tgt := 21) d_Md_payload_57 (by decide) ?_
        exact (l3 h1 h2 h3)
theorem e_Md_payload {d : Nat} {Q : zm_Q} {S : zm_S} {a1 : Int32} (h : zw M_Md_payload d Q 0 [some (.ref 27), some (.int a1), none, none] [] S) : zc M_Md_payload d [.ref 27, .int a1] S Q := zm_CC_intro (by decide) rfl rfl h
theorem s_Md_put_0 {d : Nat} {Q : zm_Q} {S : zm_S} {a1 a2 : Int32} (j1 : Nat) (j2 : Nat) (o1 : zm_ix a1 j1 12) (o2 : zm_ix ((48 * a1) + (S 33 j1)) j2 576)
    (l1 : Q none GG (zm_up (zm_up S 35 j2 a2) 33 j1 ((S 33 j1) + 1))) :
    zw M_Md_put d Q 0 [some (.ref 27), some (.int a1), some (.int a2)] [] S := by
  refine zr_aload_n (i := 0) (x := 27) (n := 1) d_Md_put_0 rfl rfl rfl ?_
  refine zr_getr (n := 4) d_Md_put_1 rfl f_Md_31 gg_27 rfl ?_
  refine zr_bipush (v := 48) (n := 6) d_Md_put_4 rfl (by decide) ?_
  refine zr_iload_n (i := 1) (x := a1) (n := 7) d_Md_put_6 rfl rfl rfl ?_
  refine zr_imul (n := 8) d_Md_put_7 rfl ?_
  refine zr_aload_n (i := 0) (x := 27) (n := 9) d_Md_put_8 rfl rfl rfl ?_
  refine zr_getr (n := 12) d_Md_put_9 rfl f_Md_25 gg_27 rfl ?_
  refine zr_iload_n (i := 1) (x := a1) (n := 13) d_Md_put_12 rfl rfl rfl ?_
  refine zr_iaload j1 (n := 14) d_Md_put_13 rfl gg_33 o1 ?_
  refine zr_iadd (n := 15) d_Md_put_14 rfl ?_
  refine zr_iload_n (i := 2) (x := a2) (n := 16) d_Md_put_15 rfl rfl rfl ?_
  refine zr_iastore j2 (n := 17) d_Md_put_16 rfl gg_35 o2 ?_
  refine zr_aload_n (i := 0) (x := 27) (n := 18) d_Md_put_17 rfl rfl rfl ?_
  refine zr_getr (n := 21) d_Md_put_18 rfl f_Md_25 gg_27 rfl ?_
  refine zr_iload_n (i := 1) (x := a1) (n := 22) d_Md_put_21 rfl rfl rfl ?_
  refine zr_dup2 (n := 23) d_Md_put_22 rfl rfl rfl ?_
  refine zr_iaload j1 (n := 24) d_Md_put_23 rfl gg_33 o1 ?_
  refine zr_iconst (v := 1) (n := 25) d_Md_put_24 rfl (by decide) ?_
  refine zr_iadd (n := 26) d_Md_put_25 rfl ?_
  refine zr_iastore j1 (n := 27) d_Md_put_26 rfl gg_33 o1 ?_
  exact zr_return d_Md_put_27 rfl (Nat.le_refl _) (Nat.le_refl _) l1
theorem e_Md_put {d : Nat} {Q : zm_Q} {S : zm_S} {a1 a2 : Int32} (h : zw M_Md_put d Q 0 [some (.ref 27), some (.int a1), some (.int a2)] [] S) : zc M_Md_put d [.ref 27, .int a1, .int a2] S Q := zm_CC_intro (by decide) rfl rfl h
theorem s_Md_message_0 {d : Nat} {Q : zm_Q} {S : zm_S} {a1 : Int32} (j1 : Nat) (o1 : zm_ix a1 j1 12)
    (l1 : zc M_Md_put d [.ref 27, .int (S 39 j1), .int (S 28 j1)] S (fun v G' S' => zm_WP M_Md_message none (d + 1) 0 0 Q 18 [some (.ref 27), some (.int a1), some (.int (S 39 j1)), none] (zm_ps v []) G' S' 0 0)) :
    zw M_Md_message (d + 1) Q 0 [some (.ref 27), some (.int a1), none, none] [] S := by
  refine zr_aload_n (i := 0) (x := 27) (n := 1) d_Md_message_0 rfl rfl rfl ?_
  refine zr_getr (n := 4) d_Md_message_1 rfl f_Md_43 gg_27 rfl ?_
  refine zr_iload_n (i := 1) (x := a1) (n := 5) d_Md_message_4 rfl rfl rfl ?_
  refine zr_iaload j1 (n := 6) d_Md_message_5 rfl gg_39 o1 ?_
  refine zr_istore_n (i := 2) (L' := [some (.ref 27), some (.int a1), some (.int (S 39 j1)), none]) (n := 7) d_Md_message_6 rfl rfl rfl rfl ?_
  refine zr_aload_n (i := 0) (x := 27) (n := 8) d_Md_message_7 rfl rfl rfl ?_
  refine zr_iload_n (i := 2) (x := (S 39 j1)) (n := 9) d_Md_message_8 rfl rfl rfl ?_
  refine zr_aload_n (i := 0) (x := 27) (n := 10) d_Md_message_9 rfl rfl rfl ?_
  refine zr_getr (n := 13) d_Md_message_10 rfl f_Md_7 gg_27 rfl ?_
  refine zr_iload_n (i := 1) (x := a1) (n := 14) d_Md_message_13 rfl rfl rfl ?_
  refine zr_iaload j1 (n := 15) d_Md_message_14 rfl gg_28 o1 ?_
  refine zr_callV (M' := M_Md_put) (mc' := 0) (ms' := 0) (av := [.int (S 39 j1), .int (S 28 j1)]) (rest := []) (n := 18) d_Md_message_15 rfl w_Md_92 w_Md_92k gg_27 rfl rfl rfl rfl rfl rfl (Nat.le_refl _) (Nat.le_refl _) ?_
  exact l1
theorem s_Md_message_18 {d : Nat} {Q : zm_Q} {S : zm_S} {a1 a2 : Int32}
    (l1 : zc M_Md_put d [.ref 27, .int a2, .int a1] S (fun v G' S' => zm_WP M_Md_message none (d + 1) 0 0 Q 24 [some (.ref 27), some (.int a1), some (.int a2), none] (zm_ps v []) G' S' 0 0)) :
    zw M_Md_message (d + 1) Q 18 [some (.ref 27), some (.int a1), some (.int a2), none] [] S := by
  refine zr_aload_n (i := 0) (x := 27) (n := 19) d_Md_message_18 rfl rfl rfl ?_
  refine zr_iload_n (i := 2) (x := a2) (n := 20) d_Md_message_19 rfl rfl rfl ?_
  refine zr_iload_n (i := 1) (x := a1) (n := 21) d_Md_message_20 rfl rfl rfl ?_
  refine zr_callV (M' := M_Md_put) (mc' := 0) (ms' := 0) (av := [.int a2, .int a1]) (rest := []) (n := 24) d_Md_message_21 rfl w_Md_92 w_Md_92k gg_27 rfl rfl rfl rfl rfl rfl (Nat.le_refl _) (Nat.le_refl _) ?_
  exact l1
theorem s_Md_message_24 {d : Nat} {Q : zm_Q} {S : zm_S} {a1 a2 : Int32}
    (l1 : zc M_Md_payload d [.ref 27, .int a1] S (fun v G' S' => zm_WP M_Md_message none (d + 1) 0 0 Q 31 [some (.ref 27), some (.int a1), some (.int a2), none] (zm_ps v [.int a2, .ref 27]) G' S' 0 0)) :
    zw M_Md_message (d + 1) Q 24 [some (.ref 27), some (.int a1), some (.int a2), none] [] S := by
  refine zr_aload_n (i := 0) (x := 27) (n := 25) d_Md_message_24 rfl rfl rfl ?_
  refine zr_iload_n (i := 2) (x := a2) (n := 26) d_Md_message_25 rfl rfl rfl ?_
  refine zr_aload_n (i := 0) (x := 27) (n := 27) d_Md_message_26 rfl rfl rfl ?_
  refine zr_iload_n (i := 1) (x := a1) (n := 28) d_Md_message_27 rfl rfl rfl ?_
  refine zr_callV (M' := M_Md_payload) (mc' := 0) (ms' := 0) (av := [.int a1]) (rest := [.int a2, .ref 27]) (n := 31) d_Md_message_28 rfl w_Md_96 w_Md_96k gg_27 rfl rfl rfl rfl rfl rfl (Nat.le_refl _) (Nat.le_refl _) ?_
  exact l1
theorem s_Md_message_31 {d : Nat} {Q : zm_Q} {S : zm_S} {a1 a2 b1 r : Int32}
    (l1 : zc M_Md_put d [.ref 27, .int b1, .int r] S (fun v G' S' => zm_WP M_Md_message none (d + 1) 0 0 Q 34 [some (.ref 27), some (.int a1), some (.int a2), none] (zm_ps v []) G' S' 0 0)) :
    zw M_Md_message (d + 1) Q 31 [some (.ref 27), some (.int a1), some (.int a2), none] [.int r, .int b1, .ref 27] S := by
  refine zr_callV (M' := M_Md_put) (mc' := 0) (ms' := 0) (av := [.int b1, .int r]) (rest := []) (n := 34) d_Md_message_31 rfl w_Md_92 w_Md_92k gg_27 rfl rfl rfl rfl rfl rfl (Nat.le_refl _) (Nat.le_refl _) ?_
  exact l1
theorem s_Md_message_34 {d : Nat} {Q : zm_Q} {S : zm_S} {a1 a2 : Int32}
    (l1 : zw M_Md_message (d + 1) Q 36 [some (.ref 27), some (.int a1), some (.int a2), some (.int 0)] [] S) :
    zw M_Md_message (d + 1) Q 34 [some (.ref 27), some (.int a1), some (.int a2), none] [] S := by
  refine zr_iconst (v := 0) (n := 35) d_Md_message_34 rfl (by decide) ?_
  refine zr_istore_n (i := 3) (L' := [some (.ref 27), some (.int a1), some (.int a2), some (.int 0)]) (n := 36) d_Md_message_35 rfl rfl rfl rfl ?_
  exact l1
theorem s_Md_message_36 {d : Nat} {Q : zm_Q} {S : zm_S} {a1 a2 a3 : Int32} (j1 : Nat) (j2 : Nat) (o1 : zm_ix a1 j1 12) (o2 : (S 28 j1) = 3 → ¬ (S 31 j1) ≤ a3 → zm_ix ((12 * a1) + a3) j2 144)
    (l1 : ¬ (S 28 j1) = 3 → zc M_Md_after d [.ref 27, .int a1, .int 0] S (fun v G' S' => zm_WP M_Md_message none (d + 1) 0 0 Q 98 [some (.ref 27), some (.int a1), some (.int a2), none] (zm_ps v []) G' S' 0 0))
    (l2 : (S 28 j1) = 3 → (S 31 j1) ≤ a3 → zw M_Md_message (d + 1) Q 99 [some (.ref 27), some (.int a1), some (.int a2), some (.int (-1))] [] S)
    (l3 : (S 28 j1) = 3 → ¬ (S 31 j1) ≤ a3 → zc M_Md_put d [.ref 27, .int a2, .int (S 32 j2)] S (fun v G' S' => zm_WP M_Md_message none (d + 1) 0 0 Q 72 [some (.ref 27), some (.int a1), some (.int a2), some (.int a3)] (zm_ps v []) G' S' 0 0)) :
    zw M_Md_message (d + 1) Q 36 [some (.ref 27), some (.int a1), some (.int a2), some (.int a3)] [] S := by
  refine zr_aload_n (i := 0) (x := 27) (n := 37) d_Md_message_36 rfl rfl rfl ?_
  refine zr_getr (n := 40) d_Md_message_37 rfl f_Md_7 gg_27 rfl ?_
  refine zr_iload_n (i := 1) (x := a1) (n := 41) d_Md_message_40 rfl rfl rfl ?_
  refine zr_iaload j1 (n := 42) d_Md_message_41 rfl gg_28 o1 ?_
  refine zr_iconst (v := 3) (n := 43) d_Md_message_42 rfl (by decide) ?_
  refine zr_icmp_ne (tgt := 78) (n := 46) d_Md_message_43 rfl (by decide) (fun h1 => ?_) (fun h1 => ?_)
  · refine zr_aload_n (i := 0) (x := 27) (n := 79) d_Md_message_78 rfl rfl rfl ?_
    refine zr_getr (n := 82) d_Md_message_79 rfl f_Md_7 gg_27 rfl ?_
    refine zr_iload_n (i := 1) (x := a1) (n := 83) d_Md_message_82 rfl rfl rfl ?_
    refine zr_iaload j1 (n := 84) d_Md_message_83 rfl gg_28 o1 ?_
    refine zr_iconst (v := 3) (n := 85) d_Md_message_84 rfl (by decide) ?_
    refine zr_icmp_ne (tgt := 92) (n := 88) d_Md_message_85 rfl (by decide) (fun _ => ?_) (fun h => absurd h h1)
    refine zr_aload_n (i := 0) (x := 27) (n := 93) d_Md_message_92 rfl rfl rfl ?_
    refine zr_iload_n (i := 1) (x := a1) (n := 94) d_Md_message_93 rfl rfl rfl ?_
    refine zr_iconst (v := 0) (n := 95) d_Md_message_94 rfl (by decide) ?_
    refine zr_weak (zm_LE.cons (zm_LE.cons (zm_LE.cons (zm_LE.skip zm_LE.nil)))) ?_
    refine zr_callV (M' := M_Md_after) (mc' := 0) (ms' := 0) (av := [.int a1, .int 0]) (rest := []) (n := 98) d_Md_message_95 rfl w_Md_88 w_Md_88k gg_27 rfl rfl rfl rfl rfl rfl (Nat.le_refl _) (Nat.le_refl _) ?_
    exact (l1 h1)
  · refine zr_iload_n (i := 3) (x := a3) (n := 47) d_Md_message_46 rfl rfl rfl ?_
    refine zr_aload_n (i := 0) (x := 27) (n := 48) d_Md_message_47 rfl rfl rfl ?_
    refine zr_getr (n := 51) d_Md_message_48 rfl f_Md_19 gg_27 rfl ?_
    refine zr_iload_n (i := 1) (x := a1) (n := 52) d_Md_message_51 rfl rfl rfl ?_
    refine zr_iaload j1 (n := 53) d_Md_message_52 rfl gg_31 o1 ?_
    refine zr_icmp_ge (tgt := 78) (n := 56) d_Md_message_53 rfl (by decide) (fun h2 => ?_) (fun h2 => ?_)
    · refine zr_aload_n (i := 0) (x := 27) (n := 79) d_Md_message_78 rfl rfl rfl ?_
      refine zr_getr (n := 82) d_Md_message_79 rfl f_Md_7 gg_27 rfl ?_
      refine zr_iload_n (i := 1) (x := a1) (n := 83) d_Md_message_82 rfl rfl rfl ?_
      refine zr_iaload j1 (n := 84) d_Md_message_83 rfl gg_28 o1 ?_
      refine zr_iconst (v := 3) (n := 85) d_Md_message_84 rfl (by decide) ?_
      refine zr_icmp_ne (tgt := 92) (n := 88) d_Md_message_85 rfl (by decide) (fun h => absurd h1 h) (fun _ => ?_)
      refine zr_iconst (v := (-1)) (n := 89) d_Md_message_88 rfl (by decide) ?_
      refine zr_goto (tgt := 98) d_Md_message_89 (by decide) ?_
      refine zr_istore_n (i := 3) (L' := [some (.ref 27), some (.int a1), some (.int a2), some (.int (-1))]) (n := 99) d_Md_message_98 rfl rfl rfl rfl ?_
      exact (l2 h1 h2)
    · refine zr_aload_n (i := 0) (x := 27) (n := 57) d_Md_message_56 rfl rfl rfl ?_
      refine zr_iload_n (i := 2) (x := a2) (n := 58) d_Md_message_57 rfl rfl rfl ?_
      refine zr_aload_n (i := 0) (x := 27) (n := 59) d_Md_message_58 rfl rfl rfl ?_
      refine zr_getr (n := 62) d_Md_message_59 rfl f_Md_22 gg_27 rfl ?_
      refine zr_bipush (v := 12) (n := 64) d_Md_message_62 rfl (by decide) ?_
      refine zr_iload_n (i := 1) (x := a1) (n := 65) d_Md_message_64 rfl rfl rfl ?_
      refine zr_imul (n := 66) d_Md_message_65 rfl ?_
      refine zr_iload_n (i := 3) (x := a3) (n := 67) d_Md_message_66 rfl rfl rfl ?_
      refine zr_iadd (n := 68) d_Md_message_67 rfl ?_
      refine zr_iaload j2 (n := 69) d_Md_message_68 rfl gg_32 (o2 h1 h2) ?_
      refine zr_callV (M' := M_Md_put) (mc' := 0) (ms' := 0) (av := [.int a2, .int (S 32 j2)]) (rest := []) (n := 72) d_Md_message_69 rfl w_Md_92 w_Md_92k gg_27 rfl rfl rfl rfl rfl rfl (Nat.le_refl _) (Nat.le_refl _) ?_
      exact (l3 h1 h2)
theorem s_Md_message_98 {d : Nat} {Q : zm_Q} {S : zm_S} {a1 a2 r : Int32}
    (l1 : zw M_Md_message (d + 1) Q 99 [some (.ref 27), some (.int a1), some (.int a2), some (.int r)] [] S) :
    zw M_Md_message (d + 1) Q 98 [some (.ref 27), some (.int a1), some (.int a2), none] [.int r] S := by
  refine zr_istore_n (i := 3) (L' := [some (.ref 27), some (.int a1), some (.int a2), some (.int r)]) (n := 99) d_Md_message_98 rfl rfl rfl rfl ?_
  exact l1
theorem s_Md_message_99 {d : Nat} {Q : zm_Q} {S : zm_S} {a1 a2 a3 : Int32} (j1 : Nat) (o1 : ¬ a3 < 0 → zm_ix a3 j1 12)
    (l1 : a3 < 0 → Q none GG S)
    (l2 : ¬ a3 < 0 → zc M_Md_put d [.ref 27, .int a2, .int (S 30 j1)] S (fun v G' S' => zm_WP M_Md_message none (d + 1) 0 0 Q 114 [some (.ref 27), some (.int a1), some (.int a2), some (.int a3)] (zm_ps v []) G' S' 0 0)) :
    zw M_Md_message (d + 1) Q 99 [some (.ref 27), some (.int a1), some (.int a2), some (.int a3)] [] S := by
  refine zr_iload_n (i := 3) (x := a3) (n := 100) d_Md_message_99 rfl rfl rfl ?_
  refine zr_if_lt (tgt := 157) (n := 103) d_Md_message_100 rfl (by decide) (fun h1 => ?_) (fun h1 => ?_)
  · exact zr_return d_Md_message_157 rfl (Nat.le_refl _) (Nat.le_refl _) (l1 h1)
  · refine zr_aload_n (i := 0) (x := 27) (n := 104) d_Md_message_103 rfl rfl rfl ?_
    refine zr_iload_n (i := 2) (x := a2) (n := 105) d_Md_message_104 rfl rfl rfl ?_
    refine zr_aload_n (i := 0) (x := 27) (n := 106) d_Md_message_105 rfl rfl rfl ?_
    refine zr_getr (n := 109) d_Md_message_106 rfl f_Md_16 gg_27 rfl ?_
    refine zr_iload_n (i := 3) (x := a3) (n := 110) d_Md_message_109 rfl rfl rfl ?_
    refine zr_iaload j1 (n := 111) d_Md_message_110 rfl gg_30 (o1 h1) ?_
    refine zr_callV (M' := M_Md_put) (mc' := 0) (ms' := 0) (av := [.int a2, .int (S 30 j1)]) (rest := []) (n := 114) d_Md_message_111 rfl w_Md_92 w_Md_92k gg_27 rfl rfl rfl rfl rfl rfl (Nat.le_refl _) (Nat.le_refl _) ?_
    exact (l2 h1)
theorem s_Md_message_72 {d : Nat} {Q : zm_Q} {S : zm_S} {a1 a2 a3 : Int32}
    (l1 : zw M_Md_message (d + 1) Q 36 [some (.ref 27), some (.int a1), some (.int a2), some (.int (a3 + 1))] [] S) :
    zw M_Md_message (d + 1) Q 72 [some (.ref 27), some (.int a1), some (.int a2), some (.int a3)] [] S := by
  refine zr_iinc (i := 3) (w := 1) (x := a3) (L' := [some (.ref 27), some (.int a1), some (.int a2), some (.int (a3 + 1))]) (n := 75) d_Md_message_72 rfl (by decide) rfl rfl ?_
  refine zr_goto (tgt := 36) d_Md_message_75 (by decide) ?_
  exact l1
theorem s_Md_message_114 {d : Nat} {Q : zm_Q} {S : zm_S} {a1 a2 a3 : Int32} (j1 : Nat) (o1 : zm_ix a3 j1 12)
    (l1 : zc M_Md_put d [.ref 27, .int a2, .int (S 28 j1)] S (fun v G' S' => zm_WP M_Md_message none (d + 1) 0 0 Q 125 [some (.ref 27), some (.int a1), some (.int a2), some (.int a3)] (zm_ps v []) G' S' 0 0)) :
    zw M_Md_message (d + 1) Q 114 [some (.ref 27), some (.int a1), some (.int a2), some (.int a3)] [] S := by
  refine zr_aload_n (i := 0) (x := 27) (n := 115) d_Md_message_114 rfl rfl rfl ?_
  refine zr_iload_n (i := 2) (x := a2) (n := 116) d_Md_message_115 rfl rfl rfl ?_
  refine zr_aload_n (i := 0) (x := 27) (n := 117) d_Md_message_116 rfl rfl rfl ?_
  refine zr_getr (n := 120) d_Md_message_117 rfl f_Md_7 gg_27 rfl ?_
  refine zr_iload_n (i := 3) (x := a3) (n := 121) d_Md_message_120 rfl rfl rfl ?_
  refine zr_iaload j1 (n := 122) d_Md_message_121 rfl gg_28 o1 ?_
  refine zr_callV (M' := M_Md_put) (mc' := 0) (ms' := 0) (av := [.int a2, .int (S 28 j1)]) (rest := []) (n := 125) d_Md_message_122 rfl w_Md_92 w_Md_92k gg_27 rfl rfl rfl rfl rfl rfl (Nat.le_refl _) (Nat.le_refl _) ?_
  exact l1
theorem s_Md_message_125 {d : Nat} {Q : zm_Q} {S : zm_S} {a1 a2 a3 : Int32} (j1 : Nat) (o1 : zm_ix a3 j1 12)
    (l1 : zc M_Md_put d [.ref 27, .int a2, .int (S 39 j1)] S (fun v G' S' => zm_WP M_Md_message none (d + 1) 0 0 Q 136 [some (.ref 27), some (.int a1), some (.int a2), some (.int a3)] (zm_ps v []) G' S' 0 0)) :
    zw M_Md_message (d + 1) Q 125 [some (.ref 27), some (.int a1), some (.int a2), some (.int a3)] [] S := by
  refine zr_aload_n (i := 0) (x := 27) (n := 126) d_Md_message_125 rfl rfl rfl ?_
  refine zr_iload_n (i := 2) (x := a2) (n := 127) d_Md_message_126 rfl rfl rfl ?_
  refine zr_aload_n (i := 0) (x := 27) (n := 128) d_Md_message_127 rfl rfl rfl ?_
  refine zr_getr (n := 131) d_Md_message_128 rfl f_Md_43 gg_27 rfl ?_
  refine zr_iload_n (i := 3) (x := a3) (n := 132) d_Md_message_131 rfl rfl rfl ?_
  refine zr_iaload j1 (n := 133) d_Md_message_132 rfl gg_39 o1 ?_
  refine zr_callV (M' := M_Md_put) (mc' := 0) (ms' := 0) (av := [.int a2, .int (S 39 j1)]) (rest := []) (n := 136) d_Md_message_133 rfl w_Md_92 w_Md_92k gg_27 rfl rfl rfl rfl rfl rfl (Nat.le_refl _) (Nat.le_refl _) ?_
  exact l1
theorem s_Md_message_136 {d : Nat} {Q : zm_Q} {S : zm_S} {a1 a2 a3 : Int32}
    (l1 : zc M_Md_put d [.ref 27, .int a2, .int a3] S (fun v G' S' => zm_WP M_Md_message none (d + 1) 0 0 Q 142 [some (.ref 27), some (.int a1), some (.int a2), some (.int a3)] (zm_ps v []) G' S' 0 0)) :
    zw M_Md_message (d + 1) Q 136 [some (.ref 27), some (.int a1), some (.int a2), some (.int a3)] [] S := by
  refine zr_aload_n (i := 0) (x := 27) (n := 137) d_Md_message_136 rfl rfl rfl ?_
  refine zr_iload_n (i := 2) (x := a2) (n := 138) d_Md_message_137 rfl rfl rfl ?_
  refine zr_iload_n (i := 3) (x := a3) (n := 139) d_Md_message_138 rfl rfl rfl ?_
  refine zr_callV (M' := M_Md_put) (mc' := 0) (ms' := 0) (av := [.int a2, .int a3]) (rest := []) (n := 142) d_Md_message_139 rfl w_Md_92 w_Md_92k gg_27 rfl rfl rfl rfl rfl rfl (Nat.le_refl _) (Nat.le_refl _) ?_
  exact l1
theorem s_Md_message_142 {d : Nat} {Q : zm_Q} {S : zm_S} {a1 a2 a3 : Int32} (j1 : Nat) (o1 : zm_ix a3 j1 12)
    (l1 : zc M_Md_after d [.ref 27, .int a1, .int (S 30 j1)] S (fun v G' S' => zm_WP M_Md_message none (d + 1) 0 0 Q 153 [some (.ref 27), some (.int a1), some (.int a2), none] (zm_ps v []) G' S' 0 0)) :
    zw M_Md_message (d + 1) Q 142 [some (.ref 27), some (.int a1), some (.int a2), some (.int a3)] [] S := by
  refine zr_aload_n (i := 0) (x := 27) (n := 143) d_Md_message_142 rfl rfl rfl ?_
  refine zr_iload_n (i := 1) (x := a1) (n := 144) d_Md_message_143 rfl rfl rfl ?_
  refine zr_aload_n (i := 0) (x := 27) (n := 145) d_Md_message_144 rfl rfl rfl ?_
  refine zr_getr (n := 148) d_Md_message_145 rfl f_Md_16 gg_27 rfl ?_
  refine zr_iload_n (i := 3) (x := a3) (n := 149) d_Md_message_148 rfl rfl rfl ?_
  refine zr_iaload j1 (n := 150) d_Md_message_149 rfl gg_30 o1 ?_
  refine zr_weak (zm_LE.cons (zm_LE.cons (zm_LE.cons (zm_LE.skip zm_LE.nil)))) ?_
  refine zr_callV (M' := M_Md_after) (mc' := 0) (ms' := 0) (av := [.int a1, .int (S 30 j1)]) (rest := []) (n := 153) d_Md_message_150 rfl w_Md_88 w_Md_88k gg_27 rfl rfl rfl rfl rfl rfl (Nat.le_refl _) (Nat.le_refl _) ?_
  exact l1
theorem s_Md_message_153 {d : Nat} {Q : zm_Q} {S : zm_S} {a1 a2 r : Int32}
    (l1 : zw M_Md_message (d + 1) Q 99 [some (.ref 27), some (.int a1), some (.int a2), some (.int r)] [] S) :
    zw M_Md_message (d + 1) Q 153 [some (.ref 27), some (.int a1), some (.int a2), none] [.int r] S := by
  refine zr_istore_n (i := 3) (L' := [some (.ref 27), some (.int a1), some (.int a2), some (.int r)]) (n := 154) d_Md_message_153 rfl rfl rfl rfl ?_
  refine zr_goto (tgt := 99) d_Md_message_154 (by decide) ?_
  exact l1
theorem e_Md_message {d : Nat} {Q : zm_Q} {S : zm_S} {a1 : Int32} (h : zw M_Md_message (d + 1) Q 0 [some (.ref 27), some (.int a1), none, none] [] S) : zc M_Md_message (d + 1) [.ref 27, .int a1] S Q := zm_CC_intro (by decide) rfl rfl h
theorem s_Md_keepOld_0 {d : Nat} {Q : zm_Q} {S : zm_S}
    (l1 : zw M_Md_keepOld d Q 10 [some (.ref 27), some (.int 0)] [] (zm_up S 27 10 (S 27 6))) :
    zw M_Md_keepOld d Q 0 [some (.ref 27), none] [] S := by
  refine zr_aload_n (i := 0) (x := 27) (n := 1) d_Md_keepOld_0 rfl rfl rfl ?_
  refine zr_aload_n (i := 0) (x := 27) (n := 2) d_Md_keepOld_1 rfl rfl rfl ?_
  refine zr_geti (n := 5) d_Md_keepOld_2 rfl f_Md_100 gg_27 rfl ?_
  refine zr_puti (n := 8) d_Md_keepOld_5 rfl f_Md_103 tw_Md rfl rfl rfl rfl gg_27 rfl ?_
  refine zr_iconst (v := 0) (n := 9) d_Md_keepOld_8 rfl (by decide) ?_
  refine zr_istore_n (i := 1) (L' := [some (.ref 27), some (.int 0)]) (n := 10) d_Md_keepOld_9 rfl rfl rfl rfl ?_
  exact l1
theorem s_Md_keepOld_10 {d : Nat} {Q : zm_Q} {S : zm_S} {a1 : Int32} (j1 : Nat) (o1 : ¬ 12 ≤ a1 → zm_ix a1 j1 12)
    (l1 : 12 ≤ a1 → zw M_Md_keepOld d Q 48 [some (.ref 27), some (.int 0)] [] S)
    (l2 : ¬ 12 ≤ a1 → zw M_Md_keepOld d Q 10 [some (.ref 27), some (.int (a1 + 1))] [] (zm_up (zm_up S 36 j1 (S 33 j1)) 37 j1 (S 34 j1))) :
    zw M_Md_keepOld d Q 10 [some (.ref 27), some (.int a1)] [] S := by
  refine zr_iload_n (i := 1) (x := a1) (n := 11) d_Md_keepOld_10 rfl rfl rfl ?_
  refine zr_bipush (v := 12) (n := 13) d_Md_keepOld_11 rfl (by decide) ?_
  refine zr_icmp_ge (tgt := 46) (n := 16) d_Md_keepOld_13 rfl (by decide) (fun h1 => ?_) (fun h1 => ?_)
  · refine zr_iconst (v := 0) (n := 47) d_Md_keepOld_46 rfl (by decide) ?_
    refine zr_istore_n (i := 1) (L' := [some (.ref 27), some (.int 0)]) (n := 48) d_Md_keepOld_47 rfl rfl rfl rfl ?_
    exact (l1 h1)
  · refine zr_aload_n (i := 0) (x := 27) (n := 17) d_Md_keepOld_16 rfl rfl rfl ?_
    refine zr_getr (n := 20) d_Md_keepOld_17 rfl f_Md_34 gg_27 rfl ?_
    refine zr_iload_n (i := 1) (x := a1) (n := 21) d_Md_keepOld_20 rfl rfl rfl ?_
    refine zr_aload_n (i := 0) (x := 27) (n := 22) d_Md_keepOld_21 rfl rfl rfl ?_
    refine zr_getr (n := 25) d_Md_keepOld_22 rfl f_Md_25 gg_27 rfl ?_
    refine zr_iload_n (i := 1) (x := a1) (n := 26) d_Md_keepOld_25 rfl rfl rfl ?_
    refine zr_iaload j1 (n := 27) d_Md_keepOld_26 rfl gg_33 (o1 h1) ?_
    refine zr_iastore j1 (n := 28) d_Md_keepOld_27 rfl gg_36 (o1 h1) ?_
    refine zr_aload_n (i := 0) (x := 27) (n := 29) d_Md_keepOld_28 rfl rfl rfl ?_
    refine zr_getr (n := 32) d_Md_keepOld_29 rfl f_Md_37 gg_27 rfl ?_
    refine zr_iload_n (i := 1) (x := a1) (n := 33) d_Md_keepOld_32 rfl rfl rfl ?_
    refine zr_aload_n (i := 0) (x := 27) (n := 34) d_Md_keepOld_33 rfl rfl rfl ?_
    refine zr_getr (n := 37) d_Md_keepOld_34 rfl f_Md_28 gg_27 rfl ?_
    refine zr_iload_n (i := 1) (x := a1) (n := 38) d_Md_keepOld_37 rfl rfl rfl ?_
    refine zr_iaload j1 (n := 39) d_Md_keepOld_38 rfl gg_34 (o1 h1) ?_
    refine zr_iastore j1 (n := 40) d_Md_keepOld_39 rfl gg_37 (o1 h1) ?_
    refine zr_iinc (i := 1) (w := 1) (x := a1) (L' := [some (.ref 27), some (.int (a1 + 1))]) (n := 43) d_Md_keepOld_40 rfl (by decide) rfl rfl ?_
    refine zr_goto (tgt := 10) d_Md_keepOld_43 (by decide) ?_
    exact (l2 h1)
theorem s_Md_keepOld_48 {d : Nat} {Q : zm_Q} {S : zm_S} {a1 : Int32} (j1 : Nat) (o1 : ¬ 576 ≤ a1 → zm_ix a1 j1 576)
    (l1 : 576 ≤ a1 → Q none GG S)
    (l2 : ¬ 576 ≤ a1 → zw M_Md_keepOld d Q 48 [some (.ref 27), some (.int (a1 + 1))] [] (zm_up S 38 j1 (S 35 j1))) :
    zw M_Md_keepOld d Q 48 [some (.ref 27), some (.int a1)] [] S := by
  refine zr_iload_n (i := 1) (x := a1) (n := 49) d_Md_keepOld_48 rfl rfl rfl ?_
  refine zr_sipush (v := 576) (n := 52) d_Md_keepOld_49 rfl (by decide) ?_
  refine zr_icmp_ge (tgt := 73) (n := 55) d_Md_keepOld_52 rfl (by decide) (fun h1 => ?_) (fun h1 => ?_)
  · exact zr_return d_Md_keepOld_73 rfl (Nat.le_refl _) (Nat.le_refl _) (l1 h1)
  · refine zr_aload_n (i := 0) (x := 27) (n := 56) d_Md_keepOld_55 rfl rfl rfl ?_
    refine zr_getr (n := 59) d_Md_keepOld_56 rfl f_Md_40 gg_27 rfl ?_
    refine zr_iload_n (i := 1) (x := a1) (n := 60) d_Md_keepOld_59 rfl rfl rfl ?_
    refine zr_aload_n (i := 0) (x := 27) (n := 61) d_Md_keepOld_60 rfl rfl rfl ?_
    refine zr_getr (n := 64) d_Md_keepOld_61 rfl f_Md_31 gg_27 rfl ?_
    refine zr_iload_n (i := 1) (x := a1) (n := 65) d_Md_keepOld_64 rfl rfl rfl ?_
    refine zr_iaload j1 (n := 66) d_Md_keepOld_65 rfl gg_35 (o1 h1) ?_
    refine zr_iastore j1 (n := 67) d_Md_keepOld_66 rfl gg_38 (o1 h1) ?_
    refine zr_iinc (i := 1) (w := 1) (x := a1) (L' := [some (.ref 27), some (.int (a1 + 1))]) (n := 70) d_Md_keepOld_67 rfl (by decide) rfl rfl ?_
    refine zr_goto (tgt := 48) d_Md_keepOld_70 (by decide) ?_
    exact (l2 h1)
theorem e_Md_keepOld {d : Nat} {Q : zm_Q} {S : zm_S} (h : zw M_Md_keepOld d Q 0 [some (.ref 27), none] [] S) : zc M_Md_keepOld d [.ref 27] S Q := zm_CC_intro (by decide) rfl rfl h
theorem s_Md_unchanged_0 {d : Nat} {Q : zm_Q} {S : zm_S} {a1 : Int32} (j1 : Nat) (o1 : ¬ (S 27 10) ≤ a1 → zm_ix a1 j1 12)
    (l1 : (((S 27 10) ≤ a1) ∨ (¬ (S 27 10) ≤ a1 ∧ ¬ (S 36 j1) = (S 33 j1))) → zw M_Md_unchanged d Q 31 [some (.ref 27), some (.int a1), some (.int 0), some (.int 0)] [] S)
    (l2 : ¬ (S 27 10) ≤ a1 → (S 36 j1) = (S 33 j1) → zw M_Md_unchanged d Q 31 [some (.ref 27), some (.int a1), some (.int 1), some (.int 0)] [] S) :
    zw M_Md_unchanged d Q 0 [some (.ref 27), some (.int a1), none, none] [] S := by
  refine zr_iload_n (i := 1) (x := a1) (n := 1) d_Md_unchanged_0 rfl rfl rfl ?_
  refine zr_aload_n (i := 0) (x := 27) (n := 2) d_Md_unchanged_1 rfl rfl rfl ?_
  refine zr_geti (n := 5) d_Md_unchanged_2 rfl f_Md_103 gg_27 rfl ?_
  refine zr_icmp_ge (tgt := 27) (n := 8) d_Md_unchanged_5 rfl (by decide) (fun h1 => ?_) (fun h1 => ?_)
  · refine zr_iconst (v := 0) (n := 28) d_Md_unchanged_27 rfl (by decide) ?_
    refine zr_istore_n (i := 2) (L' := [some (.ref 27), some (.int a1), some (.int 0), none]) (n := 29) d_Md_unchanged_28 rfl rfl rfl rfl ?_
    refine zr_iconst (v := 0) (n := 30) d_Md_unchanged_29 rfl (by decide) ?_
    refine zr_istore_n (i := 3) (L' := [some (.ref 27), some (.int a1), some (.int 0), some (.int 0)]) (n := 31) d_Md_unchanged_30 rfl rfl rfl rfl ?_
    exact (l1 (Or.inl h1))
  · refine zr_aload_n (i := 0) (x := 27) (n := 9) d_Md_unchanged_8 rfl rfl rfl ?_
    refine zr_getr (n := 12) d_Md_unchanged_9 rfl f_Md_34 gg_27 rfl ?_
    refine zr_iload_n (i := 1) (x := a1) (n := 13) d_Md_unchanged_12 rfl rfl rfl ?_
    refine zr_iaload j1 (n := 14) d_Md_unchanged_13 rfl gg_36 (o1 h1) ?_
    refine zr_aload_n (i := 0) (x := 27) (n := 15) d_Md_unchanged_14 rfl rfl rfl ?_
    refine zr_getr (n := 18) d_Md_unchanged_15 rfl f_Md_25 gg_27 rfl ?_
    refine zr_iload_n (i := 1) (x := a1) (n := 19) d_Md_unchanged_18 rfl rfl rfl ?_
    refine zr_iaload j1 (n := 20) d_Md_unchanged_19 rfl gg_33 (o1 h1) ?_
    refine zr_icmp_ne (tgt := 27) (n := 23) d_Md_unchanged_20 rfl (by decide) (fun h2 => ?_) (fun h2 => ?_)
    · refine zr_iconst (v := 0) (n := 28) d_Md_unchanged_27 rfl (by decide) ?_
      refine zr_istore_n (i := 2) (L' := [some (.ref 27), some (.int a1), some (.int 0), none]) (n := 29) d_Md_unchanged_28 rfl rfl rfl rfl ?_
      refine zr_iconst (v := 0) (n := 30) d_Md_unchanged_29 rfl (by decide) ?_
      refine zr_istore_n (i := 3) (L' := [some (.ref 27), some (.int a1), some (.int 0), some (.int 0)]) (n := 31) d_Md_unchanged_30 rfl rfl rfl rfl ?_
      exact (l1 (Or.inr ⟨h1, h2⟩))
    · refine zr_iconst (v := 1) (n := 24) d_Md_unchanged_23 rfl (by decide) ?_
      refine zr_goto (tgt := 28) d_Md_unchanged_24 (by decide) ?_
      refine zr_istore_n (i := 2) (L' := [some (.ref 27), some (.int a1), some (.int 1), none]) (n := 29) d_Md_unchanged_28 rfl rfl rfl rfl ?_
      refine zr_iconst (v := 0) (n := 30) d_Md_unchanged_29 rfl (by decide) ?_
      refine zr_istore_n (i := 3) (L' := [some (.ref 27), some (.int a1), some (.int 1), some (.int 0)]) (n := 31) d_Md_unchanged_30 rfl rfl rfl rfl ?_
      exact (l2 h1 h2)
theorem s_Md_unchanged_31 {d : Nat} {Q : zm_Q} {S : zm_S} {a1 a2 a3 : Int32} (j1 : Nat) (j2 : Nat) (o1 : zm_ix a1 j1 12) (o2 : (S 33 j1) ≤ a3 → a2 = 0 ∨ a2 = 1) (o3 : ¬ (S 33 j1) ≤ a3 → ¬ a2 = 0 → zm_ix ((48 * a1) + a3) j2 576)
    (l1 : (S 33 j1) ≤ a3 → Q (some a2) GG S)
    (l2 : ((¬ (S 33 j1) ≤ a3 ∧ a2 = 0) ∨ (¬ (S 33 j1) ≤ a3 ∧ ¬ a2 = 0 ∧ ¬ (S 38 j2) = (S 35 j2))) → zw M_Md_unchanged d Q 31 [some (.ref 27), some (.int a1), some (.int 0), some (.int (a3 + 1))] [] S)
    (l3 : ¬ (S 33 j1) ≤ a3 → ¬ a2 = 0 → (S 38 j2) = (S 35 j2) → zw M_Md_unchanged d Q 31 [some (.ref 27), some (.int a1), some (.int 1), some (.int (a3 + 1))] [] S) :
    zw M_Md_unchanged d Q 31 [some (.ref 27), some (.int a1), some (.int a2), some (.int a3)] [] S := by
  refine zr_iload_n (i := 3) (x := a3) (n := 32) d_Md_unchanged_31 rfl rfl rfl ?_
  refine zr_aload_n (i := 0) (x := 27) (n := 33) d_Md_unchanged_32 rfl rfl rfl ?_
  refine zr_getr (n := 36) d_Md_unchanged_33 rfl f_Md_25 gg_27 rfl ?_
  refine zr_iload_n (i := 1) (x := a1) (n := 37) d_Md_unchanged_36 rfl rfl rfl ?_
  refine zr_iaload j1 (n := 38) d_Md_unchanged_37 rfl gg_33 o1 ?_
  refine zr_icmp_ge (tgt := 82) (n := 41) d_Md_unchanged_38 rfl (by decide) (fun h1 => ?_) (fun h1 => ?_)
  · refine zr_iload_n (i := 2) (x := a2) (n := 83) d_Md_unchanged_82 rfl rfl rfl ?_
    exact zr_ireturn d_Md_unchanged_83 rfl (zm_nz (o2 h1)) (Nat.le_refl _) (Nat.le_refl _) (l1 h1)
  · refine zr_iload_n (i := 2) (x := a2) (n := 42) d_Md_unchanged_41 rfl rfl rfl ?_
    refine zr_if_eq (tgt := 74) (n := 45) d_Md_unchanged_42 rfl (by decide) (fun h2 => ?_) (fun h2 => ?_)
    · refine zr_iconst (v := 0) (n := 75) d_Md_unchanged_74 rfl (by decide) ?_
      refine zr_istore_n (i := 2) (L' := [some (.ref 27), some (.int a1), some (.int 0), some (.int a3)]) (n := 76) d_Md_unchanged_75 rfl rfl rfl rfl ?_
      refine zr_iinc (i := 3) (w := 1) (x := a3) (L' := [some (.ref 27), some (.int a1), some (.int 0), some (.int (a3 + 1))]) (n := 79) d_Md_unchanged_76 rfl (by decide) rfl rfl ?_
      refine zr_goto (tgt := 31) d_Md_unchanged_79 (by decide) ?_
      exact (l2 (Or.inl ⟨h1, h2⟩))
    · refine zr_aload_n (i := 0) (x := 27) (n := 46) d_Md_unchanged_45 rfl rfl rfl ?_
      refine zr_getr (n := 49) d_Md_unchanged_46 rfl f_Md_40 gg_27 rfl ?_
      refine zr_bipush (v := 48) (n := 51) d_Md_unchanged_49 rfl (by decide) ?_
      refine zr_iload_n (i := 1) (x := a1) (n := 52) d_Md_unchanged_51 rfl rfl rfl ?_
      refine zr_imul (n := 53) d_Md_unchanged_52 rfl ?_
      refine zr_iload_n (i := 3) (x := a3) (n := 54) d_Md_unchanged_53 rfl rfl rfl ?_
      refine zr_iadd (n := 55) d_Md_unchanged_54 rfl ?_
      refine zr_iaload j2 (n := 56) d_Md_unchanged_55 rfl gg_38 (o3 h1 h2) ?_
      refine zr_aload_n (i := 0) (x := 27) (n := 57) d_Md_unchanged_56 rfl rfl rfl ?_
      refine zr_getr (n := 60) d_Md_unchanged_57 rfl f_Md_31 gg_27 rfl ?_
      refine zr_bipush (v := 48) (n := 62) d_Md_unchanged_60 rfl (by decide) ?_
      refine zr_iload_n (i := 1) (x := a1) (n := 63) d_Md_unchanged_62 rfl rfl rfl ?_
      refine zr_imul (n := 64) d_Md_unchanged_63 rfl ?_
      refine zr_iload_n (i := 3) (x := a3) (n := 65) d_Md_unchanged_64 rfl rfl rfl ?_
      refine zr_iadd (n := 66) d_Md_unchanged_65 rfl ?_
      refine zr_iaload j2 (n := 67) d_Md_unchanged_66 rfl gg_35 (o3 h1 h2) ?_
      refine zr_icmp_ne (tgt := 74) (n := 70) d_Md_unchanged_67 rfl (by decide) (fun h3 => ?_) (fun h3 => ?_)
      · refine zr_iconst (v := 0) (n := 75) d_Md_unchanged_74 rfl (by decide) ?_
        refine zr_istore_n (i := 2) (L' := [some (.ref 27), some (.int a1), some (.int 0), some (.int a3)]) (n := 76) d_Md_unchanged_75 rfl rfl rfl rfl ?_
        refine zr_iinc (i := 3) (w := 1) (x := a3) (L' := [some (.ref 27), some (.int a1), some (.int 0), some (.int (a3 + 1))]) (n := 79) d_Md_unchanged_76 rfl (by decide) rfl rfl ?_
        refine zr_goto (tgt := 31) d_Md_unchanged_79 (by decide) ?_
        exact (l2 (Or.inr ⟨h1, h2, h3⟩))
      · refine zr_iconst (v := 1) (n := 71) d_Md_unchanged_70 rfl (by decide) ?_
        refine zr_goto (tgt := 75) d_Md_unchanged_71 (by decide) ?_
        refine zr_istore_n (i := 2) (L' := [some (.ref 27), some (.int a1), some (.int 1), some (.int a3)]) (n := 76) d_Md_unchanged_75 rfl rfl rfl rfl ?_
        refine zr_iinc (i := 3) (w := 1) (x := a3) (L' := [some (.ref 27), some (.int a1), some (.int 1), some (.int (a3 + 1))]) (n := 79) d_Md_unchanged_76 rfl (by decide) rfl rfl ?_
        refine zr_goto (tgt := 31) d_Md_unchanged_79 (by decide) ?_
        exact (l3 h1 h2 h3)
theorem e_Md_unchanged {d : Nat} {Q : zm_Q} {S : zm_S} {a1 : Int32} (h : zw M_Md_unchanged d Q 0 [some (.ref 27), some (.int a1), none, none] [] S) : zc M_Md_unchanged d [.ref 27, .int a1] S Q := zm_CC_intro (by decide) rfl rfl h
theorem s_Md_publish_0 {d : Nat} {Q : zm_Q} {S : zm_S}
    (l1 : zc M_Md_keepOld (d + 3) [.ref 27] S (fun v G' S' => zm_WP M_Md_publish none (d + 4) 0 0 Q 4 [some (.ref 27), none, none, none] (zm_ps v []) G' S' 0 0)) :
    zw M_Md_publish (d + 4) Q 0 [some (.ref 27), none, none, none] [] S := by
  refine zr_aload_n (i := 0) (x := 27) (n := 1) d_Md_publish_0 rfl rfl rfl ?_
  refine zr_callV (M' := M_Md_keepOld) (mc' := 0) (ms' := 0) (av := []) (rest := []) (n := 4) d_Md_publish_1 rfl w_Md_106 w_Md_106k gg_27 rfl rfl rfl rfl rfl rfl (Nat.le_refl _) (Nat.le_refl _) ?_
  exact l1
theorem s_Md_publish_4 {d : Nat} {Q : zm_Q} {S : zm_S}
    (l1 : zw M_Md_publish (d + 4) Q 23 [some (.ref 27), some (.int 0), some (.int 0), none] [] (zm_up (zm_up S 27 5 ((S 27 5) + 1)) 27 6 0)) :
    zw M_Md_publish (d + 4) Q 4 [some (.ref 27), none, none, none] [] S := by
  refine zr_aload_n (i := 0) (x := 27) (n := 5) d_Md_publish_4 rfl rfl rfl ?_
  refine zr_dup (n := 6) d_Md_publish_5 rfl rfl ?_
  refine zr_geti (n := 9) d_Md_publish_6 rfl f_Md_109 gg_27 rfl ?_
  refine zr_iconst (v := 1) (n := 10) d_Md_publish_9 rfl (by decide) ?_
  refine zr_iadd (n := 11) d_Md_publish_10 rfl ?_
  refine zr_puti (n := 14) d_Md_publish_11 rfl f_Md_109 tw_Md rfl rfl rfl rfl gg_27 rfl ?_
  refine zr_aload_n (i := 0) (x := 27) (n := 15) d_Md_publish_14 rfl rfl rfl ?_
  refine zr_iconst (v := 0) (n := 16) d_Md_publish_15 rfl (by decide) ?_
  refine zr_puti (n := 19) d_Md_publish_16 rfl f_Md_100 tw_Md rfl rfl rfl rfl gg_27 rfl ?_
  refine zr_iconst (v := 0) (n := 20) d_Md_publish_19 rfl (by decide) ?_
  refine zr_istore_n (i := 1) (L' := [some (.ref 27), some (.int 0), none, none]) (n := 21) d_Md_publish_20 rfl rfl rfl rfl ?_
  refine zr_iconst (v := 0) (n := 22) d_Md_publish_21 rfl (by decide) ?_
  refine zr_istore_n (i := 2) (L' := [some (.ref 27), some (.int 0), some (.int 0), none]) (n := 23) d_Md_publish_22 rfl rfl rfl rfl ?_
  exact l1
theorem s_Md_publish_23 {d : Nat} {Q : zm_Q} {S : zm_S} {a1 a2 : Int32}
    (l1 : a2 < 0 → zw M_Md_publish (d + 4) Q 101 [some (.ref 27), none, some (.int 0), none] [] S)
    (l2 : ¬ a2 < 0 → zc M_Md_payload (d + 3) [.ref 27, .int a2] S (fun v G' S' => zm_WP M_Md_publish none (d + 4) 0 0 Q 33 [some (.ref 27), some (.int a1), some (.int a2), none] (zm_ps v [.int 3]) G' S' 0 0)) :
    zw M_Md_publish (d + 4) Q 23 [some (.ref 27), some (.int a1), some (.int a2), none] [] S := by
  refine zr_iload_n (i := 2) (x := a2) (n := 24) d_Md_publish_23 rfl rfl rfl ?_
  refine zr_if_lt (tgt := 99) (n := 27) d_Md_publish_24 rfl (by decide) (fun h1 => ?_) (fun h1 => ?_)
  · refine zr_iconst (v := 0) (n := 100) d_Md_publish_99 rfl (by decide) ?_
    refine zr_istore_n (i := 2) (L' := [some (.ref 27), some (.int a1), some (.int 0), none]) (n := 101) d_Md_publish_100 rfl rfl rfl rfl ?_
    exact zr_weak (zm_LE.cons (zm_LE.skip (zm_LE.cons (zm_LE.cons zm_LE.nil)))) (l1 h1)
  · refine zr_iconst (v := 3) (n := 28) d_Md_publish_27 rfl (by decide) ?_
    refine zr_aload_n (i := 0) (x := 27) (n := 29) d_Md_publish_28 rfl rfl rfl ?_
    refine zr_iload_n (i := 2) (x := a2) (n := 30) d_Md_publish_29 rfl rfl rfl ?_
    refine zr_callV (M' := M_Md_payload) (mc' := 0) (ms' := 0) (av := [.int a2]) (rest := [.int 3]) (n := 33) d_Md_publish_30 rfl w_Md_96 w_Md_96k gg_27 rfl rfl rfl rfl rfl rfl (Nat.le_refl _) (Nat.le_refl _) ?_
    exact (l2 h1)
theorem s_Md_publish_101 {d : Nat} {Q : zm_Q} {S : zm_S} {a2 : Int32}
    (l1 : a2 < 0 → zw M_Md_publish (d + 4) Q 121 [some (.ref 27), none, some (.int 0), none] [] S)
    (l2 : ¬ a2 < 0 → zc M_Md_message (d + 3) [.ref 27, .int a2] S (fun v G' S' => zm_WP M_Md_publish none (d + 4) 0 0 Q 110 [some (.ref 27), none, some (.int a2), none] (zm_ps v []) G' S' 0 0)) :
    zw M_Md_publish (d + 4) Q 101 [some (.ref 27), none, some (.int a2), none] [] S := by
  refine zr_iload_n (i := 2) (x := a2) (n := 102) d_Md_publish_101 rfl rfl rfl ?_
  refine zr_if_lt (tgt := 119) (n := 105) d_Md_publish_102 rfl (by decide) (fun h1 => ?_) (fun h1 => ?_)
  · refine zr_iconst (v := 0) (n := 120) d_Md_publish_119 rfl (by decide) ?_
    refine zr_istore_n (i := 2) (L' := [some (.ref 27), none, some (.int 0), none]) (n := 121) d_Md_publish_120 rfl rfl rfl rfl ?_
    exact (l1 h1)
  · refine zr_aload_n (i := 0) (x := 27) (n := 106) d_Md_publish_105 rfl rfl rfl ?_
    refine zr_iload_n (i := 2) (x := a2) (n := 107) d_Md_publish_106 rfl rfl rfl ?_
    refine zr_callV (M' := M_Md_message) (mc' := 0) (ms' := 0) (av := [.int a2]) (rest := []) (n := 110) d_Md_publish_107 rfl w_Md_115 w_Md_115k gg_27 rfl rfl rfl rfl rfl rfl (Nat.le_refl _) (Nat.le_refl _) ?_
    exact (l2 h1)
theorem s_Md_publish_33 {d : Nat} {Q : zm_Q} {S : zm_S} {a1 a2 b0 r : Int32} (j1 : Nat) (j2 : Nat) (o1 : (S 27 6) = 0 → zm_ix (((S 27 6) + 1) - 1) j1 12) (o2 : (S 27 6) = 0 → zm_ix a2 j2 12) (o3 : ¬ (S 27 6) = 0 → (a1 + (b0 + r)) ≤ 24 → zm_ix a2 j2 12) (o4 : ¬ (S 27 6) = 0 → ¬ (a1 + (b0 + r)) ≤ 24 → zm_ix (((S 27 6) + 1) - 1) j1 12) (o5 : ¬ (S 27 6) = 0 → ¬ (a1 + (b0 + r)) ≤ 24 → zm_ix a2 j2 12)
    (l1 : (((S 27 6) = 0) ∨ (¬ (S 27 6) = 0 ∧ ¬ (a1 + (b0 + r)) ≤ 24)) → zc M_Md_next (d + 3) [.ref 27, .int a2] (zm_up (zm_up (zm_up S 27 6 ((S 27 6) + 1)) 33 j1 0) 39 j2 (((S 27 6) + 1) - 1)) (fun v G' S' => zm_WP M_Md_publish none (d + 4) 0 0 Q 95 [some (.ref 27), some (.int (0 + (b0 + r))), none, none] (zm_ps v []) G' S' 0 0))
    (l2 : ¬ (S 27 6) = 0 → (a1 + (b0 + r)) ≤ 24 → zc M_Md_next (d + 3) [.ref 27, .int a2] (zm_up S 39 j2 ((S 27 6) - 1)) (fun v G' S' => zm_WP M_Md_publish none (d + 4) 0 0 Q 95 [some (.ref 27), some (.int (a1 + (b0 + r))), none, none] (zm_ps v []) G' S' 0 0)) :
    zw M_Md_publish (d + 4) Q 33 [some (.ref 27), some (.int a1), some (.int a2), none] [.int r, .int b0] S := by
  refine zr_iadd (n := 34) d_Md_publish_33 rfl ?_
  refine zr_istore_n (i := 3) (L' := [some (.ref 27), some (.int a1), some (.int a2), some (.int (b0 + r))]) (n := 35) d_Md_publish_34 rfl rfl rfl rfl ?_
  refine zr_aload_n (i := 0) (x := 27) (n := 36) d_Md_publish_35 rfl rfl rfl ?_
  refine zr_geti (n := 39) d_Md_publish_36 rfl f_Md_100 gg_27 rfl ?_
  refine zr_if_eq (tgt := 50) (n := 42) d_Md_publish_39 rfl (by decide) (fun h1 => ?_) (fun h1 => ?_)
  · refine zr_aload_n (i := 0) (x := 27) (n := 51) d_Md_publish_50 rfl rfl rfl ?_
    refine zr_dup (n := 52) d_Md_publish_51 rfl rfl ?_
    refine zr_geti (n := 55) d_Md_publish_52 rfl f_Md_100 gg_27 rfl ?_
    refine zr_iconst (v := 1) (n := 56) d_Md_publish_55 rfl (by decide) ?_
    refine zr_iadd (n := 57) d_Md_publish_56 rfl ?_
    refine zr_puti (n := 60) d_Md_publish_57 rfl f_Md_100 tw_Md rfl rfl rfl rfl gg_27 rfl ?_
    refine zr_iconst (v := 0) (n := 61) d_Md_publish_60 rfl (by decide) ?_
    refine zr_istore_n (i := 1) (L' := [some (.ref 27), some (.int 0), some (.int a2), some (.int (b0 + r))]) (n := 62) d_Md_publish_61 rfl rfl rfl rfl ?_
    refine zr_aload_n (i := 0) (x := 27) (n := 63) d_Md_publish_62 rfl rfl rfl ?_
    refine zr_getr (n := 66) d_Md_publish_63 rfl f_Md_25 gg_27 rfl ?_
    refine zr_aload_n (i := 0) (x := 27) (n := 67) d_Md_publish_66 rfl rfl rfl ?_
    refine zr_geti (n := 70) d_Md_publish_67 rfl f_Md_100 gg_27 rfl ?_
    refine zr_top (v := ((S 27 6) + 1)) rfl ?_
    refine zr_iconst (v := 1) (n := 71) d_Md_publish_70 rfl (by decide) ?_
    refine zr_isub (n := 72) d_Md_publish_71 rfl ?_
    refine zr_iconst (v := 0) (n := 73) d_Md_publish_72 rfl (by decide) ?_
    refine zr_iastore j1 (n := 74) d_Md_publish_73 rfl gg_33 (o1 h1) ?_
    refine zr_iload_n (i := 1) (x := 0) (n := 75) d_Md_publish_74 rfl rfl rfl ?_
    refine zr_iload_n (i := 3) (x := (b0 + r)) (n := 76) d_Md_publish_75 rfl rfl rfl ?_
    refine zr_iadd (n := 77) d_Md_publish_76 rfl ?_
    refine zr_istore_n (i := 1) (L' := [some (.ref 27), some (.int (0 + (b0 + r))), some (.int a2), some (.int (b0 + r))]) (n := 78) d_Md_publish_77 rfl rfl rfl rfl ?_
    refine zr_aload_n (i := 0) (x := 27) (n := 79) d_Md_publish_78 rfl rfl rfl ?_
    refine zr_getr (n := 82) d_Md_publish_79 rfl f_Md_43 gg_27 rfl ?_
    refine zr_iload_n (i := 2) (x := a2) (n := 83) d_Md_publish_82 rfl rfl rfl ?_
    refine zr_aload_n (i := 0) (x := 27) (n := 84) d_Md_publish_83 rfl rfl rfl ?_
    refine zr_geti (n := 87) d_Md_publish_84 rfl f_Md_100 gg_27 rfl ?_
    refine zr_top (v := ((S 27 6) + 1)) rfl ?_
    refine zr_iconst (v := 1) (n := 88) d_Md_publish_87 rfl (by decide) ?_
    refine zr_isub (n := 89) d_Md_publish_88 rfl ?_
    refine zr_iastore j2 (n := 90) d_Md_publish_89 rfl gg_39 (o2 h1) ?_
    refine zr_aload_n (i := 0) (x := 27) (n := 91) d_Md_publish_90 rfl rfl rfl ?_
    refine zr_iload_n (i := 2) (x := a2) (n := 92) d_Md_publish_91 rfl rfl rfl ?_
    refine zr_weak (zm_LE.cons (zm_LE.cons (zm_LE.skip (zm_LE.skip zm_LE.nil)))) ?_
    refine zr_callV (M' := M_Md_next) (mc' := 0) (ms' := 0) (av := [.int a2]) (rest := []) (n := 95) d_Md_publish_92 rfl w_Md_112 w_Md_112k gg_27 rfl rfl rfl rfl rfl rfl (Nat.le_refl _) (Nat.le_refl _) ?_
    exact (l1 (Or.inl h1))
  · refine zr_iload_n (i := 1) (x := a1) (n := 43) d_Md_publish_42 rfl rfl rfl ?_
    refine zr_iload_n (i := 3) (x := (b0 + r)) (n := 44) d_Md_publish_43 rfl rfl rfl ?_
    refine zr_iadd (n := 45) d_Md_publish_44 rfl ?_
    refine zr_bipush (v := 24) (n := 47) d_Md_publish_45 rfl (by decide) ?_
    refine zr_icmp_le (tgt := 74) (n := 50) d_Md_publish_47 rfl (by decide) (fun h2 => ?_) (fun h2 => ?_)
    · refine zr_iload_n (i := 1) (x := a1) (n := 75) d_Md_publish_74 rfl rfl rfl ?_
      refine zr_iload_n (i := 3) (x := (b0 + r)) (n := 76) d_Md_publish_75 rfl rfl rfl ?_
      refine zr_iadd (n := 77) d_Md_publish_76 rfl ?_
      refine zr_istore_n (i := 1) (L' := [some (.ref 27), some (.int (a1 + (b0 + r))), some (.int a2), some (.int (b0 + r))]) (n := 78) d_Md_publish_77 rfl rfl rfl rfl ?_
      refine zr_aload_n (i := 0) (x := 27) (n := 79) d_Md_publish_78 rfl rfl rfl ?_
      refine zr_getr (n := 82) d_Md_publish_79 rfl f_Md_43 gg_27 rfl ?_
      refine zr_iload_n (i := 2) (x := a2) (n := 83) d_Md_publish_82 rfl rfl rfl ?_
      refine zr_aload_n (i := 0) (x := 27) (n := 84) d_Md_publish_83 rfl rfl rfl ?_
      refine zr_geti (n := 87) d_Md_publish_84 rfl f_Md_100 gg_27 rfl ?_
      refine zr_iconst (v := 1) (n := 88) d_Md_publish_87 rfl (by decide) ?_
      refine zr_isub (n := 89) d_Md_publish_88 rfl ?_
      refine zr_iastore j2 (n := 90) d_Md_publish_89 rfl gg_39 (o3 h1 h2) ?_
      refine zr_aload_n (i := 0) (x := 27) (n := 91) d_Md_publish_90 rfl rfl rfl ?_
      refine zr_iload_n (i := 2) (x := a2) (n := 92) d_Md_publish_91 rfl rfl rfl ?_
      refine zr_weak (zm_LE.cons (zm_LE.cons (zm_LE.skip (zm_LE.skip zm_LE.nil)))) ?_
      refine zr_callV (M' := M_Md_next) (mc' := 0) (ms' := 0) (av := [.int a2]) (rest := []) (n := 95) d_Md_publish_92 rfl w_Md_112 w_Md_112k gg_27 rfl rfl rfl rfl rfl rfl (Nat.le_refl _) (Nat.le_refl _) ?_
      exact (l2 h1 h2)
    · refine zr_aload_n (i := 0) (x := 27) (n := 51) d_Md_publish_50 rfl rfl rfl ?_
      refine zr_dup (n := 52) d_Md_publish_51 rfl rfl ?_
      refine zr_geti (n := 55) d_Md_publish_52 rfl f_Md_100 gg_27 rfl ?_
      refine zr_iconst (v := 1) (n := 56) d_Md_publish_55 rfl (by decide) ?_
      refine zr_iadd (n := 57) d_Md_publish_56 rfl ?_
      refine zr_puti (n := 60) d_Md_publish_57 rfl f_Md_100 tw_Md rfl rfl rfl rfl gg_27 rfl ?_
      refine zr_iconst (v := 0) (n := 61) d_Md_publish_60 rfl (by decide) ?_
      refine zr_istore_n (i := 1) (L' := [some (.ref 27), some (.int 0), some (.int a2), some (.int (b0 + r))]) (n := 62) d_Md_publish_61 rfl rfl rfl rfl ?_
      refine zr_aload_n (i := 0) (x := 27) (n := 63) d_Md_publish_62 rfl rfl rfl ?_
      refine zr_getr (n := 66) d_Md_publish_63 rfl f_Md_25 gg_27 rfl ?_
      refine zr_aload_n (i := 0) (x := 27) (n := 67) d_Md_publish_66 rfl rfl rfl ?_
      refine zr_geti (n := 70) d_Md_publish_67 rfl f_Md_100 gg_27 rfl ?_
      refine zr_top (v := ((S 27 6) + 1)) rfl ?_
      refine zr_iconst (v := 1) (n := 71) d_Md_publish_70 rfl (by decide) ?_
      refine zr_isub (n := 72) d_Md_publish_71 rfl ?_
      refine zr_iconst (v := 0) (n := 73) d_Md_publish_72 rfl (by decide) ?_
      refine zr_iastore j1 (n := 74) d_Md_publish_73 rfl gg_33 (o4 h1 h2) ?_
      refine zr_iload_n (i := 1) (x := 0) (n := 75) d_Md_publish_74 rfl rfl rfl ?_
      refine zr_iload_n (i := 3) (x := (b0 + r)) (n := 76) d_Md_publish_75 rfl rfl rfl ?_
      refine zr_iadd (n := 77) d_Md_publish_76 rfl ?_
      refine zr_istore_n (i := 1) (L' := [some (.ref 27), some (.int (0 + (b0 + r))), some (.int a2), some (.int (b0 + r))]) (n := 78) d_Md_publish_77 rfl rfl rfl rfl ?_
      refine zr_aload_n (i := 0) (x := 27) (n := 79) d_Md_publish_78 rfl rfl rfl ?_
      refine zr_getr (n := 82) d_Md_publish_79 rfl f_Md_43 gg_27 rfl ?_
      refine zr_iload_n (i := 2) (x := a2) (n := 83) d_Md_publish_82 rfl rfl rfl ?_
      refine zr_aload_n (i := 0) (x := 27) (n := 84) d_Md_publish_83 rfl rfl rfl ?_
      refine zr_geti (n := 87) d_Md_publish_84 rfl f_Md_100 gg_27 rfl ?_
      refine zr_top (v := ((S 27 6) + 1)) rfl ?_
      refine zr_iconst (v := 1) (n := 88) d_Md_publish_87 rfl (by decide) ?_
      refine zr_isub (n := 89) d_Md_publish_88 rfl ?_
      refine zr_iastore j2 (n := 90) d_Md_publish_89 rfl gg_39 (o5 h1 h2) ?_
      refine zr_aload_n (i := 0) (x := 27) (n := 91) d_Md_publish_90 rfl rfl rfl ?_
      refine zr_iload_n (i := 2) (x := a2) (n := 92) d_Md_publish_91 rfl rfl rfl ?_
      refine zr_weak (zm_LE.cons (zm_LE.cons (zm_LE.skip (zm_LE.skip zm_LE.nil)))) ?_
      refine zr_callV (M' := M_Md_next) (mc' := 0) (ms' := 0) (av := [.int a2]) (rest := []) (n := 95) d_Md_publish_92 rfl w_Md_112 w_Md_112k gg_27 rfl rfl rfl rfl rfl rfl (Nat.le_refl _) (Nat.le_refl _) ?_
      exact (l1 (Or.inr ⟨h1, h2⟩))
theorem s_Md_publish_121 {d : Nat} {Q : zm_Q} {S : zm_S} {a2 : Int32}
    (l1 : (S 27 6) ≤ a2 → zc M_Md_writeCycle (d + 3) [.ref 27] S (fun v G' S' => zm_WP M_Md_publish none (d + 4) 0 0 Q 166 [some (.ref 27), none, none, none] (zm_ps v []) G' S' 0 0))
    (l2 : ¬ (S 27 6) ≤ a2 → zc M_Md_unchanged (d + 3) [.ref 27, .int a2] S (fun v G' S' => zm_WP M_Md_publish none (d + 4) 0 0 Q 139 [some (.ref 27), none, some (.int a2), none] (zm_ps v [.int a2, .ref 34]) G' S' 0 0)) :
    zw M_Md_publish (d + 4) Q 121 [some (.ref 27), none, some (.int a2), none] [] S := by
  refine zr_iload_n (i := 2) (x := a2) (n := 122) d_Md_publish_121 rfl rfl rfl ?_
  refine zr_aload_n (i := 0) (x := 27) (n := 123) d_Md_publish_122 rfl rfl rfl ?_
  refine zr_geti (n := 126) d_Md_publish_123 rfl f_Md_100 gg_27 rfl ?_
  refine zr_icmp_ge (tgt := 162) (n := 129) d_Md_publish_126 rfl (by decide) (fun h1 => ?_) (fun h1 => ?_)
  · refine zr_aload_n (i := 0) (x := 27) (n := 163) d_Md_publish_162 rfl rfl rfl ?_
    refine zr_weak (zm_LE.cons (zm_LE.cons (zm_LE.skip (zm_LE.cons zm_LE.nil)))) ?_
    refine zr_callV (M' := M_Md_writeCycle) (mc' := 0) (ms' := 0) (av := []) (rest := []) (n := 166) d_Md_publish_163 rfl w_Md_123 w_Md_123k gg_27 rfl rfl rfl rfl rfl rfl (Nat.le_refl _) (Nat.le_refl _) ?_
    exact (l1 h1)
  · refine zr_aload_n (i := 0) (x := 27) (n := 130) d_Md_publish_129 rfl rfl rfl ?_
    refine zr_getr (n := 133) d_Md_publish_130 rfl f_Md_28 gg_27 rfl ?_
    refine zr_iload_n (i := 2) (x := a2) (n := 134) d_Md_publish_133 rfl rfl rfl ?_
    refine zr_aload_n (i := 0) (x := 27) (n := 135) d_Md_publish_134 rfl rfl rfl ?_
    refine zr_iload_n (i := 2) (x := a2) (n := 136) d_Md_publish_135 rfl rfl rfl ?_
    refine zr_callV (M' := M_Md_unchanged) (mc' := 0) (ms' := 0) (av := [.int a2]) (rest := [.int a2, .ref 34]) (n := 139) d_Md_publish_136 rfl w_Md_119 w_Md_119k gg_27 rfl rfl rfl rfl rfl rfl (Nat.le_refl _) (Nat.le_refl _) ?_
    exact (l2 h1)
theorem s_Md_publish_110 {d : Nat} {Q : zm_Q} {S : zm_S} {a2 : Int32}
    (l1 : zc M_Md_next (d + 3) [.ref 27, .int a2] S (fun v G' S' => zm_WP M_Md_publish none (d + 4) 0 0 Q 115 [some (.ref 27), none, none, none] (zm_ps v []) G' S' 0 0)) :
    zw M_Md_publish (d + 4) Q 110 [some (.ref 27), none, some (.int a2), none] [] S := by
  refine zr_aload_n (i := 0) (x := 27) (n := 111) d_Md_publish_110 rfl rfl rfl ?_
  refine zr_iload_n (i := 2) (x := a2) (n := 112) d_Md_publish_111 rfl rfl rfl ?_
  refine zr_weak (zm_LE.cons (zm_LE.cons (zm_LE.skip (zm_LE.cons zm_LE.nil)))) ?_
  refine zr_callV (M' := M_Md_next) (mc' := 0) (ms' := 0) (av := [.int a2]) (rest := []) (n := 115) d_Md_publish_112 rfl w_Md_112 w_Md_112k gg_27 rfl rfl rfl rfl rfl rfl (Nat.le_refl _) (Nat.le_refl _) ?_
  exact l1
theorem s_Md_publish_95 {d : Nat} {Q : zm_Q} {S : zm_S} {a1 r : Int32}
    (l1 : zw M_Md_publish (d + 4) Q 23 [some (.ref 27), some (.int a1), some (.int r), none] [] S) :
    zw M_Md_publish (d + 4) Q 95 [some (.ref 27), some (.int a1), none, none] [.int r] S := by
  refine zr_istore_n (i := 2) (L' := [some (.ref 27), some (.int a1), some (.int r), none]) (n := 96) d_Md_publish_95 rfl rfl rfl rfl ?_
  refine zr_goto (tgt := 23) d_Md_publish_96 (by decide) ?_
  exact l1
theorem s_Md_publish_166 {d : Nat} {Q : zm_Q} {S : zm_S}
    (l1 : Q (some (S 27 5)) GG (zm_up S 27 19 0)) :
    zw M_Md_publish (d + 4) Q 166 [some (.ref 27), none, none, none] [] S := by
  refine zr_aload_n (i := 0) (x := 27) (n := 167) d_Md_publish_166 rfl rfl rfl ?_
  refine zr_iconst (v := 0) (n := 168) d_Md_publish_167 rfl (by decide) ?_
  refine zr_puti (n := 171) d_Md_publish_168 rfl f_Md_126 tw_Md rfl rfl rfl rfl gg_27 rfl ?_
  refine zr_aload_n (i := 0) (x := 27) (n := 172) d_Md_publish_171 rfl rfl rfl ?_
  refine zr_geti (n := 175) d_Md_publish_172 rfl f_Md_109 gg_27 rfl ?_
  exact zr_ireturn d_Md_publish_175 rfl rfl (Nat.le_refl _) (Nat.le_refl _) l1
theorem s_Md_publish_139 {d : Nat} {Q : zm_Q} {S : zm_S} {a2 b1 r : Int32} (j1 : Nat) (j2 : Nat) (o1 : r = 0 → zm_ix b1 j1 12) (o2 : ¬ r = 0 → zm_ix a2 j2 12) (o3 : ¬ r = 0 → zm_ix b1 j1 12)
    (l1 : r = 0 → zw M_Md_publish (d + 4) Q 121 [some (.ref 27), none, some (.int (a2 + 1)), none] [] (zm_up S 34 j1 (S 27 5)))
    (l2 : ¬ r = 0 → zw M_Md_publish (d + 4) Q 121 [some (.ref 27), none, some (.int (a2 + 1)), none] [] (zm_up S 34 j1 (S 37 j2))) :
    zw M_Md_publish (d + 4) Q 139 [some (.ref 27), none, some (.int a2), none] [.int r, .int b1, .ref 34] S := by
  refine zr_if_eq (tgt := 151) (n := 142) d_Md_publish_139 rfl (by decide) (fun h1 => ?_) (fun h1 => ?_)
  · refine zr_aload_n (i := 0) (x := 27) (n := 152) d_Md_publish_151 rfl rfl rfl ?_
    refine zr_geti (n := 155) d_Md_publish_152 rfl f_Md_109 gg_27 rfl ?_
    refine zr_iastore j1 (n := 156) d_Md_publish_155 rfl gg_34 (o1 h1) ?_
    refine zr_iinc (i := 2) (w := 1) (x := a2) (L' := [some (.ref 27), none, some (.int (a2 + 1)), none]) (n := 159) d_Md_publish_156 rfl (by decide) rfl rfl ?_
    refine zr_goto (tgt := 121) d_Md_publish_159 (by decide) ?_
    exact (l1 h1)
  · refine zr_aload_n (i := 0) (x := 27) (n := 143) d_Md_publish_142 rfl rfl rfl ?_
    refine zr_getr (n := 146) d_Md_publish_143 rfl f_Md_37 gg_27 rfl ?_
    refine zr_iload_n (i := 2) (x := a2) (n := 147) d_Md_publish_146 rfl rfl rfl ?_
    refine zr_iaload j2 (n := 148) d_Md_publish_147 rfl gg_37 (o2 h1) ?_
    refine zr_goto (tgt := 155) d_Md_publish_148 (by decide) ?_
    refine zr_iastore j1 (n := 156) d_Md_publish_155 rfl gg_34 (o3 h1) ?_
    refine zr_iinc (i := 2) (w := 1) (x := a2) (L' := [some (.ref 27), none, some (.int (a2 + 1)), none]) (n := 159) d_Md_publish_156 rfl (by decide) rfl rfl ?_
    refine zr_goto (tgt := 121) d_Md_publish_159 (by decide) ?_
    exact (l2 h1)
theorem s_Md_publish_115 {d : Nat} {Q : zm_Q} {S : zm_S} {r : Int32}
    (l1 : zw M_Md_publish (d + 4) Q 101 [some (.ref 27), none, some (.int r), none] [] S) :
    zw M_Md_publish (d + 4) Q 115 [some (.ref 27), none, none, none] [.int r] S := by
  refine zr_istore_n (i := 2) (L' := [some (.ref 27), none, some (.int r), none]) (n := 116) d_Md_publish_115 rfl rfl rfl rfl ?_
  refine zr_goto (tgt := 101) d_Md_publish_116 (by decide) ?_
  exact l1
theorem e_Md_publish {d : Nat} {Q : zm_Q} {S : zm_S} (h : zw M_Md_publish (d + 4) Q 0 [some (.ref 27), none, none, none] [] S) : zc M_Md_publish (d + 4) [.ref 27] S Q := zm_CC_intro (by decide) rfl rfl h
theorem s_Md_mixed_0 {d : Nat} {Q : zm_Q} {S : zm_S} {a0 a1 : Int32}
    (l1 : zw M_Md_mixed d Q 9 [none, none, some (.int (a0 ^^^ (a1 <<< (24 &&& 31)))), some (.int 0), none] [] S) :
    zw M_Md_mixed d Q 0 [some (.int a0), some (.int a1), none, none, none] [] S := by
  refine zr_iload_n (i := 0) (x := a0) (n := 1) d_Md_mixed_0 rfl rfl rfl ?_
  refine zr_iload_n (i := 1) (x := a1) (n := 2) d_Md_mixed_1 rfl rfl rfl ?_
  refine zr_bipush (v := 24) (n := 4) d_Md_mixed_2 rfl (by decide) ?_
  refine zr_ishl (n := 5) d_Md_mixed_4 rfl ?_
  refine zr_ixor (n := 6) d_Md_mixed_5 rfl ?_
  refine zr_istore_n (i := 2) (L' := [some (.int a0), some (.int a1), some (.int (a0 ^^^ (a1 <<< (24 &&& 31)))), none, none]) (n := 7) d_Md_mixed_6 rfl rfl rfl rfl ?_
  refine zr_iconst (v := 0) (n := 8) d_Md_mixed_7 rfl (by decide) ?_
  refine zr_istore_n (i := 3) (L' := [some (.int a0), some (.int a1), some (.int (a0 ^^^ (a1 <<< (24 &&& 31)))), some (.int 0), none]) (n := 9) d_Md_mixed_8 rfl rfl rfl rfl ?_
  exact zr_weak (zm_LE.skip (zm_LE.skip (zm_LE.cons (zm_LE.cons (zm_LE.cons zm_LE.nil))))) l1
theorem s_Md_mixed_9 {d : Nat} {Q : zm_Q} {S : zm_S} {a2 a3 : Int32}
    (l1 : 8 ≤ a3 → Q (some a2) GG S)
    (l2 : ¬ 8 ≤ a3 → 0 ≤ a2 → zw M_Md_mixed d Q 9 [none, none, some (.int (2 * a2)), some (.int (a3 + 1)), none] [] S)
    (l3 : ¬ 8 ≤ a3 → ¬ 0 ≤ a2 → zw M_Md_mixed d Q 9 [none, none, some (.int ((2 * a2) ^^^ 79764919)), some (.int (a3 + 1)), none] [] S) :
    zw M_Md_mixed d Q 9 [none, none, some (.int a2), some (.int a3), none] [] S := by
  refine zr_iload_n (i := 3) (x := a3) (n := 10) d_Md_mixed_9 rfl rfl rfl ?_
  refine zr_bipush (v := 8) (n := 12) d_Md_mixed_10 rfl (by decide) ?_
  refine zr_icmp_ge (tgt := 41) (n := 15) d_Md_mixed_12 rfl (by decide) (fun h1 => ?_) (fun h1 => ?_)
  · refine zr_iload_n (i := 2) (x := a2) (n := 42) d_Md_mixed_41 rfl rfl rfl ?_
    exact zr_ireturn d_Md_mixed_42 rfl rfl (Nat.le_refl _) (Nat.le_refl _) (l1 h1)
  · refine zr_iconst (v := 2) (n := 16) d_Md_mixed_15 rfl (by decide) ?_
    refine zr_iload_n (i := 2) (x := a2) (n := 17) d_Md_mixed_16 rfl rfl rfl ?_
    refine zr_imul (n := 18) d_Md_mixed_17 rfl ?_
    refine zr_istore (i := 4) (L' := [none, none, some (.int a2), some (.int a3), some (.int (2 * a2))]) (n := 20) d_Md_mixed_18 rfl rfl rfl ?_
    refine zr_iload_n (i := 2) (x := a2) (n := 21) d_Md_mixed_20 rfl rfl rfl ?_
    refine zr_if_ge (tgt := 32) (n := 24) d_Md_mixed_21 rfl (by decide) (fun h2 => ?_) (fun h2 => ?_)
    · refine zr_iload (i := 4) (x := (2 * a2)) (n := 34) d_Md_mixed_32 rfl rfl ?_
      refine zr_istore_n (i := 2) (L' := [none, none, some (.int (2 * a2)), some (.int a3), some (.int (2 * a2))]) (n := 35) d_Md_mixed_34 rfl rfl rfl rfl ?_
      refine zr_iinc (i := 3) (w := 1) (x := a3) (L' := [none, none, some (.int (2 * a2)), some (.int (a3 + 1)), some (.int (2 * a2))]) (n := 38) d_Md_mixed_35 rfl (by decide) rfl rfl ?_
      refine zr_goto (tgt := 9) d_Md_mixed_38 (by decide) ?_
      exact zr_weak (zm_LE.cons (zm_LE.cons (zm_LE.cons (zm_LE.cons (zm_LE.skip zm_LE.nil))))) (l2 h1 h2)
    · refine zr_iload (i := 4) (x := (2 * a2)) (n := 26) d_Md_mixed_24 rfl rfl ?_
      refine zr_ldc (v := 79764919) (n := 28) d_Md_mixed_26 rfl k_Md_129 ?_
      refine zr_ixor (n := 29) d_Md_mixed_28 rfl ?_
      refine zr_goto (tgt := 34) d_Md_mixed_29 (by decide) ?_
      refine zr_istore_n (i := 2) (L' := [none, none, some (.int ((2 * a2) ^^^ 79764919)), some (.int a3), some (.int (2 * a2))]) (n := 35) d_Md_mixed_34 rfl rfl rfl rfl ?_
      refine zr_iinc (i := 3) (w := 1) (x := a3) (L' := [none, none, some (.int ((2 * a2) ^^^ 79764919)), some (.int (a3 + 1)), some (.int (2 * a2))]) (n := 38) d_Md_mixed_35 rfl (by decide) rfl rfl ?_
      refine zr_goto (tgt := 9) d_Md_mixed_38 (by decide) ?_
      exact zr_weak (zm_LE.cons (zm_LE.cons (zm_LE.cons (zm_LE.cons (zm_LE.skip zm_LE.nil))))) (l3 h1 h2)
theorem e_Md_mixed {d : Nat} {Q : zm_Q} {S : zm_S} {a0 a1 : Int32} (h : zw M_Md_mixed d Q 0 [some (.int a0), some (.int a1), none, none, none] [] S) : zc M_Md_mixed d [.int a0, .int a1] S Q := zm_CC_intro (by decide) rfl rfl h
theorem s_Md_writeCycle_0 {d : Nat} {Q : zm_Q} {S : zm_S}
    (l1 : zc M_Md_emit (d + 2) [.ref 27, .int 59] (zm_up (zm_up S 27 17 0) 27 18 (-1)) (fun v G' S' => zm_WP M_Md_writeCycle none (d + 3) 0 0 Q 16 [some (.ref 27), none, none, none, none] (zm_ps v []) G' S' 0 0)) :
    zw M_Md_writeCycle (d + 3) Q 0 [some (.ref 27), none, none, none, none] [] S := by
  refine zr_aload_n (i := 0) (x := 27) (n := 1) d_Md_writeCycle_0 rfl rfl rfl ?_
  refine zr_iconst (v := 0) (n := 2) d_Md_writeCycle_1 rfl (by decide) ?_
  refine zr_puti (n := 5) d_Md_writeCycle_2 rfl f_Md_130 tw_Md rfl rfl rfl rfl gg_27 rfl ?_
  refine zr_aload_n (i := 0) (x := 27) (n := 6) d_Md_writeCycle_5 rfl rfl rfl ?_
  refine zr_iconst (v := (-1)) (n := 7) d_Md_writeCycle_6 rfl (by decide) ?_
  refine zr_puti (n := 10) d_Md_writeCycle_7 rfl f_Md_133 tw_Md rfl rfl rfl rfl gg_27 rfl ?_
  refine zr_aload_n (i := 0) (x := 27) (n := 11) d_Md_writeCycle_10 rfl rfl rfl ?_
  refine zr_bipush (v := 59) (n := 13) d_Md_writeCycle_11 rfl (by decide) ?_
  refine zr_callV (M' := M_Md_emit) (mc' := 0) (ms' := 0) (av := [.int 59]) (rest := []) (n := 16) d_Md_writeCycle_13 rfl w_Md_139 w_Md_139k gg_27 rfl rfl rfl rfl rfl rfl (Nat.le_refl _) (Nat.le_refl _) ?_
  exact l1
theorem s_Md_writeCycle_16 {d : Nat} {Q : zm_Q} {S : zm_S}
    (l1 : zc M_Md_emit (d + 2) [.ref 27, .int (7 + (3 * (S 27 6)))] S (fun v G' S' => zm_WP M_Md_writeCycle none (d + 3) 0 0 Q 29 [some (.ref 27), none, none, none, none] (zm_ps v []) G' S' 0 0)) :
    zw M_Md_writeCycle (d + 3) Q 16 [some (.ref 27), none, none, none, none] [] S := by
  refine zr_aload_n (i := 0) (x := 27) (n := 17) d_Md_writeCycle_16 rfl rfl rfl ?_
  refine zr_bipush (v := 7) (n := 19) d_Md_writeCycle_17 rfl (by decide) ?_
  refine zr_iconst (v := 3) (n := 20) d_Md_writeCycle_19 rfl (by decide) ?_
  refine zr_aload_n (i := 0) (x := 27) (n := 21) d_Md_writeCycle_20 rfl rfl rfl ?_
  refine zr_geti (n := 24) d_Md_writeCycle_21 rfl f_Md_100 gg_27 rfl ?_
  refine zr_imul (n := 25) d_Md_writeCycle_24 rfl ?_
  refine zr_iadd (n := 26) d_Md_writeCycle_25 rfl ?_
  refine zr_callV (M' := M_Md_emit) (mc' := 0) (ms' := 0) (av := [.int (7 + (3 * (S 27 6)))]) (rest := []) (n := 29) d_Md_writeCycle_26 rfl w_Md_139 w_Md_139k gg_27 rfl rfl rfl rfl rfl rfl (Nat.le_refl _) (Nat.le_refl _) ?_
  exact l1
theorem s_Md_writeCycle_29 {d : Nat} {Q : zm_Q} {S : zm_S}
    (l1 : zc M_Md_emitPair (d + 2) [.ref 27, .int (S 27 5)] S (fun v G' S' => zm_WP M_Md_writeCycle none (d + 3) 0 0 Q 37 [some (.ref 27), none, none, none, none] (zm_ps v []) G' S' 0 0)) :
    zw M_Md_writeCycle (d + 3) Q 29 [some (.ref 27), none, none, none, none] [] S := by
  refine zr_aload_n (i := 0) (x := 27) (n := 30) d_Md_writeCycle_29 rfl rfl rfl ?_
  refine zr_aload_n (i := 0) (x := 27) (n := 31) d_Md_writeCycle_30 rfl rfl rfl ?_
  refine zr_geti (n := 34) d_Md_writeCycle_31 rfl f_Md_109 gg_27 rfl ?_
  refine zr_callV (M' := M_Md_emitPair) (mc' := 0) (ms' := 0) (av := [.int (S 27 5)]) (rest := []) (n := 37) d_Md_writeCycle_34 rfl w_Md_142 w_Md_142k gg_27 rfl rfl rfl rfl rfl rfl (Nat.le_refl _) (Nat.le_refl _) ?_
  exact l1
theorem s_Md_writeCycle_37 {d : Nat} {Q : zm_Q} {S : zm_S}
    (l1 : zc M_Md_emit (d + 2) [.ref 27, .int (S 27 6)] S (fun v G' S' => zm_WP M_Md_writeCycle none (d + 3) 0 0 Q 45 [some (.ref 27), none, none, none, none] (zm_ps v []) G' S' 0 0)) :
    zw M_Md_writeCycle (d + 3) Q 37 [some (.ref 27), none, none, none, none] [] S := by
  refine zr_aload_n (i := 0) (x := 27) (n := 38) d_Md_writeCycle_37 rfl rfl rfl ?_
  refine zr_aload_n (i := 0) (x := 27) (n := 39) d_Md_writeCycle_38 rfl rfl rfl ?_
  refine zr_geti (n := 42) d_Md_writeCycle_39 rfl f_Md_100 gg_27 rfl ?_
  refine zr_callV (M' := M_Md_emit) (mc' := 0) (ms' := 0) (av := [.int (S 27 6)]) (rest := []) (n := 45) d_Md_writeCycle_42 rfl w_Md_139 w_Md_139k gg_27 rfl rfl rfl rfl rfl rfl (Nat.le_refl _) (Nat.le_refl _) ?_
  exact l1
theorem s_Md_writeCycle_45 {d : Nat} {Q : zm_Q} {S : zm_S}
    (l1 : zw M_Md_writeCycle (d + 3) Q 47 [some (.ref 27), some (.int 0), none, none, none] [] S) :
    zw M_Md_writeCycle (d + 3) Q 45 [some (.ref 27), none, none, none, none] [] S := by
  refine zr_iconst (v := 0) (n := 46) d_Md_writeCycle_45 rfl (by decide) ?_
  refine zr_istore_n (i := 1) (L' := [some (.ref 27), some (.int 0), none, none, none]) (n := 47) d_Md_writeCycle_46 rfl rfl rfl rfl ?_
  exact l1
theorem s_Md_writeCycle_47 {d : Nat} {Q : zm_Q} {S : zm_S} {a1 : Int32} (j1 : Nat) (o1 : ¬ (S 27 6) ≤ a1 → zm_ix a1 j1 12)
    (l1 : (S 27 6) ≤ a1 → zc M_Md_emitCheck (d + 2) [.ref 27] S (fun v G' S' => zm_WP M_Md_writeCycle none (d + 3) 0 0 Q 85 [some (.ref 27), none, none, none, none] (zm_ps v []) G' S' 0 0))
    (l2 : ¬ (S 27 6) ≤ a1 → zc M_Md_emit (d + 2) [.ref 27, .int (S 33 j1)] S (fun v G' S' => zm_WP M_Md_writeCycle none (d + 3) 0 0 Q 65 [some (.ref 27), some (.int a1), none, none, none] (zm_ps v []) G' S' 0 0)) :
    zw M_Md_writeCycle (d + 3) Q 47 [some (.ref 27), some (.int a1), none, none, none] [] S := by
  refine zr_iload_n (i := 1) (x := a1) (n := 48) d_Md_writeCycle_47 rfl rfl rfl ?_
  refine zr_aload_n (i := 0) (x := 27) (n := 49) d_Md_writeCycle_48 rfl rfl rfl ?_
  refine zr_geti (n := 52) d_Md_writeCycle_49 rfl f_Md_100 gg_27 rfl ?_
  refine zr_icmp_ge (tgt := 81) (n := 55) d_Md_writeCycle_52 rfl (by decide) (fun h1 => ?_) (fun h1 => ?_)
  · refine zr_aload_n (i := 0) (x := 27) (n := 82) d_Md_writeCycle_81 rfl rfl rfl ?_
    refine zr_weak (zm_LE.cons (zm_LE.skip (zm_LE.cons (zm_LE.cons (zm_LE.cons zm_LE.nil))))) ?_
    refine zr_callV (M' := M_Md_emitCheck) (mc' := 0) (ms' := 0) (av := []) (rest := []) (n := 85) d_Md_writeCycle_82 rfl w_Md_145 w_Md_145k gg_27 rfl rfl rfl rfl rfl rfl (Nat.le_refl _) (Nat.le_refl _) ?_
    exact (l1 h1)
  · refine zr_aload_n (i := 0) (x := 27) (n := 56) d_Md_writeCycle_55 rfl rfl rfl ?_
    refine zr_aload_n (i := 0) (x := 27) (n := 57) d_Md_writeCycle_56 rfl rfl rfl ?_
    refine zr_getr (n := 60) d_Md_writeCycle_57 rfl f_Md_25 gg_27 rfl ?_
    refine zr_iload_n (i := 1) (x := a1) (n := 61) d_Md_writeCycle_60 rfl rfl rfl ?_
    refine zr_iaload j1 (n := 62) d_Md_writeCycle_61 rfl gg_33 (o1 h1) ?_
    refine zr_callV (M' := M_Md_emit) (mc' := 0) (ms' := 0) (av := [.int (S 33 j1)]) (rest := []) (n := 65) d_Md_writeCycle_62 rfl w_Md_139 w_Md_139k gg_27 rfl rfl rfl rfl rfl rfl (Nat.le_refl _) (Nat.le_refl _) ?_
    exact (l2 h1)
theorem s_Md_writeCycle_85 {d : Nat} {Q : zm_Q} {S : zm_S}
    (l1 : zw M_Md_writeCycle (d + 3) Q 87 [some (.ref 27), some (.int 0), none, none, none] [] S) :
    zw M_Md_writeCycle (d + 3) Q 85 [some (.ref 27), none, none, none, none] [] S := by
  refine zr_iconst (v := 0) (n := 86) d_Md_writeCycle_85 rfl (by decide) ?_
  refine zr_istore_n (i := 1) (L' := [some (.ref 27), some (.int 0), none, none, none]) (n := 87) d_Md_writeCycle_86 rfl rfl rfl rfl ?_
  exact l1
theorem s_Md_writeCycle_65 {d : Nat} {Q : zm_Q} {S : zm_S} {a1 : Int32} (j1 : Nat) (o1 : zm_ix a1 j1 12)
    (l1 : zc M_Md_emitPair (d + 2) [.ref 27, .int (S 34 j1)] S (fun v G' S' => zm_WP M_Md_writeCycle none (d + 3) 0 0 Q 75 [some (.ref 27), some (.int a1), none, none, none] (zm_ps v []) G' S' 0 0)) :
    zw M_Md_writeCycle (d + 3) Q 65 [some (.ref 27), some (.int a1), none, none, none] [] S := by
  refine zr_aload_n (i := 0) (x := 27) (n := 66) d_Md_writeCycle_65 rfl rfl rfl ?_
  refine zr_aload_n (i := 0) (x := 27) (n := 67) d_Md_writeCycle_66 rfl rfl rfl ?_
  refine zr_getr (n := 70) d_Md_writeCycle_67 rfl f_Md_28 gg_27 rfl ?_
  refine zr_iload_n (i := 1) (x := a1) (n := 71) d_Md_writeCycle_70 rfl rfl rfl ?_
  refine zr_iaload j1 (n := 72) d_Md_writeCycle_71 rfl gg_34 o1 ?_
  refine zr_callV (M' := M_Md_emitPair) (mc' := 0) (ms' := 0) (av := [.int (S 34 j1)]) (rest := []) (n := 75) d_Md_writeCycle_72 rfl w_Md_142 w_Md_142k gg_27 rfl rfl rfl rfl rfl rfl (Nat.le_refl _) (Nat.le_refl _) ?_
  exact l1
theorem s_Md_writeCycle_87 {d : Nat} {Q : zm_Q} {S : zm_S} {a1 : Int32}
    (l1 : (S 27 6) ≤ a1 → Q none GG S)
    (l2 : ¬ (S 27 6) ≤ a1 → zw M_Md_writeCycle (d + 3) Q 97 [some (.ref 27), some (.int a1), some (.int 0), none, none] [] S) :
    zw M_Md_writeCycle (d + 3) Q 87 [some (.ref 27), some (.int a1), none, none, none] [] S := by
  refine zr_iload_n (i := 1) (x := a1) (n := 88) d_Md_writeCycle_87 rfl rfl rfl ?_
  refine zr_aload_n (i := 0) (x := 27) (n := 89) d_Md_writeCycle_88 rfl rfl rfl ?_
  refine zr_geti (n := 92) d_Md_writeCycle_89 rfl f_Md_100 gg_27 rfl ?_
  refine zr_icmp_ge (tgt := 220) (n := 95) d_Md_writeCycle_92 rfl (by decide) (fun h1 => ?_) (fun h1 => ?_)
  · exact zr_return d_Md_writeCycle_220 rfl (Nat.le_refl _) (Nat.le_refl _) (l1 h1)
  · refine zr_iconst (v := 0) (n := 96) d_Md_writeCycle_95 rfl (by decide) ?_
    refine zr_istore_n (i := 2) (L' := [some (.ref 27), some (.int a1), some (.int 0), none, none]) (n := 97) d_Md_writeCycle_96 rfl rfl rfl rfl ?_
    exact (l2 h1)
theorem s_Md_writeCycle_75 {d : Nat} {Q : zm_Q} {S : zm_S} {a1 : Int32}
    (l1 : zw M_Md_writeCycle (d + 3) Q 47 [some (.ref 27), some (.int (a1 + 1)), none, none, none] [] S) :
    zw M_Md_writeCycle (d + 3) Q 75 [some (.ref 27), some (.int a1), none, none, none] [] S := by
  refine zr_iinc (i := 1) (w := 1) (x := a1) (L' := [some (.ref 27), some (.int (a1 + 1)), none, none, none]) (n := 78) d_Md_writeCycle_75 rfl (by decide) rfl rfl ?_
  refine zr_goto (tgt := 47) d_Md_writeCycle_78 (by decide) ?_
  exact l1
theorem s_Md_writeCycle_97 {d : Nat} {Q : zm_Q} {S : zm_S} {a1 a2 : Int32} (j1 : Nat) (o1 : zm_ix a1 j1 12)
    (l1 : (S 33 j1) ≤ a2 → zw M_Md_writeCycle (d + 3) Q 87 [some (.ref 27), some (.int (a1 + 1)), none, none, none] [] S)
    (l2 : ¬ (S 33 j1) ≤ a2 → 8 ≤ ((S 33 j1) - a2) → zc M_Md_emit (d + 2) [.ref 27, .int 60] S (fun v G' S' => zm_WP M_Md_writeCycle none (d + 3) 0 0 Q 140 [some (.ref 27), some (.int a1), some (.int a2), some (.int 8), none] (zm_ps v []) G' S' 0 0))
    (l3 : ¬ (S 33 j1) ≤ a2 → ¬ 8 ≤ ((S 33 j1) - a2) → zc M_Md_emit (d + 2) [.ref 27, .int 60] S (fun v G' S' => zm_WP M_Md_writeCycle none (d + 3) 0 0 Q 140 [some (.ref 27), some (.int a1), some (.int a2), some (.int ((S 33 j1) - a2)), none] (zm_ps v []) G' S' 0 0)) :
    zw M_Md_writeCycle (d + 3) Q 97 [some (.ref 27), some (.int a1), some (.int a2), none, none] [] S := by
  refine zr_iload_n (i := 2) (x := a2) (n := 98) d_Md_writeCycle_97 rfl rfl rfl ?_
  refine zr_aload_n (i := 0) (x := 27) (n := 99) d_Md_writeCycle_98 rfl rfl rfl ?_
  refine zr_getr (n := 102) d_Md_writeCycle_99 rfl f_Md_25 gg_27 rfl ?_
  refine zr_iload_n (i := 1) (x := a1) (n := 103) d_Md_writeCycle_102 rfl rfl rfl ?_
  refine zr_iaload j1 (n := 104) d_Md_writeCycle_103 rfl gg_33 o1 ?_
  refine zr_icmp_ge (tgt := 214) (n := 107) d_Md_writeCycle_104 rfl (by decide) (fun h1 => ?_) (fun h1 => ?_)
  · refine zr_iinc (i := 1) (w := 1) (x := a1) (L' := [some (.ref 27), some (.int (a1 + 1)), some (.int a2), none, none]) (n := 217) d_Md_writeCycle_214 rfl (by decide) rfl rfl ?_
    refine zr_goto (tgt := 87) d_Md_writeCycle_217 (by decide) ?_
    exact zr_weak (zm_LE.cons (zm_LE.cons (zm_LE.skip (zm_LE.cons (zm_LE.cons zm_LE.nil))))) (l1 h1)
  · refine zr_aload_n (i := 0) (x := 27) (n := 108) d_Md_writeCycle_107 rfl rfl rfl ?_
    refine zr_getr (n := 111) d_Md_writeCycle_108 rfl f_Md_25 gg_27 rfl ?_
    refine zr_iload_n (i := 1) (x := a1) (n := 112) d_Md_writeCycle_111 rfl rfl rfl ?_
    refine zr_iaload j1 (n := 113) d_Md_writeCycle_112 rfl gg_33 o1 ?_
    refine zr_iload_n (i := 2) (x := a2) (n := 114) d_Md_writeCycle_113 rfl rfl rfl ?_
    refine zr_isub (n := 115) d_Md_writeCycle_114 rfl ?_
    refine zr_bipush (v := 8) (n := 117) d_Md_writeCycle_115 rfl (by decide) ?_
    refine zr_icmp_ge (tgt := 131) (n := 120) d_Md_writeCycle_117 rfl (by decide) (fun h2 => ?_) (fun h2 => ?_)
    · refine zr_bipush (v := 8) (n := 133) d_Md_writeCycle_131 rfl (by decide) ?_
      refine zr_istore_n (i := 3) (L' := [some (.ref 27), some (.int a1), some (.int a2), some (.int 8), none]) (n := 134) d_Md_writeCycle_133 rfl rfl rfl rfl ?_
      refine zr_aload_n (i := 0) (x := 27) (n := 135) d_Md_writeCycle_134 rfl rfl rfl ?_
      refine zr_bipush (v := 60) (n := 137) d_Md_writeCycle_135 rfl (by decide) ?_
      refine zr_callV (M' := M_Md_emit) (mc' := 0) (ms' := 0) (av := [.int 60]) (rest := []) (n := 140) d_Md_writeCycle_137 rfl w_Md_139 w_Md_139k gg_27 rfl rfl rfl rfl rfl rfl (Nat.le_refl _) (Nat.le_refl _) ?_
      exact (l2 h1 h2)
    · refine zr_aload_n (i := 0) (x := 27) (n := 121) d_Md_writeCycle_120 rfl rfl rfl ?_
      refine zr_getr (n := 124) d_Md_writeCycle_121 rfl f_Md_25 gg_27 rfl ?_
      refine zr_iload_n (i := 1) (x := a1) (n := 125) d_Md_writeCycle_124 rfl rfl rfl ?_
      refine zr_iaload j1 (n := 126) d_Md_writeCycle_125 rfl gg_33 o1 ?_
      refine zr_iload_n (i := 2) (x := a2) (n := 127) d_Md_writeCycle_126 rfl rfl rfl ?_
      refine zr_isub (n := 128) d_Md_writeCycle_127 rfl ?_
      refine zr_goto (tgt := 133) d_Md_writeCycle_128 (by decide) ?_
      refine zr_istore_n (i := 3) (L' := [some (.ref 27), some (.int a1), some (.int a2), some (.int ((S 33 j1) - a2)), none]) (n := 134) d_Md_writeCycle_133 rfl rfl rfl rfl ?_
      refine zr_aload_n (i := 0) (x := 27) (n := 135) d_Md_writeCycle_134 rfl rfl rfl ?_
      refine zr_bipush (v := 60) (n := 137) d_Md_writeCycle_135 rfl (by decide) ?_
      refine zr_callV (M' := M_Md_emit) (mc' := 0) (ms' := 0) (av := [.int 60]) (rest := []) (n := 140) d_Md_writeCycle_137 rfl w_Md_139 w_Md_139k gg_27 rfl rfl rfl rfl rfl rfl (Nat.le_refl _) (Nat.le_refl _) ?_
      exact (l3 h1 h2)
theorem s_Md_writeCycle_140 {d : Nat} {Q : zm_Q} {S : zm_S} {a1 a2 a3 : Int32}
    (l1 : zc M_Md_emit (d + 2) [.ref 27, .int (8 + a3)] S (fun v G' S' => zm_WP M_Md_writeCycle none (d + 3) 0 0 Q 148 [some (.ref 27), some (.int a1), some (.int a2), some (.int a3), none] (zm_ps v []) G' S' 0 0)) :
    zw M_Md_writeCycle (d + 3) Q 140 [some (.ref 27), some (.int a1), some (.int a2), some (.int a3), none] [] S := by
  refine zr_aload_n (i := 0) (x := 27) (n := 141) d_Md_writeCycle_140 rfl rfl rfl ?_
  refine zr_bipush (v := 8) (n := 143) d_Md_writeCycle_141 rfl (by decide) ?_
  refine zr_iload_n (i := 3) (x := a3) (n := 144) d_Md_writeCycle_143 rfl rfl rfl ?_
  refine zr_iadd (n := 145) d_Md_writeCycle_144 rfl ?_
  refine zr_callV (M' := M_Md_emit) (mc' := 0) (ms' := 0) (av := [.int (8 + a3)]) (rest := []) (n := 148) d_Md_writeCycle_145 rfl w_Md_139 w_Md_139k gg_27 rfl rfl rfl rfl rfl rfl (Nat.le_refl _) (Nat.le_refl _) ?_
  exact l1
theorem s_Md_writeCycle_148 {d : Nat} {Q : zm_Q} {S : zm_S} {a1 a2 a3 : Int32}
    (l1 : zc M_Md_emit (d + 2) [.ref 27, .int a1] S (fun v G' S' => zm_WP M_Md_writeCycle none (d + 3) 0 0 Q 153 [some (.ref 27), some (.int a1), some (.int a2), some (.int a3), none] (zm_ps v []) G' S' 0 0)) :
    zw M_Md_writeCycle (d + 3) Q 148 [some (.ref 27), some (.int a1), some (.int a2), some (.int a3), none] [] S := by
  refine zr_aload_n (i := 0) (x := 27) (n := 149) d_Md_writeCycle_148 rfl rfl rfl ?_
  refine zr_iload_n (i := 1) (x := a1) (n := 150) d_Md_writeCycle_149 rfl rfl rfl ?_
  refine zr_callV (M' := M_Md_emit) (mc' := 0) (ms' := 0) (av := [.int a1]) (rest := []) (n := 153) d_Md_writeCycle_150 rfl w_Md_139 w_Md_139k gg_27 rfl rfl rfl rfl rfl rfl (Nat.le_refl _) (Nat.le_refl _) ?_
  exact l1
theorem s_Md_writeCycle_153 {d : Nat} {Q : zm_Q} {S : zm_S} {a1 a2 a3 : Int32} (j1 : Nat) (o1 : zm_ix a1 j1 12)
    (l1 : zc M_Md_emitPair (d + 2) [.ref 27, .int (S 34 j1)] S (fun v G' S' => zm_WP M_Md_writeCycle none (d + 3) 0 0 Q 163 [some (.ref 27), some (.int a1), some (.int a2), some (.int a3), none] (zm_ps v []) G' S' 0 0)) :
    zw M_Md_writeCycle (d + 3) Q 153 [some (.ref 27), some (.int a1), some (.int a2), some (.int a3), none] [] S := by
  refine zr_aload_n (i := 0) (x := 27) (n := 154) d_Md_writeCycle_153 rfl rfl rfl ?_
  refine zr_aload_n (i := 0) (x := 27) (n := 155) d_Md_writeCycle_154 rfl rfl rfl ?_
  refine zr_getr (n := 158) d_Md_writeCycle_155 rfl f_Md_28 gg_27 rfl ?_
  refine zr_iload_n (i := 1) (x := a1) (n := 159) d_Md_writeCycle_158 rfl rfl rfl ?_
  refine zr_iaload j1 (n := 160) d_Md_writeCycle_159 rfl gg_34 o1 ?_
  refine zr_callV (M' := M_Md_emitPair) (mc' := 0) (ms' := 0) (av := [.int (S 34 j1)]) (rest := []) (n := 163) d_Md_writeCycle_160 rfl w_Md_142 w_Md_142k gg_27 rfl rfl rfl rfl rfl rfl (Nat.le_refl _) (Nat.le_refl _) ?_
  exact l1
theorem s_Md_writeCycle_163 {d : Nat} {Q : zm_Q} {S : zm_S} {a1 a2 a3 : Int32}
    (l1 : zc M_Md_emit (d + 2) [.ref 27, .int (a2 / 8)] S (fun v G' S' => zm_WP M_Md_writeCycle none (d + 3) 0 0 Q 171 [some (.ref 27), some (.int a1), some (.int a2), some (.int a3), none] (zm_ps v []) G' S' 0 0)) :
    zw M_Md_writeCycle (d + 3) Q 163 [some (.ref 27), some (.int a1), some (.int a2), some (.int a3), none] [] S := by
  refine zr_aload_n (i := 0) (x := 27) (n := 164) d_Md_writeCycle_163 rfl rfl rfl ?_
  refine zr_iload_n (i := 2) (x := a2) (n := 165) d_Md_writeCycle_164 rfl rfl rfl ?_
  refine zr_bipush (v := 8) (n := 167) d_Md_writeCycle_165 rfl (by decide) ?_
  refine zr_idiv (n := 168) d_Md_writeCycle_167 rfl (by decide) ?_
  refine zr_callV (M' := M_Md_emit) (mc' := 0) (ms' := 0) (av := [.int (a2 / 8)]) (rest := []) (n := 171) d_Md_writeCycle_168 rfl w_Md_139 w_Md_139k gg_27 rfl rfl rfl rfl rfl rfl (Nat.le_refl _) (Nat.le_refl _) ?_
  exact l1
theorem s_Md_writeCycle_171 {d : Nat} {Q : zm_Q} {S : zm_S} {a1 a2 a3 : Int32}
    (l1 : zw M_Md_writeCycle (d + 3) Q 174 [some (.ref 27), some (.int a1), some (.int a2), some (.int a3), some (.int 0)] [] S) :
    zw M_Md_writeCycle (d + 3) Q 171 [some (.ref 27), some (.int a1), some (.int a2), some (.int a3), none] [] S := by
  refine zr_iconst (v := 0) (n := 172) d_Md_writeCycle_171 rfl (by decide) ?_
  refine zr_istore (i := 4) (L' := [some (.ref 27), some (.int a1), some (.int a2), some (.int a3), some (.int 0)]) (n := 174) d_Md_writeCycle_172 rfl rfl rfl ?_
  exact l1
theorem s_Md_writeCycle_174 {d : Nat} {Q : zm_Q} {S : zm_S} {a1 a2 a3 a4 : Int32} (j1 : Nat) (o1 : ¬ a3 ≤ a4 → zm_ix (((48 * a1) + a2) + a4) j1 576)
    (l1 : a3 ≤ a4 → zc M_Md_emitCheck (d + 2) [.ref 27] S (fun v G' S' => zm_WP M_Md_writeCycle none (d + 3) 0 0 Q 208 [some (.ref 27), some (.int a1), some (.int a2), none, none] (zm_ps v []) G' S' 0 0))
    (l2 : ¬ a3 ≤ a4 → zc M_Md_emit (d + 2) [.ref 27, .int (S 35 j1)] S (fun v G' S' => zm_WP M_Md_writeCycle none (d + 3) 0 0 Q 198 [some (.ref 27), some (.int a1), some (.int a2), some (.int a3), some (.int a4)] (zm_ps v []) G' S' 0 0)) :
    zw M_Md_writeCycle (d + 3) Q 174 [some (.ref 27), some (.int a1), some (.int a2), some (.int a3), some (.int a4)] [] S := by
  refine zr_iload (i := 4) (x := a4) (n := 176) d_Md_writeCycle_174 rfl rfl ?_
  refine zr_iload_n (i := 3) (x := a3) (n := 177) d_Md_writeCycle_176 rfl rfl rfl ?_
  refine zr_icmp_ge (tgt := 204) (n := 180) d_Md_writeCycle_177 rfl (by decide) (fun h1 => ?_) (fun h1 => ?_)
  · refine zr_aload_n (i := 0) (x := 27) (n := 205) d_Md_writeCycle_204 rfl rfl rfl ?_
    refine zr_weak (zm_LE.cons (zm_LE.cons (zm_LE.cons (zm_LE.skip (zm_LE.skip zm_LE.nil))))) ?_
    refine zr_callV (M' := M_Md_emitCheck) (mc' := 0) (ms' := 0) (av := []) (rest := []) (n := 208) d_Md_writeCycle_205 rfl w_Md_145 w_Md_145k gg_27 rfl rfl rfl rfl rfl rfl (Nat.le_refl _) (Nat.le_refl _) ?_
    exact (l1 h1)
  · refine zr_aload_n (i := 0) (x := 27) (n := 181) d_Md_writeCycle_180 rfl rfl rfl ?_
    refine zr_aload_n (i := 0) (x := 27) (n := 182) d_Md_writeCycle_181 rfl rfl rfl ?_
    refine zr_getr (n := 185) d_Md_writeCycle_182 rfl f_Md_31 gg_27 rfl ?_
    refine zr_bipush (v := 48) (n := 187) d_Md_writeCycle_185 rfl (by decide) ?_
    refine zr_iload_n (i := 1) (x := a1) (n := 188) d_Md_writeCycle_187 rfl rfl rfl ?_
    refine zr_imul (n := 189) d_Md_writeCycle_188 rfl ?_
    refine zr_iload_n (i := 2) (x := a2) (n := 190) d_Md_writeCycle_189 rfl rfl rfl ?_
    refine zr_iadd (n := 191) d_Md_writeCycle_190 rfl ?_
    refine zr_iload (i := 4) (x := a4) (n := 193) d_Md_writeCycle_191 rfl rfl ?_
    refine zr_iadd (n := 194) d_Md_writeCycle_193 rfl ?_
    refine zr_iaload j1 (n := 195) d_Md_writeCycle_194 rfl gg_35 (o1 h1) ?_
    refine zr_callV (M' := M_Md_emit) (mc' := 0) (ms' := 0) (av := [.int (S 35 j1)]) (rest := []) (n := 198) d_Md_writeCycle_195 rfl w_Md_139 w_Md_139k gg_27 rfl rfl rfl rfl rfl rfl (Nat.le_refl _) (Nat.le_refl _) ?_
    exact (l2 h1)
theorem s_Md_writeCycle_208 {d : Nat} {Q : zm_Q} {S : zm_S} {a1 a2 : Int32}
    (l1 : zw M_Md_writeCycle (d + 3) Q 97 [some (.ref 27), some (.int a1), some (.int (a2 + 8)), none, none] [] S) :
    zw M_Md_writeCycle (d + 3) Q 208 [some (.ref 27), some (.int a1), some (.int a2), none, none] [] S := by
  refine zr_iinc (i := 2) (w := 8) (x := a2) (L' := [some (.ref 27), some (.int a1), some (.int (a2 + 8)), none, none]) (n := 211) d_Md_writeCycle_208 rfl (by decide) rfl rfl ?_
  refine zr_goto (tgt := 97) d_Md_writeCycle_211 (by decide) ?_
  exact l1
theorem s_Md_writeCycle_198 {d : Nat} {Q : zm_Q} {S : zm_S} {a1 a2 a3 a4 : Int32}
    (l1 : zw M_Md_writeCycle (d + 3) Q 174 [some (.ref 27), some (.int a1), some (.int a2), some (.int a3), some (.int (a4 + 1))] [] S) :
    zw M_Md_writeCycle (d + 3) Q 198 [some (.ref 27), some (.int a1), some (.int a2), some (.int a3), some (.int a4)] [] S := by
  refine zr_iinc (i := 4) (w := 1) (x := a4) (L' := [some (.ref 27), some (.int a1), some (.int a2), some (.int a3), some (.int (a4 + 1))]) (n := 201) d_Md_writeCycle_198 rfl (by decide) rfl rfl ?_
  refine zr_goto (tgt := 174) d_Md_writeCycle_201 (by decide) ?_
  exact l1
theorem e_Md_writeCycle {d : Nat} {Q : zm_Q} {S : zm_S} (h : zw M_Md_writeCycle (d + 3) Q 0 [some (.ref 27), none, none, none, none] [] S) : zc M_Md_writeCycle (d + 3) [.ref 27] S Q := zm_CC_intro (by decide) rfl rfl h
theorem s_Md_rest_0 {d : Nat} {Q : zm_Q} {S : zm_S} (j1 : Nat) (o1 : ¬ (S 27 19) = 0 → zm_ix ((S 27 19) - 1) j1 700)
    (l1 : (((S 27 19) = 0) ∨ (¬ (S 27 19) = 0 ∧ ¬ (S 41 j1) = 0)) → Q (some 0) GG S)
    (l2 : ¬ (S 27 19) = 0 → (S 41 j1) = 0 → zw M_Md_rest d Q 28 [some (.ref 27), some (.int (S 27 19))] [] S) :
    zw M_Md_rest d Q 0 [some (.ref 27), none] [] S := by
  refine zr_aload_n (i := 0) (x := 27) (n := 1) d_Md_rest_0 rfl rfl rfl ?_
  refine zr_geti (n := 4) d_Md_rest_1 rfl f_Md_126 gg_27 rfl ?_
  refine zr_if_eq (tgt := 21) (n := 7) d_Md_rest_4 rfl (by decide) (fun h1 => ?_) (fun h1 => ?_)
  · refine zr_iconst (v := 0) (n := 22) d_Md_rest_21 rfl (by decide) ?_
    exact zr_ireturn d_Md_rest_22 rfl rfl (Nat.le_refl _) (Nat.le_refl _) (l1 (Or.inl h1))
  · refine zr_aload_n (i := 0) (x := 27) (n := 8) d_Md_rest_7 rfl rfl rfl ?_
    refine zr_getr (n := 11) d_Md_rest_8 rfl f_Md_49 gg_27 rfl ?_
    refine zr_aload_n (i := 0) (x := 27) (n := 12) d_Md_rest_11 rfl rfl rfl ?_
    refine zr_geti (n := 15) d_Md_rest_12 rfl f_Md_126 gg_27 rfl ?_
    refine zr_iconst (v := 1) (n := 16) d_Md_rest_15 rfl (by decide) ?_
    refine zr_isub (n := 17) d_Md_rest_16 rfl ?_
    refine zr_baload j1 (n := 18) d_Md_rest_17 rfl gg_41 (o1 h1) ?_
    refine zr_if_eq (tgt := 23) (n := 21) d_Md_rest_18 rfl (by decide) (fun h2 => ?_) (fun h2 => ?_)
    · refine zr_aload_n (i := 0) (x := 27) (n := 24) d_Md_rest_23 rfl rfl rfl ?_
      refine zr_geti (n := 27) d_Md_rest_24 rfl f_Md_126 gg_27 rfl ?_
      refine zr_istore_n (i := 1) (L' := [some (.ref 27), some (.int (S 27 19))]) (n := 28) d_Md_rest_27 rfl rfl rfl rfl ?_
      exact (l2 h1 h2)
    · refine zr_iconst (v := 0) (n := 22) d_Md_rest_21 rfl (by decide) ?_
      exact zr_ireturn d_Md_rest_22 rfl rfl (Nat.le_refl _) (Nat.le_refl _) (l1 (Or.inr ⟨h1, h2⟩))
theorem s_Md_rest_28 {d : Nat} {Q : zm_Q} {S : zm_S} {a1 : Int32} (j1 : Nat) (o1 : zm_ix a1 j1 700)
    (l1 : ¬ (S 41 j1) = 0 → Q (some ((a1 + 1) - (S 27 19))) GG S)
    (l2 : (S 41 j1) = 0 → zw M_Md_rest d Q 28 [some (.ref 27), some (.int (a1 + 1))] [] S) :
    zw M_Md_rest d Q 28 [some (.ref 27), some (.int a1)] [] S := by
  refine zr_aload_n (i := 0) (x := 27) (n := 29) d_Md_rest_28 rfl rfl rfl ?_
  refine zr_getr (n := 32) d_Md_rest_29 rfl f_Md_49 gg_27 rfl ?_
  refine zr_iload_n (i := 1) (x := a1) (n := 33) d_Md_rest_32 rfl rfl rfl ?_
  refine zr_baload j1 (n := 34) d_Md_rest_33 rfl gg_41 o1 ?_
  refine zr_if_ne (tgt := 43) (n := 37) d_Md_rest_34 rfl (by decide) (fun h1 => ?_) (fun h1 => ?_)
  · refine zr_iload_n (i := 1) (x := a1) (n := 44) d_Md_rest_43 rfl rfl rfl ?_
    refine zr_iconst (v := 1) (n := 45) d_Md_rest_44 rfl (by decide) ?_
    refine zr_iadd (n := 46) d_Md_rest_45 rfl ?_
    refine zr_aload_n (i := 0) (x := 27) (n := 47) d_Md_rest_46 rfl rfl rfl ?_
    refine zr_geti (n := 50) d_Md_rest_47 rfl f_Md_126 gg_27 rfl ?_
    refine zr_isub (n := 51) d_Md_rest_50 rfl ?_
    exact zr_ireturn d_Md_rest_51 rfl rfl (Nat.le_refl _) (Nat.le_refl _) (l1 h1)
  · refine zr_iinc (i := 1) (w := 1) (x := a1) (L' := [some (.ref 27), some (.int (a1 + 1))]) (n := 40) d_Md_rest_37 rfl (by decide) rfl rfl ?_
    refine zr_goto (tgt := 28) d_Md_rest_40 (by decide) ?_
    exact (l2 h1)
theorem e_Md_rest {d : Nat} {Q : zm_Q} {S : zm_S} (h : zw M_Md_rest d Q 0 [some (.ref 27), none] [] S) : zc M_Md_rest d [.ref 27] S Q := zm_CC_intro (by decide) rfl rfl h
theorem s_Md_sent_0 {d : Nat} {Q : zm_Q} {S : zm_S}
    (l1 : zc M_Md_build (d + 1) [.ref 27] S (fun v G' S' => zm_WP M_Md_sent none (d + 2) 0 0 Q 4 [some (.ref 27), none] (zm_ps v []) G' S' 0 0)) :
    zw M_Md_sent (d + 2) Q 0 [some (.ref 27), none] [] S := by
  refine zr_aload_n (i := 0) (x := 27) (n := 1) d_Md_sent_0 rfl rfl rfl ?_
  refine zr_callV (M' := M_Md_build) (mc' := 0) (ms' := 0) (av := []) (rest := []) (n := 4) d_Md_sent_1 rfl w_Md_156 w_Md_156k gg_27 rfl rfl rfl rfl rfl rfl (Nat.le_refl _) (Nat.le_refl _) ?_
  exact l1
theorem s_Md_sent_4 {d : Nat} {Q : zm_Q} {S : zm_S} {r : Int32}
    (l1 : ¬ ((S 27 19) + r) = (S 27 17) → Q none GG (zm_up (zm_up S 27 19 ((S 27 19) + r)) 27 20 (((S 27 20) + 1) - ((S 27 20) + 1) / 16 * 16)))
    (l2 : ((S 27 19) + r) = (S 27 17) → Q none GG (zm_up (zm_up S 27 19 0) 27 20 (((S 27 20) + 1) - ((S 27 20) + 1) / 16 * 16))) :
    zw M_Md_sent (d + 2) Q 4 [some (.ref 27), none] [.int r] S := by
  refine zr_istore_n (i := 1) (L' := [some (.ref 27), some (.int r)]) (n := 5) d_Md_sent_4 rfl rfl rfl rfl ?_
  refine zr_aload_n (i := 0) (x := 27) (n := 6) d_Md_sent_5 rfl rfl rfl ?_
  refine zr_aload_n (i := 0) (x := 27) (n := 7) d_Md_sent_6 rfl rfl rfl ?_
  refine zr_geti (n := 10) d_Md_sent_7 rfl f_Md_126 gg_27 rfl ?_
  refine zr_iload_n (i := 1) (x := r) (n := 11) d_Md_sent_10 rfl rfl rfl ?_
  refine zr_iadd (n := 12) d_Md_sent_11 rfl ?_
  refine zr_aload_n (i := 0) (x := 27) (n := 13) d_Md_sent_12 rfl rfl rfl ?_
  refine zr_geti (n := 16) d_Md_sent_13 rfl f_Md_130 gg_27 rfl ?_
  refine zr_icmp_ne (tgt := 23) (n := 19) d_Md_sent_16 rfl (by decide) (fun h1 => ?_) (fun h1 => ?_)
  · refine zr_aload_n (i := 0) (x := 27) (n := 24) d_Md_sent_23 rfl rfl rfl ?_
    refine zr_geti (n := 27) d_Md_sent_24 rfl f_Md_126 gg_27 rfl ?_
    refine zr_iload_n (i := 1) (x := r) (n := 28) d_Md_sent_27 rfl rfl rfl ?_
    refine zr_iadd (n := 29) d_Md_sent_28 rfl ?_
    refine zr_puti (n := 32) d_Md_sent_29 rfl f_Md_126 tw_Md rfl rfl rfl rfl gg_27 rfl ?_
    refine zr_aload_n (i := 0) (x := 27) (n := 33) d_Md_sent_32 rfl rfl rfl ?_
    refine zr_aload_n (i := 0) (x := 27) (n := 34) d_Md_sent_33 rfl rfl rfl ?_
    refine zr_geti (n := 37) d_Md_sent_34 rfl f_Md_153 gg_27 rfl ?_
    refine zr_iconst (v := 1) (n := 38) d_Md_sent_37 rfl (by decide) ?_
    refine zr_iadd (n := 39) d_Md_sent_38 rfl ?_
    refine zr_bipush (v := 16) (n := 41) d_Md_sent_39 rfl (by decide) ?_
    refine zr_irem (n := 42) d_Md_sent_41 rfl (by decide) ?_
    refine zr_puti (n := 45) d_Md_sent_42 rfl f_Md_153 tw_Md rfl rfl rfl rfl gg_27 rfl ?_
    exact zr_return d_Md_sent_45 rfl (Nat.le_refl _) (Nat.le_refl _) (l1 h1)
  · refine zr_iconst (v := 0) (n := 20) d_Md_sent_19 rfl (by decide) ?_
    refine zr_goto (tgt := 29) d_Md_sent_20 (by decide) ?_
    refine zr_puti (n := 32) d_Md_sent_29 rfl f_Md_126 tw_Md rfl rfl rfl rfl gg_27 rfl ?_
    refine zr_aload_n (i := 0) (x := 27) (n := 33) d_Md_sent_32 rfl rfl rfl ?_
    refine zr_aload_n (i := 0) (x := 27) (n := 34) d_Md_sent_33 rfl rfl rfl ?_
    refine zr_geti (n := 37) d_Md_sent_34 rfl f_Md_153 gg_27 rfl ?_
    refine zr_iconst (v := 1) (n := 38) d_Md_sent_37 rfl (by decide) ?_
    refine zr_iadd (n := 39) d_Md_sent_38 rfl ?_
    refine zr_bipush (v := 16) (n := 41) d_Md_sent_39 rfl (by decide) ?_
    refine zr_irem (n := 42) d_Md_sent_41 rfl (by decide) ?_
    refine zr_puti (n := 45) d_Md_sent_42 rfl f_Md_153 tw_Md rfl rfl rfl rfl gg_27 rfl ?_
    exact zr_return d_Md_sent_45 rfl (Nat.le_refl _) (Nat.le_refl _) (l2 h1)
theorem e_Md_sent {d : Nat} {Q : zm_Q} {S : zm_S} (h : zw M_Md_sent (d + 2) Q 0 [some (.ref 27), none] [] S) : zc M_Md_sent (d + 2) [.ref 27] S Q := zm_CC_intro (by decide) rfl rfl h
theorem s_Md_peek_0 {d : Nat} {Q : zm_Q} {S : zm_S} {a1 : Int32}
    (l1 : (((S 27 5) = 0) ∨ (¬ (S 27 5) = 0 ∧ ((a1 < 0) ∨ (¬ a1 < 0 ∧ 15 < a1)))) → Q (some (-2)) GG S)
    (l2 : ¬ (S 27 5) = 0 → ¬ a1 < 0 → ¬ 15 < a1 → zc M_Md_build (d + 1) [.ref 27] S (fun v G' S' => zm_WP M_Md_peek none (d + 2) 0 0 Q 24 [some (.ref 27), some (.int a1), none] (zm_ps v []) G' S' 0 0)) :
    zw M_Md_peek (d + 2) Q 0 [some (.ref 27), some (.int a1), none] [] S := by
  refine zr_aload_n (i := 0) (x := 27) (n := 1) d_Md_peek_0 rfl rfl rfl ?_
  refine zr_geti (n := 4) d_Md_peek_1 rfl f_Md_109 gg_27 rfl ?_
  refine zr_if_eq (tgt := 17) (n := 7) d_Md_peek_4 rfl (by decide) (fun h1 => ?_) (fun h1 => ?_)
  · refine zr_bipush (v := (-2)) (n := 19) d_Md_peek_17 rfl (by decide) ?_
    exact zr_ireturn d_Md_peek_19 rfl rfl (Nat.le_refl _) (Nat.le_refl _) (l1 (Or.inl h1))
  · refine zr_iload_n (i := 1) (x := a1) (n := 8) d_Md_peek_7 rfl rfl rfl ?_
    refine zr_iconst (v := 0) (n := 9) d_Md_peek_8 rfl (by decide) ?_
    refine zr_bipush (v := 15) (n := 11) d_Md_peek_9 rfl (by decide) ?_
    refine zr_callS (M' := M_Md_within) (mc' := 0) (ms' := 0) (av := [.int a1, .int 0, .int 15]) (rest := []) (n := 14) d_Md_peek_11 rfl w_Md_84 w_Md_84k rfl rfl rfl rfl rfl (Nat.le_refl _) (Nat.le_refl _) ?_
    refine c_Md_within (a0 := a1) (a1 := 0) (a2 := 15) (fun h2 => ?_) (fun h3 h4 => ?_)
    · refine zr_if_ne (tgt := 20) (n := 17) d_Md_peek_14 rfl (by decide) (fun h => absurd h (by decide)) (fun _ => ?_)
      refine zr_bipush (v := (-2)) (n := 19) d_Md_peek_17 rfl (by decide) ?_
      exact zr_ireturn d_Md_peek_19 rfl rfl (Nat.le_refl _) (Nat.le_refl _) (l1 (Or.inr ⟨h1, h2⟩))
    · refine zr_if_ne (tgt := 20) (n := 17) d_Md_peek_14 rfl (by decide) (fun _ => ?_) (fun h => absurd h (by decide))
      refine zr_aload_n (i := 0) (x := 27) (n := 21) d_Md_peek_20 rfl rfl rfl ?_
      refine zr_callV (M' := M_Md_build) (mc' := 0) (ms' := 0) (av := []) (rest := []) (n := 24) d_Md_peek_21 rfl w_Md_156 w_Md_156k gg_27 rfl rfl rfl rfl rfl rfl (Nat.le_refl _) (Nat.le_refl _) ?_
      exact (l2 h1 h3 h4)
theorem s_Md_peek_24 {d : Nat} {Q : zm_Q} {S : zm_S} {a1 r : Int32} (j1 : Nat) (o1 : 0 ≤ r → zm_ix a1 j1 16)
    (l1 : 0 ≤ r → Q (some (S 42 j1)) GG S)
    (l2 : ¬ 0 ≤ r → Q (some (-2)) GG S) :
    zw M_Md_peek (d + 2) Q 24 [some (.ref 27), some (.int a1), none] [.int r] S := by
  refine zr_istore_n (i := 2) (L' := [some (.ref 27), some (.int a1), some (.int r)]) (n := 25) d_Md_peek_24 rfl rfl rfl rfl ?_
  refine zr_iload_n (i := 2) (x := r) (n := 26) d_Md_peek_25 rfl rfl rfl ?_
  refine zr_if_ge (tgt := 34) (n := 29) d_Md_peek_26 rfl (by decide) (fun h1 => ?_) (fun h1 => ?_)
  · refine zr_aload_n (i := 0) (x := 27) (n := 35) d_Md_peek_34 rfl rfl rfl ?_
    refine zr_getr (n := 38) d_Md_peek_35 rfl f_Md_53 gg_27 rfl ?_
    refine zr_iload_n (i := 1) (x := a1) (n := 39) d_Md_peek_38 rfl rfl rfl ?_
    refine zr_iaload j1 (n := 40) d_Md_peek_39 rfl gg_42 (o1 h1) ?_
    exact zr_ireturn d_Md_peek_40 rfl rfl (Nat.le_refl _) (Nat.le_refl _) (l1 h1)
  · refine zr_bipush (v := (-2)) (n := 31) d_Md_peek_29 rfl (by decide) ?_
    refine zr_goto (tgt := 40) d_Md_peek_31 (by decide) ?_
    exact zr_ireturn d_Md_peek_40 rfl rfl (Nat.le_refl _) (Nat.le_refl _) (l2 h1)
theorem e_Md_peek {d : Nat} {Q : zm_Q} {S : zm_S} {a1 : Int32} (h : zw M_Md_peek (d + 2) Q 0 [some (.ref 27), some (.int a1), none] [] S) : zc M_Md_peek (d + 2) [.ref 27, .int a1] S Q := zm_CC_intro (by decide) rfl rfl h
theorem s_Md_pass_0 {d : Nat} {Q : zm_Q} {S : zm_S} {a1 a2 : Int32}
    (l1 : ((a1 < 0) ∨ (¬ a1 < 0 ∧ 64 < a1)) → Q (some (-1)) GG S)
    (l2 : ¬ a1 < 0 → ¬ 64 < a1 → ¬ (S 27 5) = 0 → zw M_Md_pass (d + 6) Q 24 [some (.ref 27), some (.int a1), some (.int a2), some (.int 0)] [] S)
    (l3 : ¬ a1 < 0 → ¬ 64 < a1 → (S 27 5) = 0 → Q (some (-2)) GG S) :
    zw M_Md_pass (d + 6) Q 0 [some (.ref 27), some (.int a1), some (.int a2), none] [] S := by
  refine zr_iload_n (i := 1) (x := a1) (n := 1) d_Md_pass_0 rfl rfl rfl ?_
  refine zr_iconst (v := 0) (n := 2) d_Md_pass_1 rfl (by decide) ?_
  refine zr_bipush (v := 64) (n := 4) d_Md_pass_2 rfl (by decide) ?_
  refine zr_callS (M' := M_Md_within) (mc' := 0) (ms' := 0) (av := [.int a1, .int 0, .int 64]) (rest := []) (n := 7) d_Md_pass_4 rfl w_Md_84 w_Md_84k rfl rfl rfl rfl rfl (Nat.le_refl _) (Nat.le_refl _) ?_
  refine c_Md_within (a0 := a1) (a1 := 0) (a2 := 64) (fun h1 => ?_) (fun h2 h3 => ?_)
  · refine zr_if_ne (tgt := 12) (n := 10) d_Md_pass_7 rfl (by decide) (fun h => absurd h (by decide)) (fun _ => ?_)
    refine zr_iconst (v := (-1)) (n := 11) d_Md_pass_10 rfl (by decide) ?_
    exact zr_ireturn d_Md_pass_11 rfl rfl (Nat.le_refl _) (Nat.le_refl _) (l1 h1)
  · refine zr_if_ne (tgt := 12) (n := 10) d_Md_pass_7 rfl (by decide) (fun _ => ?_) (fun h => absurd h (by decide))
    refine zr_aload_n (i := 0) (x := 27) (n := 13) d_Md_pass_12 rfl rfl rfl ?_
    refine zr_geti (n := 16) d_Md_pass_13 rfl f_Md_109 gg_27 rfl ?_
    refine zr_if_ne (tgt := 22) (n := 19) d_Md_pass_16 rfl (by decide) (fun h4 => ?_) (fun h4 => ?_)
    · refine zr_iconst (v := 0) (n := 23) d_Md_pass_22 rfl (by decide) ?_
      refine zr_istore_n (i := 3) (L' := [some (.ref 27), some (.int a1), some (.int a2), some (.int 0)]) (n := 24) d_Md_pass_23 rfl rfl rfl rfl ?_
      exact (l2 h2 h3 h4)
    · refine zr_bipush (v := (-2)) (n := 21) d_Md_pass_19 rfl (by decide) ?_
      exact zr_ireturn d_Md_pass_21 rfl rfl (Nat.le_refl _) (Nat.le_refl _) (l3 h2 h3 h4)
theorem s_Md_pass_24 {d : Nat} {Q : zm_Q} {S : zm_S} {a1 a2 a3 : Int32}
    (l1 : a1 ≤ a3 → Q (some a1) GG S)
    (l2 : ¬ a1 ≤ a3 → zc M_Md_sent (d + 5) [.ref 27] S (fun v G' S' => zm_WP M_Md_pass none (d + 6) 0 0 Q 33 [some (.ref 27), some (.int a1), some (.int a2), some (.int a3)] (zm_ps v []) G' S' 0 0)) :
    zw M_Md_pass (d + 6) Q 24 [some (.ref 27), some (.int a1), some (.int a2), some (.int a3)] [] S := by
  refine zr_iload_n (i := 3) (x := a3) (n := 25) d_Md_pass_24 rfl rfl rfl ?_
  refine zr_iload_n (i := 1) (x := a1) (n := 26) d_Md_pass_25 rfl rfl rfl ?_
  refine zr_icmp_ge (tgt := 47) (n := 29) d_Md_pass_26 rfl (by decide) (fun h1 => ?_) (fun h1 => ?_)
  · refine zr_iload_n (i := 1) (x := a1) (n := 48) d_Md_pass_47 rfl rfl rfl ?_
    exact zr_ireturn d_Md_pass_48 rfl rfl (Nat.le_refl _) (Nat.le_refl _) (l1 h1)
  · refine zr_aload_n (i := 0) (x := 27) (n := 30) d_Md_pass_29 rfl rfl rfl ?_
    refine zr_callV (M' := M_Md_sent) (mc' := 0) (ms' := 0) (av := []) (rest := []) (n := 33) d_Md_pass_30 rfl w_Md_159 w_Md_159k gg_27 rfl rfl rfl rfl rfl rfl (Nat.le_refl _) (Nat.le_refl _) ?_
    exact (l2 h1)
theorem s_Md_pass_33 {d : Nat} {Q : zm_Q} {S : zm_S} {a1 a2 a3 : Int32}
    (l1 : a2 = 0 → zw M_Md_pass (d + 6) Q 24 [some (.ref 27), some (.int a1), some (.int a2), some (.int (a3 + 1))] [] S)
    (l2 : ¬ a2 = 0 → zc M_Md_receive (d + 5) [.ref 27] S (fun v G' S' => zm_WP M_Md_pass none (d + 6) 0 0 Q 41 [some (.ref 27), some (.int a1), some (.int a2), some (.int a3)] (zm_ps v []) G' S' 0 0)) :
    zw M_Md_pass (d + 6) Q 33 [some (.ref 27), some (.int a1), some (.int a2), some (.int a3)] [] S := by
  refine zr_iload_n (i := 2) (x := a2) (n := 34) d_Md_pass_33 rfl rfl rfl ?_
  refine zr_if_eq (tgt := 41) (n := 37) d_Md_pass_34 rfl (by decide) (fun h1 => ?_) (fun h1 => ?_)
  · refine zr_iinc (i := 3) (w := 1) (x := a3) (L' := [some (.ref 27), some (.int a1), some (.int a2), some (.int (a3 + 1))]) (n := 44) d_Md_pass_41 rfl (by decide) rfl rfl ?_
    refine zr_goto (tgt := 24) d_Md_pass_44 (by decide) ?_
    exact (l1 h1)
  · refine zr_aload_n (i := 0) (x := 27) (n := 38) d_Md_pass_37 rfl rfl rfl ?_
    refine zr_callV (M' := M_Md_receive) (mc' := 0) (ms' := 0) (av := []) (rest := []) (n := 41) d_Md_pass_38 rfl w_Md_162 w_Md_162k gg_27 rfl rfl rfl rfl rfl rfl (Nat.le_refl _) (Nat.le_refl _) ?_
    exact (l2 h1)
theorem s_Md_pass_41 {d : Nat} {Q : zm_Q} {S : zm_S} {a1 a2 a3 : Int32}
    (l1 : zw M_Md_pass (d + 6) Q 24 [some (.ref 27), some (.int a1), some (.int a2), some (.int (a3 + 1))] [] S) :
    zw M_Md_pass (d + 6) Q 41 [some (.ref 27), some (.int a1), some (.int a2), some (.int a3)] [] S := by
  refine zr_iinc (i := 3) (w := 1) (x := a3) (L' := [some (.ref 27), some (.int a1), some (.int a2), some (.int (a3 + 1))]) (n := 44) d_Md_pass_41 rfl (by decide) rfl rfl ?_
  refine zr_goto (tgt := 24) d_Md_pass_44 (by decide) ?_
  exact l1
theorem e_Md_pass {d : Nat} {Q : zm_Q} {S : zm_S} {a1 a2 : Int32} (h : zw M_Md_pass (d + 6) Q 0 [some (.ref 27), some (.int a1), some (.int a2), none] [] S) : zc M_Md_pass (d + 6) [.ref 27, .int a1, .int a2] S Q := zm_CC_intro (by decide) rfl rfl h
theorem s_Md_send_0 {d : Nat} {Q : zm_Q} {S : zm_S} {a1 : Int32}
    (l1 : zc M_Md_pass (d + 6) [.ref 27, .int a1, .int 1] S (fun v G' S' => zm_WP M_Md_send none (d + 7) 0 0 Q 6 [none, none] (zm_ps v []) G' S' 0 0)) :
    zw M_Md_send (d + 7) Q 0 [some (.ref 27), some (.int a1)] [] S := by
  refine zr_aload_n (i := 0) (x := 27) (n := 1) d_Md_send_0 rfl rfl rfl ?_
  refine zr_iload_n (i := 1) (x := a1) (n := 2) d_Md_send_1 rfl rfl rfl ?_
  refine zr_iconst (v := 1) (n := 3) d_Md_send_2 rfl (by decide) ?_
  refine zr_weak (zm_LE.skip (zm_LE.skip zm_LE.nil)) ?_
  refine zr_callV (M' := M_Md_pass) (mc' := 0) (ms' := 0) (av := [.int a1, .int 1]) (rest := []) (n := 6) d_Md_send_3 rfl w_Md_165 w_Md_165k gg_27 rfl rfl rfl rfl rfl rfl (Nat.le_refl _) (Nat.le_refl _) ?_
  exact l1
theorem s_Md_send_6 {d : Nat} {Q : zm_Q} {S : zm_S} {r : Int32}
    (l1 : Q (some r) GG S) :
    zw M_Md_send (d + 7) Q 6 [none, none] [.int r] S := by
  exact zr_ireturn d_Md_send_6 rfl rfl (Nat.le_refl _) (Nat.le_refl _) l1
theorem e_Md_send {d : Nat} {Q : zm_Q} {S : zm_S} {a1 : Int32} (h : zw M_Md_send (d + 7) Q 0 [some (.ref 27), some (.int a1)] [] S) : zc M_Md_send (d + 7) [.ref 27, .int a1] S Q := zm_CC_intro (by decide) rfl rfl h
theorem s_Md_lose_0 {d : Nat} {Q : zm_Q} {S : zm_S} {a1 : Int32}
    (l1 : zc M_Md_pass (d + 6) [.ref 27, .int a1, .int 0] S (fun v G' S' => zm_WP M_Md_lose none (d + 7) 0 0 Q 6 [none, none] (zm_ps v []) G' S' 0 0)) :
    zw M_Md_lose (d + 7) Q 0 [some (.ref 27), some (.int a1)] [] S := by
  refine zr_aload_n (i := 0) (x := 27) (n := 1) d_Md_lose_0 rfl rfl rfl ?_
  refine zr_iload_n (i := 1) (x := a1) (n := 2) d_Md_lose_1 rfl rfl rfl ?_
  refine zr_iconst (v := 0) (n := 3) d_Md_lose_2 rfl (by decide) ?_
  refine zr_weak (zm_LE.skip (zm_LE.skip zm_LE.nil)) ?_
  refine zr_callV (M' := M_Md_pass) (mc' := 0) (ms' := 0) (av := [.int a1, .int 0]) (rest := []) (n := 6) d_Md_lose_3 rfl w_Md_165 w_Md_165k gg_27 rfl rfl rfl rfl rfl rfl (Nat.le_refl _) (Nat.le_refl _) ?_
  exact l1
theorem s_Md_lose_6 {d : Nat} {Q : zm_Q} {S : zm_S} {r : Int32}
    (l1 : Q (some r) GG S) :
    zw M_Md_lose (d + 7) Q 6 [none, none] [.int r] S := by
  exact zr_ireturn d_Md_lose_6 rfl rfl (Nat.le_refl _) (Nat.le_refl _) l1
theorem e_Md_lose {d : Nat} {Q : zm_Q} {S : zm_S} {a1 : Int32} (h : zw M_Md_lose (d + 7) Q 0 [some (.ref 27), some (.int a1)] [] S) : zc M_Md_lose (d + 7) [.ref 27, .int a1] S Q := zm_CC_intro (by decide) rfl rfl h
theorem s_Md_spoil_0 {d : Nat} {Q : zm_Q} {S : zm_S} {a1 a2 : Int32}
    (l1 : ((((a1 < 0) ∨ (¬ a1 < 0 ∧ 15 < a1))) ∨ (¬ a1 < 0 ∧ ¬ 15 < a1 ∧ ((a2 < 0) ∨ (¬ a2 < 0 ∧ 255 < a2)))) → Q (some (-1)) GG S)
    (l2 : ¬ a1 < 0 → ¬ 15 < a1 → ¬ a2 < 0 → ¬ 255 < a2 → ¬ (S 27 5) = 0 → zc M_Md_sent (d + 5) [.ref 27] S (fun v G' S' => zm_WP M_Md_spoil none (d + 6) 0 0 Q 37 [some (.ref 27), some (.int a1), some (.int a2)] (zm_ps v []) G' S' 0 0))
    (l3 : ¬ a1 < 0 → ¬ 15 < a1 → ¬ a2 < 0 → ¬ 255 < a2 → (S 27 5) = 0 → Q (some (-2)) GG S) :
    zw M_Md_spoil (d + 6) Q 0 [some (.ref 27), some (.int a1), some (.int a2)] [] S := by
  refine zr_iload_n (i := 1) (x := a1) (n := 1) d_Md_spoil_0 rfl rfl rfl ?_
  refine zr_iconst (v := 0) (n := 2) d_Md_spoil_1 rfl (by decide) ?_
  refine zr_bipush (v := 15) (n := 4) d_Md_spoil_2 rfl (by decide) ?_
  refine zr_callS (M' := M_Md_within) (mc' := 0) (ms' := 0) (av := [.int a1, .int 0, .int 15]) (rest := []) (n := 7) d_Md_spoil_4 rfl w_Md_84 w_Md_84k rfl rfl rfl rfl rfl (Nat.le_refl _) (Nat.le_refl _) ?_
  refine c_Md_within (a0 := a1) (a1 := 0) (a2 := 15) (fun h1 => ?_) (fun h2 h3 => ?_)
  · refine zr_if_eq (tgt := 21) (n := 10) d_Md_spoil_7 rfl (by decide) (fun _ => ?_) (fun h => absurd h (by decide))
    refine zr_iconst (v := (-1)) (n := 22) d_Md_spoil_21 rfl (by decide) ?_
    exact zr_ireturn d_Md_spoil_22 rfl rfl (Nat.le_refl _) (Nat.le_refl _) (l1 (Or.inl h1))
  · refine zr_if_eq (tgt := 21) (n := 10) d_Md_spoil_7 rfl (by decide) (fun h => absurd h (by decide)) (fun _ => ?_)
    refine zr_iload_n (i := 2) (x := a2) (n := 11) d_Md_spoil_10 rfl rfl rfl ?_
    refine zr_iconst (v := 0) (n := 12) d_Md_spoil_11 rfl (by decide) ?_
    refine zr_sipush (v := 255) (n := 15) d_Md_spoil_12 rfl (by decide) ?_
    refine zr_callS (M' := M_Md_within) (mc' := 0) (ms' := 0) (av := [.int a2, .int 0, .int 255]) (rest := []) (n := 18) d_Md_spoil_15 rfl w_Md_84 w_Md_84k rfl rfl rfl rfl rfl (Nat.le_refl _) (Nat.le_refl _) ?_
    refine c_Md_within (a0 := a2) (a1 := 0) (a2 := 255) (fun h4 => ?_) (fun h5 h6 => ?_)
    · refine zr_if_ne (tgt := 23) (n := 21) d_Md_spoil_18 rfl (by decide) (fun h => absurd h (by decide)) (fun _ => ?_)
      refine zr_iconst (v := (-1)) (n := 22) d_Md_spoil_21 rfl (by decide) ?_
      exact zr_ireturn d_Md_spoil_22 rfl rfl (Nat.le_refl _) (Nat.le_refl _) (l1 (Or.inr ⟨h2, h3, h4⟩))
    · refine zr_if_ne (tgt := 23) (n := 21) d_Md_spoil_18 rfl (by decide) (fun _ => ?_) (fun h => absurd h (by decide))
      refine zr_aload_n (i := 0) (x := 27) (n := 24) d_Md_spoil_23 rfl rfl rfl ?_
      refine zr_geti (n := 27) d_Md_spoil_24 rfl f_Md_109 gg_27 rfl ?_
      refine zr_if_ne (tgt := 33) (n := 30) d_Md_spoil_27 rfl (by decide) (fun h7 => ?_) (fun h7 => ?_)
      · refine zr_aload_n (i := 0) (x := 27) (n := 34) d_Md_spoil_33 rfl rfl rfl ?_
        refine zr_callV (M' := M_Md_sent) (mc' := 0) (ms' := 0) (av := []) (rest := []) (n := 37) d_Md_spoil_34 rfl w_Md_159 w_Md_159k gg_27 rfl rfl rfl rfl rfl rfl (Nat.le_refl _) (Nat.le_refl _) ?_
        exact (l2 h2 h3 h5 h6 h7)
      · refine zr_bipush (v := (-2)) (n := 32) d_Md_spoil_30 rfl (by decide) ?_
        exact zr_ireturn d_Md_spoil_32 rfl rfl (Nat.le_refl _) (Nat.le_refl _) (l3 h2 h3 h5 h6 h7)
theorem s_Md_spoil_37 {d : Nat} {Q : zm_Q} {S : zm_S} {a1 a2 : Int32} (j1 : Nat) (o1 : zm_ix a1 j1 16)
    (l1 : zc M_Md_receive (d + 5) [.ref 27] (zm_up S 42 j1 ((S 42 j1) ^^^ a2)) (fun v G' S' => zm_WP M_Md_spoil none (d + 6) 0 0 Q 55 [none, none, none] (zm_ps v []) G' S' 0 0)) :
    zw M_Md_spoil (d + 6) Q 37 [some (.ref 27), some (.int a1), some (.int a2)] [] S := by
  refine zr_aload_n (i := 0) (x := 27) (n := 38) d_Md_spoil_37 rfl rfl rfl ?_
  refine zr_getr (n := 41) d_Md_spoil_38 rfl f_Md_53 gg_27 rfl ?_
  refine zr_iload_n (i := 1) (x := a1) (n := 42) d_Md_spoil_41 rfl rfl rfl ?_
  refine zr_aload_n (i := 0) (x := 27) (n := 43) d_Md_spoil_42 rfl rfl rfl ?_
  refine zr_getr (n := 46) d_Md_spoil_43 rfl f_Md_53 gg_27 rfl ?_
  refine zr_iload_n (i := 1) (x := a1) (n := 47) d_Md_spoil_46 rfl rfl rfl ?_
  refine zr_iaload j1 (n := 48) d_Md_spoil_47 rfl gg_42 o1 ?_
  refine zr_iload_n (i := 2) (x := a2) (n := 49) d_Md_spoil_48 rfl rfl rfl ?_
  refine zr_ixor (n := 50) d_Md_spoil_49 rfl ?_
  refine zr_iastore j1 (n := 51) d_Md_spoil_50 rfl gg_42 o1 ?_
  refine zr_aload_n (i := 0) (x := 27) (n := 52) d_Md_spoil_51 rfl rfl rfl ?_
  refine zr_weak (zm_LE.skip (zm_LE.skip (zm_LE.skip zm_LE.nil))) ?_
  refine zr_callV (M' := M_Md_receive) (mc' := 0) (ms' := 0) (av := []) (rest := []) (n := 55) d_Md_spoil_52 rfl w_Md_162 w_Md_162k gg_27 rfl rfl rfl rfl rfl rfl (Nat.le_refl _) (Nat.le_refl _) ?_
  exact l1
theorem s_Md_spoil_55 {d : Nat} {Q : zm_Q} {S : zm_S}
    (l1 : Q (some 1) GG S) :
    zw M_Md_spoil (d + 6) Q 55 [none, none, none] [] S := by
  refine zr_iconst (v := 1) (n := 56) d_Md_spoil_55 rfl (by decide) ?_
  exact zr_ireturn d_Md_spoil_56 rfl rfl (Nat.le_refl _) (Nat.le_refl _) l1
theorem e_Md_spoil {d : Nat} {Q : zm_Q} {S : zm_S} {a1 a2 : Int32} (h : zw M_Md_spoil (d + 6) Q 0 [some (.ref 27), some (.int a1), some (.int a2)] [] S) : zc M_Md_spoil (d + 6) [.ref 27, .int a1, .int a2] S Q := zm_CC_intro (by decide) rfl rfl h
theorem s_Md_retune_0 {d : Nat} {Q : zm_Q} {S : zm_S}
    (l1 : zw M_Md_retune (d + 1) Q 17 [some (.ref 27), some (.int 0)] [] (zm_up (zm_up (zm_up S 27 22 (-1)) 27 23 (-1)) 27 29 0)) :
    zw M_Md_retune (d + 1) Q 0 [some (.ref 27), none] [] S := by
  refine zr_aload_n (i := 0) (x := 27) (n := 1) d_Md_retune_0 rfl rfl rfl ?_
  refine zr_iconst (v := (-1)) (n := 2) d_Md_retune_1 rfl (by decide) ?_
  refine zr_puti (n := 5) d_Md_retune_2 rfl f_Md_56 tw_Md rfl rfl rfl rfl gg_27 rfl ?_
  refine zr_aload_n (i := 0) (x := 27) (n := 6) d_Md_retune_5 rfl rfl rfl ?_
  refine zr_iconst (v := (-1)) (n := 7) d_Md_retune_6 rfl (by decide) ?_
  refine zr_puti (n := 10) d_Md_retune_7 rfl f_Md_60 tw_Md rfl rfl rfl rfl gg_27 rfl ?_
  refine zr_aload_n (i := 0) (x := 27) (n := 11) d_Md_retune_10 rfl rfl rfl ?_
  refine zr_iconst (v := 0) (n := 12) d_Md_retune_11 rfl (by decide) ?_
  refine zr_puti (n := 15) d_Md_retune_12 rfl f_Md_169 tw_Md rfl rfl (by decide) (by decide) gg_27 rfl ?_
  refine zr_iconst (v := 0) (n := 16) d_Md_retune_15 rfl (by decide) ?_
  refine zr_istore_n (i := 1) (L' := [some (.ref 27), some (.int 0)]) (n := 17) d_Md_retune_16 rfl rfl rfl rfl ?_
  exact l1
theorem s_Md_retune_17 {d : Nat} {Q : zm_Q} {S : zm_S} {a1 : Int32} (j1 : Nat) (o1 : ¬ 12 ≤ a1 → zm_ix a1 j1 12)
    (l1 : 12 ≤ a1 → zw M_Md_retune (d + 1) Q 43 [some (.ref 27), some (.int 0)] [] S)
    (l2 : ¬ 12 ≤ a1 → zc M_Md_nothing d [.ref 27, .int a1] (zm_up S 43 j1 0) (fun v G' S' => zm_WP M_Md_retune none (d + 1) 0 0 Q 35 [some (.ref 27), some (.int a1)] (zm_ps v []) G' S' 0 0)) :
    zw M_Md_retune (d + 1) Q 17 [some (.ref 27), some (.int a1)] [] S := by
  refine zr_iload_n (i := 1) (x := a1) (n := 18) d_Md_retune_17 rfl rfl rfl ?_
  refine zr_bipush (v := 12) (n := 20) d_Md_retune_18 rfl (by decide) ?_
  refine zr_icmp_ge (tgt := 41) (n := 23) d_Md_retune_20 rfl (by decide) (fun h1 => ?_) (fun h1 => ?_)
  · refine zr_iconst (v := 0) (n := 42) d_Md_retune_41 rfl (by decide) ?_
    refine zr_istore_n (i := 1) (L' := [some (.ref 27), some (.int 0)]) (n := 43) d_Md_retune_42 rfl rfl rfl rfl ?_
    exact (l1 h1)
  · refine zr_aload_n (i := 0) (x := 27) (n := 24) d_Md_retune_23 rfl rfl rfl ?_
    refine zr_getr (n := 27) d_Md_retune_24 rfl f_Md_63 gg_27 rfl ?_
    refine zr_iload_n (i := 1) (x := a1) (n := 28) d_Md_retune_27 rfl rfl rfl ?_
    refine zr_iconst (v := 0) (n := 29) d_Md_retune_28 rfl (by decide) ?_
    refine zr_bastoreV (n := 30) j1 d_Md_retune_29 rfl gg_43 (o1 h1) (by decide) ?_
    refine zr_aload_n (i := 0) (x := 27) (n := 31) d_Md_retune_30 rfl rfl rfl ?_
    refine zr_iload_n (i := 1) (x := a1) (n := 32) d_Md_retune_31 rfl rfl rfl ?_
    refine zr_callV (M' := M_Md_nothing) (mc' := 0) (ms' := 0) (av := [.int a1]) (rest := []) (n := 35) d_Md_retune_32 rfl w_Md_173 w_Md_173k gg_27 rfl rfl rfl rfl rfl rfl (Nat.le_refl _) (Nat.le_refl _) ?_
    exact (l2 h1)
theorem s_Md_retune_43 {d : Nat} {Q : zm_Q} {S : zm_S} {a1 : Int32} (j1 : Nat) (o1 : ¬ 6 ≤ a1 → zm_ix a1 j1 6)
    (l1 : 6 ≤ a1 → Q none GG S)
    (l2 : ¬ 6 ≤ a1 → zw M_Md_retune (d + 1) Q 43 [some (.ref 27), some (.int (a1 + 1))] [] (zm_up S 49 j1 0)) :
    zw M_Md_retune (d + 1) Q 43 [some (.ref 27), some (.int a1)] [] S := by
  refine zr_iload_n (i := 1) (x := a1) (n := 44) d_Md_retune_43 rfl rfl rfl ?_
  refine zr_bipush (v := 6) (n := 46) d_Md_retune_44 rfl (by decide) ?_
  refine zr_icmp_ge (tgt := 62) (n := 49) d_Md_retune_46 rfl (by decide) (fun h1 => ?_) (fun h1 => ?_)
  · exact zr_return d_Md_retune_62 rfl (Nat.le_refl _) (Nat.le_refl _) (l1 h1)
  · refine zr_aload_n (i := 0) (x := 27) (n := 50) d_Md_retune_49 rfl rfl rfl ?_
    refine zr_getr (n := 53) d_Md_retune_50 rfl f_Md_81 gg_27 rfl ?_
    refine zr_iload_n (i := 1) (x := a1) (n := 54) d_Md_retune_53 rfl rfl rfl ?_
    refine zr_iconst (v := 0) (n := 55) d_Md_retune_54 rfl (by decide) ?_
    refine zr_iastore j1 (n := 56) d_Md_retune_55 rfl gg_49 (o1 h1) ?_
    refine zr_iinc (i := 1) (w := 1) (x := a1) (L' := [some (.ref 27), some (.int (a1 + 1))]) (n := 59) d_Md_retune_56 rfl (by decide) rfl rfl ?_
    refine zr_goto (tgt := 43) d_Md_retune_59 (by decide) ?_
    exact (l2 h1)
theorem s_Md_retune_35 {d : Nat} {Q : zm_Q} {S : zm_S} {a1 : Int32}
    (l1 : zw M_Md_retune (d + 1) Q 17 [some (.ref 27), some (.int (a1 + 1))] [] S) :
    zw M_Md_retune (d + 1) Q 35 [some (.ref 27), some (.int a1)] [] S := by
  refine zr_iinc (i := 1) (w := 1) (x := a1) (L' := [some (.ref 27), some (.int (a1 + 1))]) (n := 38) d_Md_retune_35 rfl (by decide) rfl rfl ?_
  refine zr_goto (tgt := 17) d_Md_retune_38 (by decide) ?_
  exact l1
theorem e_Md_retune {d : Nat} {Q : zm_Q} {S : zm_S} (h : zw M_Md_retune (d + 1) Q 0 [some (.ref 27), none] [] S) : zc M_Md_retune (d + 1) [.ref 27] S Q := zm_CC_intro (by decide) rfl rfl h
theorem s_Md_nothing_0 {d : Nat} {Q : zm_Q} {S : zm_S} {a1 : Int32}
    (l1 : zw M_Md_nothing d Q 5 [some (.ref 27), some (.int a1), some (.int (6 * a1))] [] S) :
    zw M_Md_nothing d Q 0 [some (.ref 27), some (.int a1), none] [] S := by
  refine zr_bipush (v := 6) (n := 2) d_Md_nothing_0 rfl (by decide) ?_
  refine zr_iload_n (i := 1) (x := a1) (n := 3) d_Md_nothing_2 rfl rfl rfl ?_
  refine zr_imul (n := 4) d_Md_nothing_3 rfl ?_
  refine zr_istore_n (i := 2) (L' := [some (.ref 27), some (.int a1), some (.int (6 * a1))]) (n := 5) d_Md_nothing_4 rfl rfl rfl rfl ?_
  exact l1
theorem s_Md_nothing_5 {d : Nat} {Q : zm_Q} {S : zm_S} {a1 a2 : Int32} (j1 : Nat) (o1 : ¬ ((6 * a1) + 6) ≤ a2 → zm_ix a2 j1 72)
    (l1 : ((6 * a1) + 6) ≤ a2 → Q none GG S)
    (l2 : ¬ ((6 * a1) + 6) ≤ a2 → zw M_Md_nothing d Q 5 [some (.ref 27), some (.int a1), some (.int (a2 + 1))] [] (zm_up S 46 j1 0)) :
    zw M_Md_nothing d Q 5 [some (.ref 27), some (.int a1), some (.int a2)] [] S := by
  refine zr_iload_n (i := 2) (x := a2) (n := 6) d_Md_nothing_5 rfl rfl rfl ?_
  refine zr_bipush (v := 6) (n := 8) d_Md_nothing_6 rfl (by decide) ?_
  refine zr_iload_n (i := 1) (x := a1) (n := 9) d_Md_nothing_8 rfl rfl rfl ?_
  refine zr_imul (n := 10) d_Md_nothing_9 rfl ?_
  refine zr_bipush (v := 6) (n := 12) d_Md_nothing_10 rfl (by decide) ?_
  refine zr_iadd (n := 13) d_Md_nothing_12 rfl ?_
  refine zr_icmp_ge (tgt := 29) (n := 16) d_Md_nothing_13 rfl (by decide) (fun h1 => ?_) (fun h1 => ?_)
  · exact zr_return d_Md_nothing_29 rfl (Nat.le_refl _) (Nat.le_refl _) (l1 h1)
  · refine zr_aload_n (i := 0) (x := 27) (n := 17) d_Md_nothing_16 rfl rfl rfl ?_
    refine zr_getr (n := 20) d_Md_nothing_17 rfl f_Md_72 gg_27 rfl ?_
    refine zr_iload_n (i := 2) (x := a2) (n := 21) d_Md_nothing_20 rfl rfl rfl ?_
    refine zr_iconst (v := 0) (n := 22) d_Md_nothing_21 rfl (by decide) ?_
    refine zr_bastoreV (n := 23) j1 d_Md_nothing_22 rfl gg_46 (o1 h1) (by decide) ?_
    refine zr_iinc (i := 2) (w := 1) (x := a2) (L' := [some (.ref 27), some (.int a1), some (.int (a2 + 1))]) (n := 26) d_Md_nothing_23 rfl (by decide) rfl rfl ?_
    refine zr_goto (tgt := 5) d_Md_nothing_26 (by decide) ?_
    exact (l2 h1)
theorem e_Md_nothing {d : Nat} {Q : zm_Q} {S : zm_S} {a1 : Int32} (h : zw M_Md_nothing d Q 0 [some (.ref 27), some (.int a1), none] [] S) : zc M_Md_nothing d [.ref 27, .int a1] S Q := zm_CC_intro (by decide) rfl rfl h
theorem s_Md_throwAway_0 {d : Nat} {Q : zm_Q} {S : zm_S}
    (l1 : (S 27 29) = 0 → Q none GG (zm_up (zm_up S 49 4 (S 49 4)) 27 29 0))
    (l2 : ¬ (S 27 29) = 0 → Q none GG (zm_up (zm_up S 49 4 ((S 49 4) + 1)) 27 29 0)) :
    zw M_Md_throwAway d Q 0 [some (.ref 27)] [] S := by
  refine zr_aload_n (i := 0) (x := 27) (n := 1) d_Md_throwAway_0 rfl rfl rfl ?_
  refine zr_getr (n := 4) d_Md_throwAway_1 rfl f_Md_81 gg_27 rfl ?_
  refine zr_iconst (v := 4) (n := 5) d_Md_throwAway_4 rfl (by decide) ?_
  refine zr_aload_n (i := 0) (x := 27) (n := 6) d_Md_throwAway_5 rfl rfl rfl ?_
  refine zr_geti (n := 9) d_Md_throwAway_6 rfl f_Md_169 gg_27 rfl ?_
  refine zr_if_eq (tgt := 23) (n := 12) d_Md_throwAway_9 rfl (by decide) (fun h1 => ?_) (fun h1 => ?_)
  · refine zr_aload_n (i := 0) (x := 27) (n := 24) d_Md_throwAway_23 rfl rfl rfl ?_
    refine zr_getr (n := 27) d_Md_throwAway_24 rfl f_Md_81 gg_27 rfl ?_
    refine zr_iconst (v := 4) (n := 28) d_Md_throwAway_27 rfl (by decide) ?_
    refine zr_iaload 4 (n := 29) d_Md_throwAway_28 rfl gg_49 (zm_ixN (Nat.le_of_ble_eq_true rfl) (Nat.le_of_ble_eq_true rfl)) ?_
    refine zr_iastore 4 (n := 30) d_Md_throwAway_29 rfl gg_49 (zm_ixN (Nat.le_of_ble_eq_true rfl) (Nat.le_of_ble_eq_true rfl)) ?_
    refine zr_aload_n (i := 0) (x := 27) (n := 31) d_Md_throwAway_30 rfl rfl rfl ?_
    refine zr_iconst (v := 0) (n := 32) d_Md_throwAway_31 rfl (by decide) ?_
    refine zr_puti (n := 35) d_Md_throwAway_32 rfl f_Md_169 tw_Md rfl rfl (by decide) (by decide) gg_27 rfl ?_
    exact zr_return d_Md_throwAway_35 rfl (Nat.le_refl _) (Nat.le_refl _) (l1 h1)
  · refine zr_aload_n (i := 0) (x := 27) (n := 13) d_Md_throwAway_12 rfl rfl rfl ?_
    refine zr_getr (n := 16) d_Md_throwAway_13 rfl f_Md_81 gg_27 rfl ?_
    refine zr_iconst (v := 4) (n := 17) d_Md_throwAway_16 rfl (by decide) ?_
    refine zr_iaload 4 (n := 18) d_Md_throwAway_17 rfl gg_49 (zm_ixN (Nat.le_of_ble_eq_true rfl) (Nat.le_of_ble_eq_true rfl)) ?_
    refine zr_iconst (v := 1) (n := 19) d_Md_throwAway_18 rfl (by decide) ?_
    refine zr_iadd (n := 20) d_Md_throwAway_19 rfl ?_
    refine zr_goto (tgt := 29) d_Md_throwAway_20 (by decide) ?_
    refine zr_iastore 4 (n := 30) d_Md_throwAway_29 rfl gg_49 (zm_ixN (Nat.le_of_ble_eq_true rfl) (Nat.le_of_ble_eq_true rfl)) ?_
    refine zr_aload_n (i := 0) (x := 27) (n := 31) d_Md_throwAway_30 rfl rfl rfl ?_
    refine zr_iconst (v := 0) (n := 32) d_Md_throwAway_31 rfl (by decide) ?_
    refine zr_puti (n := 35) d_Md_throwAway_32 rfl f_Md_169 tw_Md rfl rfl (by decide) (by decide) gg_27 rfl ?_
    exact zr_return d_Md_throwAway_35 rfl (Nat.le_refl _) (Nat.le_refl _) (l2 h1)
theorem e_Md_throwAway {d : Nat} {Q : zm_Q} {S : zm_S} (h : zw M_Md_throwAway d Q 0 [some (.ref 27)] [] S) : zc M_Md_throwAway d [.ref 27] S Q := zm_CC_intro (by decide) rfl rfl h
theorem s_Md_receive_0 {d : Nat} {Q : zm_Q} {S : zm_S}
    (l1 : ((¬ (S 42 0) = 71) ∨ ((S 42 0) = 71 ∧ ¬ ((S 42 1) &&& 176) = 0)) → Q none GG (zm_up S 49 5 ((S 49 5) + 1)))
    (l2 : (((S 42 0) = 71 ∧ ((S 42 1) &&& 176) = 0 ∧ (S 27 23) < 0 ∧ ¬ ((S 42 1) &&& 64) = 0 ∧ (S 42 2) ≤ 13) ∨ ((S 42 0) = 71 ∧ ((S 42 1) &&& 176) = 0 ∧ ¬ (S 27 23) < 0 ∧ ((S 42 1) &&& 15) = (((S 27 23) + 1) - ((S 27 23) + 1) / 16 * 16) ∧ ¬ ((S 42 1) &&& 64) = 0 ∧ (S 42 2) ≤ 13)) → zc M_Md_more (d + 4) [.ref 27, .int 3, .int (3 + (S 42 2))] (zm_up S 27 23 ((S 42 1) &&& 15)) (fun v G' S' => zm_WP M_Md_receive none (d + 5) 0 0 Q 112 [some (.ref 27), none, none, some (.int (S 42 2)), none] (zm_ps v []) G' S' 0 0))
    (l3 : (((S 42 0) = 71 ∧ ((S 42 1) &&& 176) = 0 ∧ (S 27 23) < 0 ∧ ¬ ((S 42 1) &&& 64) = 0 ∧ ¬ (S 42 2) ≤ 13) ∨ ((S 42 0) = 71 ∧ ((S 42 1) &&& 176) = 0 ∧ ¬ (S 27 23) < 0 ∧ ((S 42 1) &&& 15) = (((S 27 23) + 1) - ((S 27 23) + 1) / 16 * 16) ∧ ¬ ((S 42 1) &&& 64) = 0 ∧ ¬ (S 42 2) ≤ 13)) → zc M_Md_throwAway (d + 4) [.ref 27] (zm_up S 27 23 ((S 42 1) &&& 15)) (fun v G' S' => zm_WP M_Md_receive none (d + 5) 0 0 Q 103 [none, none, none, none, none] (zm_ps v []) G' S' 0 0))
    (l4 : (((S 42 0) = 71 ∧ ((S 42 1) &&& 176) = 0 ∧ (S 27 23) < 0 ∧ ((S 42 1) &&& 64) = 0) ∨ ((S 42 0) = 71 ∧ ((S 42 1) &&& 176) = 0 ∧ ¬ (S 27 23) < 0 ∧ ((S 42 1) &&& 15) = (((S 27 23) + 1) - ((S 27 23) + 1) / 16 * 16) ∧ ((S 42 1) &&& 64) = 0)) → zc M_Md_more (d + 4) [.ref 27, .int 2, .int 16] (zm_up S 27 23 ((S 42 1) &&& 15)) (fun v G' S' => zm_WP M_Md_receive none (d + 5) 0 0 Q 85 [none, none, none, none, none] (zm_ps v []) G' S' 0 0))
    (l5 : (S 42 0) = 71 → ((S 42 1) &&& 176) = 0 → ¬ (S 27 23) < 0 → ¬ ((S 42 1) &&& 15) = (((S 27 23) + 1) - ((S 27 23) + 1) / 16 * 16) → zc M_Md_throwAway (d + 4) [.ref 27] S (fun v G' S' => zm_WP M_Md_receive none (d + 5) 0 0 Q 66 [some (.ref 27), some (.int (S 42 1)), some (.int ((S 42 1) &&& 15)), none, none] (zm_ps v []) G' S' 0 0)) :
    zw M_Md_receive (d + 5) Q 0 [some (.ref 27), none, none, none, none] [] S := by
  refine zr_aload_n (i := 0) (x := 27) (n := 1) d_Md_receive_0 rfl rfl rfl ?_
  refine zr_getr (n := 4) d_Md_receive_1 rfl f_Md_53 gg_27 rfl ?_
  refine zr_iconst (v := 1) (n := 5) d_Md_receive_4 rfl (by decide) ?_
  refine zr_iaload 1 (n := 6) d_Md_receive_5 rfl gg_42 (zm_ixN (Nat.le_of_ble_eq_true rfl) (Nat.le_of_ble_eq_true rfl)) ?_
  refine zr_istore_n (i := 1) (L' := [some (.ref 27), some (.int (S 42 1)), none, none, none]) (n := 7) d_Md_receive_6 rfl rfl rfl rfl ?_
  refine zr_aload_n (i := 0) (x := 27) (n := 8) d_Md_receive_7 rfl rfl rfl ?_
  refine zr_getr (n := 11) d_Md_receive_8 rfl f_Md_53 gg_27 rfl ?_
  refine zr_iconst (v := 0) (n := 12) d_Md_receive_11 rfl (by decide) ?_
  refine zr_iaload 0 (n := 13) d_Md_receive_12 rfl gg_42 (zm_ixN (Nat.le_of_ble_eq_true rfl) (Nat.le_of_ble_eq_true rfl)) ?_
  refine zr_bipush (v := 71) (n := 15) d_Md_receive_13 rfl (by decide) ?_
  refine zr_icmp_ne (tgt := 26) (n := 18) d_Md_receive_15 rfl (by decide) (fun h1 => ?_) (fun h1 => ?_)
  · refine zr_aload_n (i := 0) (x := 27) (n := 27) d_Md_receive_26 rfl rfl rfl ?_
    refine zr_getr (n := 30) d_Md_receive_27 rfl f_Md_81 gg_27 rfl ?_
    refine zr_iconst (v := 5) (n := 31) d_Md_receive_30 rfl (by decide) ?_
    refine zr_dup2 (n := 32) d_Md_receive_31 rfl rfl rfl ?_
    refine zr_iaload 5 (n := 33) d_Md_receive_32 rfl gg_49 (zm_ixN (Nat.le_of_ble_eq_true rfl) (Nat.le_of_ble_eq_true rfl)) ?_
    refine zr_iconst (v := 1) (n := 34) d_Md_receive_33 rfl (by decide) ?_
    refine zr_iadd (n := 35) d_Md_receive_34 rfl ?_
    refine zr_iastore 5 (n := 36) d_Md_receive_35 rfl gg_49 (zm_ixN (Nat.le_of_ble_eq_true rfl) (Nat.le_of_ble_eq_true rfl)) ?_
    exact zr_return d_Md_receive_36 rfl (Nat.le_refl _) (Nat.le_refl _) (l1 (Or.inl h1))
  · refine zr_iload_n (i := 1) (x := (S 42 1)) (n := 19) d_Md_receive_18 rfl rfl rfl ?_
    refine zr_sipush (v := 176) (n := 22) d_Md_receive_19 rfl (by decide) ?_
    refine zr_iand (n := 23) d_Md_receive_22 rfl ?_
    refine zr_if_eq (tgt := 37) (n := 26) d_Md_receive_23 rfl (by decide) (fun h2 => ?_) (fun h2 => ?_)
    · refine zr_iload_n (i := 1) (x := (S 42 1)) (n := 38) d_Md_receive_37 rfl rfl rfl ?_
      refine zr_bipush (v := 15) (n := 40) d_Md_receive_38 rfl (by decide) ?_
      refine zr_iand (n := 41) d_Md_receive_40 rfl ?_
      refine zr_istore_n (i := 2) (L' := [some (.ref 27), some (.int (S 42 1)), some (.int ((S 42 1) &&& 15)), none, none]) (n := 42) d_Md_receive_41 rfl rfl rfl rfl ?_
      refine zr_aload_n (i := 0) (x := 27) (n := 43) d_Md_receive_42 rfl rfl rfl ?_
      refine zr_geti (n := 46) d_Md_receive_43 rfl f_Md_60 gg_27 rfl ?_
      refine zr_if_lt (tgt := 66) (n := 49) d_Md_receive_46 rfl (by decide) (fun h3 => ?_) (fun h3 => ?_)
      · refine zr_aload_n (i := 0) (x := 27) (n := 67) d_Md_receive_66 rfl rfl rfl ?_
        refine zr_iload_n (i := 2) (x := ((S 42 1) &&& 15)) (n := 68) d_Md_receive_67 rfl rfl rfl ?_
        refine zr_puti (n := 71) d_Md_receive_68 rfl f_Md_60 tw_Md rfl rfl rfl rfl gg_27 rfl ?_
        refine zr_iload_n (i := 1) (x := (S 42 1)) (n := 72) d_Md_receive_71 rfl rfl rfl ?_
        refine zr_bipush (v := 64) (n := 74) d_Md_receive_72 rfl (by decide) ?_
        refine zr_iand (n := 75) d_Md_receive_74 rfl ?_
        refine zr_if_ne (tgt := 86) (n := 78) d_Md_receive_75 rfl (by decide) (fun h4 => ?_) (fun h4 => ?_)
        · refine zr_aload_n (i := 0) (x := 27) (n := 87) d_Md_receive_86 rfl rfl rfl ?_
          refine zr_getr (n := 90) d_Md_receive_87 rfl f_Md_53 gg_27 rfl ?_
          refine zr_iconst (v := 2) (n := 91) d_Md_receive_90 rfl (by decide) ?_
          refine zr_iaload 2 (n := 92) d_Md_receive_91 rfl gg_42 (zm_ixN (Nat.le_of_ble_eq_true rfl) (Nat.le_of_ble_eq_true rfl)) ?_
          refine zr_istore_n (i := 3) (L' := [some (.ref 27), some (.int (S 42 1)), some (.int ((S 42 1) &&& 15)), some (.int (S 42 2)), none]) (n := 93) d_Md_receive_92 rfl rfl rfl rfl ?_
          refine zr_iload_n (i := 3) (x := (S 42 2)) (n := 94) d_Md_receive_93 rfl rfl rfl ?_
          refine zr_bipush (v := 13) (n := 96) d_Md_receive_94 rfl (by decide) ?_
          refine zr_icmp_le (tgt := 104) (n := 99) d_Md_receive_96 rfl (by decide) (fun h5 => ?_) (fun h5 => ?_)
          · refine zr_aload_n (i := 0) (x := 27) (n := 105) d_Md_receive_104 rfl rfl rfl ?_
            refine zr_iconst (v := 3) (n := 106) d_Md_receive_105 rfl (by decide) ?_
            refine zr_iconst (v := 3) (n := 107) d_Md_receive_106 rfl (by decide) ?_
            refine zr_iload_n (i := 3) (x := (S 42 2)) (n := 108) d_Md_receive_107 rfl rfl rfl ?_
            refine zr_iadd (n := 109) d_Md_receive_108 rfl ?_
            refine zr_weak (zm_LE.cons (zm_LE.skip (zm_LE.skip (zm_LE.cons (zm_LE.cons zm_LE.nil))))) ?_
            refine zr_callV (M' := M_Md_more) (mc' := 0) (ms' := 0) (av := [.int 3, .int (3 + (S 42 2))]) (rest := []) (n := 112) d_Md_receive_109 rfl w_Md_179 w_Md_179k gg_27 rfl rfl rfl rfl rfl rfl (Nat.le_refl _) (Nat.le_refl _) ?_
            exact (l2 (Or.inl ⟨h1, h2, h3, h4, h5⟩))
          · refine zr_aload_n (i := 0) (x := 27) (n := 100) d_Md_receive_99 rfl rfl rfl ?_
            refine zr_weak (zm_LE.skip (zm_LE.skip (zm_LE.skip (zm_LE.skip (zm_LE.cons zm_LE.nil))))) ?_
            refine zr_callV (M' := M_Md_throwAway) (mc' := 0) (ms' := 0) (av := []) (rest := []) (n := 103) d_Md_receive_100 rfl w_Md_176 w_Md_176k gg_27 rfl rfl rfl rfl rfl rfl (Nat.le_refl _) (Nat.le_refl _) ?_
            exact (l3 (Or.inl ⟨h1, h2, h3, h4, h5⟩))
        · refine zr_aload_n (i := 0) (x := 27) (n := 79) d_Md_receive_78 rfl rfl rfl ?_
          refine zr_iconst (v := 2) (n := 80) d_Md_receive_79 rfl (by decide) ?_
          refine zr_bipush (v := 16) (n := 82) d_Md_receive_80 rfl (by decide) ?_
          refine zr_weak (zm_LE.skip (zm_LE.skip (zm_LE.skip (zm_LE.cons (zm_LE.cons zm_LE.nil))))) ?_
          refine zr_callV (M' := M_Md_more) (mc' := 0) (ms' := 0) (av := [.int 2, .int 16]) (rest := []) (n := 85) d_Md_receive_82 rfl w_Md_179 w_Md_179k gg_27 rfl rfl rfl rfl rfl rfl (Nat.le_refl _) (Nat.le_refl _) ?_
          exact (l4 (Or.inl ⟨h1, h2, h3, h4⟩))
      · refine zr_iload_n (i := 2) (x := ((S 42 1) &&& 15)) (n := 50) d_Md_receive_49 rfl rfl rfl ?_
        refine zr_aload_n (i := 0) (x := 27) (n := 51) d_Md_receive_50 rfl rfl rfl ?_
        refine zr_geti (n := 54) d_Md_receive_51 rfl f_Md_60 gg_27 rfl ?_
        refine zr_iconst (v := 1) (n := 55) d_Md_receive_54 rfl (by decide) ?_
        refine zr_iadd (n := 56) d_Md_receive_55 rfl ?_
        refine zr_bipush (v := 16) (n := 58) d_Md_receive_56 rfl (by decide) ?_
        refine zr_irem (n := 59) d_Md_receive_58 rfl (by decide) ?_
        refine zr_icmp_eq (tgt := 66) (n := 62) d_Md_receive_59 rfl (by decide) (fun h6 => ?_) (fun h6 => ?_)
        · refine zr_aload_n (i := 0) (x := 27) (n := 67) d_Md_receive_66 rfl rfl rfl ?_
          refine zr_iload_n (i := 2) (x := ((S 42 1) &&& 15)) (n := 68) d_Md_receive_67 rfl rfl rfl ?_
          refine zr_puti (n := 71) d_Md_receive_68 rfl f_Md_60 tw_Md rfl rfl rfl rfl gg_27 rfl ?_
          refine zr_iload_n (i := 1) (x := (S 42 1)) (n := 72) d_Md_receive_71 rfl rfl rfl ?_
          refine zr_bipush (v := 64) (n := 74) d_Md_receive_72 rfl (by decide) ?_
          refine zr_iand (n := 75) d_Md_receive_74 rfl ?_
          refine zr_if_ne (tgt := 86) (n := 78) d_Md_receive_75 rfl (by decide) (fun h7 => ?_) (fun h7 => ?_)
          · refine zr_aload_n (i := 0) (x := 27) (n := 87) d_Md_receive_86 rfl rfl rfl ?_
            refine zr_getr (n := 90) d_Md_receive_87 rfl f_Md_53 gg_27 rfl ?_
            refine zr_iconst (v := 2) (n := 91) d_Md_receive_90 rfl (by decide) ?_
            refine zr_iaload 2 (n := 92) d_Md_receive_91 rfl gg_42 (zm_ixN (Nat.le_of_ble_eq_true rfl) (Nat.le_of_ble_eq_true rfl)) ?_
            refine zr_istore_n (i := 3) (L' := [some (.ref 27), some (.int (S 42 1)), some (.int ((S 42 1) &&& 15)), some (.int (S 42 2)), none]) (n := 93) d_Md_receive_92 rfl rfl rfl rfl ?_
            refine zr_iload_n (i := 3) (x := (S 42 2)) (n := 94) d_Md_receive_93 rfl rfl rfl ?_
            refine zr_bipush (v := 13) (n := 96) d_Md_receive_94 rfl (by decide) ?_
            refine zr_icmp_le (tgt := 104) (n := 99) d_Md_receive_96 rfl (by decide) (fun h8 => ?_) (fun h8 => ?_)
            · refine zr_aload_n (i := 0) (x := 27) (n := 105) d_Md_receive_104 rfl rfl rfl ?_
              refine zr_iconst (v := 3) (n := 106) d_Md_receive_105 rfl (by decide) ?_
              refine zr_iconst (v := 3) (n := 107) d_Md_receive_106 rfl (by decide) ?_
              refine zr_iload_n (i := 3) (x := (S 42 2)) (n := 108) d_Md_receive_107 rfl rfl rfl ?_
              refine zr_iadd (n := 109) d_Md_receive_108 rfl ?_
              refine zr_weak (zm_LE.cons (zm_LE.skip (zm_LE.skip (zm_LE.cons (zm_LE.cons zm_LE.nil))))) ?_
              refine zr_callV (M' := M_Md_more) (mc' := 0) (ms' := 0) (av := [.int 3, .int (3 + (S 42 2))]) (rest := []) (n := 112) d_Md_receive_109 rfl w_Md_179 w_Md_179k gg_27 rfl rfl rfl rfl rfl rfl (Nat.le_refl _) (Nat.le_refl _) ?_
              exact (l2 (Or.inr ⟨h1, h2, h3, h6, h7, h8⟩))
            · refine zr_aload_n (i := 0) (x := 27) (n := 100) d_Md_receive_99 rfl rfl rfl ?_
              refine zr_weak (zm_LE.skip (zm_LE.skip (zm_LE.skip (zm_LE.skip (zm_LE.cons zm_LE.nil))))) ?_
              refine zr_callV (M' := M_Md_throwAway) (mc' := 0) (ms' := 0) (av := []) (rest := []) (n := 103) d_Md_receive_100 rfl w_Md_176 w_Md_176k gg_27 rfl rfl rfl rfl rfl rfl (Nat.le_refl _) (Nat.le_refl _) ?_
              exact (l3 (Or.inr ⟨h1, h2, h3, h6, h7, h8⟩))
          · refine zr_aload_n (i := 0) (x := 27) (n := 79) d_Md_receive_78 rfl rfl rfl ?_
            refine zr_iconst (v := 2) (n := 80) d_Md_receive_79 rfl (by decide) ?_
            refine zr_bipush (v := 16) (n := 82) d_Md_receive_80 rfl (by decide) ?_
            refine zr_weak (zm_LE.skip (zm_LE.skip (zm_LE.skip (zm_LE.cons (zm_LE.cons zm_LE.nil))))) ?_
            refine zr_callV (M' := M_Md_more) (mc' := 0) (ms' := 0) (av := [.int 2, .int 16]) (rest := []) (n := 85) d_Md_receive_82 rfl w_Md_179 w_Md_179k gg_27 rfl rfl rfl rfl rfl rfl (Nat.le_refl _) (Nat.le_refl _) ?_
            exact (l4 (Or.inr ⟨h1, h2, h3, h6, h7⟩))
        · refine zr_aload_n (i := 0) (x := 27) (n := 63) d_Md_receive_62 rfl rfl rfl ?_
          refine zr_callV (M' := M_Md_throwAway) (mc' := 0) (ms' := 0) (av := []) (rest := []) (n := 66) d_Md_receive_63 rfl w_Md_176 w_Md_176k gg_27 rfl rfl rfl rfl rfl rfl (Nat.le_refl _) (Nat.le_refl _) ?_
          exact (l5 h1 h2 h3 h6)
    · refine zr_aload_n (i := 0) (x := 27) (n := 27) d_Md_receive_26 rfl rfl rfl ?_
      refine zr_getr (n := 30) d_Md_receive_27 rfl f_Md_81 gg_27 rfl ?_
      refine zr_iconst (v := 5) (n := 31) d_Md_receive_30 rfl (by decide) ?_
      refine zr_dup2 (n := 32) d_Md_receive_31 rfl rfl rfl ?_
      refine zr_iaload 5 (n := 33) d_Md_receive_32 rfl gg_49 (zm_ixN (Nat.le_of_ble_eq_true rfl) (Nat.le_of_ble_eq_true rfl)) ?_
      refine zr_iconst (v := 1) (n := 34) d_Md_receive_33 rfl (by decide) ?_
      refine zr_iadd (n := 35) d_Md_receive_34 rfl ?_
      refine zr_iastore 5 (n := 36) d_Md_receive_35 rfl gg_49 (zm_ixN (Nat.le_of_ble_eq_true rfl) (Nat.le_of_ble_eq_true rfl)) ?_
      exact zr_return d_Md_receive_36 rfl (Nat.le_refl _) (Nat.le_refl _) (l1 (Or.inr ⟨h1, h2⟩))
theorem s_Md_receive_112 {d : Nat} {Q : zm_Q} {S : zm_S} {a3 : Int32}
    (l1 : zc M_Md_throwAway (d + 4) [.ref 27] S (fun v G' S' => zm_WP M_Md_receive none (d + 5) 0 0 Q 116 [some (.ref 27), none, none, some (.int a3), none] (zm_ps v []) G' S' 0 0)) :
    zw M_Md_receive (d + 5) Q 112 [some (.ref 27), none, none, some (.int a3), none] [] S := by
  refine zr_aload_n (i := 0) (x := 27) (n := 113) d_Md_receive_112 rfl rfl rfl ?_
  refine zr_callV (M' := M_Md_throwAway) (mc' := 0) (ms' := 0) (av := []) (rest := []) (n := 116) d_Md_receive_113 rfl w_Md_176 w_Md_176k gg_27 rfl rfl rfl rfl rfl rfl (Nat.le_refl _) (Nat.le_refl _) ?_
  exact l1
theorem s_Md_receive_103 {d : Nat} {Q : zm_Q} {S : zm_S}
    (l1 : Q none GG S) :
    zw M_Md_receive (d + 5) Q 103 [none, none, none, none, none] [] S := by
  exact zr_return d_Md_receive_103 rfl (Nat.le_refl _) (Nat.le_refl _) l1
theorem s_Md_receive_85 {d : Nat} {Q : zm_Q} {S : zm_S}
    (l1 : Q none GG S) :
    zw M_Md_receive (d + 5) Q 85 [none, none, none, none, none] [] S := by
  exact zr_return d_Md_receive_85 rfl (Nat.le_refl _) (Nat.le_refl _) l1
theorem s_Md_receive_66 {d : Nat} {Q : zm_Q} {S : zm_S} {a1 a2 : Int32}
    (l1 : ¬ (a1 &&& 64) = 0 → (S 42 2) ≤ 13 → zc M_Md_more (d + 4) [.ref 27, .int 3, .int (3 + (S 42 2))] (zm_up S 27 23 a2) (fun v G' S' => zm_WP M_Md_receive none (d + 5) 0 0 Q 112 [some (.ref 27), none, none, some (.int (S 42 2)), none] (zm_ps v []) G' S' 0 0))
    (l2 : ¬ (a1 &&& 64) = 0 → ¬ (S 42 2) ≤ 13 → zc M_Md_throwAway (d + 4) [.ref 27] (zm_up S 27 23 a2) (fun v G' S' => zm_WP M_Md_receive none (d + 5) 0 0 Q 103 [none, none, none, none, none] (zm_ps v []) G' S' 0 0))
    (l3 : (a1 &&& 64) = 0 → zc M_Md_more (d + 4) [.ref 27, .int 2, .int 16] (zm_up S 27 23 a2) (fun v G' S' => zm_WP M_Md_receive none (d + 5) 0 0 Q 85 [none, none, none, none, none] (zm_ps v []) G' S' 0 0)) :
    zw M_Md_receive (d + 5) Q 66 [some (.ref 27), some (.int a1), some (.int a2), none, none] [] S := by
  refine zr_aload_n (i := 0) (x := 27) (n := 67) d_Md_receive_66 rfl rfl rfl ?_
  refine zr_iload_n (i := 2) (x := a2) (n := 68) d_Md_receive_67 rfl rfl rfl ?_
  refine zr_puti (n := 71) d_Md_receive_68 rfl f_Md_60 tw_Md rfl rfl rfl rfl gg_27 rfl ?_
  refine zr_iload_n (i := 1) (x := a1) (n := 72) d_Md_receive_71 rfl rfl rfl ?_
  refine zr_bipush (v := 64) (n := 74) d_Md_receive_72 rfl (by decide) ?_
  refine zr_iand (n := 75) d_Md_receive_74 rfl ?_
  refine zr_if_ne (tgt := 86) (n := 78) d_Md_receive_75 rfl (by decide) (fun h1 => ?_) (fun h1 => ?_)
  · refine zr_aload_n (i := 0) (x := 27) (n := 87) d_Md_receive_86 rfl rfl rfl ?_
    refine zr_getr (n := 90) d_Md_receive_87 rfl f_Md_53 gg_27 rfl ?_
    refine zr_iconst (v := 2) (n := 91) d_Md_receive_90 rfl (by decide) ?_
    refine zr_iaload 2 (n := 92) d_Md_receive_91 rfl gg_42 (zm_ixN (Nat.le_of_ble_eq_true rfl) (Nat.le_of_ble_eq_true rfl)) ?_
    refine zr_istore_n (i := 3) (L' := [some (.ref 27), some (.int a1), some (.int a2), some (.int (S 42 2)), none]) (n := 93) d_Md_receive_92 rfl rfl rfl rfl ?_
    refine zr_iload_n (i := 3) (x := (S 42 2)) (n := 94) d_Md_receive_93 rfl rfl rfl ?_
    refine zr_bipush (v := 13) (n := 96) d_Md_receive_94 rfl (by decide) ?_
    refine zr_icmp_le (tgt := 104) (n := 99) d_Md_receive_96 rfl (by decide) (fun h2 => ?_) (fun h2 => ?_)
    · refine zr_aload_n (i := 0) (x := 27) (n := 105) d_Md_receive_104 rfl rfl rfl ?_
      refine zr_iconst (v := 3) (n := 106) d_Md_receive_105 rfl (by decide) ?_
      refine zr_iconst (v := 3) (n := 107) d_Md_receive_106 rfl (by decide) ?_
      refine zr_iload_n (i := 3) (x := (S 42 2)) (n := 108) d_Md_receive_107 rfl rfl rfl ?_
      refine zr_iadd (n := 109) d_Md_receive_108 rfl ?_
      refine zr_weak (zm_LE.cons (zm_LE.skip (zm_LE.skip (zm_LE.cons (zm_LE.cons zm_LE.nil))))) ?_
      refine zr_callV (M' := M_Md_more) (mc' := 0) (ms' := 0) (av := [.int 3, .int (3 + (S 42 2))]) (rest := []) (n := 112) d_Md_receive_109 rfl w_Md_179 w_Md_179k gg_27 rfl rfl rfl rfl rfl rfl (Nat.le_refl _) (Nat.le_refl _) ?_
      exact (l1 h1 h2)
    · refine zr_aload_n (i := 0) (x := 27) (n := 100) d_Md_receive_99 rfl rfl rfl ?_
      refine zr_weak (zm_LE.skip (zm_LE.skip (zm_LE.skip (zm_LE.skip (zm_LE.cons zm_LE.nil))))) ?_
      refine zr_callV (M' := M_Md_throwAway) (mc' := 0) (ms' := 0) (av := []) (rest := []) (n := 103) d_Md_receive_100 rfl w_Md_176 w_Md_176k gg_27 rfl rfl rfl rfl rfl rfl (Nat.le_refl _) (Nat.le_refl _) ?_
      exact (l2 h1 h2)
  · refine zr_aload_n (i := 0) (x := 27) (n := 79) d_Md_receive_78 rfl rfl rfl ?_
    refine zr_iconst (v := 2) (n := 80) d_Md_receive_79 rfl (by decide) ?_
    refine zr_bipush (v := 16) (n := 82) d_Md_receive_80 rfl (by decide) ?_
    refine zr_weak (zm_LE.skip (zm_LE.skip (zm_LE.skip (zm_LE.cons (zm_LE.cons zm_LE.nil))))) ?_
    refine zr_callV (M' := M_Md_more) (mc' := 0) (ms' := 0) (av := [.int 2, .int 16]) (rest := []) (n := 85) d_Md_receive_82 rfl w_Md_179 w_Md_179k gg_27 rfl rfl rfl rfl rfl rfl (Nat.le_refl _) (Nat.le_refl _) ?_
    exact (l3 h1)
theorem s_Md_receive_116 {d : Nat} {Q : zm_Q} {S : zm_S} {a3 : Int32}
    (l1 : zw M_Md_receive (d + 5) Q 121 [some (.ref 27), none, none, none, some (.int (3 + a3))] [] S) :
    zw M_Md_receive (d + 5) Q 116 [some (.ref 27), none, none, some (.int a3), none] [] S := by
  refine zr_iconst (v := 3) (n := 117) d_Md_receive_116 rfl (by decide) ?_
  refine zr_iload_n (i := 3) (x := a3) (n := 118) d_Md_receive_117 rfl rfl rfl ?_
  refine zr_iadd (n := 119) d_Md_receive_118 rfl ?_
  refine zr_istore (i := 4) (L' := [some (.ref 27), none, none, some (.int a3), some (.int (3 + a3))]) (n := 121) d_Md_receive_119 rfl rfl rfl ?_
  exact zr_weak (zm_LE.cons (zm_LE.cons (zm_LE.cons (zm_LE.skip (zm_LE.cons zm_LE.nil))))) l1
theorem s_Md_receive_121 {d : Nat} {Q : zm_Q} {S : zm_S} {a4 : Int32} (j1 : Nat) (o1 : ¬ 16 ≤ a4 → ¬ (S 27 29) = 0 → zm_ix a4 j1 16) (o2 : ¬ 16 ≤ a4 → (S 27 29) = 0 → zm_ix a4 j1 16)
    (l1 : ((16 ≤ a4) ∨ (¬ 16 ≤ a4 ∧ (S 27 29) = 0 ∧ (S 42 j1) = 255)) → Q none GG S)
    (l2 : ¬ 16 ≤ a4 → ¬ (S 27 29) = 0 → zc M_Md_take (d + 4) [.ref 27, .int (S 42 j1)] S (fun v G' S' => zm_WP M_Md_receive none (d + 5) 0 0 Q 170 [some (.ref 27), none, none, none, some (.int a4)] (zm_ps v []) G' S' 0 0))
    (l3 : ¬ 16 ≤ a4 → (S 27 29) = 0 → ¬ (S 42 j1) = 255 → zc M_Md_take (d + 4) [.ref 27, .int (S 42 j1)] (zm_up (zm_up S 27 29 1) 27 30 0) (fun v G' S' => zm_WP M_Md_receive none (d + 5) 0 0 Q 170 [some (.ref 27), none, none, none, some (.int a4)] (zm_ps v []) G' S' 0 0)) :
    zw M_Md_receive (d + 5) Q 121 [some (.ref 27), none, none, none, some (.int a4)] [] S := by
  refine zr_iload (i := 4) (x := a4) (n := 123) d_Md_receive_121 rfl rfl ?_
  refine zr_bipush (v := 16) (n := 125) d_Md_receive_123 rfl (by decide) ?_
  refine zr_icmp_ge (tgt := 176) (n := 128) d_Md_receive_125 rfl (by decide) (fun h1 => ?_) (fun h1 => ?_)
  · exact zr_return d_Md_receive_176 rfl (Nat.le_refl _) (Nat.le_refl _) (l1 (Or.inl h1))
  · refine zr_aload_n (i := 0) (x := 27) (n := 129) d_Md_receive_128 rfl rfl rfl ?_
    refine zr_geti (n := 132) d_Md_receive_129 rfl f_Md_169 gg_27 rfl ?_
    refine zr_if_ne (tgt := 159) (n := 135) d_Md_receive_132 rfl (by decide) (fun h2 => ?_) (fun h2 => ?_)
    · refine zr_aload_n (i := 0) (x := 27) (n := 160) d_Md_receive_159 rfl rfl rfl ?_
      refine zr_aload_n (i := 0) (x := 27) (n := 161) d_Md_receive_160 rfl rfl rfl ?_
      refine zr_getr (n := 164) d_Md_receive_161 rfl f_Md_53 gg_27 rfl ?_
      refine zr_iload (i := 4) (x := a4) (n := 166) d_Md_receive_164 rfl rfl ?_
      refine zr_iaload j1 (n := 167) d_Md_receive_166 rfl gg_42 (o1 h1 h2) ?_
      refine zr_callV (M' := M_Md_take) (mc' := 0) (ms' := 0) (av := [.int (S 42 j1)]) (rest := []) (n := 170) d_Md_receive_167 rfl w_Md_185 w_Md_185k gg_27 rfl rfl rfl rfl rfl rfl (Nat.le_refl _) (Nat.le_refl _) ?_
      exact (l2 h1 h2)
    · refine zr_aload_n (i := 0) (x := 27) (n := 136) d_Md_receive_135 rfl rfl rfl ?_
      refine zr_getr (n := 139) d_Md_receive_136 rfl f_Md_53 gg_27 rfl ?_
      refine zr_iload (i := 4) (x := a4) (n := 141) d_Md_receive_139 rfl rfl ?_
      refine zr_iaload j1 (n := 142) d_Md_receive_141 rfl gg_42 (o2 h1 h2) ?_
      refine zr_sipush (v := 255) (n := 145) d_Md_receive_142 rfl (by decide) ?_
      refine zr_icmp_ne (tgt := 149) (n := 148) d_Md_receive_145 rfl (by decide) (fun h3 => ?_) (fun h3 => ?_)
      · refine zr_aload_n (i := 0) (x := 27) (n := 150) d_Md_receive_149 rfl rfl rfl ?_
        refine zr_iconst (v := 1) (n := 151) d_Md_receive_150 rfl (by decide) ?_
        refine zr_puti (n := 154) d_Md_receive_151 rfl f_Md_169 tw_Md rfl rfl (by decide) (by decide) gg_27 rfl ?_
        refine zr_aload_n (i := 0) (x := 27) (n := 155) d_Md_receive_154 rfl rfl rfl ?_
        refine zr_iconst (v := 0) (n := 156) d_Md_receive_155 rfl (by decide) ?_
        refine zr_puti (n := 159) d_Md_receive_156 rfl f_Md_182 tw_Md rfl rfl rfl rfl gg_27 rfl ?_
        refine zr_aload_n (i := 0) (x := 27) (n := 160) d_Md_receive_159 rfl rfl rfl ?_
        refine zr_aload_n (i := 0) (x := 27) (n := 161) d_Md_receive_160 rfl rfl rfl ?_
        refine zr_getr (n := 164) d_Md_receive_161 rfl f_Md_53 gg_27 rfl ?_
        refine zr_iload (i := 4) (x := a4) (n := 166) d_Md_receive_164 rfl rfl ?_
        refine zr_iaload j1 (n := 167) d_Md_receive_166 rfl gg_42 (o2 h1 h2) ?_
        refine zr_callV (M' := M_Md_take) (mc' := 0) (ms' := 0) (av := [.int (S 42 j1)]) (rest := []) (n := 170) d_Md_receive_167 rfl w_Md_185 w_Md_185k gg_27 rfl rfl rfl rfl rfl rfl (Nat.le_refl _) (Nat.le_refl _) ?_
        exact (l3 h1 h2 h3)
      · exact zr_return d_Md_receive_148 rfl (Nat.le_refl _) (Nat.le_refl _) (l1 (Or.inr ⟨h1, h2, h3⟩))
theorem s_Md_receive_170 {d : Nat} {Q : zm_Q} {S : zm_S} {a4 : Int32}
    (l1 : zw M_Md_receive (d + 5) Q 121 [some (.ref 27), none, none, none, some (.int (a4 + 1))] [] S) :
    zw M_Md_receive (d + 5) Q 170 [some (.ref 27), none, none, none, some (.int a4)] [] S := by
  refine zr_iinc (i := 4) (w := 1) (x := a4) (L' := [some (.ref 27), none, none, none, some (.int (a4 + 1))]) (n := 173) d_Md_receive_170 rfl (by decide) rfl rfl ?_
  refine zr_goto (tgt := 121) d_Md_receive_173 (by decide) ?_
  exact l1
theorem e_Md_receive {d : Nat} {Q : zm_Q} {S : zm_S} (h : zw M_Md_receive (d + 5) Q 0 [some (.ref 27), none, none, none, none] [] S) : zc M_Md_receive (d + 5) [.ref 27] S Q := zm_CC_intro (by decide) rfl rfl h
theorem s_Md_more_0 {d : Nat} {Q : zm_Q} {S : zm_S} {a1 a2 : Int32}
    (l1 : zw M_Md_more (d + 4) Q 2 [some (.ref 27), none, some (.int a2), some (.int a1)] [] S) :
    zw M_Md_more (d + 4) Q 0 [some (.ref 27), some (.int a1), some (.int a2), none] [] S := by
  refine zr_iload_n (i := 1) (x := a1) (n := 1) d_Md_more_0 rfl rfl rfl ?_
  refine zr_istore_n (i := 3) (L' := [some (.ref 27), some (.int a1), some (.int a2), some (.int a1)]) (n := 2) d_Md_more_1 rfl rfl rfl rfl ?_
  exact zr_weak (zm_LE.cons (zm_LE.skip (zm_LE.cons (zm_LE.cons zm_LE.nil)))) l1
theorem s_Md_more_2 {d : Nat} {Q : zm_Q} {S : zm_S} {a2 a3 : Int32} (j1 : Nat) (o1 : ¬ a2 ≤ a3 → ¬ (S 27 29) = 0 → zm_ix a3 j1 16)
    (l1 : ((a2 ≤ a3) ∨ (¬ a2 ≤ a3 ∧ (S 27 29) = 0)) → Q none GG S)
    (l2 : ¬ a2 ≤ a3 → ¬ (S 27 29) = 0 → zc M_Md_take (d + 3) [.ref 27, .int (S 42 j1)] S (fun v G' S' => zm_WP M_Md_more none (d + 4) 0 0 Q 24 [some (.ref 27), none, some (.int a2), some (.int a3)] (zm_ps v []) G' S' 0 0)) :
    zw M_Md_more (d + 4) Q 2 [some (.ref 27), none, some (.int a2), some (.int a3)] [] S := by
  refine zr_iload_n (i := 3) (x := a3) (n := 3) d_Md_more_2 rfl rfl rfl ?_
  refine zr_iload_n (i := 2) (x := a2) (n := 4) d_Md_more_3 rfl rfl rfl ?_
  refine zr_icmp_ge (tgt := 30) (n := 7) d_Md_more_4 rfl (by decide) (fun h1 => ?_) (fun h1 => ?_)
  · exact zr_return d_Md_more_30 rfl (Nat.le_refl _) (Nat.le_refl _) (l1 (Or.inl h1))
  · refine zr_aload_n (i := 0) (x := 27) (n := 8) d_Md_more_7 rfl rfl rfl ?_
    refine zr_geti (n := 11) d_Md_more_8 rfl f_Md_169 gg_27 rfl ?_
    refine zr_if_eq (tgt := 30) (n := 14) d_Md_more_11 rfl (by decide) (fun h2 => ?_) (fun h2 => ?_)
    · exact zr_return d_Md_more_30 rfl (Nat.le_refl _) (Nat.le_refl _) (l1 (Or.inr ⟨h1, h2⟩))
    · refine zr_aload_n (i := 0) (x := 27) (n := 15) d_Md_more_14 rfl rfl rfl ?_
      refine zr_aload_n (i := 0) (x := 27) (n := 16) d_Md_more_15 rfl rfl rfl ?_
      refine zr_getr (n := 19) d_Md_more_16 rfl f_Md_53 gg_27 rfl ?_
      refine zr_iload_n (i := 3) (x := a3) (n := 20) d_Md_more_19 rfl rfl rfl ?_
      refine zr_iaload j1 (n := 21) d_Md_more_20 rfl gg_42 (o1 h1 h2) ?_
      refine zr_callV (M' := M_Md_take) (mc' := 0) (ms' := 0) (av := [.int (S 42 j1)]) (rest := []) (n := 24) d_Md_more_21 rfl w_Md_185 w_Md_185k gg_27 rfl rfl rfl rfl rfl rfl (Nat.le_refl _) (Nat.le_refl _) ?_
      exact (l2 h1 h2)
theorem s_Md_more_24 {d : Nat} {Q : zm_Q} {S : zm_S} {a2 a3 : Int32}
    (l1 : zw M_Md_more (d + 4) Q 2 [some (.ref 27), none, some (.int a2), some (.int (a3 + 1))] [] S) :
    zw M_Md_more (d + 4) Q 24 [some (.ref 27), none, some (.int a2), some (.int a3)] [] S := by
  refine zr_iinc (i := 3) (w := 1) (x := a3) (L' := [some (.ref 27), none, some (.int a2), some (.int (a3 + 1))]) (n := 27) d_Md_more_24 rfl (by decide) rfl rfl ?_
  refine zr_goto (tgt := 2) d_Md_more_27 (by decide) ?_
  exact l1
theorem e_Md_more {d : Nat} {Q : zm_Q} {S : zm_S} {a1 a2 : Int32} (h : zw M_Md_more (d + 4) Q 0 [some (.ref 27), some (.int a1), some (.int a2), none] [] S) : zc M_Md_more (d + 4) [.ref 27, .int a1, .int a2] S Q := zm_CC_intro (by decide) rfl rfl h
theorem s_Md_take_0 {d : Nat} {Q : zm_Q} {S : zm_S} {a1 : Int32} (j1 : Nat) (o1 : zm_ix (S 27 30) j1 258)
    (l1 : ((((S 27 30) + 1) < 2) ∨ (¬ ((S 27 30) + 1) < 2 ∧ ¬ ((S 27 30) + 1) = (2 + ((zm_up S 48 j1 a1) 48 1)))) → Q none GG (zm_up (zm_up S 48 j1 a1) 27 30 ((S 27 30) + 1)))
    (l2 : ¬ ((S 27 30) + 1) < 2 → ((S 27 30) + 1) = (2 + ((zm_up S 48 j1 a1) 48 1)) → zc M_Md_look (d + 2) [.ref 27] (zm_up (zm_up (zm_up S 48 j1 a1) 27 30 ((S 27 30) + 1)) 27 29 0) (fun v G' S' => zm_WP M_Md_take none (d + 3) 0 0 Q 52 [none, none] (zm_ps v []) G' S' 0 0)) :
    zw M_Md_take (d + 3) Q 0 [some (.ref 27), some (.int a1)] [] S := by
  refine zr_aload_n (i := 0) (x := 27) (n := 1) d_Md_take_0 rfl rfl rfl ?_
  refine zr_getr (n := 4) d_Md_take_1 rfl f_Md_78 gg_27 rfl ?_
  refine zr_aload_n (i := 0) (x := 27) (n := 5) d_Md_take_4 rfl rfl rfl ?_
  refine zr_geti (n := 8) d_Md_take_5 rfl f_Md_182 gg_27 rfl ?_
  refine zr_iload_n (i := 1) (x := a1) (n := 9) d_Md_take_8 rfl rfl rfl ?_
  refine zr_iastore j1 (n := 10) d_Md_take_9 rfl gg_48 o1 ?_
  refine zr_aload_n (i := 0) (x := 27) (n := 11) d_Md_take_10 rfl rfl rfl ?_
  refine zr_dup (n := 12) d_Md_take_11 rfl rfl ?_
  refine zr_geti (n := 15) d_Md_take_12 rfl f_Md_182 gg_27 rfl ?_
  refine zr_iconst (v := 1) (n := 16) d_Md_take_15 rfl (by decide) ?_
  refine zr_iadd (n := 17) d_Md_take_16 rfl ?_
  refine zr_puti (n := 20) d_Md_take_17 rfl f_Md_182 tw_Md rfl rfl rfl rfl gg_27 rfl ?_
  refine zr_aload_n (i := 0) (x := 27) (n := 21) d_Md_take_20 rfl rfl rfl ?_
  refine zr_geti (n := 24) d_Md_take_21 rfl f_Md_182 gg_27 rfl ?_
  refine zr_top (v := ((S 27 30) + 1)) rfl ?_
  refine zr_iconst (v := 2) (n := 25) d_Md_take_24 rfl (by decide) ?_
  refine zr_icmp_lt (tgt := 52) (n := 28) d_Md_take_25 rfl (by decide) (fun h1 => ?_) (fun h1 => ?_)
  · exact zr_return d_Md_take_52 rfl (Nat.le_refl _) (Nat.le_refl _) (l1 (Or.inl h1))
  · refine zr_aload_n (i := 0) (x := 27) (n := 29) d_Md_take_28 rfl rfl rfl ?_
    refine zr_geti (n := 32) d_Md_take_29 rfl f_Md_182 gg_27 rfl ?_
    refine zr_top (v := ((S 27 30) + 1)) rfl ?_
    refine zr_iconst (v := 2) (n := 33) d_Md_take_32 rfl (by decide) ?_
    refine zr_aload_n (i := 0) (x := 27) (n := 34) d_Md_take_33 rfl rfl rfl ?_
    refine zr_getr (n := 37) d_Md_take_34 rfl f_Md_78 gg_27 rfl ?_
    refine zr_iconst (v := 1) (n := 38) d_Md_take_37 rfl (by decide) ?_
    refine zr_iaload 1 (n := 39) d_Md_take_38 rfl gg_48 (zm_ixN (Nat.le_of_ble_eq_true rfl) (Nat.le_of_ble_eq_true rfl)) ?_
    refine zr_top (v := ((zm_up S 48 j1 a1) 48 1)) rfl ?_
    refine zr_iadd (n := 40) d_Md_take_39 rfl ?_
    refine zr_icmp_ne (tgt := 52) (n := 43) d_Md_take_40 rfl (by decide) (fun h2 => ?_) (fun h2 => ?_)
    · exact zr_return d_Md_take_52 rfl (Nat.le_refl _) (Nat.le_refl _) (l1 (Or.inr ⟨h1, h2⟩))
    · refine zr_aload_n (i := 0) (x := 27) (n := 44) d_Md_take_43 rfl rfl rfl ?_
      refine zr_iconst (v := 0) (n := 45) d_Md_take_44 rfl (by decide) ?_
      refine zr_puti (n := 48) d_Md_take_45 rfl f_Md_169 tw_Md rfl rfl (by decide) (by decide) gg_27 rfl ?_
      refine zr_aload_n (i := 0) (x := 27) (n := 49) d_Md_take_48 rfl rfl rfl ?_
      refine zr_weak (zm_LE.skip (zm_LE.skip zm_LE.nil)) ?_
      refine zr_callV (M' := M_Md_look) (mc' := 0) (ms' := 0) (av := []) (rest := []) (n := 52) d_Md_take_49 rfl w_Md_188 w_Md_188k gg_27 rfl rfl rfl rfl rfl rfl (Nat.le_refl _) (Nat.le_refl _) ?_
      exact (l2 h1 h2)
theorem s_Md_take_52 {d : Nat} {Q : zm_Q} {S : zm_S}
    (l1 : Q none GG S) :
    zw M_Md_take (d + 3) Q 52 [none, none] [] S := by
  exact zr_return d_Md_take_52 rfl (Nat.le_refl _) (Nat.le_refl _) l1
theorem e_Md_take {d : Nat} {Q : zm_Q} {S : zm_S} {a1 : Int32} (h : zw M_Md_take (d + 3) Q 0 [some (.ref 27), some (.int a1)] [] S) : zc M_Md_take (d + 3) [.ref 27, .int a1] S Q := zm_CC_intro (by decide) rfl rfl h
theorem s_Md_look_0 {d : Nat} {Q : zm_Q} {S : zm_S}
    (l1 : (S 27 30) < 6 → Q none GG (zm_up S 49 2 ((S 49 2) + 1)))
    (l2 : ¬ (S 27 30) < 6 → zc M_Md_checks (d + 1) [.ref 27] S (fun v G' S' => zm_WP M_Md_look none (d + 2) 0 0 Q 13 [some (.ref 27)] (zm_ps v []) G' S' 0 0)) :
    zw M_Md_look (d + 2) Q 0 [some (.ref 27)] [] S := by
  refine zr_aload_n (i := 0) (x := 27) (n := 1) d_Md_look_0 rfl rfl rfl ?_
  refine zr_geti (n := 4) d_Md_look_1 rfl f_Md_182 gg_27 rfl ?_
  refine zr_bipush (v := 6) (n := 6) d_Md_look_4 rfl (by decide) ?_
  refine zr_icmp_lt (tgt := 16) (n := 9) d_Md_look_6 rfl (by decide) (fun h1 => ?_) (fun h1 => ?_)
  · refine zr_aload_n (i := 0) (x := 27) (n := 17) d_Md_look_16 rfl rfl rfl ?_
    refine zr_getr (n := 20) d_Md_look_17 rfl f_Md_81 gg_27 rfl ?_
    refine zr_iconst (v := 2) (n := 21) d_Md_look_20 rfl (by decide) ?_
    refine zr_dup2 (n := 22) d_Md_look_21 rfl rfl rfl ?_
    refine zr_iaload 2 (n := 23) d_Md_look_22 rfl gg_49 (zm_ixN (Nat.le_of_ble_eq_true rfl) (Nat.le_of_ble_eq_true rfl)) ?_
    refine zr_iconst (v := 1) (n := 24) d_Md_look_23 rfl (by decide) ?_
    refine zr_iadd (n := 25) d_Md_look_24 rfl ?_
    refine zr_iastore 2 (n := 26) d_Md_look_25 rfl gg_49 (zm_ixN (Nat.le_of_ble_eq_true rfl) (Nat.le_of_ble_eq_true rfl)) ?_
    refine zr_goto (tgt := 92) d_Md_look_26 (by decide) ?_
    exact zr_return d_Md_look_92 rfl (Nat.le_refl _) (Nat.le_refl _) (l1 h1)
  · refine zr_aload_n (i := 0) (x := 27) (n := 10) d_Md_look_9 rfl rfl rfl ?_
    refine zr_callV (M' := M_Md_checks) (mc' := 0) (ms' := 0) (av := []) (rest := []) (n := 13) d_Md_look_10 rfl w_Md_191 w_Md_191k gg_27 rfl rfl rfl rfl rfl rfl (Nat.le_refl _) (Nat.le_refl _) ?_
    exact (l2 h1)
theorem s_Md_look_13 {d : Nat} {Q : zm_Q} {S : zm_S} {r : Int32}
    (l1 : ¬ r = 0 → zc M_Md_isList (d + 1) [.ref 27] S (fun v G' S' => zm_WP M_Md_look none (d + 2) 0 0 Q 33 [some (.ref 27)] (zm_ps v []) G' S' 0 0))
    (l2 : r = 0 → Q none GG (zm_up S 49 2 ((S 49 2) + 1))) :
    zw M_Md_look (d + 2) Q 13 [some (.ref 27)] [.int r] S := by
  refine zr_if_ne (tgt := 29) (n := 16) d_Md_look_13 rfl (by decide) (fun h1 => ?_) (fun h1 => ?_)
  · refine zr_aload_n (i := 0) (x := 27) (n := 30) d_Md_look_29 rfl rfl rfl ?_
    refine zr_callV (M' := M_Md_isList) (mc' := 0) (ms' := 0) (av := []) (rest := []) (n := 33) d_Md_look_30 rfl w_Md_195 w_Md_195k gg_27 rfl rfl rfl rfl rfl rfl (Nat.le_refl _) (Nat.le_refl _) ?_
    exact (l1 h1)
  · refine zr_aload_n (i := 0) (x := 27) (n := 17) d_Md_look_16 rfl rfl rfl ?_
    refine zr_getr (n := 20) d_Md_look_17 rfl f_Md_81 gg_27 rfl ?_
    refine zr_iconst (v := 2) (n := 21) d_Md_look_20 rfl (by decide) ?_
    refine zr_dup2 (n := 22) d_Md_look_21 rfl rfl rfl ?_
    refine zr_iaload 2 (n := 23) d_Md_look_22 rfl gg_49 (zm_ixN (Nat.le_of_ble_eq_true rfl) (Nat.le_of_ble_eq_true rfl)) ?_
    refine zr_iconst (v := 1) (n := 24) d_Md_look_23 rfl (by decide) ?_
    refine zr_iadd (n := 25) d_Md_look_24 rfl ?_
    refine zr_iastore 2 (n := 26) d_Md_look_25 rfl gg_49 (zm_ixN (Nat.le_of_ble_eq_true rfl) (Nat.le_of_ble_eq_true rfl)) ?_
    refine zr_goto (tgt := 92) d_Md_look_26 (by decide) ?_
    exact zr_return d_Md_look_92 rfl (Nat.le_refl _) (Nat.le_refl _) (l2 h1)
theorem s_Md_look_33 {d : Nat} {Q : zm_Q} {S : zm_S} {r : Int32}
    (l1 : ((r = 0 ∧ ¬ (S 48 0) = 60) ∨ (r = 0 ∧ (S 48 0) = 60 ∧ (((S 27 30) < 11) ∨ (¬ (S 27 30) < 11 ∧ 18 < (S 27 30))))) → Q none GG (zm_up S 49 3 ((S 49 3) + 1)))
    (l2 : r = 0 → (S 48 0) = 60 → ¬ (S 27 30) < 11 → ¬ 18 < (S 27 30) → zc M_Md_fits (d + 1) [.ref 27] S (fun v G' S' => zm_WP M_Md_look none (d + 2) 0 0 Q 72 [some (.ref 27)] (zm_ps v []) G' S' 0 0))
    (l3 : ¬ r = 0 → zc M_Md_list (d + 1) [.ref 27] S (fun v G' S' => zm_WP M_Md_look none (d + 2) 0 0 Q 40 [none] (zm_ps v []) G' S' 0 0)) :
    zw M_Md_look (d + 2) Q 33 [some (.ref 27)] [.int r] S := by
  refine zr_if_eq (tgt := 43) (n := 36) d_Md_look_33 rfl (by decide) (fun h1 => ?_) (fun h1 => ?_)
  · refine zr_aload_n (i := 0) (x := 27) (n := 44) d_Md_look_43 rfl rfl rfl ?_
    refine zr_getr (n := 47) d_Md_look_44 rfl f_Md_78 gg_27 rfl ?_
    refine zr_iconst (v := 0) (n := 48) d_Md_look_47 rfl (by decide) ?_
    refine zr_iaload 0 (n := 49) d_Md_look_48 rfl gg_48 (zm_ixN (Nat.le_of_ble_eq_true rfl) (Nat.le_of_ble_eq_true rfl)) ?_
    refine zr_bipush (v := 60) (n := 51) d_Md_look_49 rfl (by decide) ?_
    refine zr_icmp_ne (tgt := 82) (n := 54) d_Md_look_51 rfl (by decide) (fun h2 => ?_) (fun h2 => ?_)
    · refine zr_aload_n (i := 0) (x := 27) (n := 83) d_Md_look_82 rfl rfl rfl ?_
      refine zr_getr (n := 86) d_Md_look_83 rfl f_Md_81 gg_27 rfl ?_
      refine zr_iconst (v := 3) (n := 87) d_Md_look_86 rfl (by decide) ?_
      refine zr_dup2 (n := 88) d_Md_look_87 rfl rfl rfl ?_
      refine zr_iaload 3 (n := 89) d_Md_look_88 rfl gg_49 (zm_ixN (Nat.le_of_ble_eq_true rfl) (Nat.le_of_ble_eq_true rfl)) ?_
      refine zr_iconst (v := 1) (n := 90) d_Md_look_89 rfl (by decide) ?_
      refine zr_iadd (n := 91) d_Md_look_90 rfl ?_
      refine zr_iastore 3 (n := 92) d_Md_look_91 rfl gg_49 (zm_ixN (Nat.le_of_ble_eq_true rfl) (Nat.le_of_ble_eq_true rfl)) ?_
      exact zr_return d_Md_look_92 rfl (Nat.le_refl _) (Nat.le_refl _) (l1 (Or.inl ⟨h1, h2⟩))
    · refine zr_aload_n (i := 0) (x := 27) (n := 55) d_Md_look_54 rfl rfl rfl ?_
      refine zr_geti (n := 58) d_Md_look_55 rfl f_Md_182 gg_27 rfl ?_
      refine zr_bipush (v := 11) (n := 60) d_Md_look_58 rfl (by decide) ?_
      refine zr_bipush (v := 18) (n := 62) d_Md_look_60 rfl (by decide) ?_
      refine zr_callS (M' := M_Md_within) (mc' := 0) (ms' := 0) (av := [.int (S 27 30), .int 11, .int 18]) (rest := []) (n := 65) d_Md_look_62 rfl w_Md_84 w_Md_84k rfl rfl rfl rfl rfl (Nat.le_refl _) (Nat.le_refl _) ?_
      refine c_Md_within (a0 := (S 27 30)) (a1 := 11) (a2 := 18) (fun h3 => ?_) (fun h4 h5 => ?_)
      · refine zr_if_eq (tgt := 82) (n := 68) d_Md_look_65 rfl (by decide) (fun _ => ?_) (fun h => absurd h (by decide))
        refine zr_aload_n (i := 0) (x := 27) (n := 83) d_Md_look_82 rfl rfl rfl ?_
        refine zr_getr (n := 86) d_Md_look_83 rfl f_Md_81 gg_27 rfl ?_
        refine zr_iconst (v := 3) (n := 87) d_Md_look_86 rfl (by decide) ?_
        refine zr_dup2 (n := 88) d_Md_look_87 rfl rfl rfl ?_
        refine zr_iaload 3 (n := 89) d_Md_look_88 rfl gg_49 (zm_ixN (Nat.le_of_ble_eq_true rfl) (Nat.le_of_ble_eq_true rfl)) ?_
        refine zr_iconst (v := 1) (n := 90) d_Md_look_89 rfl (by decide) ?_
        refine zr_iadd (n := 91) d_Md_look_90 rfl ?_
        refine zr_iastore 3 (n := 92) d_Md_look_91 rfl gg_49 (zm_ixN (Nat.le_of_ble_eq_true rfl) (Nat.le_of_ble_eq_true rfl)) ?_
        exact zr_return d_Md_look_92 rfl (Nat.le_refl _) (Nat.le_refl _) (l1 (Or.inr ⟨h1, h2, h3⟩))
      · refine zr_if_eq (tgt := 82) (n := 68) d_Md_look_65 rfl (by decide) (fun h => absurd h (by decide)) (fun _ => ?_)
        refine zr_aload_n (i := 0) (x := 27) (n := 69) d_Md_look_68 rfl rfl rfl ?_
        refine zr_callV (M' := M_Md_fits) (mc' := 0) (ms' := 0) (av := []) (rest := []) (n := 72) d_Md_look_69 rfl w_Md_201 w_Md_201k gg_27 rfl rfl rfl rfl rfl rfl (Nat.le_refl _) (Nat.le_refl _) ?_
        exact (l2 h1 h2 h4 h5)
  · refine zr_aload_n (i := 0) (x := 27) (n := 37) d_Md_look_36 rfl rfl rfl ?_
    refine zr_weak (zm_LE.skip zm_LE.nil) ?_
    refine zr_callV (M' := M_Md_list) (mc' := 0) (ms' := 0) (av := []) (rest := []) (n := 40) d_Md_look_37 rfl w_Md_198 w_Md_198k gg_27 rfl rfl rfl rfl rfl rfl (Nat.le_refl _) (Nat.le_refl _) ?_
    exact (l3 h1)
theorem s_Md_look_72 {d : Nat} {Q : zm_Q} {S : zm_S} {r : Int32}
    (l1 : r = 0 → Q none GG (zm_up S 49 3 ((S 49 3) + 1)))
    (l2 : ¬ r = 0 → zc M_Md_block (d + 1) [.ref 27] S (fun v G' S' => zm_WP M_Md_look none (d + 2) 0 0 Q 79 [none] (zm_ps v []) G' S' 0 0)) :
    zw M_Md_look (d + 2) Q 72 [some (.ref 27)] [.int r] S := by
  refine zr_if_eq (tgt := 82) (n := 75) d_Md_look_72 rfl (by decide) (fun h1 => ?_) (fun h1 => ?_)
  · refine zr_aload_n (i := 0) (x := 27) (n := 83) d_Md_look_82 rfl rfl rfl ?_
    refine zr_getr (n := 86) d_Md_look_83 rfl f_Md_81 gg_27 rfl ?_
    refine zr_iconst (v := 3) (n := 87) d_Md_look_86 rfl (by decide) ?_
    refine zr_dup2 (n := 88) d_Md_look_87 rfl rfl rfl ?_
    refine zr_iaload 3 (n := 89) d_Md_look_88 rfl gg_49 (zm_ixN (Nat.le_of_ble_eq_true rfl) (Nat.le_of_ble_eq_true rfl)) ?_
    refine zr_iconst (v := 1) (n := 90) d_Md_look_89 rfl (by decide) ?_
    refine zr_iadd (n := 91) d_Md_look_90 rfl ?_
    refine zr_iastore 3 (n := 92) d_Md_look_91 rfl gg_49 (zm_ixN (Nat.le_of_ble_eq_true rfl) (Nat.le_of_ble_eq_true rfl)) ?_
    exact zr_return d_Md_look_92 rfl (Nat.le_refl _) (Nat.le_refl _) (l1 h1)
  · refine zr_aload_n (i := 0) (x := 27) (n := 76) d_Md_look_75 rfl rfl rfl ?_
    refine zr_weak (zm_LE.skip zm_LE.nil) ?_
    refine zr_callV (M' := M_Md_block) (mc' := 0) (ms' := 0) (av := []) (rest := []) (n := 79) d_Md_look_76 rfl w_Md_204 w_Md_204k gg_27 rfl rfl rfl rfl rfl rfl (Nat.le_refl _) (Nat.le_refl _) ?_
    exact (l2 h1)
theorem s_Md_look_40 {d : Nat} {Q : zm_Q} {S : zm_S}
    (l1 : Q none GG S) :
    zw M_Md_look (d + 2) Q 40 [none] [] S := by
  refine zr_goto (tgt := 92) d_Md_look_40 (by decide) ?_
  exact zr_return d_Md_look_92 rfl (Nat.le_refl _) (Nat.le_refl _) l1
theorem s_Md_look_79 {d : Nat} {Q : zm_Q} {S : zm_S}
    (l1 : Q none GG S) :
    zw M_Md_look (d + 2) Q 79 [none] [] S := by
  refine zr_goto (tgt := 92) d_Md_look_79 (by decide) ?_
  exact zr_return d_Md_look_92 rfl (Nat.le_refl _) (Nat.le_refl _) l1
theorem e_Md_look {d : Nat} {Q : zm_Q} {S : zm_S} (h : zw M_Md_look (d + 2) Q 0 [some (.ref 27)] [] S) : zc M_Md_look (d + 2) [.ref 27] S Q := zm_CC_intro (by decide) rfl rfl h
theorem s_Md_list_0 {d : Nat} {Q : zm_Q} {S : zm_S} (j1 : Nat) (o1 : zm_ix (2 + 1) j1 258)
    (l1 : zw M_Md_list (d + 1) Q 21 [some (.ref 27), some (.int 0), none, none, none, none] [] (zm_up (zm_up S 49 0 ((S 49 0) + 1)) 27 22 ((256 * ((zm_up S 49 0 ((S 49 0) + 1)) 48 2)) + ((zm_up S 49 0 ((S 49 0) + 1)) 48 j1)))) :
    zw M_Md_list (d + 1) Q 0 [some (.ref 27), none, none, none, none, none] [] S := by
  refine zr_aload_n (i := 0) (x := 27) (n := 1) d_Md_list_0 rfl rfl rfl ?_
  refine zr_getr (n := 4) d_Md_list_1 rfl f_Md_81 gg_27 rfl ?_
  refine zr_iconst (v := 0) (n := 5) d_Md_list_4 rfl (by decide) ?_
  refine zr_dup2 (n := 6) d_Md_list_5 rfl rfl rfl ?_
  refine zr_iaload 0 (n := 7) d_Md_list_6 rfl gg_49 (zm_ixN (Nat.le_of_ble_eq_true rfl) (Nat.le_of_ble_eq_true rfl)) ?_
  refine zr_iconst (v := 1) (n := 8) d_Md_list_7 rfl (by decide) ?_
  refine zr_iadd (n := 9) d_Md_list_8 rfl ?_
  refine zr_iastore 0 (n := 10) d_Md_list_9 rfl gg_49 (zm_ixN (Nat.le_of_ble_eq_true rfl) (Nat.le_of_ble_eq_true rfl)) ?_
  refine zr_aload_n (i := 0) (x := 27) (n := 11) d_Md_list_10 rfl rfl rfl ?_
  refine zr_aload_n (i := 0) (x := 27) (n := 12) d_Md_list_11 rfl rfl rfl ?_
  refine zr_iconst (v := 2) (n := 13) d_Md_list_12 rfl (by decide) ?_
  refine zr_callV (M' := M_Md_pair) (mc' := 0) (ms' := 0) (av := [.int 2]) (rest := [.ref 27]) (n := 16) d_Md_list_13 rfl w_Md_207 w_Md_207k gg_27 rfl rfl rfl rfl rfl rfl (Nat.le_refl _) (Nat.le_refl _) ?_
  refine c_Md_pair (a1 := 2) 2 j1 (zm_ixN (Nat.le_of_ble_eq_true rfl) (Nat.le_of_ble_eq_true rfl)) o1 ?_
  refine zr_puti (n := 19) d_Md_list_16 rfl f_Md_56 tw_Md rfl rfl rfl rfl gg_27 rfl ?_
  refine zr_iconst (v := 0) (n := 20) d_Md_list_19 rfl (by decide) ?_
  refine zr_istore_n (i := 1) (L' := [some (.ref 27), some (.int 0), none, none, none, none]) (n := 21) d_Md_list_20 rfl rfl rfl rfl ?_
  exact l1
theorem s_Md_list_21 {d : Nat} {Q : zm_Q} {S : zm_S} {a1 : Int32} (j1 : Nat) (j2 : Nat) (j3 : Nat) (j4 : Nat) (o1 : ¬ 12 ≤ a1 → ¬ (S 48 4) ≤ a1 → zm_ix (5 + (3 * a1)) j1 258) (o2 : ¬ 12 ≤ a1 → ¬ (S 48 4) ≤ a1 → zm_ix (6 + (3 * a1)) j2 258) (o3 : ¬ 12 ≤ a1 → ¬ (S 48 4) ≤ a1 → zm_ix ((6 + (3 * a1)) + 1) j3 258) (o4 : ¬ 12 ≤ a1 → ¬ (S 48 4) ≤ a1 → zm_ix a1 j4 12)
    (l1 : 12 ≤ a1 → Q none GG S)
    (l2 : ¬ 12 ≤ a1 → (S 48 4) ≤ a1 → zc M_Md_nothing d [.ref 27, .int a1] S (fun v G' S' => zm_WP M_Md_list none (d + 1) 0 0 Q 133 [some (.ref 27), some (.int a1), some (.int 0), some (.int 0), some (.int 0), none] (zm_ps v []) G' S' 0 0))
    (l3 : ((¬ 12 ≤ a1 ∧ ¬ (S 48 4) ≤ a1 ∧ (S 43 j4) = 0) ∨ (¬ 12 ≤ a1 ∧ ¬ (S 48 4) ≤ a1 ∧ ¬ (S 43 j4) = 0 ∧ ¬ (S 45 j4) = (S 48 j1)) ∨ (¬ 12 ≤ a1 ∧ ¬ (S 48 4) ≤ a1 ∧ ¬ (S 43 j4) = 0 ∧ (S 45 j4) = (S 48 j1) ∧ ¬ (S 44 j4) = ((256 * (S 48 j2)) + (S 48 j3)))) → zc M_Md_nothing d [.ref 27, .int a1] S (fun v G' S' => zm_WP M_Md_list none (d + 1) 0 0 Q 133 [some (.ref 27), some (.int a1), some (.int 1), some (.int (S 48 j1)), some (.int ((256 * (S 48 j2)) + (S 48 j3))), none] (zm_ps v []) G' S' 0 0))
    (l4 : ¬ 12 ≤ a1 → ¬ (S 48 4) ≤ a1 → ¬ (S 43 j4) = 0 → (S 45 j4) = (S 48 j1) → (S 44 j4) = ((256 * (S 48 j2)) + (S 48 j3)) → zw M_Md_list (d + 1) Q 21 [some (.ref 27), some (.int (a1 + 1)), none, none, none, none] [] (zm_up (zm_up (zm_up S 43 j4 1) 45 j4 (S 48 j1)) 44 j4 ((256 * (S 48 j2)) + (S 48 j3)))) :
    zw M_Md_list (d + 1) Q 21 [some (.ref 27), some (.int a1), none, none, none, none] [] S := by
  refine zr_iload_n (i := 1) (x := a1) (n := 22) d_Md_list_21 rfl rfl rfl ?_
  refine zr_bipush (v := 12) (n := 24) d_Md_list_22 rfl (by decide) ?_
  refine zr_icmp_ge (tgt := 161) (n := 27) d_Md_list_24 rfl (by decide) (fun h1 => ?_) (fun h1 => ?_)
  · exact zr_return d_Md_list_161 rfl (Nat.le_refl _) (Nat.le_refl _) (l1 h1)
  · refine zr_iload_n (i := 1) (x := a1) (n := 28) d_Md_list_27 rfl rfl rfl ?_
    refine zr_aload_n (i := 0) (x := 27) (n := 29) d_Md_list_28 rfl rfl rfl ?_
    refine zr_getr (n := 32) d_Md_list_29 rfl f_Md_78 gg_27 rfl ?_
    refine zr_iconst (v := 4) (n := 33) d_Md_list_32 rfl (by decide) ?_
    refine zr_iaload 4 (n := 34) d_Md_list_33 rfl gg_48 (zm_ixN (Nat.le_of_ble_eq_true rfl) (Nat.le_of_ble_eq_true rfl)) ?_
    refine zr_icmp_ge (tgt := 41) (n := 37) d_Md_list_34 rfl (by decide) (fun h2 => ?_) (fun h2 => ?_)
    · refine zr_iconst (v := 0) (n := 42) d_Md_list_41 rfl (by decide) ?_
      refine zr_istore_n (i := 2) (L' := [some (.ref 27), some (.int a1), some (.int 0), none, none, none]) (n := 43) d_Md_list_42 rfl rfl rfl rfl ?_
      refine zr_iload_n (i := 2) (x := 0) (n := 44) d_Md_list_43 rfl rfl rfl ?_
      refine zr_if_eq (tgt := 60) (n := 47) d_Md_list_44 rfl (by decide) (fun _ => ?_) (fun h => absurd h (by decide))
      refine zr_iconst (v := 0) (n := 61) d_Md_list_60 rfl (by decide) ?_
      refine zr_istore_n (i := 3) (L' := [some (.ref 27), some (.int a1), some (.int 0), some (.int 0), none, none]) (n := 62) d_Md_list_61 rfl rfl rfl rfl ?_
      refine zr_iload_n (i := 2) (x := 0) (n := 63) d_Md_list_62 rfl rfl rfl ?_
      refine zr_if_eq (tgt := 79) (n := 66) d_Md_list_63 rfl (by decide) (fun _ => ?_) (fun h => absurd h (by decide))
      refine zr_iconst (v := 0) (n := 80) d_Md_list_79 rfl (by decide) ?_
      refine zr_istore (i := 4) (L' := [some (.ref 27), some (.int a1), some (.int 0), some (.int 0), some (.int 0), none]) (n := 82) d_Md_list_80 rfl rfl rfl ?_
      refine zr_iload_n (i := 2) (x := 0) (n := 83) d_Md_list_82 rfl rfl rfl ?_
      refine zr_if_eq (tgt := 120) (n := 86) d_Md_list_83 rfl (by decide) (fun _ => ?_) (fun h => absurd h (by decide))
      refine zr_iconst (v := 0) (n := 121) d_Md_list_120 rfl (by decide) ?_
      refine zr_istore (i := 5) (L' := [some (.ref 27), some (.int a1), some (.int 0), some (.int 0), some (.int 0), some (.int 0)]) (n := 123) d_Md_list_121 rfl rfl rfl ?_
      refine zr_iload (i := 5) (x := 0) (n := 125) d_Md_list_123 rfl rfl ?_
      refine zr_if_ne (tgt := 133) (n := 128) d_Md_list_125 rfl (by decide) (fun h => absurd h (by decide)) (fun _ => ?_)
      refine zr_aload_n (i := 0) (x := 27) (n := 129) d_Md_list_128 rfl rfl rfl ?_
      refine zr_iload_n (i := 1) (x := a1) (n := 130) d_Md_list_129 rfl rfl rfl ?_
      refine zr_weak (zm_LE.cons (zm_LE.cons (zm_LE.cons (zm_LE.cons (zm_LE.cons (zm_LE.skip zm_LE.nil)))))) ?_
      refine zr_callV (M' := M_Md_nothing) (mc' := 0) (ms' := 0) (av := [.int a1]) (rest := []) (n := 133) d_Md_list_130 rfl w_Md_173 w_Md_173k gg_27 rfl rfl rfl rfl rfl rfl (Nat.le_refl _) (Nat.le_refl _) ?_
      exact (l2 h1 h2)
    · refine zr_iconst (v := 1) (n := 38) d_Md_list_37 rfl (by decide) ?_
      refine zr_goto (tgt := 42) d_Md_list_38 (by decide) ?_
      refine zr_istore_n (i := 2) (L' := [some (.ref 27), some (.int a1), some (.int 1), none, none, none]) (n := 43) d_Md_list_42 rfl rfl rfl rfl ?_
      refine zr_iload_n (i := 2) (x := 1) (n := 44) d_Md_list_43 rfl rfl rfl ?_
      refine zr_if_eq (tgt := 60) (n := 47) d_Md_list_44 rfl (by decide) (fun h => absurd h (by decide)) (fun _ => ?_)
      refine zr_aload_n (i := 0) (x := 27) (n := 48) d_Md_list_47 rfl rfl rfl ?_
      refine zr_getr (n := 51) d_Md_list_48 rfl f_Md_78 gg_27 rfl ?_
      refine zr_iconst (v := 5) (n := 52) d_Md_list_51 rfl (by decide) ?_
      refine zr_iconst (v := 3) (n := 53) d_Md_list_52 rfl (by decide) ?_
      refine zr_iload_n (i := 1) (x := a1) (n := 54) d_Md_list_53 rfl rfl rfl ?_
      refine zr_imul (n := 55) d_Md_list_54 rfl ?_
      refine zr_iadd (n := 56) d_Md_list_55 rfl ?_
      refine zr_iaload j1 (n := 57) d_Md_list_56 rfl gg_48 (o1 h1 h2) ?_
      refine zr_goto (tgt := 61) d_Md_list_57 (by decide) ?_
      refine zr_istore_n (i := 3) (L' := [some (.ref 27), some (.int a1), some (.int 1), some (.int (S 48 j1)), none, none]) (n := 62) d_Md_list_61 rfl rfl rfl rfl ?_
      refine zr_iload_n (i := 2) (x := 1) (n := 63) d_Md_list_62 rfl rfl rfl ?_
      refine zr_if_eq (tgt := 79) (n := 66) d_Md_list_63 rfl (by decide) (fun h => absurd h (by decide)) (fun _ => ?_)
      refine zr_aload_n (i := 0) (x := 27) (n := 67) d_Md_list_66 rfl rfl rfl ?_
      refine zr_bipush (v := 6) (n := 69) d_Md_list_67 rfl (by decide) ?_
      refine zr_iconst (v := 3) (n := 70) d_Md_list_69 rfl (by decide) ?_
      refine zr_iload_n (i := 1) (x := a1) (n := 71) d_Md_list_70 rfl rfl rfl ?_
      refine zr_imul (n := 72) d_Md_list_71 rfl ?_
      refine zr_iadd (n := 73) d_Md_list_72 rfl ?_
      refine zr_callV (M' := M_Md_pair) (mc' := 0) (ms' := 0) (av := [.int (6 + (3 * a1))]) (rest := []) (n := 76) d_Md_list_73 rfl w_Md_207 w_Md_207k gg_27 rfl rfl rfl rfl rfl rfl (Nat.le_refl _) (Nat.le_refl _) ?_
      refine c_Md_pair (a1 := (6 + (3 * a1))) j2 j3 (o2 h1 h2) (o3 h1 h2) ?_
      refine zr_goto (tgt := 80) d_Md_list_76 (by decide) ?_
      refine zr_istore (i := 4) (L' := [some (.ref 27), some (.int a1), some (.int 1), some (.int (S 48 j1)), some (.int ((256 * (S 48 j2)) + (S 48 j3))), none]) (n := 82) d_Md_list_80 rfl rfl rfl ?_
      refine zr_iload_n (i := 2) (x := 1) (n := 83) d_Md_list_82 rfl rfl rfl ?_
      refine zr_if_eq (tgt := 120) (n := 86) d_Md_list_83 rfl (by decide) (fun h => absurd h (by decide)) (fun _ => ?_)
      refine zr_aload_n (i := 0) (x := 27) (n := 87) d_Md_list_86 rfl rfl rfl ?_
      refine zr_getr (n := 90) d_Md_list_87 rfl f_Md_63 gg_27 rfl ?_
      refine zr_iload_n (i := 1) (x := a1) (n := 91) d_Md_list_90 rfl rfl rfl ?_
      refine zr_baload j4 (n := 92) d_Md_list_91 rfl gg_43 (o4 h1 h2) ?_
      refine zr_if_eq (tgt := 120) (n := 95) d_Md_list_92 rfl (by decide) (fun h3 => ?_) (fun h3 => ?_)
      · refine zr_iconst (v := 0) (n := 121) d_Md_list_120 rfl (by decide) ?_
        refine zr_istore (i := 5) (L' := [some (.ref 27), some (.int a1), some (.int 1), some (.int (S 48 j1)), some (.int ((256 * (S 48 j2)) + (S 48 j3))), some (.int 0)]) (n := 123) d_Md_list_121 rfl rfl rfl ?_
        refine zr_iload (i := 5) (x := 0) (n := 125) d_Md_list_123 rfl rfl ?_
        refine zr_if_ne (tgt := 133) (n := 128) d_Md_list_125 rfl (by decide) (fun h => absurd h (by decide)) (fun _ => ?_)
        refine zr_aload_n (i := 0) (x := 27) (n := 129) d_Md_list_128 rfl rfl rfl ?_
        refine zr_iload_n (i := 1) (x := a1) (n := 130) d_Md_list_129 rfl rfl rfl ?_
        refine zr_weak (zm_LE.cons (zm_LE.cons (zm_LE.cons (zm_LE.cons (zm_LE.cons (zm_LE.skip zm_LE.nil)))))) ?_
        refine zr_callV (M' := M_Md_nothing) (mc' := 0) (ms' := 0) (av := [.int a1]) (rest := []) (n := 133) d_Md_list_130 rfl w_Md_173 w_Md_173k gg_27 rfl rfl rfl rfl rfl rfl (Nat.le_refl _) (Nat.le_refl _) ?_
        exact (l3 (Or.inl ⟨h1, h2, h3⟩))
      · refine zr_aload_n (i := 0) (x := 27) (n := 96) d_Md_list_95 rfl rfl rfl ?_
        refine zr_getr (n := 99) d_Md_list_96 rfl f_Md_69 gg_27 rfl ?_
        refine zr_iload_n (i := 1) (x := a1) (n := 100) d_Md_list_99 rfl rfl rfl ?_
        refine zr_iaload j4 (n := 101) d_Md_list_100 rfl gg_45 (o4 h1 h2) ?_
        refine zr_iload_n (i := 3) (x := (S 48 j1)) (n := 102) d_Md_list_101 rfl rfl rfl ?_
        refine zr_icmp_ne (tgt := 120) (n := 105) d_Md_list_102 rfl (by decide) (fun h4 => ?_) (fun h4 => ?_)
        · refine zr_iconst (v := 0) (n := 121) d_Md_list_120 rfl (by decide) ?_
          refine zr_istore (i := 5) (L' := [some (.ref 27), some (.int a1), some (.int 1), some (.int (S 48 j1)), some (.int ((256 * (S 48 j2)) + (S 48 j3))), some (.int 0)]) (n := 123) d_Md_list_121 rfl rfl rfl ?_
          refine zr_iload (i := 5) (x := 0) (n := 125) d_Md_list_123 rfl rfl ?_
          refine zr_if_ne (tgt := 133) (n := 128) d_Md_list_125 rfl (by decide) (fun h => absurd h (by decide)) (fun _ => ?_)
          refine zr_aload_n (i := 0) (x := 27) (n := 129) d_Md_list_128 rfl rfl rfl ?_
          refine zr_iload_n (i := 1) (x := a1) (n := 130) d_Md_list_129 rfl rfl rfl ?_
          refine zr_weak (zm_LE.cons (zm_LE.cons (zm_LE.cons (zm_LE.cons (zm_LE.cons (zm_LE.skip zm_LE.nil)))))) ?_
          refine zr_callV (M' := M_Md_nothing) (mc' := 0) (ms' := 0) (av := [.int a1]) (rest := []) (n := 133) d_Md_list_130 rfl w_Md_173 w_Md_173k gg_27 rfl rfl rfl rfl rfl rfl (Nat.le_refl _) (Nat.le_refl _) ?_
          exact (l3 (Or.inr (Or.inl ⟨h1, h2, h3, h4⟩)))
        · refine zr_aload_n (i := 0) (x := 27) (n := 106) d_Md_list_105 rfl rfl rfl ?_
          refine zr_getr (n := 109) d_Md_list_106 rfl f_Md_66 gg_27 rfl ?_
          refine zr_iload_n (i := 1) (x := a1) (n := 110) d_Md_list_109 rfl rfl rfl ?_
          refine zr_iaload j4 (n := 111) d_Md_list_110 rfl gg_44 (o4 h1 h2) ?_
          refine zr_iload (i := 4) (x := ((256 * (S 48 j2)) + (S 48 j3))) (n := 113) d_Md_list_111 rfl rfl ?_
          refine zr_icmp_ne (tgt := 120) (n := 116) d_Md_list_113 rfl (by decide) (fun h5 => ?_) (fun h5 => ?_)
          · refine zr_iconst (v := 0) (n := 121) d_Md_list_120 rfl (by decide) ?_
            refine zr_istore (i := 5) (L' := [some (.ref 27), some (.int a1), some (.int 1), some (.int (S 48 j1)), some (.int ((256 * (S 48 j2)) + (S 48 j3))), some (.int 0)]) (n := 123) d_Md_list_121 rfl rfl rfl ?_
            refine zr_iload (i := 5) (x := 0) (n := 125) d_Md_list_123 rfl rfl ?_
            refine zr_if_ne (tgt := 133) (n := 128) d_Md_list_125 rfl (by decide) (fun h => absurd h (by decide)) (fun _ => ?_)
            refine zr_aload_n (i := 0) (x := 27) (n := 129) d_Md_list_128 rfl rfl rfl ?_
            refine zr_iload_n (i := 1) (x := a1) (n := 130) d_Md_list_129 rfl rfl rfl ?_
            refine zr_weak (zm_LE.cons (zm_LE.cons (zm_LE.cons (zm_LE.cons (zm_LE.cons (zm_LE.skip zm_LE.nil)))))) ?_
            refine zr_callV (M' := M_Md_nothing) (mc' := 0) (ms' := 0) (av := [.int a1]) (rest := []) (n := 133) d_Md_list_130 rfl w_Md_173 w_Md_173k gg_27 rfl rfl rfl rfl rfl rfl (Nat.le_refl _) (Nat.le_refl _) ?_
            exact (l3 (Or.inr (Or.inr ⟨h1, h2, h3, h4, h5⟩)))
          · refine zr_iconst (v := 1) (n := 117) d_Md_list_116 rfl (by decide) ?_
            refine zr_goto (tgt := 121) d_Md_list_117 (by decide) ?_
            refine zr_istore (i := 5) (L' := [some (.ref 27), some (.int a1), some (.int 1), some (.int (S 48 j1)), some (.int ((256 * (S 48 j2)) + (S 48 j3))), some (.int 1)]) (n := 123) d_Md_list_121 rfl rfl rfl ?_
            refine zr_iload (i := 5) (x := 1) (n := 125) d_Md_list_123 rfl rfl ?_
            refine zr_if_ne (tgt := 133) (n := 128) d_Md_list_125 rfl (by decide) (fun _ => ?_) (fun h => absurd h (by decide))
            refine zr_aload_n (i := 0) (x := 27) (n := 134) d_Md_list_133 rfl rfl rfl ?_
            refine zr_getr (n := 137) d_Md_list_134 rfl f_Md_63 gg_27 rfl ?_
            refine zr_iload_n (i := 1) (x := a1) (n := 138) d_Md_list_137 rfl rfl rfl ?_
            refine zr_iload_n (i := 2) (x := 1) (n := 139) d_Md_list_138 rfl rfl rfl ?_
            refine zr_bastoreV (n := 140) j4 d_Md_list_139 rfl gg_43 (o4 h1 h2) (by decide) ?_
            refine zr_aload_n (i := 0) (x := 27) (n := 141) d_Md_list_140 rfl rfl rfl ?_
            refine zr_getr (n := 144) d_Md_list_141 rfl f_Md_69 gg_27 rfl ?_
            refine zr_iload_n (i := 1) (x := a1) (n := 145) d_Md_list_144 rfl rfl rfl ?_
            refine zr_iload_n (i := 3) (x := (S 48 j1)) (n := 146) d_Md_list_145 rfl rfl rfl ?_
            refine zr_iastore j4 (n := 147) d_Md_list_146 rfl gg_45 (o4 h1 h2) ?_
            refine zr_aload_n (i := 0) (x := 27) (n := 148) d_Md_list_147 rfl rfl rfl ?_
            refine zr_getr (n := 151) d_Md_list_148 rfl f_Md_66 gg_27 rfl ?_
            refine zr_iload_n (i := 1) (x := a1) (n := 152) d_Md_list_151 rfl rfl rfl ?_
            refine zr_iload (i := 4) (x := ((256 * (S 48 j2)) + (S 48 j3))) (n := 154) d_Md_list_152 rfl rfl ?_
            refine zr_iastore j4 (n := 155) d_Md_list_154 rfl gg_44 (o4 h1 h2) ?_
            refine zr_iinc (i := 1) (w := 1) (x := a1) (L' := [some (.ref 27), some (.int (a1 + 1)), some (.int 1), some (.int (S 48 j1)), some (.int ((256 * (S 48 j2)) + (S 48 j3))), some (.int 1)]) (n := 158) d_Md_list_155 rfl (by decide) rfl rfl ?_
            refine zr_goto (tgt := 21) d_Md_list_158 (by decide) ?_
            exact zr_weak (zm_LE.cons (zm_LE.cons (zm_LE.skip (zm_LE.skip (zm_LE.skip (zm_LE.skip zm_LE.nil)))))) (l4 h1 h2 h3 h4 h5)
theorem s_Md_list_133 {d : Nat} {Q : zm_Q} {S : zm_S} {a1 a2 a3 a4 : Int32} (j1 : Nat) (o1 : zm_ix a1 j1 12) (o2 : a2 = 0 ∨ a2 = 1)
    (l1 : zw M_Md_list (d + 1) Q 21 [some (.ref 27), some (.int (a1 + 1)), none, none, none, none] [] (zm_up (zm_up (zm_up S 43 j1 a2) 45 j1 a3) 44 j1 a4)) :
    zw M_Md_list (d + 1) Q 133 [some (.ref 27), some (.int a1), some (.int a2), some (.int a3), some (.int a4), none] [] S := by
  refine zr_aload_n (i := 0) (x := 27) (n := 134) d_Md_list_133 rfl rfl rfl ?_
  refine zr_getr (n := 137) d_Md_list_134 rfl f_Md_63 gg_27 rfl ?_
  refine zr_iload_n (i := 1) (x := a1) (n := 138) d_Md_list_137 rfl rfl rfl ?_
  refine zr_iload_n (i := 2) (x := a2) (n := 139) d_Md_list_138 rfl rfl rfl ?_
  refine zr_bastoreV (n := 140) j1 d_Md_list_139 rfl gg_43 o1 (zm_vz o2) ?_
  refine zr_aload_n (i := 0) (x := 27) (n := 141) d_Md_list_140 rfl rfl rfl ?_
  refine zr_getr (n := 144) d_Md_list_141 rfl f_Md_69 gg_27 rfl ?_
  refine zr_iload_n (i := 1) (x := a1) (n := 145) d_Md_list_144 rfl rfl rfl ?_
  refine zr_iload_n (i := 3) (x := a3) (n := 146) d_Md_list_145 rfl rfl rfl ?_
  refine zr_iastore j1 (n := 147) d_Md_list_146 rfl gg_45 o1 ?_
  refine zr_aload_n (i := 0) (x := 27) (n := 148) d_Md_list_147 rfl rfl rfl ?_
  refine zr_getr (n := 151) d_Md_list_148 rfl f_Md_66 gg_27 rfl ?_
  refine zr_iload_n (i := 1) (x := a1) (n := 152) d_Md_list_151 rfl rfl rfl ?_
  refine zr_iload (i := 4) (x := a4) (n := 154) d_Md_list_152 rfl rfl ?_
  refine zr_iastore j1 (n := 155) d_Md_list_154 rfl gg_44 o1 ?_
  refine zr_iinc (i := 1) (w := 1) (x := a1) (L' := [some (.ref 27), some (.int (a1 + 1)), some (.int a2), some (.int a3), some (.int a4), none]) (n := 158) d_Md_list_155 rfl (by decide) rfl rfl ?_
  refine zr_goto (tgt := 21) d_Md_list_158 (by decide) ?_
  exact zr_weak (zm_LE.cons (zm_LE.cons (zm_LE.skip (zm_LE.skip (zm_LE.skip (zm_LE.cons zm_LE.nil)))))) l1
theorem e_Md_list {d : Nat} {Q : zm_Q} {S : zm_S} (h : zw M_Md_list (d + 1) Q 0 [some (.ref 27), none, none, none, none, none] [] S) : zc M_Md_list (d + 1) [.ref 27] S Q := zm_CC_intro (by decide) rfl rfl h
theorem s_Md_ready_0 {d : Nat} {Q : zm_Q} {S : zm_S} {a1 : Int32} (j1 : Nat) (o1 : 0 ≤ (S 27 22) → ¬ 11 < a1 → zm_ix a1 j1 12)
    (l1 : ((0 ≤ (S 27 22) ∧ 11 < a1) ∨ (0 ≤ (S 27 22) ∧ ¬ 11 < a1 ∧ (S 43 j1) = 0)) → Q (some (-2)) GG S)
    (l2 : 0 ≤ (S 27 22) → ¬ 11 < a1 → ¬ (S 43 j1) = 0 → zc M_Md_heldOf d [.ref 27, .int a1] S (fun v G' S' => zm_WP M_Md_ready none (d + 1) 0 0 Q 35 [some (.ref 27), some (.int a1)] (zm_ps v [.int 8]) G' S' 0 0))
    (l3 : ¬ 0 ≤ (S 27 22) → Q (some (-6)) GG S) :
    zw M_Md_ready (d + 1) Q 0 [some (.ref 27), some (.int a1)] [] S := by
  refine zr_aload_n (i := 0) (x := 27) (n := 1) d_Md_ready_0 rfl rfl rfl ?_
  refine zr_geti (n := 4) d_Md_ready_1 rfl f_Md_56 gg_27 rfl ?_
  refine zr_if_ge (tgt := 10) (n := 7) d_Md_ready_4 rfl (by decide) (fun h1 => ?_) (fun h1 => ?_)
  · refine zr_iload_n (i := 1) (x := a1) (n := 11) d_Md_ready_10 rfl rfl rfl ?_
    refine zr_bipush (v := 11) (n := 13) d_Md_ready_11 rfl (by decide) ?_
    refine zr_icmp_gt (tgt := 25) (n := 16) d_Md_ready_13 rfl (by decide) (fun h2 => ?_) (fun h2 => ?_)
    · refine zr_bipush (v := (-2)) (n := 27) d_Md_ready_25 rfl (by decide) ?_
      exact zr_ireturn d_Md_ready_27 rfl rfl (Nat.le_refl _) (Nat.le_refl _) (l1 (Or.inl ⟨h1, h2⟩))
    · refine zr_aload_n (i := 0) (x := 27) (n := 17) d_Md_ready_16 rfl rfl rfl ?_
      refine zr_getr (n := 20) d_Md_ready_17 rfl f_Md_63 gg_27 rfl ?_
      refine zr_iload_n (i := 1) (x := a1) (n := 21) d_Md_ready_20 rfl rfl rfl ?_
      refine zr_baload j1 (n := 22) d_Md_ready_21 rfl gg_43 (o1 h1 h2) ?_
      refine zr_if_ne (tgt := 28) (n := 25) d_Md_ready_22 rfl (by decide) (fun h3 => ?_) (fun h3 => ?_)
      · refine zr_bipush (v := 8) (n := 30) d_Md_ready_28 rfl (by decide) ?_
        refine zr_aload_n (i := 0) (x := 27) (n := 31) d_Md_ready_30 rfl rfl rfl ?_
        refine zr_iload_n (i := 1) (x := a1) (n := 32) d_Md_ready_31 rfl rfl rfl ?_
        refine zr_callV (M' := M_Md_heldOf) (mc' := 0) (ms' := 0) (av := [.int a1]) (rest := [.int 8]) (n := 35) d_Md_ready_32 rfl w_Md_210 w_Md_210k gg_27 rfl rfl rfl rfl rfl rfl (Nat.le_refl _) (Nat.le_refl _) ?_
        exact (l2 h1 h2 h3)
      · refine zr_bipush (v := (-2)) (n := 27) d_Md_ready_25 rfl (by decide) ?_
        exact zr_ireturn d_Md_ready_27 rfl rfl (Nat.le_refl _) (Nat.le_refl _) (l1 (Or.inr ⟨h1, h2, h3⟩))
  · refine zr_bipush (v := (-6)) (n := 9) d_Md_ready_7 rfl (by decide) ?_
    exact zr_ireturn d_Md_ready_9 rfl rfl (Nat.le_refl _) (Nat.le_refl _) (l3 h1)
theorem s_Md_ready_35 {d : Nat} {Q : zm_Q} {S : zm_S} {a1 b0 r : Int32} (j1 : Nat) (o1 : zm_ix a1 j1 12)
    (l1 : (b0 * r) < (S 45 j1) → Q (some (-6)) GG S)
    (l2 : ¬ (b0 * r) < (S 45 j1) → Q (some 0) GG S) :
    zw M_Md_ready (d + 1) Q 35 [some (.ref 27), some (.int a1)] [.int r, .int b0] S := by
  refine zr_imul (n := 36) d_Md_ready_35 rfl ?_
  refine zr_aload_n (i := 0) (x := 27) (n := 37) d_Md_ready_36 rfl rfl rfl ?_
  refine zr_getr (n := 40) d_Md_ready_37 rfl f_Md_69 gg_27 rfl ?_
  refine zr_iload_n (i := 1) (x := a1) (n := 41) d_Md_ready_40 rfl rfl rfl ?_
  refine zr_iaload j1 (n := 42) d_Md_ready_41 rfl gg_45 o1 ?_
  refine zr_icmp_lt (tgt := 49) (n := 45) d_Md_ready_42 rfl (by decide) (fun h1 => ?_) (fun h1 => ?_)
  · refine zr_bipush (v := (-6)) (n := 51) d_Md_ready_49 rfl (by decide) ?_
    exact zr_ireturn d_Md_ready_51 rfl rfl (Nat.le_refl _) (Nat.le_refl _) (l1 h1)
  · refine zr_iconst (v := 0) (n := 46) d_Md_ready_45 rfl (by decide) ?_
    refine zr_goto (tgt := 51) d_Md_ready_46 (by decide) ?_
    exact zr_ireturn d_Md_ready_51 rfl rfl (Nat.le_refl _) (Nat.le_refl _) (l2 h1)
theorem e_Md_ready {d : Nat} {Q : zm_Q} {S : zm_S} {a1 : Int32} (h : zw M_Md_ready (d + 1) Q 0 [some (.ref 27), some (.int a1)] [] S) : zc M_Md_ready (d + 1) [.ref 27, .int a1] S Q := zm_CC_intro (by decide) rfl rfl h
theorem s_Md_kind_0 {d : Nat} {Q : zm_Q} {S : zm_S} {a1 a2 a3 : Int32}
    (l1 : zc M_Md_follow (d + 3) [.ref 27, .int a1, .int a2, .int a3] S (fun v G' S' => zm_WP M_Md_kind none (d + 4) 0 0 Q 7 [some (.ref 27), none, none, none, none] (zm_ps v []) G' S' 0 0)) :
    zw M_Md_kind (d + 4) Q 0 [some (.ref 27), some (.int a1), some (.int a2), some (.int a3), none] [] S := by
  refine zr_aload_n (i := 0) (x := 27) (n := 1) d_Md_kind_0 rfl rfl rfl ?_
  refine zr_iload_n (i := 1) (x := a1) (n := 2) d_Md_kind_1 rfl rfl rfl ?_
  refine zr_iload_n (i := 2) (x := a2) (n := 3) d_Md_kind_2 rfl rfl rfl ?_
  refine zr_iload_n (i := 3) (x := a3) (n := 4) d_Md_kind_3 rfl rfl rfl ?_
  refine zr_weak (zm_LE.cons (zm_LE.skip (zm_LE.skip (zm_LE.skip (zm_LE.cons zm_LE.nil))))) ?_
  refine zr_callV (M' := M_Md_follow) (mc' := 0) (ms' := 0) (av := [.int a1, .int a2, .int a3]) (rest := []) (n := 7) d_Md_kind_4 rfl w_Md_229 w_Md_229k gg_27 rfl rfl rfl rfl rfl rfl (Nat.le_refl _) (Nat.le_refl _) ?_
  exact l1
theorem s_Md_kind_7 {d : Nat} {Q : zm_Q} {S : zm_S} {r : Int32} (j1 : Nat) (o1 : 0 ≤ r → zm_ix r j1 576)
    (l1 : 0 ≤ r → Q (some (S 47 j1)) GG S)
    (l2 : ¬ 0 ≤ r → Q (some r) GG S) :
    zw M_Md_kind (d + 4) Q 7 [some (.ref 27), none, none, none, none] [.int r] S := by
  refine zr_istore (i := 4) (L' := [some (.ref 27), none, none, none, some (.int r)]) (n := 9) d_Md_kind_7 rfl rfl rfl ?_
  refine zr_iload (i := 4) (x := r) (n := 11) d_Md_kind_9 rfl rfl ?_
  refine zr_if_ge (tgt := 19) (n := 14) d_Md_kind_11 rfl (by decide) (fun h1 => ?_) (fun h1 => ?_)
  · refine zr_aload_n (i := 0) (x := 27) (n := 20) d_Md_kind_19 rfl rfl rfl ?_
    refine zr_getr (n := 23) d_Md_kind_20 rfl f_Md_75 gg_27 rfl ?_
    refine zr_iload (i := 4) (x := r) (n := 25) d_Md_kind_23 rfl rfl ?_
    refine zr_iaload j1 (n := 26) d_Md_kind_25 rfl gg_47 (o1 h1) ?_
    exact zr_ireturn d_Md_kind_26 rfl rfl (Nat.le_refl _) (Nat.le_refl _) (l1 h1)
  · refine zr_iload (i := 4) (x := r) (n := 16) d_Md_kind_14 rfl rfl ?_
    refine zr_goto (tgt := 26) d_Md_kind_16 (by decide) ?_
    exact zr_ireturn d_Md_kind_26 rfl rfl (Nat.le_refl _) (Nat.le_refl _) (l2 h1)
theorem e_Md_kind {d : Nat} {Q : zm_Q} {S : zm_S} {a1 a2 a3 : Int32} (h : zw M_Md_kind (d + 4) Q 0 [some (.ref 27), some (.int a1), some (.int a2), some (.int a3), none] [] S) : zc M_Md_kind (d + 4) [.ref 27, .int a1, .int a2, .int a3] S Q := zm_CC_intro (by decide) rfl rfl h
theorem s_Md_size_0 {d : Nat} {Q : zm_Q} {S : zm_S} {a1 a2 a3 : Int32}
    (l1 : zc M_Md_follow (d + 3) [.ref 27, .int a1, .int a2, .int a3] S (fun v G' S' => zm_WP M_Md_size none (d + 4) 0 0 Q 7 [some (.ref 27), none, none, none, none] (zm_ps v []) G' S' 0 0)) :
    zw M_Md_size (d + 4) Q 0 [some (.ref 27), some (.int a1), some (.int a2), some (.int a3), none] [] S := by
  refine zr_aload_n (i := 0) (x := 27) (n := 1) d_Md_size_0 rfl rfl rfl ?_
  refine zr_iload_n (i := 1) (x := a1) (n := 2) d_Md_size_1 rfl rfl rfl ?_
  refine zr_iload_n (i := 2) (x := a2) (n := 3) d_Md_size_2 rfl rfl rfl ?_
  refine zr_iload_n (i := 3) (x := a3) (n := 4) d_Md_size_3 rfl rfl rfl ?_
  refine zr_weak (zm_LE.cons (zm_LE.skip (zm_LE.skip (zm_LE.skip (zm_LE.cons zm_LE.nil))))) ?_
  refine zr_callV (M' := M_Md_follow) (mc' := 0) (ms' := 0) (av := [.int a1, .int a2, .int a3]) (rest := []) (n := 7) d_Md_size_4 rfl w_Md_229 w_Md_229k gg_27 rfl rfl rfl rfl rfl rfl (Nat.le_refl _) (Nat.le_refl _) ?_
  exact l1
theorem s_Md_size_7 {d : Nat} {Q : zm_Q} {S : zm_S} {r : Int32} (j1 : Nat) (j2 : Nat) (o1 : 0 ≤ r → zm_ix r j1 576) (o2 : 0 ≤ r → (S 47 j1) = 1 → zm_ix (r + 2) j2 576) (o3 : 0 ≤ r → ¬ (S 47 j1) = 1 → ¬ (S 47 j1) = 2 → zm_ix (r + 2) j2 576) (o4 : 0 ≤ r → ¬ (S 47 j1) = 1 → (S 47 j1) = 2 → zm_ix (r + 2) j2 576)
    (l1 : ((0 ≤ r ∧ (S 47 j1) = 1) ∨ (0 ≤ r ∧ ¬ (S 47 j1) = 1 ∧ (S 47 j1) = 2)) → Q (some ((S 47 j2) / 4)) GG S)
    (l2 : 0 ≤ r → ¬ (S 47 j1) = 1 → ¬ (S 47 j1) = 2 → Q (some (S 47 j2)) GG S)
    (l3 : ¬ 0 ≤ r → Q (some r) GG S) :
    zw M_Md_size (d + 4) Q 7 [some (.ref 27), none, none, none, none] [.int r] S := by
  refine zr_istore (i := 4) (L' := [some (.ref 27), none, none, none, some (.int r)]) (n := 9) d_Md_size_7 rfl rfl rfl ?_
  refine zr_iload (i := 4) (x := r) (n := 11) d_Md_size_9 rfl rfl ?_
  refine zr_if_ge (tgt := 17) (n := 14) d_Md_size_11 rfl (by decide) (fun h1 => ?_) (fun h1 => ?_)
  · refine zr_aload_n (i := 0) (x := 27) (n := 18) d_Md_size_17 rfl rfl rfl ?_
    refine zr_getr (n := 21) d_Md_size_18 rfl f_Md_75 gg_27 rfl ?_
    refine zr_iload (i := 4) (x := r) (n := 23) d_Md_size_21 rfl rfl ?_
    refine zr_iaload j1 (n := 24) d_Md_size_23 rfl gg_47 (o1 h1) ?_
    refine zr_iconst (v := 1) (n := 25) d_Md_size_24 rfl (by decide) ?_
    refine zr_icmp_eq (tgt := 39) (n := 28) d_Md_size_25 rfl (by decide) (fun h2 => ?_) (fun h2 => ?_)
    · refine zr_aload_n (i := 0) (x := 27) (n := 40) d_Md_size_39 rfl rfl rfl ?_
      refine zr_getr (n := 43) d_Md_size_40 rfl f_Md_75 gg_27 rfl ?_
      refine zr_iload (i := 4) (x := r) (n := 45) d_Md_size_43 rfl rfl ?_
      refine zr_iconst (v := 2) (n := 46) d_Md_size_45 rfl (by decide) ?_
      refine zr_iadd (n := 47) d_Md_size_46 rfl ?_
      refine zr_iaload j2 (n := 48) d_Md_size_47 rfl gg_47 (o2 h1 h2) ?_
      refine zr_iconst (v := 4) (n := 49) d_Md_size_48 rfl (by decide) ?_
      refine zr_idiv (n := 50) d_Md_size_49 rfl (by decide) ?_
      refine zr_goto (tgt := 62) d_Md_size_50 (by decide) ?_
      exact zr_ireturn d_Md_size_62 rfl rfl (Nat.le_refl _) (Nat.le_refl _) (l1 (Or.inl ⟨h1, h2⟩))
    · refine zr_aload_n (i := 0) (x := 27) (n := 29) d_Md_size_28 rfl rfl rfl ?_
      refine zr_getr (n := 32) d_Md_size_29 rfl f_Md_75 gg_27 rfl ?_
      refine zr_iload (i := 4) (x := r) (n := 34) d_Md_size_32 rfl rfl ?_
      refine zr_iaload j1 (n := 35) d_Md_size_34 rfl gg_47 (o1 h1) ?_
      refine zr_iconst (v := 2) (n := 36) d_Md_size_35 rfl (by decide) ?_
      refine zr_icmp_ne (tgt := 53) (n := 39) d_Md_size_36 rfl (by decide) (fun h3 => ?_) (fun h3 => ?_)
      · refine zr_aload_n (i := 0) (x := 27) (n := 54) d_Md_size_53 rfl rfl rfl ?_
        refine zr_getr (n := 57) d_Md_size_54 rfl f_Md_75 gg_27 rfl ?_
        refine zr_iload (i := 4) (x := r) (n := 59) d_Md_size_57 rfl rfl ?_
        refine zr_iconst (v := 2) (n := 60) d_Md_size_59 rfl (by decide) ?_
        refine zr_iadd (n := 61) d_Md_size_60 rfl ?_
        refine zr_iaload j2 (n := 62) d_Md_size_61 rfl gg_47 (o3 h1 h2 h3) ?_
        exact zr_ireturn d_Md_size_62 rfl rfl (Nat.le_refl _) (Nat.le_refl _) (l2 h1 h2 h3)
      · refine zr_aload_n (i := 0) (x := 27) (n := 40) d_Md_size_39 rfl rfl rfl ?_
        refine zr_getr (n := 43) d_Md_size_40 rfl f_Md_75 gg_27 rfl ?_
        refine zr_iload (i := 4) (x := r) (n := 45) d_Md_size_43 rfl rfl ?_
        refine zr_iconst (v := 2) (n := 46) d_Md_size_45 rfl (by decide) ?_
        refine zr_iadd (n := 47) d_Md_size_46 rfl ?_
        refine zr_iaload j2 (n := 48) d_Md_size_47 rfl gg_47 (o4 h1 h2 h3) ?_
        refine zr_iconst (v := 4) (n := 49) d_Md_size_48 rfl (by decide) ?_
        refine zr_idiv (n := 50) d_Md_size_49 rfl (by decide) ?_
        refine zr_goto (tgt := 62) d_Md_size_50 (by decide) ?_
        exact zr_ireturn d_Md_size_62 rfl rfl (Nat.le_refl _) (Nat.le_refl _) (l1 (Or.inr ⟨h1, h2, h3⟩))
  · refine zr_iload (i := 4) (x := r) (n := 16) d_Md_size_14 rfl rfl ?_
    exact zr_ireturn d_Md_size_16 rfl rfl (Nat.le_refl _) (Nat.le_refl _) (l3 h1)
theorem e_Md_size {d : Nat} {Q : zm_Q} {S : zm_S} {a1 a2 a3 : Int32} (h : zw M_Md_size (d + 4) Q 0 [some (.ref 27), some (.int a1), some (.int a2), some (.int a3), none] [] S) : zc M_Md_size (d + 4) [.ref 27, .int a1, .int a2, .int a3] S Q := zm_CC_intro (by decide) rfl rfl h
theorem s_Md_read_0 {d : Nat} {Q : zm_Q} {S : zm_S} {a1 a2 a3 a4 : Int32}
    (l1 : zc M_Md_follow (d + 3) [.ref 27, .int a1, .int a2, .int a3] S (fun v G' S' => zm_WP M_Md_read none (d + 4) 0 0 Q 7 [some (.ref 27), none, none, none, some (.int a4), none] (zm_ps v []) G' S' 0 0)) :
    zw M_Md_read (d + 4) Q 0 [some (.ref 27), some (.int a1), some (.int a2), some (.int a3), some (.int a4), none] [] S := by
  refine zr_aload_n (i := 0) (x := 27) (n := 1) d_Md_read_0 rfl rfl rfl ?_
  refine zr_iload_n (i := 1) (x := a1) (n := 2) d_Md_read_1 rfl rfl rfl ?_
  refine zr_iload_n (i := 2) (x := a2) (n := 3) d_Md_read_2 rfl rfl rfl ?_
  refine zr_iload_n (i := 3) (x := a3) (n := 4) d_Md_read_3 rfl rfl rfl ?_
  refine zr_weak (zm_LE.cons (zm_LE.skip (zm_LE.skip (zm_LE.skip (zm_LE.cons (zm_LE.cons zm_LE.nil)))))) ?_
  refine zr_callV (M' := M_Md_follow) (mc' := 0) (ms' := 0) (av := [.int a1, .int a2, .int a3]) (rest := []) (n := 7) d_Md_read_4 rfl w_Md_229 w_Md_229k gg_27 rfl rfl rfl rfl rfl rfl (Nat.le_refl _) (Nat.le_refl _) ?_
  exact l1
theorem s_Md_read_7 {d : Nat} {Q : zm_Q} {S : zm_S} {a4 r : Int32} (j1 : Nat) (j2 : Nat) (o1 : 0 ≤ r → ¬ a4 < 0 → zm_ix (r + 2) j1 576) (o2 : 0 ≤ r → ¬ a4 < 0 → ¬ (S 47 j1) ≤ a4 → zm_ix ((r + 3) + a4) j2 576)
    (l1 : ((0 ≤ r ∧ a4 < 0) ∨ (0 ≤ r ∧ ¬ a4 < 0 ∧ (S 47 j1) ≤ a4)) → Q (some (-2)) GG S)
    (l2 : 0 ≤ r → ¬ a4 < 0 → ¬ (S 47 j1) ≤ a4 → Q (some (S 47 j2)) GG S)
    (l3 : ¬ 0 ≤ r → Q (some r) GG S) :
    zw M_Md_read (d + 4) Q 7 [some (.ref 27), none, none, none, some (.int a4), none] [.int r] S := by
  refine zr_istore (i := 5) (L' := [some (.ref 27), none, none, none, some (.int a4), some (.int r)]) (n := 9) d_Md_read_7 rfl rfl rfl ?_
  refine zr_iload (i := 5) (x := r) (n := 11) d_Md_read_9 rfl rfl ?_
  refine zr_if_ge (tgt := 17) (n := 14) d_Md_read_11 rfl (by decide) (fun h1 => ?_) (fun h1 => ?_)
  · refine zr_iload (i := 4) (x := a4) (n := 19) d_Md_read_17 rfl rfl ?_
    refine zr_if_lt (tgt := 51) (n := 22) d_Md_read_19 rfl (by decide) (fun h2 => ?_) (fun h2 => ?_)
    · refine zr_bipush (v := (-2)) (n := 53) d_Md_read_51 rfl (by decide) ?_
      exact zr_ireturn d_Md_read_53 rfl rfl (Nat.le_refl _) (Nat.le_refl _) (l1 (Or.inl ⟨h1, h2⟩))
    · refine zr_iload (i := 4) (x := a4) (n := 24) d_Md_read_22 rfl rfl ?_
      refine zr_aload_n (i := 0) (x := 27) (n := 25) d_Md_read_24 rfl rfl rfl ?_
      refine zr_getr (n := 28) d_Md_read_25 rfl f_Md_75 gg_27 rfl ?_
      refine zr_iload (i := 5) (x := r) (n := 30) d_Md_read_28 rfl rfl ?_
      refine zr_iconst (v := 2) (n := 31) d_Md_read_30 rfl (by decide) ?_
      refine zr_iadd (n := 32) d_Md_read_31 rfl ?_
      refine zr_iaload j1 (n := 33) d_Md_read_32 rfl gg_47 (o1 h1 h2) ?_
      refine zr_icmp_ge (tgt := 51) (n := 36) d_Md_read_33 rfl (by decide) (fun h3 => ?_) (fun h3 => ?_)
      · refine zr_bipush (v := (-2)) (n := 53) d_Md_read_51 rfl (by decide) ?_
        exact zr_ireturn d_Md_read_53 rfl rfl (Nat.le_refl _) (Nat.le_refl _) (l1 (Or.inr ⟨h1, h2, h3⟩))
      · refine zr_aload_n (i := 0) (x := 27) (n := 37) d_Md_read_36 rfl rfl rfl ?_
        refine zr_getr (n := 40) d_Md_read_37 rfl f_Md_75 gg_27 rfl ?_
        refine zr_iload (i := 5) (x := r) (n := 42) d_Md_read_40 rfl rfl ?_
        refine zr_iconst (v := 3) (n := 43) d_Md_read_42 rfl (by decide) ?_
        refine zr_iadd (n := 44) d_Md_read_43 rfl ?_
        refine zr_iload (i := 4) (x := a4) (n := 46) d_Md_read_44 rfl rfl ?_
        refine zr_iadd (n := 47) d_Md_read_46 rfl ?_
        refine zr_iaload j2 (n := 48) d_Md_read_47 rfl gg_47 (o2 h1 h2 h3) ?_
        refine zr_goto (tgt := 53) d_Md_read_48 (by decide) ?_
        exact zr_ireturn d_Md_read_53 rfl rfl (Nat.le_refl _) (Nat.le_refl _) (l2 h1 h2 h3)
  · refine zr_iload (i := 5) (x := r) (n := 16) d_Md_read_14 rfl rfl ?_
    exact zr_ireturn d_Md_read_16 rfl rfl (Nat.le_refl _) (Nat.le_refl _) (l3 h1)
theorem e_Md_read {d : Nat} {Q : zm_Q} {S : zm_S} {a1 a2 a3 a4 : Int32} (h : zw M_Md_read (d + 4) Q 0 [some (.ref 27), some (.int a1), some (.int a2), some (.int a3), some (.int a4), none] [] S) : zc M_Md_read (d + 4) [.ref 27, .int a1, .int a2, .int a3, .int a4] S Q := zm_CC_intro (by decide) rfl rfl h
