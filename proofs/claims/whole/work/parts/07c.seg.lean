theorem s_Md_after_0 {d : Nat} {Q : zm_Q} {S : zm_S} {a1 a2 : Int32}
    (l1 : zw M_Md_after d Q 5 [some (.ref 27), some (.int a1), some (.int a2), some (.int (-1)), some (.int 1), none] [] S) :
    zw M_Md_after d Q 0 [some (.ref 27), some (.int a1), some (.int a2), none, none, none] [] S := by
  refine zr_iconst (v := (-1)) (n := 1) d_Md_after_0 rfl (by decide) ?_
  refine zr_istore_n (i := 3) (L' := [some (.ref 27), some (.int a1), some (.int a2), some (.int (-1)), none, none]) (n := 2) d_Md_after_1 rfl rfl rfl rfl ?_
  refine zr_iconst (v := 1) (n := 3) d_Md_after_2 rfl (by decide) ?_
  refine zr_istore (i := 4) (L' := [some (.ref 27), some (.int a1), some (.int a2), some (.int (-1)), some (.int 1), none]) (n := 5) d_Md_after_3 rfl rfl rfl ?_
  exact l1
theorem s_Md_after_5 {d : Nat} {Q : zm_Q} {S : zm_S} {a1 a2 a3 a4 : Int32} (j1 : Nat) (j2 : Nat) (o1 : ¬ 12 ≤ a4 → zm_ix a4 j1 12) (o2 : ¬ 12 ≤ a4 → ¬ (S 28 j1) = 0 → (S 29 j1) = a1 → ¬ (S 30 j1) ≤ a2 → ¬ a3 < 0 → zm_ix a3 j2 12)
    (l1 : 12 ≤ a4 → Q (some a3) GG S)
    (l2 : ((¬ 12 ≤ a4 ∧ (S 28 j1) = 0) ∨ (¬ 12 ≤ a4 ∧ ¬ (S 28 j1) = 0 ∧ ¬ (S 29 j1) = a1) ∨ (¬ 12 ≤ a4 ∧ ¬ (S 28 j1) = 0 ∧ (S 29 j1) = a1 ∧ (S 30 j1) ≤ a2) ∨ (¬ 12 ≤ a4 ∧ ¬ (S 28 j1) = 0 ∧ (S 29 j1) = a1 ∧ ¬ (S 30 j1) ≤ a2 ∧ ¬ a3 < 0 ∧ (S 30 j2) ≤ (S 30 j1))) → zw M_Md_after d Q 5 [some (.ref 27), some (.int a1), some (.int a2), some (.int a3), some (.int (a4 + 1)), none] [] S)
    (l3 : ((¬ 12 ≤ a4 ∧ ¬ (S 28 j1) = 0 ∧ (S 29 j1) = a1 ∧ ¬ (S 30 j1) ≤ a2 ∧ a3 < 0) ∨ (¬ 12 ≤ a4 ∧ ¬ (S 28 j1) = 0 ∧ (S 29 j1) = a1 ∧ ¬ (S 30 j1) ≤ a2 ∧ ¬ a3 < 0 ∧ ¬ (S 30 j2) ≤ (S 30 j1))) → zw M_Md_after d Q 5 [some (.ref 27), some (.int a1), some (.int a2), some (.int a4), some (.int (a4 + 1)), none] [] S) :
    zw M_Md_after d Q 5 [some (.ref 27), some (.int a1), some (.int a2), some (.int a3), some (.int a4), none] [] S := by
  refine zr_iload (i := 4) (x := a4) (n := 7) d_Md_after_5 rfl rfl ?_
  refine zr_bipush (v := 12) (n := 9) d_Md_after_7 rfl (by decide) ?_
  refine zr_icmp_ge (tgt := 89) (n := 12) d_Md_after_9 rfl (by decide) (fun h1 => ?_) (fun h1 => ?_)
  · refine zr_iload_n (i := 3) (x := a3) (n := 90) d_Md_after_89 rfl rfl rfl ?_
    exact zr_ireturn d_Md_after_90 rfl rfl (Nat.le_refl _) (Nat.le_refl _) (l1 h1)
  · refine zr_aload_n (i := 0) (x := 27) (n := 13) d_Md_after_12 rfl rfl rfl ?_
    refine zr_getr (n := 16) d_Md_after_13 rfl f_Md_7 gg_27 rfl ?_
    refine zr_iload (i := 4) (x := a4) (n := 18) d_Md_after_16 rfl rfl ?_
    refine zr_iaload j1 (n := 19) d_Md_after_18 rfl gg_28 (o1 h1) ?_
    refine zr_if_eq (tgt := 48) (n := 22) d_Md_after_19 rfl (by decide) (fun h2 => ?_) (fun h2 => ?_)
    · refine zr_iconst (v := 0) (n := 49) d_Md_after_48 rfl (by decide) ?_
      refine zr_istore (i := 5) (L' := [some (.ref 27), some (.int a1), some (.int a2), some (.int a3), some (.int a4), some (.int 0)]) (n := 51) d_Md_after_49 rfl rfl rfl ?_
      refine zr_iload (i := 5) (x := 0) (n := 53) d_Md_after_51 rfl rfl ?_
      refine zr_if_eq (tgt := 81) (n := 56) d_Md_after_53 rfl (by decide) (fun _ => ?_) (fun h => absurd h (by decide))
      refine zr_iload_n (i := 3) (x := a3) (n := 82) d_Md_after_81 rfl rfl rfl ?_
      refine zr_istore_n (i := 3) (L' := [some (.ref 27), some (.int a1), some (.int a2), some (.int a3), some (.int a4), some (.int 0)]) (n := 83) d_Md_after_82 rfl rfl rfl rfl ?_
      refine zr_iinc (i := 4) (w := 1) (x := a4) (L' := [some (.ref 27), some (.int a1), some (.int a2), some (.int a3), some (.int (a4 + 1)), some (.int 0)]) (n := 86) d_Md_after_83 rfl (by decide) rfl rfl ?_
      refine zr_goto (tgt := 5) d_Md_after_86 (by decide) ?_
      exact zr_weak (zm_LE.cons (zm_LE.cons (zm_LE.cons (zm_LE.cons (zm_LE.cons (zm_LE.skip zm_LE.nil)))))) (l2 (Or.inl ⟨h1, h2⟩))
    · refine zr_aload_n (i := 0) (x := 27) (n := 23) d_Md_after_22 rfl rfl rfl ?_
      refine zr_getr (n := 26) d_Md_after_23 rfl f_Md_13 gg_27 rfl ?_
      refine zr_iload (i := 4) (x := a4) (n := 28) d_Md_after_26 rfl rfl ?_
      refine zr_iaload j1 (n := 29) d_Md_after_28 rfl gg_29 (o1 h1) ?_
      refine zr_iload_n (i := 1) (x := a1) (n := 30) d_Md_after_29 rfl rfl rfl ?_
      refine zr_icmp_ne (tgt := 48) (n := 33) d_Md_after_30 rfl (by decide) (fun h3 => ?_) (fun h3 => ?_)
      · refine zr_iconst (v := 0) (n := 49) d_Md_after_48 rfl (by decide) ?_
        refine zr_istore (i := 5) (L' := [some (.ref 27), some (.int a1), some (.int a2), some (.int a3), some (.int a4), some (.int 0)]) (n := 51) d_Md_after_49 rfl rfl rfl ?_
        refine zr_iload (i := 5) (x := 0) (n := 53) d_Md_after_51 rfl rfl ?_
        refine zr_if_eq (tgt := 81) (n := 56) d_Md_after_53 rfl (by decide) (fun _ => ?_) (fun h => absurd h (by decide))
        refine zr_iload_n (i := 3) (x := a3) (n := 82) d_Md_after_81 rfl rfl rfl ?_
        refine zr_istore_n (i := 3) (L' := [some (.ref 27), some (.int a1), some (.int a2), some (.int a3), some (.int a4), some (.int 0)]) (n := 83) d_Md_after_82 rfl rfl rfl rfl ?_
        refine zr_iinc (i := 4) (w := 1) (x := a4) (L' := [some (.ref 27), some (.int a1), some (.int a2), some (.int a3), some (.int (a4 + 1)), some (.int 0)]) (n := 86) d_Md_after_83 rfl (by decide) rfl rfl ?_
        refine zr_goto (tgt := 5) d_Md_after_86 (by decide) ?_
        exact zr_weak (zm_LE.cons (zm_LE.cons (zm_LE.cons (zm_LE.cons (zm_LE.cons (zm_LE.skip zm_LE.nil)))))) (l2 (Or.inr (Or.inl ⟨h1, h2, h3⟩)))
      · refine zr_aload_n (i := 0) (x := 27) (n := 34) d_Md_after_33 rfl rfl rfl ?_
        refine zr_getr (n := 37) d_Md_after_34 rfl f_Md_16 gg_27 rfl ?_
        refine zr_iload (i := 4) (x := a4) (n := 39) d_Md_after_37 rfl rfl ?_
        refine zr_iaload j1 (n := 40) d_Md_after_39 rfl gg_30 (o1 h1) ?_
        refine zr_iload_n (i := 2) (x := a2) (n := 41) d_Md_after_40 rfl rfl rfl ?_
        refine zr_icmp_le (tgt := 48) (n := 44) d_Md_after_41 rfl (by decide) (fun h4 => ?_) (fun h4 => ?_)
        · refine zr_iconst (v := 0) (n := 49) d_Md_after_48 rfl (by decide) ?_
          refine zr_istore (i := 5) (L' := [some (.ref 27), some (.int a1), some (.int a2), some (.int a3), some (.int a4), some (.int 0)]) (n := 51) d_Md_after_49 rfl rfl rfl ?_
          refine zr_iload (i := 5) (x := 0) (n := 53) d_Md_after_51 rfl rfl ?_
          refine zr_if_eq (tgt := 81) (n := 56) d_Md_after_53 rfl (by decide) (fun _ => ?_) (fun h => absurd h (by decide))
          refine zr_iload_n (i := 3) (x := a3) (n := 82) d_Md_after_81 rfl rfl rfl ?_
          refine zr_istore_n (i := 3) (L' := [some (.ref 27), some (.int a1), some (.int a2), some (.int a3), some (.int a4), some (.int 0)]) (n := 83) d_Md_after_82 rfl rfl rfl rfl ?_
          refine zr_iinc (i := 4) (w := 1) (x := a4) (L' := [some (.ref 27), some (.int a1), some (.int a2), some (.int a3), some (.int (a4 + 1)), some (.int 0)]) (n := 86) d_Md_after_83 rfl (by decide) rfl rfl ?_
          refine zr_goto (tgt := 5) d_Md_after_86 (by decide) ?_
          exact zr_weak (zm_LE.cons (zm_LE.cons (zm_LE.cons (zm_LE.cons (zm_LE.cons (zm_LE.skip zm_LE.nil)))))) (l2 (Or.inr (Or.inr (Or.inl ⟨h1, h2, h3, h4⟩))))
        · refine zr_iconst (v := 1) (n := 45) d_Md_after_44 rfl (by decide) ?_
          refine zr_goto (tgt := 49) d_Md_after_45 (by decide) ?_
          refine zr_istore (i := 5) (L' := [some (.ref 27), some (.int a1), some (.int a2), some (.int a3), some (.int a4), some (.int 1)]) (n := 51) d_Md_after_49 rfl rfl rfl ?_
          refine zr_iload (i := 5) (x := 1) (n := 53) d_Md_after_51 rfl rfl ?_
          refine zr_if_eq (tgt := 81) (n := 56) d_Md_after_53 rfl (by decide) (fun h => absurd h (by decide)) (fun _ => ?_)
          refine zr_iload_n (i := 3) (x := a3) (n := 57) d_Md_after_56 rfl rfl rfl ?_
          refine zr_if_lt (tgt := 76) (n := 60) d_Md_after_57 rfl (by decide) (fun h5 => ?_) (fun h5 => ?_)
          · refine zr_iload (i := 4) (x := a4) (n := 78) d_Md_after_76 rfl rfl ?_
            refine zr_goto (tgt := 82) d_Md_after_78 (by decide) ?_
            refine zr_istore_n (i := 3) (L' := [some (.ref 27), some (.int a1), some (.int a2), some (.int a4), some (.int a4), some (.int 1)]) (n := 83) d_Md_after_82 rfl rfl rfl rfl ?_
            refine zr_iinc (i := 4) (w := 1) (x := a4) (L' := [some (.ref 27), some (.int a1), some (.int a2), some (.int a4), some (.int (a4 + 1)), some (.int 1)]) (n := 86) d_Md_after_83 rfl (by decide) rfl rfl ?_
            refine zr_goto (tgt := 5) d_Md_after_86 (by decide) ?_
            exact zr_weak (zm_LE.cons (zm_LE.cons (zm_LE.cons (zm_LE.cons (zm_LE.cons (zm_LE.skip zm_LE.nil)))))) (l3 (Or.inl ⟨h1, h2, h3, h4, h5⟩))
          · refine zr_aload_n (i := 0) (x := 27) (n := 61) d_Md_after_60 rfl rfl rfl ?_
            refine zr_getr (n := 64) d_Md_after_61 rfl f_Md_16 gg_27 rfl ?_
            refine zr_iload (i := 4) (x := a4) (n := 66) d_Md_after_64 rfl rfl ?_
            refine zr_iaload j1 (n := 67) d_Md_after_66 rfl gg_30 (o1 h1) ?_
            refine zr_aload_n (i := 0) (x := 27) (n := 68) d_Md_after_67 rfl rfl rfl ?_
            refine zr_getr (n := 71) d_Md_after_68 rfl f_Md_16 gg_27 rfl ?_
            refine zr_iload_n (i := 3) (x := a3) (n := 72) d_Md_after_71 rfl rfl rfl ?_
            refine zr_iaload j2 (n := 73) d_Md_after_72 rfl gg_30 (o2 h1 h2 h3 h4 h5) ?_
            refine zr_icmp_ge (tgt := 81) (n := 76) d_Md_after_73 rfl (by decide) (fun h6 => ?_) (fun h6 => ?_)
            · refine zr_iload_n (i := 3) (x := a3) (n := 82) d_Md_after_81 rfl rfl rfl ?_
              refine zr_istore_n (i := 3) (L' := [some (.ref 27), some (.int a1), some (.int a2), some (.int a3), some (.int a4), some (.int 1)]) (n := 83) d_Md_after_82 rfl rfl rfl rfl ?_
              refine zr_iinc (i := 4) (w := 1) (x := a4) (L' := [some (.ref 27), some (.int a1), some (.int a2), some (.int a3), some (.int (a4 + 1)), some (.int 1)]) (n := 86) d_Md_after_83 rfl (by decide) rfl rfl ?_
              refine zr_goto (tgt := 5) d_Md_after_86 (by decide) ?_
              exact zr_weak (zm_LE.cons (zm_LE.cons (zm_LE.cons (zm_LE.cons (zm_LE.cons (zm_LE.skip zm_LE.nil)))))) (l2 (Or.inr (Or.inr (Or.inr ⟨h1, h2, h3, h4, h5, h6⟩))))
            · refine zr_iload (i := 4) (x := a4) (n := 78) d_Md_after_76 rfl rfl ?_
              refine zr_goto (tgt := 82) d_Md_after_78 (by decide) ?_
              refine zr_istore_n (i := 3) (L' := [some (.ref 27), some (.int a1), some (.int a2), some (.int a4), some (.int a4), some (.int 1)]) (n := 83) d_Md_after_82 rfl rfl rfl rfl ?_
              refine zr_iinc (i := 4) (w := 1) (x := a4) (L' := [some (.ref 27), some (.int a1), some (.int a2), some (.int a4), some (.int (a4 + 1)), some (.int 1)]) (n := 86) d_Md_after_83 rfl (by decide) rfl rfl ?_
              refine zr_goto (tgt := 5) d_Md_after_86 (by decide) ?_
              exact zr_weak (zm_LE.cons (zm_LE.cons (zm_LE.cons (zm_LE.cons (zm_LE.cons (zm_LE.skip zm_LE.nil)))))) (l3 (Or.inr ⟨h1, h2, h3, h4, h5, h6⟩))
theorem e_Md_after {d : Nat} {Q : zm_Q} {S : zm_S} {a1 a2 : Int32} (h : zw M_Md_after d Q 0 [some (.ref 27), some (.int a1), some (.int a2), none, none, none] [] S) : zc M_Md_after d [.ref 27, .int a1, .int a2] S Q := zm_CC_intro (by decide) rfl rfl h
theorem s_Md_append_0 {d : Nat} {Q : zm_Q} {S : zm_S} {a1 a2 : Int32} (j1 : Nat) (j2 : Nat) (o1 : ¬ a1 < 1 → ¬ 11 < a1 → ¬ a2 < 0 → ¬ 255 < a2 → zm_ix a1 j1 12) (o2 : ¬ a1 < 1 → ¬ 11 < a1 → ¬ a2 < 0 → ¬ 255 < a2 → (S 28 j1) = 3 → ¬ (S 31 j1) = 12 → zm_ix ((12 * a1) + (S 31 j1)) j2 144)
    (l1 : ((((a1 < 1) ∨ (¬ a1 < 1 ∧ 11 < a1))) ∨ (¬ a1 < 1 ∧ ¬ 11 < a1 ∧ ((a2 < 0) ∨ (¬ a2 < 0 ∧ 255 < a2)))) → Q (some (-1)) GG S)
    (l2 : ¬ a1 < 1 → ¬ 11 < a1 → ¬ a2 < 0 → ¬ 255 < a2 → (S 28 j1) = 3 → ¬ (S 31 j1) = 12 → Q (some ((S 31 j1) + 1)) GG (zm_up (zm_up S 32 j2 a2) 31 j1 ((S 31 j1) + 1)))
    (l3 : ¬ a1 < 1 → ¬ 11 < a1 → ¬ a2 < 0 → ¬ 255 < a2 → (S 28 j1) = 3 → (S 31 j1) = 12 → Q (some (-4)) GG S)
    (l4 : ¬ a1 < 1 → ¬ 11 < a1 → ¬ a2 < 0 → ¬ 255 < a2 → ¬ (S 28 j1) = 3 → Q (some (-2)) GG S) :
    zw M_Md_append (d + 1) Q 0 [some (.ref 27), some (.int a1), some (.int a2)] [] S := by
  refine zr_iload_n (i := 1) (x := a1) (n := 1) d_Md_append_0 rfl rfl rfl ?_
  refine zr_iconst (v := 1) (n := 2) d_Md_append_1 rfl (by decide) ?_
  refine zr_bipush (v := 11) (n := 4) d_Md_append_2 rfl (by decide) ?_
  refine zr_callS (M' := M_Md_within) (mc' := 0) (ms' := 0) (av := [.int a1, .int 1, .int 11]) (rest := []) (n := 7) d_Md_append_4 rfl w_Md_84 w_Md_84k rfl rfl rfl rfl rfl (Nat.le_refl _) (Nat.le_refl _) ?_
  refine c_Md_within (a0 := a1) (a1 := 1) (a2 := 11) (fun h1 => ?_) (fun h2 h3 => ?_)
  · refine zr_if_eq (tgt := 21) (n := 10) d_Md_append_7 rfl (by decide) (fun _ => ?_) (fun h => absurd h (by decide))
    refine zr_iconst (v := (-1)) (n := 22) d_Md_append_21 rfl (by decide) ?_
    exact zr_ireturn d_Md_append_22 rfl rfl (Nat.le_refl _) (Nat.le_refl _) (l1 (Or.inl h1))
  · refine zr_if_eq (tgt := 21) (n := 10) d_Md_append_7 rfl (by decide) (fun h => absurd h (by decide)) (fun _ => ?_)
    refine zr_iload_n (i := 2) (x := a2) (n := 11) d_Md_append_10 rfl rfl rfl ?_
    refine zr_iconst (v := 0) (n := 12) d_Md_append_11 rfl (by decide) ?_
    refine zr_sipush (v := 255) (n := 15) d_Md_append_12 rfl (by decide) ?_
    refine zr_callS (M' := M_Md_within) (mc' := 0) (ms' := 0) (av := [.int a2, .int 0, .int 255]) (rest := []) (n := 18) d_Md_append_15 rfl w_Md_84 w_Md_84k rfl rfl rfl rfl rfl (Nat.le_refl _) (Nat.le_refl _) ?_
    refine c_Md_within (a0 := a2) (a1 := 0) (a2 := 255) (fun h4 => ?_) (fun h5 h6 => ?_)
    · refine zr_if_ne (tgt := 23) (n := 21) d_Md_append_18 rfl (by decide) (fun h => absurd h (by decide)) (fun _ => ?_)
      refine zr_iconst (v := (-1)) (n := 22) d_Md_append_21 rfl (by decide) ?_
      exact zr_ireturn d_Md_append_22 rfl rfl (Nat.le_refl _) (Nat.le_refl _) (l1 (Or.inr ⟨h2, h3, h4⟩))
    · refine zr_if_ne (tgt := 23) (n := 21) d_Md_append_18 rfl (by decide) (fun _ => ?_) (fun h => absurd h (by decide))
      refine zr_aload_n (i := 0) (x := 27) (n := 24) d_Md_append_23 rfl rfl rfl ?_
      refine zr_getr (n := 27) d_Md_append_24 rfl f_Md_7 gg_27 rfl ?_
      refine zr_iload_n (i := 1) (x := a1) (n := 28) d_Md_append_27 rfl rfl rfl ?_
      refine zr_iaload j1 (n := 29) d_Md_append_28 rfl gg_28 (o1 h2 h3 h5 h6) ?_
      refine zr_iconst (v := 3) (n := 30) d_Md_append_29 rfl (by decide) ?_
      refine zr_icmp_eq (tgt := 36) (n := 33) d_Md_append_30 rfl (by decide) (fun h7 => ?_) (fun h7 => ?_)
      · refine zr_aload_n (i := 0) (x := 27) (n := 37) d_Md_append_36 rfl rfl rfl ?_
        refine zr_getr (n := 40) d_Md_append_37 rfl f_Md_19 gg_27 rfl ?_
        refine zr_iload_n (i := 1) (x := a1) (n := 41) d_Md_append_40 rfl rfl rfl ?_
        refine zr_iaload j1 (n := 42) d_Md_append_41 rfl gg_31 (o1 h2 h3 h5 h6) ?_
        refine zr_bipush (v := 12) (n := 44) d_Md_append_42 rfl (by decide) ?_
        refine zr_icmp_ne (tgt := 50) (n := 47) d_Md_append_44 rfl (by decide) (fun h8 => ?_) (fun h8 => ?_)
        · refine zr_aload_n (i := 0) (x := 27) (n := 51) d_Md_append_50 rfl rfl rfl ?_
          refine zr_getr (n := 54) d_Md_append_51 rfl f_Md_22 gg_27 rfl ?_
          refine zr_bipush (v := 12) (n := 56) d_Md_append_54 rfl (by decide) ?_
          refine zr_iload_n (i := 1) (x := a1) (n := 57) d_Md_append_56 rfl rfl rfl ?_
          refine zr_imul (n := 58) d_Md_append_57 rfl ?_
          refine zr_aload_n (i := 0) (x := 27) (n := 59) d_Md_append_58 rfl rfl rfl ?_
          refine zr_getr (n := 62) d_Md_append_59 rfl f_Md_19 gg_27 rfl ?_
          refine zr_iload_n (i := 1) (x := a1) (n := 63) d_Md_append_62 rfl rfl rfl ?_
          refine zr_iaload j1 (n := 64) d_Md_append_63 rfl gg_31 (o1 h2 h3 h5 h6) ?_
          refine zr_iadd (n := 65) d_Md_append_64 rfl ?_
          refine zr_iload_n (i := 2) (x := a2) (n := 66) d_Md_append_65 rfl rfl rfl ?_
          refine zr_iastore j2 (n := 67) d_Md_append_66 rfl gg_32 (o2 h2 h3 h5 h6 h7 h8) ?_
          refine zr_aload_n (i := 0) (x := 27) (n := 68) d_Md_append_67 rfl rfl rfl ?_
          refine zr_getr (n := 71) d_Md_append_68 rfl f_Md_19 gg_27 rfl ?_
          refine zr_iload_n (i := 1) (x := a1) (n := 72) d_Md_append_71 rfl rfl rfl ?_
          refine zr_dup2 (n := 73) d_Md_append_72 rfl rfl rfl ?_
          refine zr_iaload j1 (n := 74) d_Md_append_73 rfl gg_31 (o1 h2 h3 h5 h6) ?_
          refine zr_iconst (v := 1) (n := 75) d_Md_append_74 rfl (by decide) ?_
          refine zr_iadd (n := 76) d_Md_append_75 rfl ?_
          refine zr_iastore j1 (n := 77) d_Md_append_76 rfl gg_31 (o1 h2 h3 h5 h6) ?_
          refine zr_aload_n (i := 0) (x := 27) (n := 78) d_Md_append_77 rfl rfl rfl ?_
          refine zr_getr (n := 81) d_Md_append_78 rfl f_Md_19 gg_27 rfl ?_
          refine zr_iload_n (i := 1) (x := a1) (n := 82) d_Md_append_81 rfl rfl rfl ?_
          refine zr_iaload j1 (n := 83) d_Md_append_82 rfl gg_31 (o1 h2 h3 h5 h6) ?_
          refine zr_top (v := ((S 31 j1) + 1)) (by simp [zm_up, upd]) ?_
          exact zr_ireturn d_Md_append_83 rfl rfl (Nat.le_refl _) (Nat.le_refl _) (l2 h2 h3 h5 h6 h7 h8)
        · refine zr_bipush (v := (-4)) (n := 49) d_Md_append_47 rfl (by decide) ?_
          exact zr_ireturn d_Md_append_49 rfl rfl (Nat.le_refl _) (Nat.le_refl _) (l3 h2 h3 h5 h6 h7 h8)
      · refine zr_bipush (v := (-2)) (n := 35) d_Md_append_33 rfl (by decide) ?_
        exact zr_ireturn d_Md_append_35 rfl rfl (Nat.le_refl _) (Nat.le_refl _) (l4 h2 h3 h5 h6 h7)
theorem e_Md_append {d : Nat} {Q : zm_Q} {S : zm_S} {a1 a2 : Int32} (h : zw M_Md_append (d + 1) Q 0 [some (.ref 27), some (.int a1), some (.int a2)] [] S) : zc M_Md_append (d + 1) [.ref 27, .int a1, .int a2] S Q := zm_CC_intro (by decide) rfl rfl h
theorem s_Md_emit_0 {d : Nat} {Q : zm_Q} {S : zm_S} {a1 : Int32} (j1 : Nat) (o1 : zm_ix (S 27 17) j1 700)
    (l1 : zc M_Md_mixed d [.int (S 27 18), .int a1] (zm_up (zm_up (zm_up S 40 j1 a1) 41 j1 0) 27 17 ((S 27 17) + 1)) (fun v G' S' => zm_WP M_Md_emit none (d + 1) 0 0 Q 39 [none, none] (zm_ps v [.ref 27]) G' S' 0 0)) :
    zw M_Md_emit (d + 1) Q 0 [some (.ref 27), some (.int a1)] [] S := by
  refine zr_aload_n (i := 0) (x := 27) (n := 1) d_Md_emit_0 rfl rfl rfl ?_
  refine zr_getr (n := 4) d_Md_emit_1 rfl f_Md_46 gg_27 rfl ?_
  refine zr_aload_n (i := 0) (x := 27) (n := 5) d_Md_emit_4 rfl rfl rfl ?_
  refine zr_geti (n := 8) d_Md_emit_5 rfl f_Md_130 gg_27 rfl ?_
  refine zr_iload_n (i := 1) (x := a1) (n := 9) d_Md_emit_8 rfl rfl rfl ?_
  refine zr_iastore j1 (n := 10) d_Md_emit_9 rfl gg_40 o1 ?_
  refine zr_aload_n (i := 0) (x := 27) (n := 11) d_Md_emit_10 rfl rfl rfl ?_
  refine zr_getr (n := 14) d_Md_emit_11 rfl f_Md_49 gg_27 rfl ?_
  refine zr_aload_n (i := 0) (x := 27) (n := 15) d_Md_emit_14 rfl rfl rfl ?_
  refine zr_geti (n := 18) d_Md_emit_15 rfl f_Md_130 gg_27 rfl ?_
  refine zr_iconst (v := 0) (n := 19) d_Md_emit_18 rfl (by decide) ?_
  refine zr_bastoreV (n := 20) j1 d_Md_emit_19 rfl gg_41 o1 (by decide) ?_
  refine zr_aload_n (i := 0) (x := 27) (n := 21) d_Md_emit_20 rfl rfl rfl ?_
  refine zr_dup (n := 22) d_Md_emit_21 rfl rfl ?_
  refine zr_geti (n := 25) d_Md_emit_22 rfl f_Md_130 gg_27 rfl ?_
  refine zr_iconst (v := 1) (n := 26) d_Md_emit_25 rfl (by decide) ?_
  refine zr_iadd (n := 27) d_Md_emit_26 rfl ?_
  refine zr_puti (n := 30) d_Md_emit_27 rfl f_Md_130 tw_Md rfl rfl rfl rfl gg_27 rfl ?_
  refine zr_aload_n (i := 0) (x := 27) (n := 31) d_Md_emit_30 rfl rfl rfl ?_
  refine zr_aload_n (i := 0) (x := 27) (n := 32) d_Md_emit_31 rfl rfl rfl ?_
  refine zr_geti (n := 35) d_Md_emit_32 rfl f_Md_133 gg_27 rfl ?_
  refine zr_iload_n (i := 1) (x := a1) (n := 36) d_Md_emit_35 rfl rfl rfl ?_
  refine zr_weak (zm_LE.skip (zm_LE.skip zm_LE.nil)) ?_
  refine zr_callS (M' := M_Md_mixed) (mc' := 0) (ms' := 0) (av := [.int (S 27 18), .int a1]) (rest := [.ref 27]) (n := 39) d_Md_emit_36 rfl w_Md_136 w_Md_136k rfl rfl rfl rfl rfl (Nat.le_refl _) (Nat.le_refl _) ?_
  exact l1
theorem s_Md_emit_39 {d : Nat} {Q : zm_Q} {S : zm_S} {r : Int32}
    (l1 : Q none GG (zm_up S 27 18 r)) :
    zw M_Md_emit (d + 1) Q 39 [none, none] [.int r, .ref 27] S := by
  refine zr_puti (n := 42) d_Md_emit_39 rfl f_Md_133 tw_Md rfl rfl rfl rfl gg_27 rfl ?_
  exact zr_return d_Md_emit_42 rfl (Nat.le_refl _) (Nat.le_refl _) l1
theorem e_Md_emit {d : Nat} {Q : zm_Q} {S : zm_S} {a1 : Int32} (h : zw M_Md_emit (d + 1) Q 0 [some (.ref 27), some (.int a1)] [] S) : zc M_Md_emit (d + 1) [.ref 27, .int a1] S Q := zm_CC_intro (by decide) rfl rfl h
theorem s_Md_emitPair_0 {d : Nat} {Q : zm_Q} {S : zm_S} {a1 : Int32}
    (l1 : zc M_Md_emit (d + 1) [.ref 27, .int ((a1 / 256) - (a1 / 256) / 256 * 256)] S (fun v G' S' => zm_WP M_Md_emitPair none (d + 2) 0 0 Q 13 [some (.ref 27), some (.int a1)] (zm_ps v []) G' S' 0 0)) :
    zw M_Md_emitPair (d + 2) Q 0 [some (.ref 27), some (.int a1)] [] S := by
  refine zr_aload_n (i := 0) (x := 27) (n := 1) d_Md_emitPair_0 rfl rfl rfl ?_
  refine zr_iload_n (i := 1) (x := a1) (n := 2) d_Md_emitPair_1 rfl rfl rfl ?_
  refine zr_sipush (v := 256) (n := 5) d_Md_emitPair_2 rfl (by decide) ?_
  refine zr_idiv (n := 6) d_Md_emitPair_5 rfl (by decide) ?_
  refine zr_sipush (v := 256) (n := 9) d_Md_emitPair_6 rfl (by decide) ?_
  refine zr_irem (n := 10) d_Md_emitPair_9 rfl (by decide) ?_
  refine zr_callV (M' := M_Md_emit) (mc' := 0) (ms' := 0) (av := [.int ((a1 / 256) - (a1 / 256) / 256 * 256)]) (rest := []) (n := 13) d_Md_emitPair_10 rfl w_Md_139 w_Md_139k gg_27 rfl rfl rfl rfl rfl rfl (Nat.le_refl _) (Nat.le_refl _) ?_
  exact l1
theorem s_Md_emitPair_13 {d : Nat} {Q : zm_Q} {S : zm_S} {a1 : Int32}
    (l1 : zc M_Md_emit (d + 1) [.ref 27, .int (a1 - a1 / 256 * 256)] S (fun v G' S' => zm_WP M_Md_emitPair none (d + 2) 0 0 Q 22 [none, none] (zm_ps v []) G' S' 0 0)) :
    zw M_Md_emitPair (d + 2) Q 13 [some (.ref 27), some (.int a1)] [] S := by
  refine zr_aload_n (i := 0) (x := 27) (n := 14) d_Md_emitPair_13 rfl rfl rfl ?_
  refine zr_iload_n (i := 1) (x := a1) (n := 15) d_Md_emitPair_14 rfl rfl rfl ?_
  refine zr_sipush (v := 256) (n := 18) d_Md_emitPair_15 rfl (by decide) ?_
  refine zr_irem (n := 19) d_Md_emitPair_18 rfl (by decide) ?_
  refine zr_weak (zm_LE.skip (zm_LE.skip zm_LE.nil)) ?_
  refine zr_callV (M' := M_Md_emit) (mc' := 0) (ms' := 0) (av := [.int (a1 - a1 / 256 * 256)]) (rest := []) (n := 22) d_Md_emitPair_19 rfl w_Md_139 w_Md_139k gg_27 rfl rfl rfl rfl rfl rfl (Nat.le_refl _) (Nat.le_refl _) ?_
  exact l1
theorem s_Md_emitPair_22 {d : Nat} {Q : zm_Q} {S : zm_S}
    (l1 : Q none GG S) :
    zw M_Md_emitPair (d + 2) Q 22 [none, none] [] S := by
  exact zr_return d_Md_emitPair_22 rfl (Nat.le_refl _) (Nat.le_refl _) l1
theorem e_Md_emitPair {d : Nat} {Q : zm_Q} {S : zm_S} {a1 : Int32} (h : zw M_Md_emitPair (d + 2) Q 0 [some (.ref 27), some (.int a1)] [] S) : zc M_Md_emitPair (d + 2) [.ref 27, .int a1] S Q := zm_CC_intro (by decide) rfl rfl h
theorem s_Md_emitCheck_0 {d : Nat} {Q : zm_Q} {S : zm_S}
    (l1 : zc M_Md_emit (d + 1) [.ref 27, .int ((Int32.toUInt32 (S 27 18) >>> (Int32.toUInt32 24 &&& Int32.toUInt32 31)).toInt32)] S (fun v G' S' => zm_WP M_Md_emitCheck none (d + 2) 0 0 Q 13 [some (.ref 27), some (.int (S 27 18))] (zm_ps v []) G' S' 0 0)) :
    zw M_Md_emitCheck (d + 2) Q 0 [some (.ref 27), none] [] S := by
  refine zr_aload_n (i := 0) (x := 27) (n := 1) d_Md_emitCheck_0 rfl rfl rfl ?_
  refine zr_geti (n := 4) d_Md_emitCheck_1 rfl f_Md_133 gg_27 rfl ?_
  refine zr_istore_n (i := 1) (L' := [some (.ref 27), some (.int (S 27 18))]) (n := 5) d_Md_emitCheck_4 rfl rfl rfl rfl ?_
  refine zr_aload_n (i := 0) (x := 27) (n := 6) d_Md_emitCheck_5 rfl rfl rfl ?_
  refine zr_iload_n (i := 1) (x := (S 27 18)) (n := 7) d_Md_emitCheck_6 rfl rfl rfl ?_
  refine zr_bipush (v := 24) (n := 9) d_Md_emitCheck_7 rfl (by decide) ?_
  refine zr_iushr (n := 10) d_Md_emitCheck_9 rfl ?_
  refine zr_callV (M' := M_Md_emit) (mc' := 0) (ms' := 0) (av := [.int ((Int32.toUInt32 (S 27 18) >>> (Int32.toUInt32 24 &&& Int32.toUInt32 31)).toInt32)]) (rest := []) (n := 13) d_Md_emitCheck_10 rfl w_Md_139 w_Md_139k gg_27 rfl rfl rfl rfl rfl rfl (Nat.le_refl _) (Nat.le_refl _) ?_
  exact l1
theorem s_Md_emitCheck_13 {d : Nat} {Q : zm_Q} {S : zm_S} {a1 : Int32}
    (l1 : zc M_Md_emit (d + 1) [.ref 27, .int (((Int32.toUInt32 a1 >>> (Int32.toUInt32 16 &&& Int32.toUInt32 31)).toInt32) &&& 255)] S (fun v G' S' => zm_WP M_Md_emitCheck none (d + 2) 0 0 Q 25 [some (.ref 27), some (.int a1)] (zm_ps v []) G' S' 0 0)) :
    zw M_Md_emitCheck (d + 2) Q 13 [some (.ref 27), some (.int a1)] [] S := by
  refine zr_aload_n (i := 0) (x := 27) (n := 14) d_Md_emitCheck_13 rfl rfl rfl ?_
  refine zr_iload_n (i := 1) (x := a1) (n := 15) d_Md_emitCheck_14 rfl rfl rfl ?_
  refine zr_bipush (v := 16) (n := 17) d_Md_emitCheck_15 rfl (by decide) ?_
  refine zr_iushr (n := 18) d_Md_emitCheck_17 rfl ?_
  refine zr_sipush (v := 255) (n := 21) d_Md_emitCheck_18 rfl (by decide) ?_
  refine zr_iand (n := 22) d_Md_emitCheck_21 rfl ?_
  refine zr_callV (M' := M_Md_emit) (mc' := 0) (ms' := 0) (av := [.int (((Int32.toUInt32 a1 >>> (Int32.toUInt32 16 &&& Int32.toUInt32 31)).toInt32) &&& 255)]) (rest := []) (n := 25) d_Md_emitCheck_22 rfl w_Md_139 w_Md_139k gg_27 rfl rfl rfl rfl rfl rfl (Nat.le_refl _) (Nat.le_refl _) ?_
  exact l1
theorem s_Md_emitCheck_25 {d : Nat} {Q : zm_Q} {S : zm_S} {a1 : Int32}
    (l1 : zc M_Md_emit (d + 1) [.ref 27, .int (((Int32.toUInt32 a1 >>> (Int32.toUInt32 8 &&& Int32.toUInt32 31)).toInt32) &&& 255)] S (fun v G' S' => zm_WP M_Md_emitCheck none (d + 2) 0 0 Q 37 [some (.ref 27), some (.int a1)] (zm_ps v []) G' S' 0 0)) :
    zw M_Md_emitCheck (d + 2) Q 25 [some (.ref 27), some (.int a1)] [] S := by
  refine zr_aload_n (i := 0) (x := 27) (n := 26) d_Md_emitCheck_25 rfl rfl rfl ?_
  refine zr_iload_n (i := 1) (x := a1) (n := 27) d_Md_emitCheck_26 rfl rfl rfl ?_
  refine zr_bipush (v := 8) (n := 29) d_Md_emitCheck_27 rfl (by decide) ?_
  refine zr_iushr (n := 30) d_Md_emitCheck_29 rfl ?_
  refine zr_sipush (v := 255) (n := 33) d_Md_emitCheck_30 rfl (by decide) ?_
  refine zr_iand (n := 34) d_Md_emitCheck_33 rfl ?_
  refine zr_callV (M' := M_Md_emit) (mc' := 0) (ms' := 0) (av := [.int (((Int32.toUInt32 a1 >>> (Int32.toUInt32 8 &&& Int32.toUInt32 31)).toInt32) &&& 255)]) (rest := []) (n := 37) d_Md_emitCheck_34 rfl w_Md_139 w_Md_139k gg_27 rfl rfl rfl rfl rfl rfl (Nat.le_refl _) (Nat.le_refl _) ?_
  exact l1
theorem s_Md_emitCheck_37 {d : Nat} {Q : zm_Q} {S : zm_S} {a1 : Int32}
    (l1 : zc M_Md_emit (d + 1) [.ref 27, .int (a1 &&& 255)] S (fun v G' S' => zm_WP M_Md_emitCheck none (d + 2) 0 0 Q 46 [some (.ref 27), none] (zm_ps v []) G' S' 0 0)) :
    zw M_Md_emitCheck (d + 2) Q 37 [some (.ref 27), some (.int a1)] [] S := by
  refine zr_aload_n (i := 0) (x := 27) (n := 38) d_Md_emitCheck_37 rfl rfl rfl ?_
  refine zr_iload_n (i := 1) (x := a1) (n := 39) d_Md_emitCheck_38 rfl rfl rfl ?_
  refine zr_sipush (v := 255) (n := 42) d_Md_emitCheck_39 rfl (by decide) ?_
  refine zr_iand (n := 43) d_Md_emitCheck_42 rfl ?_
  refine zr_weak (zm_LE.cons (zm_LE.skip zm_LE.nil)) ?_
  refine zr_callV (M' := M_Md_emit) (mc' := 0) (ms' := 0) (av := [.int (a1 &&& 255)]) (rest := []) (n := 46) d_Md_emitCheck_43 rfl w_Md_139 w_Md_139k gg_27 rfl rfl rfl rfl rfl rfl (Nat.le_refl _) (Nat.le_refl _) ?_
  exact l1
theorem s_Md_emitCheck_46 {d : Nat} {Q : zm_Q} {S : zm_S} (j1 : Nat) (o1 : zm_ix ((S 27 17) - 1) j1 700)
    (l1 : Q none GG (zm_up (zm_up S 41 j1 1) 27 18 (-1))) :
    zw M_Md_emitCheck (d + 2) Q 46 [some (.ref 27), none] [] S := by
  refine zr_aload_n (i := 0) (x := 27) (n := 47) d_Md_emitCheck_46 rfl rfl rfl ?_
  refine zr_getr (n := 50) d_Md_emitCheck_47 rfl f_Md_49 gg_27 rfl ?_
  refine zr_aload_n (i := 0) (x := 27) (n := 51) d_Md_emitCheck_50 rfl rfl rfl ?_
  refine zr_geti (n := 54) d_Md_emitCheck_51 rfl f_Md_130 gg_27 rfl ?_
  refine zr_iconst (v := 1) (n := 55) d_Md_emitCheck_54 rfl (by decide) ?_
  refine zr_isub (n := 56) d_Md_emitCheck_55 rfl ?_
  refine zr_iconst (v := 1) (n := 57) d_Md_emitCheck_56 rfl (by decide) ?_
  refine zr_bastoreV (n := 58) j1 d_Md_emitCheck_57 rfl gg_41 o1 (by decide) ?_
  refine zr_aload_n (i := 0) (x := 27) (n := 59) d_Md_emitCheck_58 rfl rfl rfl ?_
  refine zr_iconst (v := (-1)) (n := 60) d_Md_emitCheck_59 rfl (by decide) ?_
  refine zr_puti (n := 63) d_Md_emitCheck_60 rfl f_Md_133 tw_Md rfl rfl rfl rfl gg_27 rfl ?_
  exact zr_return d_Md_emitCheck_63 rfl (Nat.le_refl _) (Nat.le_refl _) l1
theorem e_Md_emitCheck {d : Nat} {Q : zm_Q} {S : zm_S} (h : zw M_Md_emitCheck (d + 2) Q 0 [some (.ref 27), none] [] S) : zc M_Md_emitCheck (d + 2) [.ref 27] S Q := zm_CC_intro (by decide) rfl rfl h
theorem s_Md_build_0 {d : Nat} {Q : zm_Q} {S : zm_S}
    (l1 : zc M_Md_rest d [.ref 27] S (fun v G' S' => zm_WP M_Md_build none (d + 1) 0 0 Q 4 [some (.ref 27), none, none, none, none, none, none, none, none] (zm_ps v []) G' S' 0 0)) :
    zw M_Md_build (d + 1) Q 0 [some (.ref 27), none, none, none, none, none, none, none, none] [] S := by
  refine zr_aload_n (i := 0) (x := 27) (n := 1) d_Md_build_0 rfl rfl rfl ?_
  refine zr_callV (M' := M_Md_rest) (mc' := 0) (ms' := 0) (av := []) (rest := []) (n := 4) d_Md_build_1 rfl w_Md_149 w_Md_149k gg_27 rfl rfl rfl rfl rfl rfl (Nat.le_refl _) (Nat.le_refl _) ?_
  exact l1
theorem s_Md_build_4 {d : Nat} {Q : zm_Q} {S : zm_S} {r : Int32}
    (l1 : ((12 < r ∧ 14 ≤ r) ∨ (¬ 12 < r ∧ (S 27 17) ≤ ((S 27 19) + r) ∧ 14 ≤ r)) → zw M_Md_build (d + 1) Q 83 [some (.ref 27), some (.int r), some (.int 0), none, none, none, some (.int 14), some (.int 0), none] [] S)
    (l2 : ((12 < r ∧ ¬ 14 ≤ r) ∨ (¬ 12 < r ∧ (S 27 17) ≤ ((S 27 19) + r) ∧ ¬ 14 ≤ r)) → zw M_Md_build (d + 1) Q 83 [some (.ref 27), some (.int r), some (.int 0), none, none, none, some (.int r), some (.int 0), none] [] S)
    (l3 : ¬ 12 < r → ¬ (S 27 17) ≤ ((S 27 19) + r) → 13 ≤ ((S 27 17) - (S 27 19)) → zw M_Md_build (d + 1) Q 83 [some (.ref 27), some (.int r), some (.int 1), none, none, none, some (.int 13), some (.int 0), none] [] S)
    (l4 : ¬ 12 < r → ¬ (S 27 17) ≤ ((S 27 19) + r) → ¬ 13 ≤ ((S 27 17) - (S 27 19)) → zw M_Md_build (d + 1) Q 83 [some (.ref 27), some (.int r), some (.int 1), none, none, none, some (.int ((S 27 17) - (S 27 19))), some (.int 0), none] [] S) :
    zw M_Md_build (d + 1) Q 4 [some (.ref 27), none, none, none, none, none, none, none, none] [.int r] S := by
  refine zr_istore_n (i := 1) (L' := [some (.ref 27), some (.int r), none, none, none, none, none, none, none]) (n := 5) d_Md_build_4 rfl rfl rfl rfl ?_
  refine zr_iload_n (i := 1) (x := r) (n := 6) d_Md_build_5 rfl rfl rfl ?_
  refine zr_bipush (v := 12) (n := 8) d_Md_build_6 rfl (by decide) ?_
  refine zr_icmp_gt (tgt := 28) (n := 11) d_Md_build_8 rfl (by decide) (fun h1 => ?_) (fun h1 => ?_)
  · refine zr_iconst (v := 0) (n := 29) d_Md_build_28 rfl (by decide) ?_
    refine zr_istore_n (i := 2) (L' := [some (.ref 27), some (.int r), some (.int 0), none, none, none, none, none, none]) (n := 30) d_Md_build_29 rfl rfl rfl rfl ?_
    refine zr_aload_n (i := 0) (x := 27) (n := 31) d_Md_build_30 rfl rfl rfl ?_
    refine zr_geti (n := 34) d_Md_build_31 rfl f_Md_130 gg_27 rfl ?_
    refine zr_aload_n (i := 0) (x := 27) (n := 35) d_Md_build_34 rfl rfl rfl ?_
    refine zr_geti (n := 38) d_Md_build_35 rfl f_Md_126 gg_27 rfl ?_
    refine zr_isub (n := 39) d_Md_build_38 rfl ?_
    refine zr_istore_n (i := 3) (L' := [some (.ref 27), some (.int r), some (.int 0), some (.int ((S 27 17) - (S 27 19))), none, none, none, none, none]) (n := 40) d_Md_build_39 rfl rfl rfl rfl ?_
    refine zr_iload_n (i := 2) (x := 0) (n := 41) d_Md_build_40 rfl rfl rfl ?_
    refine zr_if_eq (tgt := 49) (n := 44) d_Md_build_41 rfl (by decide) (fun _ => ?_) (fun h => absurd h (by decide))
    refine zr_bipush (v := 14) (n := 51) d_Md_build_49 rfl (by decide) ?_
    refine zr_istore (i := 4) (L' := [some (.ref 27), some (.int r), some (.int 0), some (.int ((S 27 17) - (S 27 19))), some (.int 14), none, none, none, none]) (n := 53) d_Md_build_51 rfl rfl rfl ?_
    refine zr_iload_n (i := 2) (x := 0) (n := 54) d_Md_build_53 rfl rfl rfl ?_
    refine zr_if_eq (tgt := 61) (n := 57) d_Md_build_54 rfl (by decide) (fun _ => ?_) (fun h => absurd h (by decide))
    refine zr_iload_n (i := 1) (x := r) (n := 62) d_Md_build_61 rfl rfl rfl ?_
    refine zr_istore (i := 5) (L' := [some (.ref 27), some (.int r), some (.int 0), some (.int ((S 27 17) - (S 27 19))), some (.int 14), some (.int r), none, none, none]) (n := 64) d_Md_build_62 rfl rfl rfl ?_
    refine zr_iload (i := 5) (x := r) (n := 66) d_Md_build_64 rfl rfl ?_
    refine zr_iload (i := 4) (x := 14) (n := 68) d_Md_build_66 rfl rfl ?_
    refine zr_icmp_ge (tgt := 76) (n := 71) d_Md_build_68 rfl (by decide) (fun h2 => ?_) (fun h2 => ?_)
    · refine zr_iload (i := 4) (x := 14) (n := 78) d_Md_build_76 rfl rfl ?_
      refine zr_istore (i := 6) (L' := [some (.ref 27), some (.int r), some (.int 0), some (.int ((S 27 17) - (S 27 19))), some (.int 14), some (.int r), some (.int 14), none, none]) (n := 80) d_Md_build_78 rfl rfl rfl ?_
      refine zr_iconst (v := 0) (n := 81) d_Md_build_80 rfl (by decide) ?_
      refine zr_istore (i := 7) (L' := [some (.ref 27), some (.int r), some (.int 0), some (.int ((S 27 17) - (S 27 19))), some (.int 14), some (.int r), some (.int 14), some (.int 0), none]) (n := 83) d_Md_build_81 rfl rfl rfl ?_
      exact zr_weak (zm_LE.cons (zm_LE.cons (zm_LE.cons (zm_LE.skip (zm_LE.skip (zm_LE.skip (zm_LE.cons (zm_LE.cons (zm_LE.cons zm_LE.nil))))))))) (l1 (Or.inl ⟨h1, h2⟩))
    · refine zr_iload (i := 5) (x := r) (n := 73) d_Md_build_71 rfl rfl ?_
      refine zr_goto (tgt := 78) d_Md_build_73 (by decide) ?_
      refine zr_istore (i := 6) (L' := [some (.ref 27), some (.int r), some (.int 0), some (.int ((S 27 17) - (S 27 19))), some (.int 14), some (.int r), some (.int r), none, none]) (n := 80) d_Md_build_78 rfl rfl rfl ?_
      refine zr_iconst (v := 0) (n := 81) d_Md_build_80 rfl (by decide) ?_
      refine zr_istore (i := 7) (L' := [some (.ref 27), some (.int r), some (.int 0), some (.int ((S 27 17) - (S 27 19))), some (.int 14), some (.int r), some (.int r), some (.int 0), none]) (n := 83) d_Md_build_81 rfl rfl rfl ?_
      exact zr_weak (zm_LE.cons (zm_LE.cons (zm_LE.cons (zm_LE.skip (zm_LE.skip (zm_LE.skip (zm_LE.cons (zm_LE.cons (zm_LE.cons zm_LE.nil))))))))) (l2 (Or.inl ⟨h1, h2⟩))
  · refine zr_aload_n (i := 0) (x := 27) (n := 12) d_Md_build_11 rfl rfl rfl ?_
    refine zr_geti (n := 15) d_Md_build_12 rfl f_Md_126 gg_27 rfl ?_
    refine zr_iload_n (i := 1) (x := r) (n := 16) d_Md_build_15 rfl rfl rfl ?_
    refine zr_iadd (n := 17) d_Md_build_16 rfl ?_
    refine zr_aload_n (i := 0) (x := 27) (n := 18) d_Md_build_17 rfl rfl rfl ?_
    refine zr_geti (n := 21) d_Md_build_18 rfl f_Md_130 gg_27 rfl ?_
    refine zr_icmp_ge (tgt := 28) (n := 24) d_Md_build_21 rfl (by decide) (fun h3 => ?_) (fun h3 => ?_)
    · refine zr_iconst (v := 0) (n := 29) d_Md_build_28 rfl (by decide) ?_
      refine zr_istore_n (i := 2) (L' := [some (.ref 27), some (.int r), some (.int 0), none, none, none, none, none, none]) (n := 30) d_Md_build_29 rfl rfl rfl rfl ?_
      refine zr_aload_n (i := 0) (x := 27) (n := 31) d_Md_build_30 rfl rfl rfl ?_
      refine zr_geti (n := 34) d_Md_build_31 rfl f_Md_130 gg_27 rfl ?_
      refine zr_aload_n (i := 0) (x := 27) (n := 35) d_Md_build_34 rfl rfl rfl ?_
      refine zr_geti (n := 38) d_Md_build_35 rfl f_Md_126 gg_27 rfl ?_
      refine zr_isub (n := 39) d_Md_build_38 rfl ?_
      refine zr_istore_n (i := 3) (L' := [some (.ref 27), some (.int r), some (.int 0), some (.int ((S 27 17) - (S 27 19))), none, none, none, none, none]) (n := 40) d_Md_build_39 rfl rfl rfl rfl ?_
      refine zr_iload_n (i := 2) (x := 0) (n := 41) d_Md_build_40 rfl rfl rfl ?_
      refine zr_if_eq (tgt := 49) (n := 44) d_Md_build_41 rfl (by decide) (fun _ => ?_) (fun h => absurd h (by decide))
      refine zr_bipush (v := 14) (n := 51) d_Md_build_49 rfl (by decide) ?_
      refine zr_istore (i := 4) (L' := [some (.ref 27), some (.int r), some (.int 0), some (.int ((S 27 17) - (S 27 19))), some (.int 14), none, none, none, none]) (n := 53) d_Md_build_51 rfl rfl rfl ?_
      refine zr_iload_n (i := 2) (x := 0) (n := 54) d_Md_build_53 rfl rfl rfl ?_
      refine zr_if_eq (tgt := 61) (n := 57) d_Md_build_54 rfl (by decide) (fun _ => ?_) (fun h => absurd h (by decide))
      refine zr_iload_n (i := 1) (x := r) (n := 62) d_Md_build_61 rfl rfl rfl ?_
      refine zr_istore (i := 5) (L' := [some (.ref 27), some (.int r), some (.int 0), some (.int ((S 27 17) - (S 27 19))), some (.int 14), some (.int r), none, none, none]) (n := 64) d_Md_build_62 rfl rfl rfl ?_
      refine zr_iload (i := 5) (x := r) (n := 66) d_Md_build_64 rfl rfl ?_
      refine zr_iload (i := 4) (x := 14) (n := 68) d_Md_build_66 rfl rfl ?_
      refine zr_icmp_ge (tgt := 76) (n := 71) d_Md_build_68 rfl (by decide) (fun h4 => ?_) (fun h4 => ?_)
      · refine zr_iload (i := 4) (x := 14) (n := 78) d_Md_build_76 rfl rfl ?_
        refine zr_istore (i := 6) (L' := [some (.ref 27), some (.int r), some (.int 0), some (.int ((S 27 17) - (S 27 19))), some (.int 14), some (.int r), some (.int 14), none, none]) (n := 80) d_Md_build_78 rfl rfl rfl ?_
        refine zr_iconst (v := 0) (n := 81) d_Md_build_80 rfl (by decide) ?_
        refine zr_istore (i := 7) (L' := [some (.ref 27), some (.int r), some (.int 0), some (.int ((S 27 17) - (S 27 19))), some (.int 14), some (.int r), some (.int 14), some (.int 0), none]) (n := 83) d_Md_build_81 rfl rfl rfl ?_
        exact zr_weak (zm_LE.cons (zm_LE.cons (zm_LE.cons (zm_LE.skip (zm_LE.skip (zm_LE.skip (zm_LE.cons (zm_LE.cons (zm_LE.cons zm_LE.nil))))))))) (l1 (Or.inr ⟨h1, h3, h4⟩))
      · refine zr_iload (i := 5) (x := r) (n := 73) d_Md_build_71 rfl rfl ?_
        refine zr_goto (tgt := 78) d_Md_build_73 (by decide) ?_
        refine zr_istore (i := 6) (L' := [some (.ref 27), some (.int r), some (.int 0), some (.int ((S 27 17) - (S 27 19))), some (.int 14), some (.int r), some (.int r), none, none]) (n := 80) d_Md_build_78 rfl rfl rfl ?_
        refine zr_iconst (v := 0) (n := 81) d_Md_build_80 rfl (by decide) ?_
        refine zr_istore (i := 7) (L' := [some (.ref 27), some (.int r), some (.int 0), some (.int ((S 27 17) - (S 27 19))), some (.int 14), some (.int r), some (.int r), some (.int 0), none]) (n := 83) d_Md_build_81 rfl rfl rfl ?_
        exact zr_weak (zm_LE.cons (zm_LE.cons (zm_LE.cons (zm_LE.skip (zm_LE.skip (zm_LE.skip (zm_LE.cons (zm_LE.cons (zm_LE.cons zm_LE.nil))))))))) (l2 (Or.inr ⟨h1, h3, h4⟩))
    · refine zr_iconst (v := 1) (n := 25) d_Md_build_24 rfl (by decide) ?_
      refine zr_goto (tgt := 29) d_Md_build_25 (by decide) ?_
      refine zr_istore_n (i := 2) (L' := [some (.ref 27), some (.int r), some (.int 1), none, none, none, none, none, none]) (n := 30) d_Md_build_29 rfl rfl rfl rfl ?_
      refine zr_aload_n (i := 0) (x := 27) (n := 31) d_Md_build_30 rfl rfl rfl ?_
      refine zr_geti (n := 34) d_Md_build_31 rfl f_Md_130 gg_27 rfl ?_
      refine zr_aload_n (i := 0) (x := 27) (n := 35) d_Md_build_34 rfl rfl rfl ?_
      refine zr_geti (n := 38) d_Md_build_35 rfl f_Md_126 gg_27 rfl ?_
      refine zr_isub (n := 39) d_Md_build_38 rfl ?_
      refine zr_istore_n (i := 3) (L' := [some (.ref 27), some (.int r), some (.int 1), some (.int ((S 27 17) - (S 27 19))), none, none, none, none, none]) (n := 40) d_Md_build_39 rfl rfl rfl rfl ?_
      refine zr_iload_n (i := 2) (x := 1) (n := 41) d_Md_build_40 rfl rfl rfl ?_
      refine zr_if_eq (tgt := 49) (n := 44) d_Md_build_41 rfl (by decide) (fun h => absurd h (by decide)) (fun _ => ?_)
      refine zr_bipush (v := 13) (n := 46) d_Md_build_44 rfl (by decide) ?_
      refine zr_goto (tgt := 51) d_Md_build_46 (by decide) ?_
      refine zr_istore (i := 4) (L' := [some (.ref 27), some (.int r), some (.int 1), some (.int ((S 27 17) - (S 27 19))), some (.int 13), none, none, none, none]) (n := 53) d_Md_build_51 rfl rfl rfl ?_
      refine zr_iload_n (i := 2) (x := 1) (n := 54) d_Md_build_53 rfl rfl rfl ?_
      refine zr_if_eq (tgt := 61) (n := 57) d_Md_build_54 rfl (by decide) (fun h => absurd h (by decide)) (fun _ => ?_)
      refine zr_iload_n (i := 3) (x := ((S 27 17) - (S 27 19))) (n := 58) d_Md_build_57 rfl rfl rfl ?_
      refine zr_goto (tgt := 62) d_Md_build_58 (by decide) ?_
      refine zr_istore (i := 5) (L' := [some (.ref 27), some (.int r), some (.int 1), some (.int ((S 27 17) - (S 27 19))), some (.int 13), some (.int ((S 27 17) - (S 27 19))), none, none, none]) (n := 64) d_Md_build_62 rfl rfl rfl ?_
      refine zr_iload (i := 5) (x := ((S 27 17) - (S 27 19))) (n := 66) d_Md_build_64 rfl rfl ?_
      refine zr_iload (i := 4) (x := 13) (n := 68) d_Md_build_66 rfl rfl ?_
      refine zr_icmp_ge (tgt := 76) (n := 71) d_Md_build_68 rfl (by decide) (fun h5 => ?_) (fun h5 => ?_)
      · refine zr_iload (i := 4) (x := 13) (n := 78) d_Md_build_76 rfl rfl ?_
        refine zr_istore (i := 6) (L' := [some (.ref 27), some (.int r), some (.int 1), some (.int ((S 27 17) - (S 27 19))), some (.int 13), some (.int ((S 27 17) - (S 27 19))), some (.int 13), none, none]) (n := 80) d_Md_build_78 rfl rfl rfl ?_
        refine zr_iconst (v := 0) (n := 81) d_Md_build_80 rfl (by decide) ?_
        refine zr_istore (i := 7) (L' := [some (.ref 27), some (.int r), some (.int 1), some (.int ((S 27 17) - (S 27 19))), some (.int 13), some (.int ((S 27 17) - (S 27 19))), some (.int 13), some (.int 0), none]) (n := 83) d_Md_build_81 rfl rfl rfl ?_
        exact zr_weak (zm_LE.cons (zm_LE.cons (zm_LE.cons (zm_LE.skip (zm_LE.skip (zm_LE.skip (zm_LE.cons (zm_LE.cons (zm_LE.cons zm_LE.nil))))))))) (l3 h1 h3 h5)
      · refine zr_iload (i := 5) (x := ((S 27 17) - (S 27 19))) (n := 73) d_Md_build_71 rfl rfl ?_
        refine zr_goto (tgt := 78) d_Md_build_73 (by decide) ?_
        refine zr_istore (i := 6) (L' := [some (.ref 27), some (.int r), some (.int 1), some (.int ((S 27 17) - (S 27 19))), some (.int 13), some (.int ((S 27 17) - (S 27 19))), some (.int ((S 27 17) - (S 27 19))), none, none]) (n := 80) d_Md_build_78 rfl rfl rfl ?_
        refine zr_iconst (v := 0) (n := 81) d_Md_build_80 rfl (by decide) ?_
        refine zr_istore (i := 7) (L' := [some (.ref 27), some (.int r), some (.int 1), some (.int ((S 27 17) - (S 27 19))), some (.int 13), some (.int ((S 27 17) - (S 27 19))), some (.int ((S 27 17) - (S 27 19))), some (.int 0), none]) (n := 83) d_Md_build_81 rfl rfl rfl ?_
        exact zr_weak (zm_LE.cons (zm_LE.cons (zm_LE.cons (zm_LE.skip (zm_LE.skip (zm_LE.skip (zm_LE.cons (zm_LE.cons (zm_LE.cons zm_LE.nil))))))))) (l4 h1 h3 h5)
theorem s_Md_build_83 {d : Nat} {Q : zm_Q} {S : zm_S} {a1 a2 a6 a7 : Int32} (j1 : Nat) (o1 : ¬ 16 ≤ a7 → zm_ix a7 j1 16)
    (l1 : 16 ≤ a7 → a2 = 0 → zw M_Md_build (d + 1) Q 166 [some (.ref 27), none, none, none, none, none, some (.int a6), some (.int 2), some (.int 0)] [] (zm_up (zm_up (zm_up S 42 0 71) 42 1 ((S 27 20) + 0)) 42 2 255))
    (l2 : 16 ≤ a7 → ¬ a2 = 0 → zw M_Md_build (d + 1) Q 166 [some (.ref 27), none, none, none, none, none, some (.int a6), some (.int 3), some (.int 0)] [] (zm_up (zm_up (zm_up S 42 0 71) 42 1 ((S 27 20) + 64)) 42 2 a1))
    (l3 : ¬ 16 ≤ a7 → zw M_Md_build (d + 1) Q 83 [some (.ref 27), some (.int a1), some (.int a2), none, none, none, some (.int a6), some (.int (a7 + 1)), none] [] (zm_up S 42 j1 255)) :
    zw M_Md_build (d + 1) Q 83 [some (.ref 27), some (.int a1), some (.int a2), none, none, none, some (.int a6), some (.int a7), none] [] S := by
  refine zr_iload (i := 7) (x := a7) (n := 85) d_Md_build_83 rfl rfl ?_
  refine zr_bipush (v := 16) (n := 87) d_Md_build_85 rfl (by decide) ?_
  refine zr_icmp_ge (tgt := 106) (n := 90) d_Md_build_87 rfl (by decide) (fun h1 => ?_) (fun h1 => ?_)
  · refine zr_aload_n (i := 0) (x := 27) (n := 107) d_Md_build_106 rfl rfl rfl ?_
    refine zr_getr (n := 110) d_Md_build_107 rfl f_Md_53 gg_27 rfl ?_
    refine zr_iconst (v := 0) (n := 111) d_Md_build_110 rfl (by decide) ?_
    refine zr_bipush (v := 71) (n := 113) d_Md_build_111 rfl (by decide) ?_
    refine zr_iastore 0 (n := 114) d_Md_build_113 rfl gg_42 (zm_ixN (Nat.le_of_ble_eq_true rfl) (Nat.le_of_ble_eq_true rfl)) ?_
    refine zr_aload_n (i := 0) (x := 27) (n := 115) d_Md_build_114 rfl rfl rfl ?_
    refine zr_getr (n := 118) d_Md_build_115 rfl f_Md_53 gg_27 rfl ?_
    refine zr_iconst (v := 1) (n := 119) d_Md_build_118 rfl (by decide) ?_
    refine zr_aload_n (i := 0) (x := 27) (n := 120) d_Md_build_119 rfl rfl rfl ?_
    refine zr_geti (n := 123) d_Md_build_120 rfl f_Md_153 gg_27 rfl ?_
    refine zr_iload_n (i := 2) (x := a2) (n := 124) d_Md_build_123 rfl rfl rfl ?_
    refine zr_if_eq (tgt := 132) (n := 127) d_Md_build_124 rfl (by decide) (fun h2 => ?_) (fun h2 => ?_)
    · refine zr_iconst (v := 0) (n := 133) d_Md_build_132 rfl (by decide) ?_
      refine zr_iadd (n := 134) d_Md_build_133 rfl ?_
      refine zr_iastore 1 (n := 135) d_Md_build_134 rfl gg_42 (zm_ixN (Nat.le_of_ble_eq_true rfl) (Nat.le_of_ble_eq_true rfl)) ?_
      refine zr_aload_n (i := 0) (x := 27) (n := 136) d_Md_build_135 rfl rfl rfl ?_
      refine zr_getr (n := 139) d_Md_build_136 rfl f_Md_53 gg_27 rfl ?_
      refine zr_iconst (v := 2) (n := 140) d_Md_build_139 rfl (by decide) ?_
      refine zr_iload_n (i := 2) (x := a2) (n := 141) d_Md_build_140 rfl rfl rfl ?_
      refine zr_if_eq (tgt := 148) (n := 144) d_Md_build_141 rfl (by decide) (fun _ => ?_) (fun h => absurd h2 h)
      refine zr_sipush (v := 255) (n := 151) d_Md_build_148 rfl (by decide) ?_
      refine zr_iastore 2 (n := 152) d_Md_build_151 rfl gg_42 (zm_ixN (Nat.le_of_ble_eq_true rfl) (Nat.le_of_ble_eq_true rfl)) ?_
      refine zr_iload_n (i := 2) (x := a2) (n := 153) d_Md_build_152 rfl rfl rfl ?_
      refine zr_if_eq (tgt := 160) (n := 156) d_Md_build_153 rfl (by decide) (fun _ => ?_) (fun h => absurd h2 h)
      refine zr_iconst (v := 2) (n := 161) d_Md_build_160 rfl (by decide) ?_
      refine zr_istore (i := 7) (L' := [some (.ref 27), some (.int a1), some (.int a2), none, none, none, some (.int a6), some (.int 2), none]) (n := 163) d_Md_build_161 rfl rfl rfl ?_
      refine zr_iconst (v := 0) (n := 164) d_Md_build_163 rfl (by decide) ?_
      refine zr_istore (i := 8) (L' := [some (.ref 27), some (.int a1), some (.int a2), none, none, none, some (.int a6), some (.int 2), some (.int 0)]) (n := 166) d_Md_build_164 rfl rfl rfl ?_
      exact zr_weak (zm_LE.cons (zm_LE.skip (zm_LE.skip (zm_LE.cons (zm_LE.cons (zm_LE.cons (zm_LE.cons (zm_LE.cons (zm_LE.cons zm_LE.nil))))))))) (l1 h1 h2)
    · refine zr_bipush (v := 64) (n := 129) d_Md_build_127 rfl (by decide) ?_
      refine zr_goto (tgt := 133) d_Md_build_129 (by decide) ?_
      refine zr_iadd (n := 134) d_Md_build_133 rfl ?_
      refine zr_iastore 1 (n := 135) d_Md_build_134 rfl gg_42 (zm_ixN (Nat.le_of_ble_eq_true rfl) (Nat.le_of_ble_eq_true rfl)) ?_
      refine zr_aload_n (i := 0) (x := 27) (n := 136) d_Md_build_135 rfl rfl rfl ?_
      refine zr_getr (n := 139) d_Md_build_136 rfl f_Md_53 gg_27 rfl ?_
      refine zr_iconst (v := 2) (n := 140) d_Md_build_139 rfl (by decide) ?_
      refine zr_iload_n (i := 2) (x := a2) (n := 141) d_Md_build_140 rfl rfl rfl ?_
      refine zr_if_eq (tgt := 148) (n := 144) d_Md_build_141 rfl (by decide) (fun h => absurd h h2) (fun _ => ?_)
      refine zr_iload_n (i := 1) (x := a1) (n := 145) d_Md_build_144 rfl rfl rfl ?_
      refine zr_goto (tgt := 151) d_Md_build_145 (by decide) ?_
      refine zr_iastore 2 (n := 152) d_Md_build_151 rfl gg_42 (zm_ixN (Nat.le_of_ble_eq_true rfl) (Nat.le_of_ble_eq_true rfl)) ?_
      refine zr_iload_n (i := 2) (x := a2) (n := 153) d_Md_build_152 rfl rfl rfl ?_
      refine zr_if_eq (tgt := 160) (n := 156) d_Md_build_153 rfl (by decide) (fun h => absurd h h2) (fun _ => ?_)
      refine zr_iconst (v := 3) (n := 157) d_Md_build_156 rfl (by decide) ?_
      refine zr_goto (tgt := 161) d_Md_build_157 (by decide) ?_
      refine zr_istore (i := 7) (L' := [some (.ref 27), some (.int a1), some (.int a2), none, none, none, some (.int a6), some (.int 3), none]) (n := 163) d_Md_build_161 rfl rfl rfl ?_
      refine zr_iconst (v := 0) (n := 164) d_Md_build_163 rfl (by decide) ?_
      refine zr_istore (i := 8) (L' := [some (.ref 27), some (.int a1), some (.int a2), none, none, none, some (.int a6), some (.int 3), some (.int 0)]) (n := 166) d_Md_build_164 rfl rfl rfl ?_
      exact zr_weak (zm_LE.cons (zm_LE.skip (zm_LE.skip (zm_LE.cons (zm_LE.cons (zm_LE.cons (zm_LE.cons (zm_LE.cons (zm_LE.cons zm_LE.nil))))))))) (l2 h1 h2)
  · refine zr_aload_n (i := 0) (x := 27) (n := 91) d_Md_build_90 rfl rfl rfl ?_
    refine zr_getr (n := 94) d_Md_build_91 rfl f_Md_53 gg_27 rfl ?_
    refine zr_iload (i := 7) (x := a7) (n := 96) d_Md_build_94 rfl rfl ?_
    refine zr_sipush (v := 255) (n := 99) d_Md_build_96 rfl (by decide) ?_
    refine zr_iastore j1 (n := 100) d_Md_build_99 rfl gg_42 (o1 h1) ?_
    refine zr_iinc (i := 7) (w := 1) (x := a7) (L' := [some (.ref 27), some (.int a1), some (.int a2), none, none, none, some (.int a6), some (.int (a7 + 1)), none]) (n := 103) d_Md_build_100 rfl (by decide) rfl rfl ?_
    refine zr_goto (tgt := 83) d_Md_build_103 (by decide) ?_
    exact (l3 h1)
theorem s_Md_build_166 {d : Nat} {Q : zm_Q} {S : zm_S} {a6 a7 a8 : Int32} (j1 : Nat) (j2 : Nat) (o1 : ¬ a6 ≤ a8 → zm_ix ((S 27 19) + a8) j1 700) (o2 : ¬ a6 ≤ a8 → zm_ix (a7 + a8) j2 16)
    (l1 : a6 ≤ a8 → Q (some a6) GG S)
    (l2 : ¬ a6 ≤ a8 → zw M_Md_build (d + 1) Q 166 [some (.ref 27), none, none, none, none, none, some (.int a6), some (.int a7), some (.int (a8 + 1))] [] (zm_up S 42 j2 (S 40 j1))) :
    zw M_Md_build (d + 1) Q 166 [some (.ref 27), none, none, none, none, none, some (.int a6), some (.int a7), some (.int a8)] [] S := by
  refine zr_iload (i := 8) (x := a8) (n := 168) d_Md_build_166 rfl rfl ?_
  refine zr_iload (i := 6) (x := a6) (n := 170) d_Md_build_168 rfl rfl ?_
  refine zr_icmp_ge (tgt := 201) (n := 173) d_Md_build_170 rfl (by decide) (fun h1 => ?_) (fun h1 => ?_)
  · refine zr_iload (i := 6) (x := a6) (n := 203) d_Md_build_201 rfl rfl ?_
    exact zr_ireturn d_Md_build_203 rfl rfl (Nat.le_refl _) (Nat.le_refl _) (l1 h1)
  · refine zr_aload_n (i := 0) (x := 27) (n := 174) d_Md_build_173 rfl rfl rfl ?_
    refine zr_getr (n := 177) d_Md_build_174 rfl f_Md_53 gg_27 rfl ?_
    refine zr_iload (i := 7) (x := a7) (n := 179) d_Md_build_177 rfl rfl ?_
    refine zr_iload (i := 8) (x := a8) (n := 181) d_Md_build_179 rfl rfl ?_
    refine zr_iadd (n := 182) d_Md_build_181 rfl ?_
    refine zr_aload_n (i := 0) (x := 27) (n := 183) d_Md_build_182 rfl rfl rfl ?_
    refine zr_getr (n := 186) d_Md_build_183 rfl f_Md_46 gg_27 rfl ?_
    refine zr_aload_n (i := 0) (x := 27) (n := 187) d_Md_build_186 rfl rfl rfl ?_
    refine zr_geti (n := 190) d_Md_build_187 rfl f_Md_126 gg_27 rfl ?_
    refine zr_iload (i := 8) (x := a8) (n := 192) d_Md_build_190 rfl rfl ?_
    refine zr_iadd (n := 193) d_Md_build_192 rfl ?_
    refine zr_iaload j1 (n := 194) d_Md_build_193 rfl gg_40 (o1 h1) ?_
    refine zr_iastore j2 (n := 195) d_Md_build_194 rfl gg_42 (o2 h1) ?_
    refine zr_iinc (i := 8) (w := 1) (x := a8) (L' := [some (.ref 27), none, none, none, none, none, some (.int a6), some (.int a7), some (.int (a8 + 1))]) (n := 198) d_Md_build_195 rfl (by decide) rfl rfl ?_
    refine zr_goto (tgt := 166) d_Md_build_198 (by decide) ?_
    exact (l2 h1)
theorem e_Md_build {d : Nat} {Q : zm_Q} {S : zm_S} (h : zw M_Md_build (d + 1) Q 0 [some (.ref 27), none, none, none, none, none, none, none, none] [] S) : zc M_Md_build (d + 1) [.ref 27] S Q := zm_CC_intro (by decide) rfl rfl h
theorem s_Md_checks_0 {d : Nat} {Q : zm_Q} {S : zm_S}
    (l1 : zw M_Md_checks (d + 1) Q 4 [some (.ref 27), some (.int (-1)), some (.int 0), none] [] S) :
    zw M_Md_checks (d + 1) Q 0 [some (.ref 27), none, none, none] [] S := by
  refine zr_iconst (v := (-1)) (n := 1) d_Md_checks_0 rfl (by decide) ?_
  refine zr_istore_n (i := 1) (L' := [some (.ref 27), some (.int (-1)), none, none]) (n := 2) d_Md_checks_1 rfl rfl rfl rfl ?_
  refine zr_iconst (v := 0) (n := 3) d_Md_checks_2 rfl (by decide) ?_
  refine zr_istore_n (i := 2) (L' := [some (.ref 27), some (.int (-1)), some (.int 0), none]) (n := 4) d_Md_checks_3 rfl rfl rfl rfl ?_
  exact l1
theorem s_Md_checks_4 {d : Nat} {Q : zm_Q} {S : zm_S} {a1 a2 : Int32} (j1 : Nat) (o1 : ¬ ((S 27 30) - 4) ≤ a2 → zm_ix a2 j1 258)
    (l1 : ((S 27 30) - 4) ≤ a2 → zw M_Md_checks (d + 1) Q 40 [some (.ref 27), some (.int a1), some (.int 0), some (.int ((S 27 30) - 4))] [] S)
    (l2 : ¬ ((S 27 30) - 4) ≤ a2 → zc M_Md_mixed d [.int a1, .int (S 48 j1)] S (fun v G' S' => zm_WP M_Md_checks none (d + 1) 0 0 Q 24 [some (.ref 27), none, some (.int a2), none] (zm_ps v []) G' S' 0 0)) :
    zw M_Md_checks (d + 1) Q 4 [some (.ref 27), some (.int a1), some (.int a2), none] [] S := by
  refine zr_iload_n (i := 2) (x := a2) (n := 5) d_Md_checks_4 rfl rfl rfl ?_
  refine zr_aload_n (i := 0) (x := 27) (n := 6) d_Md_checks_5 rfl rfl rfl ?_
  refine zr_geti (n := 9) d_Md_checks_6 rfl f_Md_182 gg_27 rfl ?_
  refine zr_iconst (v := 4) (n := 10) d_Md_checks_9 rfl (by decide) ?_
  refine zr_isub (n := 11) d_Md_checks_10 rfl ?_
  refine zr_icmp_ge (tgt := 31) (n := 14) d_Md_checks_11 rfl (by decide) (fun h1 => ?_) (fun h1 => ?_)
  · refine zr_iconst (v := 0) (n := 32) d_Md_checks_31 rfl (by decide) ?_
    refine zr_istore_n (i := 2) (L' := [some (.ref 27), some (.int a1), some (.int 0), none]) (n := 33) d_Md_checks_32 rfl rfl rfl rfl ?_
    refine zr_aload_n (i := 0) (x := 27) (n := 34) d_Md_checks_33 rfl rfl rfl ?_
    refine zr_geti (n := 37) d_Md_checks_34 rfl f_Md_182 gg_27 rfl ?_
    refine zr_iconst (v := 4) (n := 38) d_Md_checks_37 rfl (by decide) ?_
    refine zr_isub (n := 39) d_Md_checks_38 rfl ?_
    refine zr_istore_n (i := 3) (L' := [some (.ref 27), some (.int a1), some (.int 0), some (.int ((S 27 30) - 4))]) (n := 40) d_Md_checks_39 rfl rfl rfl rfl ?_
    exact (l1 h1)
  · refine zr_iload_n (i := 1) (x := a1) (n := 15) d_Md_checks_14 rfl rfl rfl ?_
    refine zr_aload_n (i := 0) (x := 27) (n := 16) d_Md_checks_15 rfl rfl rfl ?_
    refine zr_getr (n := 19) d_Md_checks_16 rfl f_Md_78 gg_27 rfl ?_
    refine zr_iload_n (i := 2) (x := a2) (n := 20) d_Md_checks_19 rfl rfl rfl ?_
    refine zr_iaload j1 (n := 21) d_Md_checks_20 rfl gg_48 (o1 h1) ?_
    refine zr_weak (zm_LE.cons (zm_LE.skip (zm_LE.cons (zm_LE.cons zm_LE.nil)))) ?_
    refine zr_callS (M' := M_Md_mixed) (mc' := 0) (ms' := 0) (av := [.int a1, .int (S 48 j1)]) (rest := []) (n := 24) d_Md_checks_21 rfl w_Md_136 w_Md_136k rfl rfl rfl rfl rfl (Nat.le_refl _) (Nat.le_refl _) ?_
    exact (l2 h1)
theorem s_Md_checks_40 {d : Nat} {Q : zm_Q} {S : zm_S} {a1 a2 a3 : Int32} (j1 : Nat) (o1 : ¬ (S 27 30) ≤ a3 → zm_ix a3 j1 258)
    (l1 : (S 27 30) ≤ a3 → ¬ a1 = a2 → Q (some 0) GG S)
    (l2 : (S 27 30) ≤ a3 → a1 = a2 → Q (some 1) GG S)
    (l3 : ¬ (S 27 30) ≤ a3 → zw M_Md_checks (d + 1) Q 40 [some (.ref 27), some (.int a1), some (.int ((a2 <<< (8 &&& 31)) ||| (S 48 j1))), some (.int (a3 + 1))] [] S) :
    zw M_Md_checks (d + 1) Q 40 [some (.ref 27), some (.int a1), some (.int a2), some (.int a3)] [] S := by
  refine zr_iload_n (i := 3) (x := a3) (n := 41) d_Md_checks_40 rfl rfl rfl ?_
  refine zr_aload_n (i := 0) (x := 27) (n := 42) d_Md_checks_41 rfl rfl rfl ?_
  refine zr_geti (n := 45) d_Md_checks_42 rfl f_Md_182 gg_27 rfl ?_
  refine zr_icmp_ge (tgt := 66) (n := 48) d_Md_checks_45 rfl (by decide) (fun h1 => ?_) (fun h1 => ?_)
  · refine zr_iload_n (i := 1) (x := a1) (n := 67) d_Md_checks_66 rfl rfl rfl ?_
    refine zr_iload_n (i := 2) (x := a2) (n := 68) d_Md_checks_67 rfl rfl rfl ?_
    refine zr_icmp_ne (tgt := 75) (n := 71) d_Md_checks_68 rfl (by decide) (fun h2 => ?_) (fun h2 => ?_)
    · refine zr_iconst (v := 0) (n := 76) d_Md_checks_75 rfl (by decide) ?_
      exact zr_ireturn d_Md_checks_76 rfl (by decide) (Nat.le_refl _) (Nat.le_refl _) (l1 h1 h2)
    · refine zr_iconst (v := 1) (n := 72) d_Md_checks_71 rfl (by decide) ?_
      refine zr_goto (tgt := 76) d_Md_checks_72 (by decide) ?_
      exact zr_ireturn d_Md_checks_76 rfl (by decide) (Nat.le_refl _) (Nat.le_refl _) (l2 h1 h2)
  · refine zr_iload_n (i := 2) (x := a2) (n := 49) d_Md_checks_48 rfl rfl rfl ?_
    refine zr_bipush (v := 8) (n := 51) d_Md_checks_49 rfl (by decide) ?_
    refine zr_ishl (n := 52) d_Md_checks_51 rfl ?_
    refine zr_aload_n (i := 0) (x := 27) (n := 53) d_Md_checks_52 rfl rfl rfl ?_
    refine zr_getr (n := 56) d_Md_checks_53 rfl f_Md_78 gg_27 rfl ?_
    refine zr_iload_n (i := 3) (x := a3) (n := 57) d_Md_checks_56 rfl rfl rfl ?_
    refine zr_iaload j1 (n := 58) d_Md_checks_57 rfl gg_48 (o1 h1) ?_
    refine zr_ior (n := 59) d_Md_checks_58 rfl ?_
    refine zr_istore_n (i := 2) (L' := [some (.ref 27), some (.int a1), some (.int ((a2 <<< (8 &&& 31)) ||| (S 48 j1))), some (.int a3)]) (n := 60) d_Md_checks_59 rfl rfl rfl rfl ?_
    refine zr_iinc (i := 3) (w := 1) (x := a3) (L' := [some (.ref 27), some (.int a1), some (.int ((a2 <<< (8 &&& 31)) ||| (S 48 j1))), some (.int (a3 + 1))]) (n := 63) d_Md_checks_60 rfl (by decide) rfl rfl ?_
    refine zr_goto (tgt := 40) d_Md_checks_63 (by decide) ?_
    exact (l3 h1)
theorem s_Md_checks_24 {d : Nat} {Q : zm_Q} {S : zm_S} {a2 r : Int32}
    (l1 : zw M_Md_checks (d + 1) Q 4 [some (.ref 27), some (.int r), some (.int (a2 + 1)), none] [] S) :
    zw M_Md_checks (d + 1) Q 24 [some (.ref 27), none, some (.int a2), none] [.int r] S := by
  refine zr_istore_n (i := 1) (L' := [some (.ref 27), some (.int r), some (.int a2), none]) (n := 25) d_Md_checks_24 rfl rfl rfl rfl ?_
  refine zr_iinc (i := 2) (w := 1) (x := a2) (L' := [some (.ref 27), some (.int r), some (.int (a2 + 1)), none]) (n := 28) d_Md_checks_25 rfl (by decide) rfl rfl ?_
  refine zr_goto (tgt := 4) d_Md_checks_28 (by decide) ?_
  exact l1
theorem e_Md_checks {d : Nat} {Q : zm_Q} {S : zm_S} (h : zw M_Md_checks (d + 1) Q 0 [some (.ref 27), none, none, none] [] S) : zc M_Md_checks (d + 1) [.ref 27] S Q := zm_CC_intro (by decide) rfl rfl h
theorem s_Md_isList_0 {d : Nat} {Q : zm_Q} {S : zm_S}
    (l1 : ((¬ (S 48 0) = 59) ∨ ((S 48 0) = 59 ∧ (S 27 30) < 9) ∨ ((S 48 0) = 59 ∧ ¬ (S 27 30) < 9 ∧ ¬ (S 27 30) = (9 + (3 * (S 48 4)))) ∨ ((S 48 0) = 59 ∧ ¬ (S 27 30) < 9 ∧ (S 27 30) = (9 + (3 * (S 48 4))) ∧ (((S 48 4) < 1) ∨ (¬ (S 48 4) < 1 ∧ 12 < (S 48 4))))) → Q (some 0) GG S)
    (l2 : (S 48 0) = 59 → ¬ (S 27 30) < 9 → (S 27 30) = (9 + (3 * (S 48 4))) → ¬ (S 48 4) < 1 → ¬ 12 < (S 48 4) → zw M_Md_isList (d + 1) Q 59 [some (.ref 27), some (.int 1), some (.int 0)] [] S) :
    zw M_Md_isList (d + 1) Q 0 [some (.ref 27), none, none] [] S := by
  refine zr_aload_n (i := 0) (x := 27) (n := 1) d_Md_isList_0 rfl rfl rfl ?_
  refine zr_getr (n := 4) d_Md_isList_1 rfl f_Md_78 gg_27 rfl ?_
  refine zr_iconst (v := 0) (n := 5) d_Md_isList_4 rfl (by decide) ?_
  refine zr_iaload 0 (n := 6) d_Md_isList_5 rfl gg_48 (zm_ixN (Nat.le_of_ble_eq_true rfl) (Nat.le_of_ble_eq_true rfl)) ?_
  refine zr_bipush (v := 59) (n := 8) d_Md_isList_6 rfl (by decide) ?_
  refine zr_icmp_ne (tgt := 53) (n := 11) d_Md_isList_8 rfl (by decide) (fun h1 => ?_) (fun h1 => ?_)
  · refine zr_iconst (v := 0) (n := 54) d_Md_isList_53 rfl (by decide) ?_
    exact zr_ireturn d_Md_isList_54 rfl (by decide) (Nat.le_refl _) (Nat.le_refl _) (l1 (Or.inl h1))
  · refine zr_aload_n (i := 0) (x := 27) (n := 12) d_Md_isList_11 rfl rfl rfl ?_
    refine zr_geti (n := 15) d_Md_isList_12 rfl f_Md_182 gg_27 rfl ?_
    refine zr_bipush (v := 9) (n := 17) d_Md_isList_15 rfl (by decide) ?_
    refine zr_icmp_lt (tgt := 53) (n := 20) d_Md_isList_17 rfl (by decide) (fun h2 => ?_) (fun h2 => ?_)
    · refine zr_iconst (v := 0) (n := 54) d_Md_isList_53 rfl (by decide) ?_
      exact zr_ireturn d_Md_isList_54 rfl (by decide) (Nat.le_refl _) (Nat.le_refl _) (l1 (Or.inr (Or.inl ⟨h1, h2⟩)))
    · refine zr_aload_n (i := 0) (x := 27) (n := 21) d_Md_isList_20 rfl rfl rfl ?_
      refine zr_geti (n := 24) d_Md_isList_21 rfl f_Md_182 gg_27 rfl ?_
      refine zr_bipush (v := 9) (n := 26) d_Md_isList_24 rfl (by decide) ?_
      refine zr_iconst (v := 3) (n := 27) d_Md_isList_26 rfl (by decide) ?_
      refine zr_aload_n (i := 0) (x := 27) (n := 28) d_Md_isList_27 rfl rfl rfl ?_
      refine zr_getr (n := 31) d_Md_isList_28 rfl f_Md_78 gg_27 rfl ?_
      refine zr_iconst (v := 4) (n := 32) d_Md_isList_31 rfl (by decide) ?_
      refine zr_iaload 4 (n := 33) d_Md_isList_32 rfl gg_48 (zm_ixN (Nat.le_of_ble_eq_true rfl) (Nat.le_of_ble_eq_true rfl)) ?_
      refine zr_imul (n := 34) d_Md_isList_33 rfl ?_
      refine zr_iadd (n := 35) d_Md_isList_34 rfl ?_
      refine zr_icmp_ne (tgt := 53) (n := 38) d_Md_isList_35 rfl (by decide) (fun h3 => ?_) (fun h3 => ?_)
      · refine zr_iconst (v := 0) (n := 54) d_Md_isList_53 rfl (by decide) ?_
        exact zr_ireturn d_Md_isList_54 rfl (by decide) (Nat.le_refl _) (Nat.le_refl _) (l1 (Or.inr (Or.inr (Or.inl ⟨h1, h2, h3⟩))))
      · refine zr_aload_n (i := 0) (x := 27) (n := 39) d_Md_isList_38 rfl rfl rfl ?_
        refine zr_getr (n := 42) d_Md_isList_39 rfl f_Md_78 gg_27 rfl ?_
        refine zr_iconst (v := 4) (n := 43) d_Md_isList_42 rfl (by decide) ?_
        refine zr_iaload 4 (n := 44) d_Md_isList_43 rfl gg_48 (zm_ixN (Nat.le_of_ble_eq_true rfl) (Nat.le_of_ble_eq_true rfl)) ?_
        refine zr_iconst (v := 1) (n := 45) d_Md_isList_44 rfl (by decide) ?_
        refine zr_bipush (v := 12) (n := 47) d_Md_isList_45 rfl (by decide) ?_
        refine zr_callS (M' := M_Md_within) (mc' := 0) (ms' := 0) (av := [.int (S 48 4), .int 1, .int 12]) (rest := []) (n := 50) d_Md_isList_47 rfl w_Md_84 w_Md_84k rfl rfl rfl rfl rfl (Nat.le_refl _) (Nat.le_refl _) ?_
        refine c_Md_within (a0 := (S 48 4)) (a1 := 1) (a2 := 12) (fun h4 => ?_) (fun h5 h6 => ?_)
        · refine zr_if_ne (tgt := 55) (n := 53) d_Md_isList_50 rfl (by decide) (fun h => absurd h (by decide)) (fun _ => ?_)
          refine zr_iconst (v := 0) (n := 54) d_Md_isList_53 rfl (by decide) ?_
          exact zr_ireturn d_Md_isList_54 rfl (by decide) (Nat.le_refl _) (Nat.le_refl _) (l1 (Or.inr (Or.inr (Or.inr ⟨h1, h2, h3, h4⟩))))
        · refine zr_if_ne (tgt := 55) (n := 53) d_Md_isList_50 rfl (by decide) (fun _ => ?_) (fun h => absurd h (by decide))
          refine zr_iconst (v := 1) (n := 56) d_Md_isList_55 rfl (by decide) ?_
          refine zr_istore_n (i := 1) (L' := [some (.ref 27), some (.int 1), none]) (n := 57) d_Md_isList_56 rfl rfl rfl rfl ?_
          refine zr_iconst (v := 0) (n := 58) d_Md_isList_57 rfl (by decide) ?_
          refine zr_istore_n (i := 2) (L' := [some (.ref 27), some (.int 1), some (.int 0)]) (n := 59) d_Md_isList_58 rfl rfl rfl rfl ?_
          exact (l2 h1 h2 h3 h5 h6)
theorem s_Md_isList_59 {d : Nat} {Q : zm_Q} {S : zm_S} {a1 a2 : Int32} (j1 : Nat) (o1 : (S 48 4) ≤ a2 → a1 = 0 ∨ a1 = 1) (o2 : ¬ (S 48 4) ≤ a2 → ¬ a1 = 0 → zm_ix (5 + (3 * a2)) j1 258)
    (l1 : (S 48 4) ≤ a2 → Q (some a1) GG S)
    (l2 : ((¬ (S 48 4) ≤ a2 ∧ a1 = 0) ∨ (¬ (S 48 4) ≤ a2 ∧ ¬ a1 = 0 ∧ (((S 48 j1) < 1) ∨ (¬ (S 48 j1) < 1 ∧ 48 < (S 48 j1))))) → zw M_Md_isList (d + 1) Q 59 [some (.ref 27), some (.int 0), some (.int (a2 + 1))] [] S)
    (l3 : ¬ (S 48 4) ≤ a2 → ¬ a1 = 0 → ¬ (S 48 j1) < 1 → ¬ 48 < (S 48 j1) → zw M_Md_isList (d + 1) Q 59 [some (.ref 27), some (.int 1), some (.int (a2 + 1))] [] S) :
    zw M_Md_isList (d + 1) Q 59 [some (.ref 27), some (.int a1), some (.int a2)] [] S := by
  refine zr_iload_n (i := 2) (x := a2) (n := 60) d_Md_isList_59 rfl rfl rfl ?_
  refine zr_aload_n (i := 0) (x := 27) (n := 61) d_Md_isList_60 rfl rfl rfl ?_
  refine zr_getr (n := 64) d_Md_isList_61 rfl f_Md_78 gg_27 rfl ?_
  refine zr_iconst (v := 4) (n := 65) d_Md_isList_64 rfl (by decide) ?_
  refine zr_iaload 4 (n := 66) d_Md_isList_65 rfl gg_48 (zm_ixN (Nat.le_of_ble_eq_true rfl) (Nat.le_of_ble_eq_true rfl)) ?_
  refine zr_icmp_ge (tgt := 104) (n := 69) d_Md_isList_66 rfl (by decide) (fun h1 => ?_) (fun h1 => ?_)
  · refine zr_iload_n (i := 1) (x := a1) (n := 105) d_Md_isList_104 rfl rfl rfl ?_
    exact zr_ireturn d_Md_isList_105 rfl (zm_nz (o1 h1)) (Nat.le_refl _) (Nat.le_refl _) (l1 h1)
  · refine zr_iload_n (i := 1) (x := a1) (n := 70) d_Md_isList_69 rfl rfl rfl ?_
    refine zr_if_eq (tgt := 96) (n := 73) d_Md_isList_70 rfl (by decide) (fun h2 => ?_) (fun h2 => ?_)
    · refine zr_iconst (v := 0) (n := 97) d_Md_isList_96 rfl (by decide) ?_
      refine zr_istore_n (i := 1) (L' := [some (.ref 27), some (.int 0), some (.int a2)]) (n := 98) d_Md_isList_97 rfl rfl rfl rfl ?_
      refine zr_iinc (i := 2) (w := 1) (x := a2) (L' := [some (.ref 27), some (.int 0), some (.int (a2 + 1))]) (n := 101) d_Md_isList_98 rfl (by decide) rfl rfl ?_
      refine zr_goto (tgt := 59) d_Md_isList_101 (by decide) ?_
      exact (l2 (Or.inl ⟨h1, h2⟩))
    · refine zr_aload_n (i := 0) (x := 27) (n := 74) d_Md_isList_73 rfl rfl rfl ?_
      refine zr_getr (n := 77) d_Md_isList_74 rfl f_Md_78 gg_27 rfl ?_
      refine zr_iconst (v := 5) (n := 78) d_Md_isList_77 rfl (by decide) ?_
      refine zr_iconst (v := 3) (n := 79) d_Md_isList_78 rfl (by decide) ?_
      refine zr_iload_n (i := 2) (x := a2) (n := 80) d_Md_isList_79 rfl rfl rfl ?_
      refine zr_imul (n := 81) d_Md_isList_80 rfl ?_
      refine zr_iadd (n := 82) d_Md_isList_81 rfl ?_
      refine zr_iaload j1 (n := 83) d_Md_isList_82 rfl gg_48 (o2 h1 h2) ?_
      refine zr_iconst (v := 1) (n := 84) d_Md_isList_83 rfl (by decide) ?_
      refine zr_bipush (v := 48) (n := 86) d_Md_isList_84 rfl (by decide) ?_
      refine zr_weak (zm_LE.cons (zm_LE.skip (zm_LE.cons zm_LE.nil))) ?_
      refine zr_callS (M' := M_Md_within) (mc' := 0) (ms' := 0) (av := [.int (S 48 j1), .int 1, .int 48]) (rest := []) (n := 89) d_Md_isList_86 rfl w_Md_84 w_Md_84k rfl rfl rfl rfl rfl (Nat.le_refl _) (Nat.le_refl _) ?_
      refine c_Md_within (a0 := (S 48 j1)) (a1 := 1) (a2 := 48) (fun h3 => ?_) (fun h4 h5 => ?_)
      · refine zr_if_eq (tgt := 96) (n := 92) d_Md_isList_89 rfl (by decide) (fun _ => ?_) (fun h => absurd h (by decide))
        refine zr_iconst (v := 0) (n := 97) d_Md_isList_96 rfl (by decide) ?_
        refine zr_istore_n (i := 1) (L' := [some (.ref 27), some (.int 0), some (.int a2)]) (n := 98) d_Md_isList_97 rfl rfl rfl rfl ?_
        refine zr_iinc (i := 2) (w := 1) (x := a2) (L' := [some (.ref 27), some (.int 0), some (.int (a2 + 1))]) (n := 101) d_Md_isList_98 rfl (by decide) rfl rfl ?_
        refine zr_goto (tgt := 59) d_Md_isList_101 (by decide) ?_
        exact (l2 (Or.inr ⟨h1, h2, h3⟩))
      · refine zr_if_eq (tgt := 96) (n := 92) d_Md_isList_89 rfl (by decide) (fun h => absurd h (by decide)) (fun _ => ?_)
        refine zr_iconst (v := 1) (n := 93) d_Md_isList_92 rfl (by decide) ?_
        refine zr_goto (tgt := 97) d_Md_isList_93 (by decide) ?_
        refine zr_istore_n (i := 1) (L' := [some (.ref 27), some (.int 1), some (.int a2)]) (n := 98) d_Md_isList_97 rfl rfl rfl rfl ?_
        refine zr_iinc (i := 2) (w := 1) (x := a2) (L' := [some (.ref 27), some (.int 1), some (.int (a2 + 1))]) (n := 101) d_Md_isList_98 rfl (by decide) rfl rfl ?_
        refine zr_goto (tgt := 59) d_Md_isList_101 (by decide) ?_
        exact (l3 h1 h2 h4 h5)
theorem e_Md_isList {d : Nat} {Q : zm_Q} {S : zm_S} (h : zw M_Md_isList (d + 1) Q 0 [some (.ref 27), none, none] [] S) : zc M_Md_isList (d + 1) [.ref 27] S Q := zm_CC_intro (by decide) rfl rfl h
theorem s_Md_fits_0 {d : Nat} {Q : zm_Q} {S : zm_S} (j1 : Nat) (j2 : Nat) (o1 : ¬ 11 < (S 48 2) → zm_ix (S 48 2) j1 12) (o2 : ¬ 11 < (S 48 2) → ¬ (S 43 j1) = 0 → zm_ix (3 + 1) j2 258)
    (l1 : ((11 < (S 48 2)) ∨ (¬ 11 < (S 48 2) ∧ (S 43 j1) = 0) ∨ (¬ 11 < (S 48 2) ∧ ¬ (S 43 j1) = 0 ∧ (S 44 j1) = ((256 * (S 48 3)) + (S 48 j2)) ∧ ((S 45 j1) - (8 * (S 48 5))) ≤ 0) ∨ (¬ 11 < (S 48 2) ∧ ¬ (S 43 j1) = 0 ∧ (S 44 j1) = ((256 * (S 48 3)) + (S 48 j2)) ∧ ¬ ((S 45 j1) - (8 * (S 48 5))) ≤ 0 ∧ 8 ≤ ((S 45 j1) - (8 * (S 48 5))) ∧ ¬ ((S 27 30) - 10) = 8) ∨ (¬ 11 < (S 48 2) ∧ ¬ (S 43 j1) = 0 ∧ (S 44 j1) = ((256 * (S 48 3)) + (S 48 j2)) ∧ ¬ ((S 45 j1) - (8 * (S 48 5))) ≤ 0 ∧ ¬ 8 ≤ ((S 45 j1) - (8 * (S 48 5))) ∧ ¬ ((S 27 30) - 10) = ((S 45 j1) - (8 * (S 48 5)))) ∨ (¬ 11 < (S 48 2) ∧ ¬ (S 43 j1) = 0 ∧ ¬ (S 44 j1) = ((256 * (S 48 3)) + (S 48 j2)))) → Q (some 0) GG S)
    (l2 : ((¬ 11 < (S 48 2) ∧ ¬ (S 43 j1) = 0 ∧ (S 44 j1) = ((256 * (S 48 3)) + (S 48 j2)) ∧ ¬ ((S 45 j1) - (8 * (S 48 5))) ≤ 0 ∧ 8 ≤ ((S 45 j1) - (8 * (S 48 5))) ∧ ((S 27 30) - 10) = 8) ∨ (¬ 11 < (S 48 2) ∧ ¬ (S 43 j1) = 0 ∧ (S 44 j1) = ((256 * (S 48 3)) + (S 48 j2)) ∧ ¬ ((S 45 j1) - (8 * (S 48 5))) ≤ 0 ∧ ¬ 8 ≤ ((S 45 j1) - (8 * (S 48 5))) ∧ ((S 27 30) - 10) = ((S 45 j1) - (8 * (S 48 5))))) → Q (some 1) GG S) :
    zw M_Md_fits (d + 1) Q 0 [some (.ref 27), none, none] [] S := by
  refine zr_aload_n (i := 0) (x := 27) (n := 1) d_Md_fits_0 rfl rfl rfl ?_
  refine zr_getr (n := 4) d_Md_fits_1 rfl f_Md_78 gg_27 rfl ?_
  refine zr_iconst (v := 2) (n := 5) d_Md_fits_4 rfl (by decide) ?_
  refine zr_iaload 2 (n := 6) d_Md_fits_5 rfl gg_48 (zm_ixN (Nat.le_of_ble_eq_true rfl) (Nat.le_of_ble_eq_true rfl)) ?_
  refine zr_istore_n (i := 1) (L' := [some (.ref 27), some (.int (S 48 2)), none]) (n := 7) d_Md_fits_6 rfl rfl rfl rfl ?_
  refine zr_iload_n (i := 1) (x := (S 48 2)) (n := 8) d_Md_fits_7 rfl rfl rfl ?_
  refine zr_bipush (v := 11) (n := 10) d_Md_fits_8 rfl (by decide) ?_
  refine zr_icmp_gt (tgt := 36) (n := 13) d_Md_fits_10 rfl (by decide) (fun h1 => ?_) (fun h1 => ?_)
  · refine zr_iconst (v := 0) (n := 37) d_Md_fits_36 rfl (by decide) ?_
    exact zr_ireturn d_Md_fits_37 rfl (by decide) (Nat.le_refl _) (Nat.le_refl _) (l1 (Or.inl h1))
  · refine zr_aload_n (i := 0) (x := 27) (n := 14) d_Md_fits_13 rfl rfl rfl ?_
    refine zr_getr (n := 17) d_Md_fits_14 rfl f_Md_63 gg_27 rfl ?_
    refine zr_iload_n (i := 1) (x := (S 48 2)) (n := 18) d_Md_fits_17 rfl rfl rfl ?_
    refine zr_baload j1 (n := 19) d_Md_fits_18 rfl gg_43 (o1 h1) ?_
    refine zr_if_eq (tgt := 36) (n := 22) d_Md_fits_19 rfl (by decide) (fun h2 => ?_) (fun h2 => ?_)
    · refine zr_iconst (v := 0) (n := 37) d_Md_fits_36 rfl (by decide) ?_
      exact zr_ireturn d_Md_fits_37 rfl (by decide) (Nat.le_refl _) (Nat.le_refl _) (l1 (Or.inr (Or.inl ⟨h1, h2⟩)))
    · refine zr_aload_n (i := 0) (x := 27) (n := 23) d_Md_fits_22 rfl rfl rfl ?_
      refine zr_getr (n := 26) d_Md_fits_23 rfl f_Md_66 gg_27 rfl ?_
      refine zr_iload_n (i := 1) (x := (S 48 2)) (n := 27) d_Md_fits_26 rfl rfl rfl ?_
      refine zr_iaload j1 (n := 28) d_Md_fits_27 rfl gg_44 (o1 h1) ?_
      refine zr_aload_n (i := 0) (x := 27) (n := 29) d_Md_fits_28 rfl rfl rfl ?_
      refine zr_iconst (v := 3) (n := 30) d_Md_fits_29 rfl (by decide) ?_
      refine zr_callV (M' := M_Md_pair) (mc' := 0) (ms' := 0) (av := [.int 3]) (rest := [.int (S 44 j1)]) (n := 33) d_Md_fits_30 rfl w_Md_207 w_Md_207k gg_27 rfl rfl rfl rfl rfl rfl (Nat.le_refl _) (Nat.le_refl _) ?_
      refine c_Md_pair (a1 := 3) 3 j2 (zm_ixN (Nat.le_of_ble_eq_true rfl) (Nat.le_of_ble_eq_true rfl)) (o2 h1 h2) ?_
      refine zr_icmp_eq (tgt := 38) (n := 36) d_Md_fits_33 rfl (by decide) (fun h3 => ?_) (fun h3 => ?_)
      · refine zr_aload_n (i := 0) (x := 27) (n := 39) d_Md_fits_38 rfl rfl rfl ?_
        refine zr_getr (n := 42) d_Md_fits_39 rfl f_Md_69 gg_27 rfl ?_
        refine zr_iload_n (i := 1) (x := (S 48 2)) (n := 43) d_Md_fits_42 rfl rfl rfl ?_
        refine zr_iaload j1 (n := 44) d_Md_fits_43 rfl gg_45 (o1 h1) ?_
        refine zr_bipush (v := 8) (n := 46) d_Md_fits_44 rfl (by decide) ?_
        refine zr_aload_n (i := 0) (x := 27) (n := 47) d_Md_fits_46 rfl rfl rfl ?_
        refine zr_getr (n := 50) d_Md_fits_47 rfl f_Md_78 gg_27 rfl ?_
        refine zr_iconst (v := 5) (n := 51) d_Md_fits_50 rfl (by decide) ?_
        refine zr_iaload 5 (n := 52) d_Md_fits_51 rfl gg_48 (zm_ixN (Nat.le_of_ble_eq_true rfl) (Nat.le_of_ble_eq_true rfl)) ?_
        refine zr_imul (n := 53) d_Md_fits_52 rfl ?_
        refine zr_isub (n := 54) d_Md_fits_53 rfl ?_
        refine zr_istore_n (i := 2) (L' := [some (.ref 27), some (.int (S 48 2)), some (.int ((S 45 j1) - (8 * (S 48 5))))]) (n := 55) d_Md_fits_54 rfl rfl rfl rfl ?_
        refine zr_iload_n (i := 2) (x := ((S 45 j1) - (8 * (S 48 5)))) (n := 56) d_Md_fits_55 rfl rfl rfl ?_
        refine zr_if_le (tgt := 85) (n := 59) d_Md_fits_56 rfl (by decide) (fun h4 => ?_) (fun h4 => ?_)
        · refine zr_iconst (v := 0) (n := 86) d_Md_fits_85 rfl (by decide) ?_
          exact zr_ireturn d_Md_fits_86 rfl (by decide) (Nat.le_refl _) (Nat.le_refl _) (l1 (Or.inr (Or.inr (Or.inl ⟨h1, h2, h3, h4⟩))))
        · refine zr_aload_n (i := 0) (x := 27) (n := 60) d_Md_fits_59 rfl rfl rfl ?_
          refine zr_geti (n := 63) d_Md_fits_60 rfl f_Md_182 gg_27 rfl ?_
          refine zr_bipush (v := 10) (n := 65) d_Md_fits_63 rfl (by decide) ?_
          refine zr_isub (n := 66) d_Md_fits_65 rfl ?_
          refine zr_iload_n (i := 2) (x := ((S 45 j1) - (8 * (S 48 5)))) (n := 67) d_Md_fits_66 rfl rfl rfl ?_
          refine zr_bipush (v := 8) (n := 69) d_Md_fits_67 rfl (by decide) ?_
          refine zr_icmp_ge (tgt := 76) (n := 72) d_Md_fits_69 rfl (by decide) (fun h5 => ?_) (fun h5 => ?_)
          · refine zr_bipush (v := 8) (n := 78) d_Md_fits_76 rfl (by decide) ?_
            refine zr_icmp_ne (tgt := 85) (n := 81) d_Md_fits_78 rfl (by decide) (fun h6 => ?_) (fun h6 => ?_)
            · refine zr_iconst (v := 0) (n := 86) d_Md_fits_85 rfl (by decide) ?_
              exact zr_ireturn d_Md_fits_86 rfl (by decide) (Nat.le_refl _) (Nat.le_refl _) (l1 (Or.inr (Or.inr (Or.inr (Or.inl ⟨h1, h2, h3, h4, h5, h6⟩)))))
            · refine zr_iconst (v := 1) (n := 82) d_Md_fits_81 rfl (by decide) ?_
              refine zr_goto (tgt := 86) d_Md_fits_82 (by decide) ?_
              exact zr_ireturn d_Md_fits_86 rfl (by decide) (Nat.le_refl _) (Nat.le_refl _) (l2 (Or.inl ⟨h1, h2, h3, h4, h5, h6⟩))
          · refine zr_iload_n (i := 2) (x := ((S 45 j1) - (8 * (S 48 5)))) (n := 73) d_Md_fits_72 rfl rfl rfl ?_
            refine zr_goto (tgt := 78) d_Md_fits_73 (by decide) ?_
            refine zr_icmp_ne (tgt := 85) (n := 81) d_Md_fits_78 rfl (by decide) (fun h7 => ?_) (fun h7 => ?_)
            · refine zr_iconst (v := 0) (n := 86) d_Md_fits_85 rfl (by decide) ?_
              exact zr_ireturn d_Md_fits_86 rfl (by decide) (Nat.le_refl _) (Nat.le_refl _) (l1 (Or.inr (Or.inr (Or.inr (Or.inr (Or.inl ⟨h1, h2, h3, h4, h5, h7⟩))))))
            · refine zr_iconst (v := 1) (n := 82) d_Md_fits_81 rfl (by decide) ?_
              refine zr_goto (tgt := 86) d_Md_fits_82 (by decide) ?_
              exact zr_ireturn d_Md_fits_86 rfl (by decide) (Nat.le_refl _) (Nat.le_refl _) (l2 (Or.inr ⟨h1, h2, h3, h4, h5, h7⟩))
      · refine zr_iconst (v := 0) (n := 37) d_Md_fits_36 rfl (by decide) ?_
        exact zr_ireturn d_Md_fits_37 rfl (by decide) (Nat.le_refl _) (Nat.le_refl _) (l1 (Or.inr (Or.inr (Or.inr (Or.inr (Or.inr ⟨h1, h2, h3⟩))))))
theorem e_Md_fits {d : Nat} {Q : zm_Q} {S : zm_S} (h : zw M_Md_fits (d + 1) Q 0 [some (.ref 27), none, none] [] S) : zc M_Md_fits (d + 1) [.ref 27] S Q := zm_CC_intro (by decide) rfl rfl h
theorem s_Md_block_0 {d : Nat} {Q : zm_Q} {S : zm_S} (j1 : Nat) (o1 : zm_ix ((6 * (S 48 2)) + (S 48 5)) j1 72)
    (l1 : zw M_Md_block d Q 36 [some (.ref 27), some (.int (S 48 2)), some (.int 0)] [] (zm_up (zm_up S 49 1 ((S 49 1) + 1)) 46 j1 1)) :
    zw M_Md_block d Q 0 [some (.ref 27), none, none] [] S := by
  refine zr_aload_n (i := 0) (x := 27) (n := 1) d_Md_block_0 rfl rfl rfl ?_
  refine zr_getr (n := 4) d_Md_block_1 rfl f_Md_81 gg_27 rfl ?_
  refine zr_iconst (v := 1) (n := 5) d_Md_block_4 rfl (by decide) ?_
  refine zr_dup2 (n := 6) d_Md_block_5 rfl rfl rfl ?_
  refine zr_iaload 1 (n := 7) d_Md_block_6 rfl gg_49 (zm_ixN (Nat.le_of_ble_eq_true rfl) (Nat.le_of_ble_eq_true rfl)) ?_
  refine zr_iconst (v := 1) (n := 8) d_Md_block_7 rfl (by decide) ?_
  refine zr_iadd (n := 9) d_Md_block_8 rfl ?_
  refine zr_iastore 1 (n := 10) d_Md_block_9 rfl gg_49 (zm_ixN (Nat.le_of_ble_eq_true rfl) (Nat.le_of_ble_eq_true rfl)) ?_
  refine zr_aload_n (i := 0) (x := 27) (n := 11) d_Md_block_10 rfl rfl rfl ?_
  refine zr_getr (n := 14) d_Md_block_11 rfl f_Md_78 gg_27 rfl ?_
  refine zr_iconst (v := 2) (n := 15) d_Md_block_14 rfl (by decide) ?_
  refine zr_iaload 2 (n := 16) d_Md_block_15 rfl gg_48 (zm_ixN (Nat.le_of_ble_eq_true rfl) (Nat.le_of_ble_eq_true rfl)) ?_
  refine zr_istore_n (i := 1) (L' := [some (.ref 27), some (.int (S 48 2)), none]) (n := 17) d_Md_block_16 rfl rfl rfl rfl ?_
  refine zr_aload_n (i := 0) (x := 27) (n := 18) d_Md_block_17 rfl rfl rfl ?_
  refine zr_getr (n := 21) d_Md_block_18 rfl f_Md_72 gg_27 rfl ?_
  refine zr_bipush (v := 6) (n := 23) d_Md_block_21 rfl (by decide) ?_
  refine zr_iload_n (i := 1) (x := (S 48 2)) (n := 24) d_Md_block_23 rfl rfl rfl ?_
  refine zr_imul (n := 25) d_Md_block_24 rfl ?_
  refine zr_aload_n (i := 0) (x := 27) (n := 26) d_Md_block_25 rfl rfl rfl ?_
  refine zr_getr (n := 29) d_Md_block_26 rfl f_Md_78 gg_27 rfl ?_
  refine zr_iconst (v := 5) (n := 30) d_Md_block_29 rfl (by decide) ?_
  refine zr_iaload 5 (n := 31) d_Md_block_30 rfl gg_48 (zm_ixN (Nat.le_of_ble_eq_true rfl) (Nat.le_of_ble_eq_true rfl)) ?_
  refine zr_iadd (n := 32) d_Md_block_31 rfl ?_
  refine zr_iconst (v := 1) (n := 33) d_Md_block_32 rfl (by decide) ?_
  refine zr_bastoreV (n := 34) j1 d_Md_block_33 rfl gg_46 o1 (by decide) ?_
  refine zr_iconst (v := 0) (n := 35) d_Md_block_34 rfl (by decide) ?_
  refine zr_istore_n (i := 2) (L' := [some (.ref 27), some (.int (S 48 2)), some (.int 0)]) (n := 36) d_Md_block_35 rfl rfl rfl rfl ?_
  exact l1
theorem s_Md_block_36 {d : Nat} {Q : zm_Q} {S : zm_S} {a1 a2 : Int32} (j1 : Nat) (j2 : Nat) (o1 : ¬ ((S 27 30) - 10) ≤ a2 → zm_ix (6 + a2) j1 258) (o2 : ¬ ((S 27 30) - 10) ≤ a2 → zm_ix (((48 * a1) + (8 * (S 48 5))) + a2) j2 576)
    (l1 : ((S 27 30) - 10) ≤ a2 → Q none GG S)
    (l2 : ¬ ((S 27 30) - 10) ≤ a2 → zw M_Md_block d Q 36 [some (.ref 27), some (.int a1), some (.int (a2 + 1))] [] (zm_up S 47 j2 (S 48 j1))) :
    zw M_Md_block d Q 36 [some (.ref 27), some (.int a1), some (.int a2)] [] S := by
  refine zr_iload_n (i := 2) (x := a2) (n := 37) d_Md_block_36 rfl rfl rfl ?_
  refine zr_aload_n (i := 0) (x := 27) (n := 38) d_Md_block_37 rfl rfl rfl ?_
  refine zr_geti (n := 41) d_Md_block_38 rfl f_Md_182 gg_27 rfl ?_
  refine zr_bipush (v := 10) (n := 43) d_Md_block_41 rfl (by decide) ?_
  refine zr_isub (n := 44) d_Md_block_43 rfl ?_
  refine zr_icmp_ge (tgt := 83) (n := 47) d_Md_block_44 rfl (by decide) (fun h1 => ?_) (fun h1 => ?_)
  · exact zr_return d_Md_block_83 rfl (Nat.le_refl _) (Nat.le_refl _) (l1 h1)
  · refine zr_aload_n (i := 0) (x := 27) (n := 48) d_Md_block_47 rfl rfl rfl ?_
    refine zr_getr (n := 51) d_Md_block_48 rfl f_Md_75 gg_27 rfl ?_
    refine zr_bipush (v := 48) (n := 53) d_Md_block_51 rfl (by decide) ?_
    refine zr_iload_n (i := 1) (x := a1) (n := 54) d_Md_block_53 rfl rfl rfl ?_
    refine zr_imul (n := 55) d_Md_block_54 rfl ?_
    refine zr_bipush (v := 8) (n := 57) d_Md_block_55 rfl (by decide) ?_
    refine zr_aload_n (i := 0) (x := 27) (n := 58) d_Md_block_57 rfl rfl rfl ?_
    refine zr_getr (n := 61) d_Md_block_58 rfl f_Md_78 gg_27 rfl ?_
    refine zr_iconst (v := 5) (n := 62) d_Md_block_61 rfl (by decide) ?_
    refine zr_iaload 5 (n := 63) d_Md_block_62 rfl gg_48 (zm_ixN (Nat.le_of_ble_eq_true rfl) (Nat.le_of_ble_eq_true rfl)) ?_
    refine zr_imul (n := 64) d_Md_block_63 rfl ?_
    refine zr_iadd (n := 65) d_Md_block_64 rfl ?_
    refine zr_iload_n (i := 2) (x := a2) (n := 66) d_Md_block_65 rfl rfl rfl ?_
    refine zr_iadd (n := 67) d_Md_block_66 rfl ?_
    refine zr_aload_n (i := 0) (x := 27) (n := 68) d_Md_block_67 rfl rfl rfl ?_
    refine zr_getr (n := 71) d_Md_block_68 rfl f_Md_78 gg_27 rfl ?_
    refine zr_bipush (v := 6) (n := 73) d_Md_block_71 rfl (by decide) ?_
    refine zr_iload_n (i := 2) (x := a2) (n := 74) d_Md_block_73 rfl rfl rfl ?_
    refine zr_iadd (n := 75) d_Md_block_74 rfl ?_
    refine zr_iaload j1 (n := 76) d_Md_block_75 rfl gg_48 (o1 h1) ?_
    refine zr_iastore j2 (n := 77) d_Md_block_76 rfl gg_47 (o2 h1) ?_
    refine zr_iinc (i := 2) (w := 1) (x := a2) (L' := [some (.ref 27), some (.int a1), some (.int (a2 + 1))]) (n := 80) d_Md_block_77 rfl (by decide) rfl rfl ?_
    refine zr_goto (tgt := 36) d_Md_block_80 (by decide) ?_
    exact (l2 h1)
theorem e_Md_block {d : Nat} {Q : zm_Q} {S : zm_S} (h : zw M_Md_block d Q 0 [some (.ref 27), none, none] [] S) : zc M_Md_block d [.ref 27] S Q := zm_CC_intro (by decide) rfl rfl h
theorem s_Md_heldOf_0 {d : Nat} {Q : zm_Q} {S : zm_S} {a1 : Int32}
    (l1 : zw M_Md_heldOf d Q 7 [some (.ref 27), some (.int a1), some (.int 0), some (.int (6 * a1))] [] S) :
    zw M_Md_heldOf d Q 0 [some (.ref 27), some (.int a1), none, none] [] S := by
  refine zr_iconst (v := 0) (n := 1) d_Md_heldOf_0 rfl (by decide) ?_
  refine zr_istore_n (i := 2) (L' := [some (.ref 27), some (.int a1), some (.int 0), none]) (n := 2) d_Md_heldOf_1 rfl rfl rfl rfl ?_
  refine zr_bipush (v := 6) (n := 4) d_Md_heldOf_2 rfl (by decide) ?_
  refine zr_iload_n (i := 1) (x := a1) (n := 5) d_Md_heldOf_4 rfl rfl rfl ?_
  refine zr_imul (n := 6) d_Md_heldOf_5 rfl ?_
  refine zr_istore_n (i := 3) (L' := [some (.ref 27), some (.int a1), some (.int 0), some (.int (6 * a1))]) (n := 7) d_Md_heldOf_6 rfl rfl rfl rfl ?_
  exact l1
theorem s_Md_heldOf_7 {d : Nat} {Q : zm_Q} {S : zm_S} {a1 a2 a3 : Int32} (j1 : Nat) (o1 : ¬ ((6 * a1) + 6) ≤ a3 → zm_ix a3 j1 72)
    (l1 : ((6 * a1) + 6) ≤ a3 → Q (some a2) GG S)
    (l2 : ¬ ((6 * a1) + 6) ≤ a3 → (S 46 j1) = 0 → zw M_Md_heldOf d Q 7 [some (.ref 27), some (.int a1), some (.int a2), some (.int (a3 + 1))] [] S)
    (l3 : ¬ ((6 * a1) + 6) ≤ a3 → ¬ (S 46 j1) = 0 → zw M_Md_heldOf d Q 7 [some (.ref 27), some (.int a1), some (.int (a2 + 1)), some (.int (a3 + 1))] [] S) :
    zw M_Md_heldOf d Q 7 [some (.ref 27), some (.int a1), some (.int a2), some (.int a3)] [] S := by
  refine zr_iload_n (i := 3) (x := a3) (n := 8) d_Md_heldOf_7 rfl rfl rfl ?_
  refine zr_bipush (v := 6) (n := 10) d_Md_heldOf_8 rfl (by decide) ?_
  refine zr_iload_n (i := 1) (x := a1) (n := 11) d_Md_heldOf_10 rfl rfl rfl ?_
  refine zr_imul (n := 12) d_Md_heldOf_11 rfl ?_
  refine zr_bipush (v := 6) (n := 14) d_Md_heldOf_12 rfl (by decide) ?_
  refine zr_iadd (n := 15) d_Md_heldOf_14 rfl ?_
  refine zr_icmp_ge (tgt := 41) (n := 18) d_Md_heldOf_15 rfl (by decide) (fun h1 => ?_) (fun h1 => ?_)
  · refine zr_iload_n (i := 2) (x := a2) (n := 42) d_Md_heldOf_41 rfl rfl rfl ?_
    exact zr_ireturn d_Md_heldOf_42 rfl rfl (Nat.le_refl _) (Nat.le_refl _) (l1 h1)
  · refine zr_aload_n (i := 0) (x := 27) (n := 19) d_Md_heldOf_18 rfl rfl rfl ?_
    refine zr_getr (n := 22) d_Md_heldOf_19 rfl f_Md_72 gg_27 rfl ?_
    refine zr_iload_n (i := 3) (x := a3) (n := 23) d_Md_heldOf_22 rfl rfl rfl ?_
    refine zr_baload j1 (n := 24) d_Md_heldOf_23 rfl gg_46 (o1 h1) ?_
    refine zr_if_eq (tgt := 33) (n := 27) d_Md_heldOf_24 rfl (by decide) (fun h2 => ?_) (fun h2 => ?_)
    · refine zr_iload_n (i := 2) (x := a2) (n := 34) d_Md_heldOf_33 rfl rfl rfl ?_
      refine zr_istore_n (i := 2) (L' := [some (.ref 27), some (.int a1), some (.int a2), some (.int a3)]) (n := 35) d_Md_heldOf_34 rfl rfl rfl rfl ?_
      refine zr_iinc (i := 3) (w := 1) (x := a3) (L' := [some (.ref 27), some (.int a1), some (.int a2), some (.int (a3 + 1))]) (n := 38) d_Md_heldOf_35 rfl (by decide) rfl rfl ?_
      refine zr_goto (tgt := 7) d_Md_heldOf_38 (by decide) ?_
      exact (l2 h1 h2)
    · refine zr_iload_n (i := 2) (x := a2) (n := 28) d_Md_heldOf_27 rfl rfl rfl ?_
      refine zr_iconst (v := 1) (n := 29) d_Md_heldOf_28 rfl (by decide) ?_
      refine zr_iadd (n := 30) d_Md_heldOf_29 rfl ?_
      refine zr_goto (tgt := 34) d_Md_heldOf_30 (by decide) ?_
      refine zr_istore_n (i := 2) (L' := [some (.ref 27), some (.int a1), some (.int (a2 + 1)), some (.int a3)]) (n := 35) d_Md_heldOf_34 rfl rfl rfl rfl ?_
      refine zr_iinc (i := 3) (w := 1) (x := a3) (L' := [some (.ref 27), some (.int a1), some (.int (a2 + 1)), some (.int (a3 + 1))]) (n := 38) d_Md_heldOf_35 rfl (by decide) rfl rfl ?_
      refine zr_goto (tgt := 7) d_Md_heldOf_38 (by decide) ?_
      exact (l3 h1 h2)
theorem e_Md_heldOf {d : Nat} {Q : zm_Q} {S : zm_S} {a1 : Int32} (h : zw M_Md_heldOf d Q 0 [some (.ref 27), some (.int a1), none, none] [] S) : zc M_Md_heldOf d [.ref 27, .int a1] S Q := zm_CC_intro (by decide) rfl rfl h
theorem s_Md_held_0 {d : Nat} {Q : zm_Q} {S : zm_S} {a1 : Int32} (j1 : Nat) (o1 : ¬ a1 < 0 → ¬ 11 < a1 → zm_ix a1 j1 12)
    (l1 : ((((a1 < 0) ∨ (¬ a1 < 0 ∧ 11 < a1))) ∨ (¬ a1 < 0 ∧ ¬ 11 < a1 ∧ (S 43 j1) = 0)) → Q (some (-2)) GG S)
    (l2 : ¬ a1 < 0 → ¬ 11 < a1 → ¬ (S 43 j1) = 0 → zc M_Md_heldOf d [.ref 27, .int a1] S (fun v G' S' => zm_WP M_Md_held none (d + 1) 0 0 Q 24 [none, none] (zm_ps v []) G' S' 0 0)) :
    zw M_Md_held (d + 1) Q 0 [some (.ref 27), some (.int a1)] [] S := by
  refine zr_iload_n (i := 1) (x := a1) (n := 1) d_Md_held_0 rfl rfl rfl ?_
  refine zr_iconst (v := 0) (n := 2) d_Md_held_1 rfl (by decide) ?_
  refine zr_bipush (v := 11) (n := 4) d_Md_held_2 rfl (by decide) ?_
  refine zr_callS (M' := M_Md_within) (mc' := 0) (ms' := 0) (av := [.int a1, .int 0, .int 11]) (rest := []) (n := 7) d_Md_held_4 rfl w_Md_84 w_Md_84k rfl rfl rfl rfl rfl (Nat.le_refl _) (Nat.le_refl _) ?_
  refine c_Md_within (a0 := a1) (a1 := 0) (a2 := 11) (fun h1 => ?_) (fun h2 h3 => ?_)
  · refine zr_if_eq (tgt := 27) (n := 10) d_Md_held_7 rfl (by decide) (fun _ => ?_) (fun h => absurd h (by decide))
    refine zr_bipush (v := (-2)) (n := 29) d_Md_held_27 rfl (by decide) ?_
    exact zr_ireturn d_Md_held_29 rfl rfl (Nat.le_refl _) (Nat.le_refl _) (l1 (Or.inl h1))
  · refine zr_if_eq (tgt := 27) (n := 10) d_Md_held_7 rfl (by decide) (fun h => absurd h (by decide)) (fun _ => ?_)
    refine zr_aload_n (i := 0) (x := 27) (n := 11) d_Md_held_10 rfl rfl rfl ?_
    refine zr_getr (n := 14) d_Md_held_11 rfl f_Md_63 gg_27 rfl ?_
    refine zr_iload_n (i := 1) (x := a1) (n := 15) d_Md_held_14 rfl rfl rfl ?_
    refine zr_baload j1 (n := 16) d_Md_held_15 rfl gg_43 (o1 h2 h3) ?_
    refine zr_if_eq (tgt := 27) (n := 19) d_Md_held_16 rfl (by decide) (fun h4 => ?_) (fun h4 => ?_)
    · refine zr_bipush (v := (-2)) (n := 29) d_Md_held_27 rfl (by decide) ?_
      exact zr_ireturn d_Md_held_29 rfl rfl (Nat.le_refl _) (Nat.le_refl _) (l1 (Or.inr ⟨h2, h3, h4⟩))
    · refine zr_aload_n (i := 0) (x := 27) (n := 20) d_Md_held_19 rfl rfl rfl ?_
      refine zr_iload_n (i := 1) (x := a1) (n := 21) d_Md_held_20 rfl rfl rfl ?_
      refine zr_weak (zm_LE.skip (zm_LE.skip zm_LE.nil)) ?_
      refine zr_callV (M' := M_Md_heldOf) (mc' := 0) (ms' := 0) (av := [.int a1]) (rest := []) (n := 24) d_Md_held_21 rfl w_Md_210 w_Md_210k gg_27 rfl rfl rfl rfl rfl rfl (Nat.le_refl _) (Nat.le_refl _) ?_
      exact (l2 h2 h3 h4)
theorem s_Md_held_24 {d : Nat} {Q : zm_Q} {S : zm_S} {r : Int32}
    (l1 : Q (some r) GG S) :
    zw M_Md_held (d + 1) Q 24 [none, none] [.int r] S := by
  refine zr_goto (tgt := 29) d_Md_held_24 (by decide) ?_
  exact zr_ireturn d_Md_held_29 rfl rfl (Nat.le_refl _) (Nat.le_refl _) l1
theorem e_Md_held {d : Nat} {Q : zm_Q} {S : zm_S} {a1 : Int32} (h : zw M_Md_held (d + 1) Q 0 [some (.ref 27), some (.int a1)] [] S) : zc M_Md_held (d + 1) [.ref 27, .int a1] S Q := zm_CC_intro (by decide) rfl rfl h
theorem s_Md_first_0 {d : Nat} {Q : zm_Q} {S : zm_S} {a1 a2 : Int32}
    (l1 : zw M_Md_first (d + 1) Q 2 [some (.ref 27), some (.int a1), some (.int a2), some (.int 0)] [] S) :
    zw M_Md_first (d + 1) Q 0 [some (.ref 27), some (.int a1), some (.int a2), none] [] S := by
  refine zr_iconst (v := 0) (n := 1) d_Md_first_0 rfl (by decide) ?_
  refine zr_istore_n (i := 3) (L' := [some (.ref 27), some (.int a1), some (.int a2), some (.int 0)]) (n := 2) d_Md_first_1 rfl rfl rfl rfl ?_
  exact l1
theorem s_Md_first_2 {d : Nat} {Q : zm_Q} {S : zm_S} {a1 a2 a3 : Int32} (j1 : Nat) (j2 : Nat) (j3 : Nat) (o1 : zm_ix a1 j1 12) (o2 : ¬ (S 45 j1) < (a3 + 3) → zm_ix (((48 * a1) + a3) + 2) j2 576) (o3 : ¬ (S 45 j1) < (a3 + 3) → ¬ (S 45 j1) < ((a3 + 3) + (S 47 j2)) → ¬ a2 < 0 → zm_ix (((48 * a1) + a3) + 1) j3 576) (o4 : ¬ (S 45 j1) < (a3 + 3) → ¬ (S 45 j1) < ((a3 + 3) + (S 47 j2)) → ¬ a2 < 0 → ¬ (S 47 j3) = a2 → zm_ix (((48 * a1) + a3) + 2) j2 576)
    (l1 : (((S 45 j1) < (a3 + 3)) ∨ (¬ (S 45 j1) < (a3 + 3) ∧ (S 45 j1) < ((a3 + 3) + (S 47 j2)))) → Q (some (-2)) GG S)
    (l2 : ((¬ (S 45 j1) < (a3 + 3) ∧ ¬ (S 45 j1) < ((a3 + 3) + (S 47 j2)) ∧ a2 < 0) ∨ (¬ (S 45 j1) < (a3 + 3) ∧ ¬ (S 45 j1) < ((a3 + 3) + (S 47 j2)) ∧ ¬ a2 < 0 ∧ (S 47 j3) = a2)) → Q (some ((48 * a1) + a3)) GG S)
    (l3 : ¬ (S 45 j1) < (a3 + 3) → ¬ (S 45 j1) < ((a3 + 3) + (S 47 j2)) → ¬ a2 < 0 → ¬ (S 47 j3) = a2 → zw M_Md_first (d + 1) Q 2 [some (.ref 27), some (.int a1), some (.int a2), some (.int ((a3 + 3) + (S 47 j2)))] [] S) :
    zw M_Md_first (d + 1) Q 2 [some (.ref 27), some (.int a1), some (.int a2), some (.int a3)] [] S := by
  refine zr_aload_n (i := 0) (x := 27) (n := 3) d_Md_first_2 rfl rfl rfl ?_
  refine zr_iload_n (i := 1) (x := a1) (n := 4) d_Md_first_3 rfl rfl rfl ?_
  refine zr_iload_n (i := 3) (x := a3) (n := 5) d_Md_first_4 rfl rfl rfl ?_
  refine zr_callV (M' := M_Md_stands) (mc' := 0) (ms' := 0) (av := [.int a1, .int a3]) (rest := []) (n := 8) d_Md_first_5 rfl w_Md_213 w_Md_213k gg_27 rfl rfl rfl rfl rfl rfl (Nat.le_refl _) (Nat.le_refl _) ?_
  refine c_Md_stands (a1 := a1) (a2 := a3) j1 j2 o1 o2 (fun h1 => ?_) (fun h2 h3 => ?_)
  · refine zr_if_eq (tgt := 60) (n := 11) d_Md_first_8 rfl (by decide) (fun _ => ?_) (fun h => absurd h (by decide))
    refine zr_bipush (v := (-2)) (n := 62) d_Md_first_60 rfl (by decide) ?_
    exact zr_ireturn d_Md_first_62 rfl rfl (Nat.le_refl _) (Nat.le_refl _) (l1 h1)
  · refine zr_if_eq (tgt := 60) (n := 11) d_Md_first_8 rfl (by decide) (fun h => absurd h (by decide)) (fun _ => ?_)
    refine zr_iload_n (i := 2) (x := a2) (n := 12) d_Md_first_11 rfl rfl rfl ?_
    refine zr_if_lt (tgt := 32) (n := 15) d_Md_first_12 rfl (by decide) (fun h4 => ?_) (fun h4 => ?_)
    · refine zr_bipush (v := 48) (n := 34) d_Md_first_32 rfl (by decide) ?_
      refine zr_iload_n (i := 1) (x := a1) (n := 35) d_Md_first_34 rfl rfl rfl ?_
      refine zr_imul (n := 36) d_Md_first_35 rfl ?_
      refine zr_iload_n (i := 3) (x := a3) (n := 37) d_Md_first_36 rfl rfl rfl ?_
      refine zr_iadd (n := 38) d_Md_first_37 rfl ?_
      exact zr_ireturn d_Md_first_38 rfl rfl (Nat.le_refl _) (Nat.le_refl _) (l2 (Or.inl ⟨h2, h3, h4⟩))
    · refine zr_aload_n (i := 0) (x := 27) (n := 16) d_Md_first_15 rfl rfl rfl ?_
      refine zr_getr (n := 19) d_Md_first_16 rfl f_Md_75 gg_27 rfl ?_
      refine zr_bipush (v := 48) (n := 21) d_Md_first_19 rfl (by decide) ?_
      refine zr_iload_n (i := 1) (x := a1) (n := 22) d_Md_first_21 rfl rfl rfl ?_
      refine zr_imul (n := 23) d_Md_first_22 rfl ?_
      refine zr_iload_n (i := 3) (x := a3) (n := 24) d_Md_first_23 rfl rfl rfl ?_
      refine zr_iadd (n := 25) d_Md_first_24 rfl ?_
      refine zr_iconst (v := 1) (n := 26) d_Md_first_25 rfl (by decide) ?_
      refine zr_iadd (n := 27) d_Md_first_26 rfl ?_
      refine zr_iaload j3 (n := 28) d_Md_first_27 rfl gg_47 (o3 h2 h3 h4) ?_
      refine zr_iload_n (i := 2) (x := a2) (n := 29) d_Md_first_28 rfl rfl rfl ?_
      refine zr_icmp_ne (tgt := 39) (n := 32) d_Md_first_29 rfl (by decide) (fun h5 => ?_) (fun h5 => ?_)
      · refine zr_iload_n (i := 3) (x := a3) (n := 40) d_Md_first_39 rfl rfl rfl ?_
        refine zr_iconst (v := 3) (n := 41) d_Md_first_40 rfl (by decide) ?_
        refine zr_iadd (n := 42) d_Md_first_41 rfl ?_
        refine zr_aload_n (i := 0) (x := 27) (n := 43) d_Md_first_42 rfl rfl rfl ?_
        refine zr_getr (n := 46) d_Md_first_43 rfl f_Md_75 gg_27 rfl ?_
        refine zr_bipush (v := 48) (n := 48) d_Md_first_46 rfl (by decide) ?_
        refine zr_iload_n (i := 1) (x := a1) (n := 49) d_Md_first_48 rfl rfl rfl ?_
        refine zr_imul (n := 50) d_Md_first_49 rfl ?_
        refine zr_iload_n (i := 3) (x := a3) (n := 51) d_Md_first_50 rfl rfl rfl ?_
        refine zr_iadd (n := 52) d_Md_first_51 rfl ?_
        refine zr_iconst (v := 2) (n := 53) d_Md_first_52 rfl (by decide) ?_
        refine zr_iadd (n := 54) d_Md_first_53 rfl ?_
        refine zr_iaload j2 (n := 55) d_Md_first_54 rfl gg_47 (o4 h2 h3 h4 h5) ?_
        refine zr_iadd (n := 56) d_Md_first_55 rfl ?_
        refine zr_istore_n (i := 3) (L' := [some (.ref 27), some (.int a1), some (.int a2), some (.int ((a3 + 3) + (S 47 j2)))]) (n := 57) d_Md_first_56 rfl rfl rfl rfl ?_
        refine zr_goto (tgt := 2) d_Md_first_57 (by decide) ?_
        exact (l3 h2 h3 h4 h5)
      · refine zr_bipush (v := 48) (n := 34) d_Md_first_32 rfl (by decide) ?_
        refine zr_iload_n (i := 1) (x := a1) (n := 35) d_Md_first_34 rfl rfl rfl ?_
        refine zr_imul (n := 36) d_Md_first_35 rfl ?_
        refine zr_iload_n (i := 3) (x := a3) (n := 37) d_Md_first_36 rfl rfl rfl ?_
        refine zr_iadd (n := 38) d_Md_first_37 rfl ?_
        exact zr_ireturn d_Md_first_38 rfl rfl (Nat.le_refl _) (Nat.le_refl _) (l2 (Or.inr ⟨h2, h3, h4, h5⟩))
theorem e_Md_first {d : Nat} {Q : zm_Q} {S : zm_S} {a1 a2 : Int32} (h : zw M_Md_first (d + 1) Q 0 [some (.ref 27), some (.int a1), some (.int a2), none] [] S) : zc M_Md_first (d + 1) [.ref 27, .int a1, .int a2] S Q := zm_CC_intro (by decide) rfl rfl h
theorem s_Md_gateway_0 {d : Nat} {Q : zm_Q} {S : zm_S}
    (l1 : zc M_Md_ready (d + 1) [.ref 27, .int 0] S (fun v G' S' => zm_WP M_Md_gateway none (d + 2) 0 0 Q 5 [some (.ref 27), none, none] (zm_ps v []) G' S' 0 0)) :
    zw M_Md_gateway (d + 2) Q 0 [some (.ref 27), none, none] [] S := by
  refine zr_aload_n (i := 0) (x := 27) (n := 1) d_Md_gateway_0 rfl rfl rfl ?_
  refine zr_iconst (v := 0) (n := 2) d_Md_gateway_1 rfl (by decide) ?_
  refine zr_callV (M' := M_Md_ready) (mc' := 0) (ms' := 0) (av := [.int 0]) (rest := []) (n := 5) d_Md_gateway_2 rfl w_Md_217 w_Md_217k gg_27 rfl rfl rfl rfl rfl rfl (Nat.le_refl _) (Nat.le_refl _) ?_
  exact l1
theorem s_Md_gateway_5 {d : Nat} {Q : zm_Q} {S : zm_S} {r : Int32}
    (l1 : r = 0 → zc M_Md_first (d + 1) [.ref 27, .int 0, .int (-1)] S (fun v G' S' => zm_WP M_Md_gateway none (d + 2) 0 0 Q 18 [some (.ref 27), none, none] (zm_ps v []) G' S' 0 0))
    (l2 : ¬ r = 0 → Q (some r) GG S) :
    zw M_Md_gateway (d + 2) Q 5 [some (.ref 27), none, none] [.int r] S := by
  refine zr_istore_n (i := 1) (L' := [some (.ref 27), some (.int r), none]) (n := 6) d_Md_gateway_5 rfl rfl rfl rfl ?_
  refine zr_iload_n (i := 1) (x := r) (n := 7) d_Md_gateway_6 rfl rfl rfl ?_
  refine zr_if_eq (tgt := 12) (n := 10) d_Md_gateway_7 rfl (by decide) (fun h1 => ?_) (fun h1 => ?_)
  · refine zr_aload_n (i := 0) (x := 27) (n := 13) d_Md_gateway_12 rfl rfl rfl ?_
    refine zr_iconst (v := 0) (n := 14) d_Md_gateway_13 rfl (by decide) ?_
    refine zr_iconst (v := (-1)) (n := 15) d_Md_gateway_14 rfl (by decide) ?_
    refine zr_weak (zm_LE.cons (zm_LE.skip (zm_LE.cons zm_LE.nil))) ?_
    refine zr_callV (M' := M_Md_first) (mc' := 0) (ms' := 0) (av := [.int 0, .int (-1)]) (rest := []) (n := 18) d_Md_gateway_15 rfl w_Md_220 w_Md_220k gg_27 rfl rfl rfl rfl rfl rfl (Nat.le_refl _) (Nat.le_refl _) ?_
    exact (l1 h1)
  · refine zr_iload_n (i := 1) (x := r) (n := 11) d_Md_gateway_10 rfl rfl rfl ?_
    exact zr_ireturn d_Md_gateway_11 rfl rfl (Nat.le_refl _) (Nat.le_refl _) (l2 h1)
theorem s_Md_gateway_18 {d : Nat} {Q : zm_Q} {S : zm_S} {r : Int32} (j1 : Nat) (o1 : ¬ r < 0 → zm_ix r j1 576)
    (l1 : ((r < 0) ∨ (¬ r < 0 ∧ ¬ (S 47 j1) = 1)) → Q (some (-2)) GG S)
    (l2 : ¬ r < 0 → (S 47 j1) = 1 → Q (some r) GG S) :
    zw M_Md_gateway (d + 2) Q 18 [some (.ref 27), none, none] [.int r] S := by
  refine zr_istore_n (i := 2) (L' := [some (.ref 27), none, some (.int r)]) (n := 19) d_Md_gateway_18 rfl rfl rfl rfl ?_
  refine zr_iload_n (i := 2) (x := r) (n := 20) d_Md_gateway_19 rfl rfl rfl ?_
  refine zr_if_lt (tgt := 37) (n := 23) d_Md_gateway_20 rfl (by decide) (fun h1 => ?_) (fun h1 => ?_)
  · refine zr_bipush (v := (-2)) (n := 39) d_Md_gateway_37 rfl (by decide) ?_
    exact zr_ireturn d_Md_gateway_39 rfl rfl (Nat.le_refl _) (Nat.le_refl _) (l1 (Or.inl h1))
  · refine zr_aload_n (i := 0) (x := 27) (n := 24) d_Md_gateway_23 rfl rfl rfl ?_
    refine zr_getr (n := 27) d_Md_gateway_24 rfl f_Md_75 gg_27 rfl ?_
    refine zr_iload_n (i := 2) (x := r) (n := 28) d_Md_gateway_27 rfl rfl rfl ?_
    refine zr_iaload j1 (n := 29) d_Md_gateway_28 rfl gg_47 (o1 h1) ?_
    refine zr_iconst (v := 1) (n := 30) d_Md_gateway_29 rfl (by decide) ?_
    refine zr_icmp_ne (tgt := 37) (n := 33) d_Md_gateway_30 rfl (by decide) (fun h2 => ?_) (fun h2 => ?_)
    · refine zr_bipush (v := (-2)) (n := 39) d_Md_gateway_37 rfl (by decide) ?_
      exact zr_ireturn d_Md_gateway_39 rfl rfl (Nat.le_refl _) (Nat.le_refl _) (l1 (Or.inr ⟨h1, h2⟩))
    · refine zr_iload_n (i := 2) (x := r) (n := 34) d_Md_gateway_33 rfl rfl rfl ?_
      refine zr_goto (tgt := 39) d_Md_gateway_34 (by decide) ?_
      exact zr_ireturn d_Md_gateway_39 rfl rfl (Nat.le_refl _) (Nat.le_refl _) (l2 h1 h2)
theorem e_Md_gateway {d : Nat} {Q : zm_Q} {S : zm_S} (h : zw M_Md_gateway (d + 2) Q 0 [some (.ref 27), none, none] [] S) : zc M_Md_gateway (d + 2) [.ref 27] S Q := zm_CC_intro (by decide) rfl rfl h
theorem s_Md_enter_0 {d : Nat} {Q : zm_Q} {S : zm_S} {a1 a2 : Int32} (j1 : Nat) (j2 : Nat) (o1 : zm_ix a1 j1 576) (o2 : (S 47 j1) = 1 → zm_ix (a1 + 2) j2 576) (o3 : ¬ (S 47 j1) = 1 → (S 47 j1) = 2 → zm_ix (a1 + 2) j2 576)
    (l1 : (((S 47 j1) = 1) ∨ (¬ (S 47 j1) = 1 ∧ (S 47 j1) = 2)) → zw M_Md_enter (d + 2) Q 37 [some (.ref 27), some (.int a1), some (.int a2), some (.int ((S 47 j2) / 4)), some (.int 0), none, none] [] S)
    (l2 : ¬ (S 47 j1) = 1 → ¬ (S 47 j1) = 2 → Q (some (-2)) GG S) :
    zw M_Md_enter (d + 2) Q 0 [some (.ref 27), some (.int a1), some (.int a2), none, none, none, none] [] S := by
  refine zr_aload_n (i := 0) (x := 27) (n := 1) d_Md_enter_0 rfl rfl rfl ?_
  refine zr_getr (n := 4) d_Md_enter_1 rfl f_Md_75 gg_27 rfl ?_
  refine zr_iload_n (i := 1) (x := a1) (n := 5) d_Md_enter_4 rfl rfl rfl ?_
  refine zr_iaload j1 (n := 6) d_Md_enter_5 rfl gg_47 o1 ?_
  refine zr_iconst (v := 1) (n := 7) d_Md_enter_6 rfl (by decide) ?_
  refine zr_icmp_eq (tgt := 23) (n := 10) d_Md_enter_7 rfl (by decide) (fun h1 => ?_) (fun h1 => ?_)
  · refine zr_aload_n (i := 0) (x := 27) (n := 24) d_Md_enter_23 rfl rfl rfl ?_
    refine zr_getr (n := 27) d_Md_enter_24 rfl f_Md_75 gg_27 rfl ?_
    refine zr_iload_n (i := 1) (x := a1) (n := 28) d_Md_enter_27 rfl rfl rfl ?_
    refine zr_iconst (v := 2) (n := 29) d_Md_enter_28 rfl (by decide) ?_
    refine zr_iadd (n := 30) d_Md_enter_29 rfl ?_
    refine zr_iaload j2 (n := 31) d_Md_enter_30 rfl gg_47 (o2 h1) ?_
    refine zr_iconst (v := 4) (n := 32) d_Md_enter_31 rfl (by decide) ?_
    refine zr_idiv (n := 33) d_Md_enter_32 rfl (by decide) ?_
    refine zr_istore_n (i := 3) (L' := [some (.ref 27), some (.int a1), some (.int a2), some (.int ((S 47 j2) / 4)), none, none, none]) (n := 34) d_Md_enter_33 rfl rfl rfl rfl ?_
    refine zr_iconst (v := 0) (n := 35) d_Md_enter_34 rfl (by decide) ?_
    refine zr_istore (i := 4) (L' := [some (.ref 27), some (.int a1), some (.int a2), some (.int ((S 47 j2) / 4)), some (.int 0), none, none]) (n := 37) d_Md_enter_35 rfl rfl rfl ?_
    exact (l1 (Or.inl h1))
  · refine zr_aload_n (i := 0) (x := 27) (n := 11) d_Md_enter_10 rfl rfl rfl ?_
    refine zr_getr (n := 14) d_Md_enter_11 rfl f_Md_75 gg_27 rfl ?_
    refine zr_iload_n (i := 1) (x := a1) (n := 15) d_Md_enter_14 rfl rfl rfl ?_
    refine zr_iaload j1 (n := 16) d_Md_enter_15 rfl gg_47 o1 ?_
    refine zr_iconst (v := 2) (n := 17) d_Md_enter_16 rfl (by decide) ?_
    refine zr_icmp_eq (tgt := 23) (n := 20) d_Md_enter_17 rfl (by decide) (fun h2 => ?_) (fun h2 => ?_)
    · refine zr_aload_n (i := 0) (x := 27) (n := 24) d_Md_enter_23 rfl rfl rfl ?_
      refine zr_getr (n := 27) d_Md_enter_24 rfl f_Md_75 gg_27 rfl ?_
      refine zr_iload_n (i := 1) (x := a1) (n := 28) d_Md_enter_27 rfl rfl rfl ?_
      refine zr_iconst (v := 2) (n := 29) d_Md_enter_28 rfl (by decide) ?_
      refine zr_iadd (n := 30) d_Md_enter_29 rfl ?_
      refine zr_iaload j2 (n := 31) d_Md_enter_30 rfl gg_47 (o3 h1 h2) ?_
      refine zr_iconst (v := 4) (n := 32) d_Md_enter_31 rfl (by decide) ?_
      refine zr_idiv (n := 33) d_Md_enter_32 rfl (by decide) ?_
      refine zr_istore_n (i := 3) (L' := [some (.ref 27), some (.int a1), some (.int a2), some (.int ((S 47 j2) / 4)), none, none, none]) (n := 34) d_Md_enter_33 rfl rfl rfl rfl ?_
      refine zr_iconst (v := 0) (n := 35) d_Md_enter_34 rfl (by decide) ?_
      refine zr_istore (i := 4) (L' := [some (.ref 27), some (.int a1), some (.int a2), some (.int ((S 47 j2) / 4)), some (.int 0), none, none]) (n := 37) d_Md_enter_35 rfl rfl rfl ?_
      exact (l1 (Or.inr ⟨h1, h2⟩))
    · refine zr_bipush (v := (-2)) (n := 22) d_Md_enter_20 rfl (by decide) ?_
      exact zr_ireturn d_Md_enter_22 rfl rfl (Nat.le_refl _) (Nat.le_refl _) (l2 h1 h2)
theorem s_Md_enter_37 {d : Nat} {Q : zm_Q} {S : zm_S} {a1 a2 a3 a4 : Int32} (j1 : Nat) (j2 : Nat) (o1 : ¬ a3 ≤ a4 → zm_ix ((a1 + 3) + (4 * a4)) j1 576) (o2 : ¬ a3 ≤ a4 → (S 47 j1) = a2 → zm_ix (((a1 + 3) + (4 * a4)) + 2) j2 576)
    (l1 : a3 ≤ a4 → Q (some (-2)) GG S)
    (l2 : ¬ a3 ≤ a4 → ¬ (S 47 j1) = a2 → zw M_Md_enter (d + 2) Q 37 [some (.ref 27), some (.int a1), some (.int a2), some (.int a3), some (.int (a4 + 1)), none, none] [] S)
    (l3 : ¬ a3 ≤ a4 → (S 47 j1) = a2 → zc M_Md_ready (d + 1) [.ref 27, .int (S 47 j2)] S (fun v G' S' => zm_WP M_Md_enter none (d + 2) 0 0 Q 77 [some (.ref 27), none, none, none, none, some (.int ((a1 + 3) + (4 * a4))), none] (zm_ps v []) G' S' 0 0)) :
    zw M_Md_enter (d + 2) Q 37 [some (.ref 27), some (.int a1), some (.int a2), some (.int a3), some (.int a4), none, none] [] S := by
  refine zr_iload (i := 4) (x := a4) (n := 39) d_Md_enter_37 rfl rfl ?_
  refine zr_iload_n (i := 3) (x := a3) (n := 40) d_Md_enter_39 rfl rfl rfl ?_
  refine zr_icmp_ge (tgt := 118) (n := 43) d_Md_enter_40 rfl (by decide) (fun h1 => ?_) (fun h1 => ?_)
  · refine zr_bipush (v := (-2)) (n := 120) d_Md_enter_118 rfl (by decide) ?_
    exact zr_ireturn d_Md_enter_120 rfl rfl (Nat.le_refl _) (Nat.le_refl _) (l1 h1)
  · refine zr_iload_n (i := 1) (x := a1) (n := 44) d_Md_enter_43 rfl rfl rfl ?_
    refine zr_iconst (v := 3) (n := 45) d_Md_enter_44 rfl (by decide) ?_
    refine zr_iadd (n := 46) d_Md_enter_45 rfl ?_
    refine zr_iconst (v := 4) (n := 47) d_Md_enter_46 rfl (by decide) ?_
    refine zr_iload (i := 4) (x := a4) (n := 49) d_Md_enter_47 rfl rfl ?_
    refine zr_imul (n := 50) d_Md_enter_49 rfl ?_
    refine zr_iadd (n := 51) d_Md_enter_50 rfl ?_
    refine zr_istore (i := 5) (L' := [some (.ref 27), some (.int a1), some (.int a2), some (.int a3), some (.int a4), some (.int ((a1 + 3) + (4 * a4))), none]) (n := 53) d_Md_enter_51 rfl rfl rfl ?_
    refine zr_aload_n (i := 0) (x := 27) (n := 54) d_Md_enter_53 rfl rfl rfl ?_
    refine zr_getr (n := 57) d_Md_enter_54 rfl f_Md_75 gg_27 rfl ?_
    refine zr_iload (i := 5) (x := ((a1 + 3) + (4 * a4))) (n := 59) d_Md_enter_57 rfl rfl ?_
    refine zr_iaload j1 (n := 60) d_Md_enter_59 rfl gg_47 (o1 h1) ?_
    refine zr_iload_n (i := 2) (x := a2) (n := 61) d_Md_enter_60 rfl rfl rfl ?_
    refine zr_icmp_ne (tgt := 112) (n := 64) d_Md_enter_61 rfl (by decide) (fun h2 => ?_) (fun h2 => ?_)
    · refine zr_iinc (i := 4) (w := 1) (x := a4) (L' := [some (.ref 27), some (.int a1), some (.int a2), some (.int a3), some (.int (a4 + 1)), some (.int ((a1 + 3) + (4 * a4))), none]) (n := 115) d_Md_enter_112 rfl (by decide) rfl rfl ?_
      refine zr_goto (tgt := 37) d_Md_enter_115 (by decide) ?_
      exact zr_weak (zm_LE.cons (zm_LE.cons (zm_LE.cons (zm_LE.cons (zm_LE.cons (zm_LE.skip (zm_LE.cons zm_LE.nil))))))) (l2 h1 h2)
    · refine zr_aload_n (i := 0) (x := 27) (n := 65) d_Md_enter_64 rfl rfl rfl ?_
      refine zr_aload_n (i := 0) (x := 27) (n := 66) d_Md_enter_65 rfl rfl rfl ?_
      refine zr_getr (n := 69) d_Md_enter_66 rfl f_Md_75 gg_27 rfl ?_
      refine zr_iload (i := 5) (x := ((a1 + 3) + (4 * a4))) (n := 71) d_Md_enter_69 rfl rfl ?_
      refine zr_iconst (v := 2) (n := 72) d_Md_enter_71 rfl (by decide) ?_
      refine zr_iadd (n := 73) d_Md_enter_72 rfl ?_
      refine zr_iaload j2 (n := 74) d_Md_enter_73 rfl gg_47 (o2 h1 h2) ?_
      refine zr_weak (zm_LE.cons (zm_LE.skip (zm_LE.skip (zm_LE.skip (zm_LE.skip (zm_LE.cons (zm_LE.cons zm_LE.nil))))))) ?_
      refine zr_callV (M' := M_Md_ready) (mc' := 0) (ms' := 0) (av := [.int (S 47 j2)]) (rest := []) (n := 77) d_Md_enter_74 rfl w_Md_217 w_Md_217k gg_27 rfl rfl rfl rfl rfl rfl (Nat.le_refl _) (Nat.le_refl _) ?_
      exact (l3 h1 h2)
theorem s_Md_enter_77 {d : Nat} {Q : zm_Q} {S : zm_S} {a5 r : Int32} (j1 : Nat) (j2 : Nat) (o1 : r = 0 → zm_ix (a5 + 2) j1 576) (o2 : r = 0 → zm_ix (a5 + 3) j2 576)
    (l1 : r = 0 → zc M_Md_first (d + 1) [.ref 27, .int (S 47 j1), .int (S 47 j2)] S (fun v G' S' => zm_WP M_Md_enter none (d + 2) 0 0 Q 111 [none, none, none, none, none, none, none] (zm_ps v []) G' S' 0 0))
    (l2 : ¬ r = 0 → Q (some r) GG S) :
    zw M_Md_enter (d + 2) Q 77 [some (.ref 27), none, none, none, none, some (.int a5), none] [.int r] S := by
  refine zr_istore (i := 6) (L' := [some (.ref 27), none, none, none, none, some (.int a5), some (.int r)]) (n := 79) d_Md_enter_77 rfl rfl rfl ?_
  refine zr_iload (i := 6) (x := r) (n := 81) d_Md_enter_79 rfl rfl ?_
  refine zr_if_eq (tgt := 89) (n := 84) d_Md_enter_81 rfl (by decide) (fun h1 => ?_) (fun h1 => ?_)
  · refine zr_aload_n (i := 0) (x := 27) (n := 90) d_Md_enter_89 rfl rfl rfl ?_
    refine zr_aload_n (i := 0) (x := 27) (n := 91) d_Md_enter_90 rfl rfl rfl ?_
    refine zr_getr (n := 94) d_Md_enter_91 rfl f_Md_75 gg_27 rfl ?_
    refine zr_iload (i := 5) (x := a5) (n := 96) d_Md_enter_94 rfl rfl ?_
    refine zr_iconst (v := 2) (n := 97) d_Md_enter_96 rfl (by decide) ?_
    refine zr_iadd (n := 98) d_Md_enter_97 rfl ?_
    refine zr_iaload j1 (n := 99) d_Md_enter_98 rfl gg_47 (o1 h1) ?_
    refine zr_aload_n (i := 0) (x := 27) (n := 100) d_Md_enter_99 rfl rfl rfl ?_
    refine zr_getr (n := 103) d_Md_enter_100 rfl f_Md_75 gg_27 rfl ?_
    refine zr_iload (i := 5) (x := a5) (n := 105) d_Md_enter_103 rfl rfl ?_
    refine zr_iconst (v := 3) (n := 106) d_Md_enter_105 rfl (by decide) ?_
    refine zr_iadd (n := 107) d_Md_enter_106 rfl ?_
    refine zr_iaload j2 (n := 108) d_Md_enter_107 rfl gg_47 (o2 h1) ?_
    refine zr_weak (zm_LE.skip (zm_LE.cons (zm_LE.cons (zm_LE.cons (zm_LE.cons (zm_LE.skip (zm_LE.skip zm_LE.nil))))))) ?_
    refine zr_callV (M' := M_Md_first) (mc' := 0) (ms' := 0) (av := [.int (S 47 j1), .int (S 47 j2)]) (rest := []) (n := 111) d_Md_enter_108 rfl w_Md_220 w_Md_220k gg_27 rfl rfl rfl rfl rfl rfl (Nat.le_refl _) (Nat.le_refl _) ?_
    exact (l1 h1)
  · refine zr_iload (i := 6) (x := r) (n := 86) d_Md_enter_84 rfl rfl ?_
    refine zr_goto (tgt := 111) d_Md_enter_86 (by decide) ?_
    exact zr_ireturn d_Md_enter_111 rfl rfl (Nat.le_refl _) (Nat.le_refl _) (l2 h1)
theorem s_Md_enter_111 {d : Nat} {Q : zm_Q} {S : zm_S} {r : Int32}
    (l1 : Q (some r) GG S) :
    zw M_Md_enter (d + 2) Q 111 [none, none, none, none, none, none, none] [.int r] S := by
  exact zr_ireturn d_Md_enter_111 rfl rfl (Nat.le_refl _) (Nat.le_refl _) l1
theorem e_Md_enter {d : Nat} {Q : zm_Q} {S : zm_S} {a1 a2 : Int32} (h : zw M_Md_enter (d + 2) Q 0 [some (.ref 27), some (.int a1), some (.int a2), none, none, none, none] [] S) : zc M_Md_enter (d + 2) [.ref 27, .int a1, .int a2] S Q := zm_CC_intro (by decide) rfl rfl h
theorem s_Md_follow_0 {d : Nat} {Q : zm_Q} {S : zm_S} {a1 a2 a3 : Int32}
    (l1 : ((((a1 < 0) ∨ (¬ a1 < 0 ∧ 255 < a1))) ∨ (¬ a1 < 0 ∧ ¬ 255 < a1 ∧ ((a2 < 0) ∨ (¬ a2 < 0 ∧ 255 < a2))) ∨ (¬ a1 < 0 ∧ ¬ 255 < a1 ∧ ¬ a2 < 0 ∧ ¬ 255 < a2 ∧ ((a3 < 0) ∨ (¬ a3 < 0 ∧ 255 < a3)))) → Q (some (-1)) GG S)
    (l2 : ¬ a1 < 0 → ¬ 255 < a1 → ¬ a2 < 0 → ¬ 255 < a2 → ¬ a3 < 0 → ¬ 255 < a3 → zc M_Md_gateway (d + 2) [.ref 27] S (fun v G' S' => zm_WP M_Md_follow none (d + 3) 0 0 Q 39 [some (.ref 27), some (.int a1), some (.int a2), some (.int a3), none] (zm_ps v []) G' S' 0 0)) :
    zw M_Md_follow (d + 3) Q 0 [some (.ref 27), some (.int a1), some (.int a2), some (.int a3), none] [] S := by
  refine zr_iload_n (i := 1) (x := a1) (n := 1) d_Md_follow_0 rfl rfl rfl ?_
  refine zr_iconst (v := 0) (n := 2) d_Md_follow_1 rfl (by decide) ?_
  refine zr_sipush (v := 255) (n := 5) d_Md_follow_2 rfl (by decide) ?_
  refine zr_callS (M' := M_Md_within) (mc' := 0) (ms' := 0) (av := [.int a1, .int 0, .int 255]) (rest := []) (n := 8) d_Md_follow_5 rfl w_Md_84 w_Md_84k rfl rfl rfl rfl rfl (Nat.le_refl _) (Nat.le_refl _) ?_
  refine c_Md_within (a0 := a1) (a1 := 0) (a2 := 255) (fun h1 => ?_) (fun h2 h3 => ?_)
  · refine zr_if_eq (tgt := 33) (n := 11) d_Md_follow_8 rfl (by decide) (fun _ => ?_) (fun h => absurd h (by decide))
    refine zr_iconst (v := (-1)) (n := 34) d_Md_follow_33 rfl (by decide) ?_
    exact zr_ireturn d_Md_follow_34 rfl rfl (Nat.le_refl _) (Nat.le_refl _) (l1 (Or.inl h1))
  · refine zr_if_eq (tgt := 33) (n := 11) d_Md_follow_8 rfl (by decide) (fun h => absurd h (by decide)) (fun _ => ?_)
    refine zr_iload_n (i := 2) (x := a2) (n := 12) d_Md_follow_11 rfl rfl rfl ?_
    refine zr_iconst (v := 0) (n := 13) d_Md_follow_12 rfl (by decide) ?_
    refine zr_sipush (v := 255) (n := 16) d_Md_follow_13 rfl (by decide) ?_
    refine zr_callS (M' := M_Md_within) (mc' := 0) (ms' := 0) (av := [.int a2, .int 0, .int 255]) (rest := []) (n := 19) d_Md_follow_16 rfl w_Md_84 w_Md_84k rfl rfl rfl rfl rfl (Nat.le_refl _) (Nat.le_refl _) ?_
    refine c_Md_within (a0 := a2) (a1 := 0) (a2 := 255) (fun h4 => ?_) (fun h5 h6 => ?_)
    · refine zr_if_eq (tgt := 33) (n := 22) d_Md_follow_19 rfl (by decide) (fun _ => ?_) (fun h => absurd h (by decide))
      refine zr_iconst (v := (-1)) (n := 34) d_Md_follow_33 rfl (by decide) ?_
      exact zr_ireturn d_Md_follow_34 rfl rfl (Nat.le_refl _) (Nat.le_refl _) (l1 (Or.inr (Or.inl ⟨h2, h3, h4⟩)))
    · refine zr_if_eq (tgt := 33) (n := 22) d_Md_follow_19 rfl (by decide) (fun h => absurd h (by decide)) (fun _ => ?_)
      refine zr_iload_n (i := 3) (x := a3) (n := 23) d_Md_follow_22 rfl rfl rfl ?_
      refine zr_iconst (v := 0) (n := 24) d_Md_follow_23 rfl (by decide) ?_
      refine zr_sipush (v := 255) (n := 27) d_Md_follow_24 rfl (by decide) ?_
      refine zr_callS (M' := M_Md_within) (mc' := 0) (ms' := 0) (av := [.int a3, .int 0, .int 255]) (rest := []) (n := 30) d_Md_follow_27 rfl w_Md_84 w_Md_84k rfl rfl rfl rfl rfl (Nat.le_refl _) (Nat.le_refl _) ?_
      refine c_Md_within (a0 := a3) (a1 := 0) (a2 := 255) (fun h7 => ?_) (fun h8 h9 => ?_)
      · refine zr_if_ne (tgt := 35) (n := 33) d_Md_follow_30 rfl (by decide) (fun h => absurd h (by decide)) (fun _ => ?_)
        refine zr_iconst (v := (-1)) (n := 34) d_Md_follow_33 rfl (by decide) ?_
        exact zr_ireturn d_Md_follow_34 rfl rfl (Nat.le_refl _) (Nat.le_refl _) (l1 (Or.inr (Or.inr ⟨h2, h3, h5, h6, h7⟩)))
      · refine zr_if_ne (tgt := 35) (n := 33) d_Md_follow_30 rfl (by decide) (fun _ => ?_) (fun h => absurd h (by decide))
        refine zr_aload_n (i := 0) (x := 27) (n := 36) d_Md_follow_35 rfl rfl rfl ?_
        refine zr_callV (M' := M_Md_gateway) (mc' := 0) (ms' := 0) (av := []) (rest := []) (n := 39) d_Md_follow_36 rfl w_Md_223 w_Md_223k gg_27 rfl rfl rfl rfl rfl rfl (Nat.le_refl _) (Nat.le_refl _) ?_
        exact (l2 h2 h3 h5 h6 h8 h9)
theorem s_Md_follow_39 {d : Nat} {Q : zm_Q} {S : zm_S} {a1 a2 a3 r : Int32}
    (l1 : ((r < 0) ∨ (¬ r < 0 ∧ a1 = 0)) → Q (some r) GG S)
    (l2 : ¬ r < 0 → ¬ a1 = 0 → zc M_Md_enter (d + 2) [.ref 27, .int r, .int a1] S (fun v G' S' => zm_WP M_Md_follow none (d + 3) 0 0 Q 57 [some (.ref 27), none, some (.int a2), some (.int a3), none] (zm_ps v []) G' S' 0 0)) :
    zw M_Md_follow (d + 3) Q 39 [some (.ref 27), some (.int a1), some (.int a2), some (.int a3), none] [.int r] S := by
  refine zr_istore (i := 4) (L' := [some (.ref 27), some (.int a1), some (.int a2), some (.int a3), some (.int r)]) (n := 41) d_Md_follow_39 rfl rfl rfl ?_
  refine zr_iload (i := 4) (x := r) (n := 43) d_Md_follow_41 rfl rfl ?_
  refine zr_if_lt (tgt := 95) (n := 46) d_Md_follow_43 rfl (by decide) (fun h1 => ?_) (fun h1 => ?_)
  · refine zr_iload (i := 4) (x := r) (n := 97) d_Md_follow_95 rfl rfl ?_
    exact zr_ireturn d_Md_follow_97 rfl rfl (Nat.le_refl _) (Nat.le_refl _) (l1 (Or.inl h1))
  · refine zr_iload_n (i := 1) (x := a1) (n := 47) d_Md_follow_46 rfl rfl rfl ?_
    refine zr_if_eq (tgt := 95) (n := 50) d_Md_follow_47 rfl (by decide) (fun h2 => ?_) (fun h2 => ?_)
    · refine zr_iload (i := 4) (x := r) (n := 97) d_Md_follow_95 rfl rfl ?_
      exact zr_ireturn d_Md_follow_97 rfl rfl (Nat.le_refl _) (Nat.le_refl _) (l1 (Or.inr ⟨h1, h2⟩))
    · refine zr_aload_n (i := 0) (x := 27) (n := 51) d_Md_follow_50 rfl rfl rfl ?_
      refine zr_iload (i := 4) (x := r) (n := 53) d_Md_follow_51 rfl rfl ?_
      refine zr_iload_n (i := 1) (x := a1) (n := 54) d_Md_follow_53 rfl rfl rfl ?_
      refine zr_weak (zm_LE.cons (zm_LE.skip (zm_LE.cons (zm_LE.cons (zm_LE.skip zm_LE.nil))))) ?_
      refine zr_callV (M' := M_Md_enter) (mc' := 0) (ms' := 0) (av := [.int r, .int a1]) (rest := []) (n := 57) d_Md_follow_54 rfl w_Md_226 w_Md_226k gg_27 rfl rfl rfl rfl rfl rfl (Nat.le_refl _) (Nat.le_refl _) ?_
      exact (l2 h1 h2)
theorem s_Md_follow_57 {d : Nat} {Q : zm_Q} {S : zm_S} {a2 a3 r : Int32}
    (l1 : ((r < 0) ∨ (¬ r < 0 ∧ a2 = 0)) → Q (some r) GG S)
    (l2 : ¬ r < 0 → ¬ a2 = 0 → zc M_Md_enter (d + 2) [.ref 27, .int r, .int a2] S (fun v G' S' => zm_WP M_Md_follow none (d + 3) 0 0 Q 75 [some (.ref 27), none, none, some (.int a3), none] (zm_ps v []) G' S' 0 0)) :
    zw M_Md_follow (d + 3) Q 57 [some (.ref 27), none, some (.int a2), some (.int a3), none] [.int r] S := by
  refine zr_istore (i := 4) (L' := [some (.ref 27), none, some (.int a2), some (.int a3), some (.int r)]) (n := 59) d_Md_follow_57 rfl rfl rfl ?_
  refine zr_iload (i := 4) (x := r) (n := 61) d_Md_follow_59 rfl rfl ?_
  refine zr_if_lt (tgt := 95) (n := 64) d_Md_follow_61 rfl (by decide) (fun h1 => ?_) (fun h1 => ?_)
  · refine zr_iload (i := 4) (x := r) (n := 97) d_Md_follow_95 rfl rfl ?_
    exact zr_ireturn d_Md_follow_97 rfl rfl (Nat.le_refl _) (Nat.le_refl _) (l1 (Or.inl h1))
  · refine zr_iload_n (i := 2) (x := a2) (n := 65) d_Md_follow_64 rfl rfl rfl ?_
    refine zr_if_eq (tgt := 95) (n := 68) d_Md_follow_65 rfl (by decide) (fun h2 => ?_) (fun h2 => ?_)
    · refine zr_iload (i := 4) (x := r) (n := 97) d_Md_follow_95 rfl rfl ?_
      exact zr_ireturn d_Md_follow_97 rfl rfl (Nat.le_refl _) (Nat.le_refl _) (l1 (Or.inr ⟨h1, h2⟩))
    · refine zr_aload_n (i := 0) (x := 27) (n := 69) d_Md_follow_68 rfl rfl rfl ?_
      refine zr_iload (i := 4) (x := r) (n := 71) d_Md_follow_69 rfl rfl ?_
      refine zr_iload_n (i := 2) (x := a2) (n := 72) d_Md_follow_71 rfl rfl rfl ?_
      refine zr_weak (zm_LE.cons (zm_LE.cons (zm_LE.skip (zm_LE.cons (zm_LE.skip zm_LE.nil))))) ?_
      refine zr_callV (M' := M_Md_enter) (mc' := 0) (ms' := 0) (av := [.int r, .int a2]) (rest := []) (n := 75) d_Md_follow_72 rfl w_Md_226 w_Md_226k gg_27 rfl rfl rfl rfl rfl rfl (Nat.le_refl _) (Nat.le_refl _) ?_
      exact (l2 h1 h2)
theorem s_Md_follow_75 {d : Nat} {Q : zm_Q} {S : zm_S} {a3 r : Int32}
    (l1 : ((r < 0) ∨ (¬ r < 0 ∧ a3 = 0)) → Q (some r) GG S)
    (l2 : ¬ r < 0 → ¬ a3 = 0 → zc M_Md_enter (d + 2) [.ref 27, .int r, .int a3] S (fun v G' S' => zm_WP M_Md_follow none (d + 3) 0 0 Q 93 [none, none, none, none, none] (zm_ps v []) G' S' 0 0)) :
    zw M_Md_follow (d + 3) Q 75 [some (.ref 27), none, none, some (.int a3), none] [.int r] S := by
  refine zr_istore (i := 4) (L' := [some (.ref 27), none, none, some (.int a3), some (.int r)]) (n := 77) d_Md_follow_75 rfl rfl rfl ?_
  refine zr_iload (i := 4) (x := r) (n := 79) d_Md_follow_77 rfl rfl ?_
  refine zr_if_lt (tgt := 95) (n := 82) d_Md_follow_79 rfl (by decide) (fun h1 => ?_) (fun h1 => ?_)
  · refine zr_iload (i := 4) (x := r) (n := 97) d_Md_follow_95 rfl rfl ?_
    exact zr_ireturn d_Md_follow_97 rfl rfl (Nat.le_refl _) (Nat.le_refl _) (l1 (Or.inl h1))
  · refine zr_iload_n (i := 3) (x := a3) (n := 83) d_Md_follow_82 rfl rfl rfl ?_
    refine zr_if_eq (tgt := 95) (n := 86) d_Md_follow_83 rfl (by decide) (fun h2 => ?_) (fun h2 => ?_)
    · refine zr_iload (i := 4) (x := r) (n := 97) d_Md_follow_95 rfl rfl ?_
      exact zr_ireturn d_Md_follow_97 rfl rfl (Nat.le_refl _) (Nat.le_refl _) (l1 (Or.inr ⟨h1, h2⟩))
    · refine zr_aload_n (i := 0) (x := 27) (n := 87) d_Md_follow_86 rfl rfl rfl ?_
      refine zr_iload (i := 4) (x := r) (n := 89) d_Md_follow_87 rfl rfl ?_
      refine zr_iload_n (i := 3) (x := a3) (n := 90) d_Md_follow_89 rfl rfl rfl ?_
      refine zr_weak (zm_LE.skip (zm_LE.cons (zm_LE.cons (zm_LE.skip (zm_LE.skip zm_LE.nil))))) ?_
      refine zr_callV (M' := M_Md_enter) (mc' := 0) (ms' := 0) (av := [.int r, .int a3]) (rest := []) (n := 93) d_Md_follow_90 rfl w_Md_226 w_Md_226k gg_27 rfl rfl rfl rfl rfl rfl (Nat.le_refl _) (Nat.le_refl _) ?_
      exact (l2 h1 h2)
theorem s_Md_follow_93 {d : Nat} {Q : zm_Q} {S : zm_S} {r : Int32}
    (l1 : Q (some r) GG S) :
    zw M_Md_follow (d + 3) Q 93 [none, none, none, none, none] [.int r] S := by
  refine zr_istore (i := 4) (L' := [none, none, none, none, some (.int r)]) (n := 95) d_Md_follow_93 rfl rfl rfl ?_
  refine zr_iload (i := 4) (x := r) (n := 97) d_Md_follow_95 rfl rfl ?_
  exact zr_ireturn d_Md_follow_97 rfl rfl (Nat.le_refl _) (Nat.le_refl _) l1
theorem e_Md_follow {d : Nat} {Q : zm_Q} {S : zm_S} {a1 a2 a3 : Int32} (h : zw M_Md_follow (d + 3) Q 0 [some (.ref 27), some (.int a1), some (.int a2), some (.int a3), none] [] S) : zc M_Md_follow (d + 3) [.ref 27, .int a1, .int a2, .int a3] S Q := zm_CC_intro (by decide) rfl rfl h
