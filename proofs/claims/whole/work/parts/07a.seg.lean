theorem s_CM_make_0 {d : Nat} {Q : zm_Q} {S : zm_S} {a1 a2 a3 : Int32} (j1 : Nat) (o1 : ¬ a1 < 0 → ¬ 12 ≤ a1 → ¬ a2 < 1 → a2 ≤ 255 → zm_ix a1 j1 12)
    (l1 : ((a1 < 0) ∨ (¬ a1 < 0 ∧ 12 ≤ a1) ∨ (¬ a1 < 0 ∧ ¬ 12 ≤ a1 ∧ a2 < 1) ∨ (¬ a1 < 0 ∧ ¬ 12 ≤ a1 ∧ ¬ a2 < 1 ∧ ¬ a2 ≤ 255)) → Q (some (-1)) GG S)
    (l2 : ¬ a1 < 0 → ¬ 12 ≤ a1 → ¬ a2 < 1 → a2 ≤ 255 → (((S 2 j1) = 1) ∨ (¬ (S 2 j1) = 1 ∧ (S 2 j1) = 2)) → zc M_Tree_hasEntry (d + 1) [.ref 1, .int a1, .int a2] S (fun v G' S' => zm_WP M_CM_make none (d + 2) 0 0 Q 47 [some (.ref 0), some (.int a1), some (.int a2), some (.int a3), none] (zm_ps v []) G' S' 0 0))
    (l3 : ¬ a1 < 0 → ¬ 12 ≤ a1 → ¬ a2 < 1 → a2 ≤ 255 → ¬ (S 2 j1) = 1 → ¬ (S 2 j1) = 2 → Q (some (-2)) GG S) :
    zw M_CM_make (d + 2) Q 0 [some (.ref 0), some (.int a1), some (.int a2), some (.int a3), none] [] S := by
  refine zr_iload_n (i := 1) (x := a1) (n := 1) d_CM_make_0 rfl rfl rfl ?_
  refine zr_if_lt (tgt := 22) (n := 4) d_CM_make_1 rfl (by decide) (fun h1 => ?_) (fun h1 => ?_)
  · refine zr_iconst (v := (-1)) (n := 23) d_CM_make_22 rfl (by decide) ?_
    exact zr_ireturn d_CM_make_23 rfl rfl (Nat.le_refl _) (Nat.le_refl _) (l1 (Or.inl h1))
  · refine zr_iload_n (i := 1) (x := a1) (n := 5) d_CM_make_4 rfl rfl rfl ?_
    refine zr_bipush (v := 12) (n := 7) d_CM_make_5 rfl (by decide) ?_
    refine zr_icmp_ge (tgt := 22) (n := 10) d_CM_make_7 rfl (by decide) (fun h2 => ?_) (fun h2 => ?_)
    · refine zr_iconst (v := (-1)) (n := 23) d_CM_make_22 rfl (by decide) ?_
      exact zr_ireturn d_CM_make_23 rfl rfl (Nat.le_refl _) (Nat.le_refl _) (l1 (Or.inr (Or.inl ⟨h1, h2⟩)))
    · refine zr_iload_n (i := 2) (x := a2) (n := 11) d_CM_make_10 rfl rfl rfl ?_
      refine zr_iconst (v := 1) (n := 12) d_CM_make_11 rfl (by decide) ?_
      refine zr_icmp_lt (tgt := 22) (n := 15) d_CM_make_12 rfl (by decide) (fun h3 => ?_) (fun h3 => ?_)
      · refine zr_iconst (v := (-1)) (n := 23) d_CM_make_22 rfl (by decide) ?_
        exact zr_ireturn d_CM_make_23 rfl rfl (Nat.le_refl _) (Nat.le_refl _) (l1 (Or.inr (Or.inr (Or.inl ⟨h1, h2, h3⟩))))
      · refine zr_iload_n (i := 2) (x := a2) (n := 16) d_CM_make_15 rfl rfl rfl ?_
        refine zr_sipush (v := 255) (n := 19) d_CM_make_16 rfl (by decide) ?_
        refine zr_icmp_le (tgt := 24) (n := 22) d_CM_make_19 rfl (by decide) (fun h4 => ?_) (fun h4 => ?_)
        · refine zr_aload_n (i := 0) (x := 0) (n := 25) d_CM_make_24 rfl rfl rfl ?_
          refine zr_getr (n := 28) d_CM_make_25 rfl f_CM_10 gg_0 rfl ?_
          refine zr_iload_n (i := 1) (x := a1) (n := 29) d_CM_make_28 rfl rfl rfl ?_
          refine zr_callV (M' := M_Tree_isDirectory) (mc' := 0) (ms' := 0) (av := [.int a1]) (rest := []) (n := 32) d_CM_make_29 rfl w_CM_37 w_CM_37k gg_1 rfl rfl rfl rfl rfl rfl (Nat.le_refl _) (Nat.le_refl _) ?_
          refine c_Tree_isDirectory (a1 := a1) j1 (o1 h1 h2 h3 h4) (fun h5 => ?_) (fun h6 h7 => ?_)
          · refine zr_if_ne (tgt := 38) (n := 35) d_CM_make_32 rfl (by decide) (fun _ => ?_) (fun h => absurd h (by decide))
            refine zr_aload_n (i := 0) (x := 0) (n := 39) d_CM_make_38 rfl rfl rfl ?_
            refine zr_getr (n := 42) d_CM_make_39 rfl f_CM_10 gg_0 rfl ?_
            refine zr_iload_n (i := 1) (x := a1) (n := 43) d_CM_make_42 rfl rfl rfl ?_
            refine zr_iload_n (i := 2) (x := a2) (n := 44) d_CM_make_43 rfl rfl rfl ?_
            refine zr_callV (M' := M_Tree_hasEntry) (mc' := 0) (ms' := 0) (av := [.int a1, .int a2]) (rest := []) (n := 47) d_CM_make_44 rfl w_CM_41 w_CM_41k gg_1 rfl rfl rfl rfl rfl rfl (Nat.le_refl _) (Nat.le_refl _) ?_
            exact (l2 h1 h2 h3 h4 h5)
          · refine zr_if_ne (tgt := 38) (n := 35) d_CM_make_32 rfl (by decide) (fun h => absurd h (by decide)) (fun _ => ?_)
            refine zr_bipush (v := (-2)) (n := 37) d_CM_make_35 rfl (by decide) ?_
            exact zr_ireturn d_CM_make_37 rfl rfl (Nat.le_refl _) (Nat.le_refl _) (l3 h1 h2 h3 h4 h6 h7)
        · refine zr_iconst (v := (-1)) (n := 23) d_CM_make_22 rfl (by decide) ?_
          exact zr_ireturn d_CM_make_23 rfl rfl (Nat.le_refl _) (Nat.le_refl _) (l1 (Or.inr (Or.inr (Or.inr ⟨h1, h2, h3, h4⟩))))
theorem s_CM_make_47 {d : Nat} {Q : zm_Q} {S : zm_S} {a1 a2 a3 r : Int32}
    (l1 : r = 0 → zc M_Tree_leastFreeKey (d + 1) [.ref 1] S (fun v G' S' => zm_WP M_CM_make none (d + 2) 0 0 Q 60 [some (.ref 0), some (.int a1), some (.int a2), some (.int a3), none] (zm_ps v []) G' S' 0 0))
    (l2 : ¬ r = 0 → Q (some (-3)) GG S) :
    zw M_CM_make (d + 2) Q 47 [some (.ref 0), some (.int a1), some (.int a2), some (.int a3), none] [.int r] S := by
  refine zr_if_eq (tgt := 53) (n := 50) d_CM_make_47 rfl (by decide) (fun h1 => ?_) (fun h1 => ?_)
  · refine zr_aload_n (i := 0) (x := 0) (n := 54) d_CM_make_53 rfl rfl rfl ?_
    refine zr_getr (n := 57) d_CM_make_54 rfl f_CM_10 gg_0 rfl ?_
    refine zr_callV (M' := M_Tree_leastFreeKey) (mc' := 0) (ms' := 0) (av := []) (rest := []) (n := 60) d_CM_make_57 rfl w_CM_45 w_CM_45k gg_1 rfl rfl rfl rfl rfl rfl (Nat.le_refl _) (Nat.le_refl _) ?_
    exact (l1 h1)
  · refine zr_bipush (v := (-3)) (n := 52) d_CM_make_50 rfl (by decide) ?_
    exact zr_ireturn d_CM_make_52 rfl rfl (Nat.le_refl _) (Nat.le_refl _) (l2 h1)
theorem s_CM_make_60 {d : Nat} {Q : zm_Q} {S : zm_S} {a1 a2 a3 r : Int32} (j1 : Nat) (o1 : ¬ r = (-1) → a3 = 0 → zm_ix r j1 12) (o2 : ¬ r = (-1) → ¬ a3 = 0 → zm_ix r j1 12)
    (l1 : ¬ r = (-1) → a3 = 0 → Q (some r) GG (zm_up (zm_up (zm_up (zm_up S 2 j1 3) 3 j1 a1) 4 j1 a2) 5 j1 0))
    (l2 : ¬ r = (-1) → ¬ a3 = 0 → Q (some r) GG (zm_up (zm_up (zm_up (zm_up S 2 j1 2) 3 j1 a1) 4 j1 a2) 5 j1 0))
    (l3 : r = (-1) → Q (some (-4)) GG S) :
    zw M_CM_make (d + 2) Q 60 [some (.ref 0), some (.int a1), some (.int a2), some (.int a3), none] [.int r] S := by
  refine zr_istore (i := 4) (L' := [some (.ref 0), some (.int a1), some (.int a2), some (.int a3), some (.int r)]) (n := 62) d_CM_make_60 rfl rfl rfl ?_
  refine zr_iload (i := 4) (x := r) (n := 64) d_CM_make_62 rfl rfl ?_
  refine zr_iconst (v := (-1)) (n := 65) d_CM_make_64 rfl (by decide) ?_
  refine zr_icmp_ne (tgt := 71) (n := 68) d_CM_make_65 rfl (by decide) (fun h1 => ?_) (fun h1 => ?_)
  · refine zr_aload_n (i := 0) (x := 0) (n := 72) d_CM_make_71 rfl rfl rfl ?_
    refine zr_getr (n := 75) d_CM_make_72 rfl f_CM_10 gg_0 rfl ?_
    refine zr_iload (i := 4) (x := r) (n := 77) d_CM_make_75 rfl rfl ?_
    refine zr_iload_n (i := 1) (x := a1) (n := 78) d_CM_make_77 rfl rfl rfl ?_
    refine zr_iload_n (i := 2) (x := a2) (n := 79) d_CM_make_78 rfl rfl rfl ?_
    refine zr_iload_n (i := 3) (x := a3) (n := 80) d_CM_make_79 rfl rfl rfl ?_
    refine zr_if_eq (tgt := 87) (n := 83) d_CM_make_80 rfl (by decide) (fun h2 => ?_) (fun h2 => ?_)
    · refine zr_iconst (v := 3) (n := 88) d_CM_make_87 rfl (by decide) ?_
      refine zr_weak (zm_LE.skip (zm_LE.skip (zm_LE.skip (zm_LE.skip (zm_LE.cons zm_LE.nil))))) ?_
      refine zr_callV (M' := M_Tree_put) (mc' := 0) (ms' := 0) (av := [.int r, .int a1, .int a2, .int 3]) (rest := []) (n := 91) d_CM_make_88 rfl w_CM_49 w_CM_49k gg_1 rfl rfl rfl rfl rfl rfl (Nat.le_refl _) (Nat.le_refl _) ?_
      refine c_Tree_put (a1 := r) (a2 := a1) (a3 := a2) (a4 := 3) j1 (o1 h1 h2) ?_
      refine zr_iload (i := 4) (x := r) (n := 93) d_CM_make_91 rfl rfl ?_
      exact zr_ireturn d_CM_make_93 rfl rfl (Nat.le_refl _) (Nat.le_refl _) (l1 h1 h2)
    · refine zr_iconst (v := 2) (n := 84) d_CM_make_83 rfl (by decide) ?_
      refine zr_goto (tgt := 88) d_CM_make_84 (by decide) ?_
      refine zr_weak (zm_LE.skip (zm_LE.skip (zm_LE.skip (zm_LE.skip (zm_LE.cons zm_LE.nil))))) ?_
      refine zr_callV (M' := M_Tree_put) (mc' := 0) (ms' := 0) (av := [.int r, .int a1, .int a2, .int 2]) (rest := []) (n := 91) d_CM_make_88 rfl w_CM_49 w_CM_49k gg_1 rfl rfl rfl rfl rfl rfl (Nat.le_refl _) (Nat.le_refl _) ?_
      refine c_Tree_put (a1 := r) (a2 := a1) (a3 := a2) (a4 := 2) j1 (o2 h1 h2) ?_
      refine zr_iload (i := 4) (x := r) (n := 93) d_CM_make_91 rfl rfl ?_
      exact zr_ireturn d_CM_make_93 rfl rfl (Nat.le_refl _) (Nat.le_refl _) (l2 h1 h2)
  · refine zr_bipush (v := (-4)) (n := 70) d_CM_make_68 rfl (by decide) ?_
    exact zr_ireturn d_CM_make_70 rfl rfl (Nat.le_refl _) (Nat.le_refl _) (l3 h1)
theorem e_CM_make {d : Nat} {Q : zm_Q} {S : zm_S} {a1 a2 a3 : Int32} (h : zw M_CM_make (d + 2) Q 0 [some (.ref 0), some (.int a1), some (.int a2), some (.int a3), none] [] S) : zc M_CM_make (d + 2) [.ref 0, .int a1, .int a2, .int a3] S Q := zm_CC_intro (by decide) rfl rfl h
theorem s_CM_remove_0 {d : Nat} {Q : zm_Q} {S : zm_S} {a1 : Int32} (j1 : Nat) (o1 : ¬ a1 < 1 → ¬ 12 ≤ a1 → zm_ix a1 j1 12)
    (l1 : ((a1 < 1) ∨ (¬ a1 < 1 ∧ 12 ≤ a1)) → Q (some (-1)) GG S)
    (l2 : ¬ a1 < 1 → ¬ 12 ≤ a1 → (S 2 j1) = 0 → Q (some (-2)) GG S)
    (l3 : ¬ a1 < 1 → ¬ 12 ≤ a1 → ¬ (S 2 j1) = 0 → zc M_Tree_entryCount d [.ref 1, .int a1] S (fun v G' S' => zm_WP M_CM_remove none (d + 1) 0 0 Q 31 [some (.ref 0), some (.int a1)] (zm_ps v []) G' S' 0 0)) :
    zw M_CM_remove (d + 1) Q 0 [some (.ref 0), some (.int a1)] [] S := by
  refine zr_iload_n (i := 1) (x := a1) (n := 1) d_CM_remove_0 rfl rfl rfl ?_
  refine zr_callS (M' := M_CM_isEntryKey) (mc' := 0) (ms' := 0) (av := [.int a1]) (rest := []) (n := 4) d_CM_remove_1 rfl w_CM_53 w_CM_53k rfl rfl rfl rfl rfl (Nat.le_refl _) (Nat.le_refl _) ?_
  refine c_CM_isEntryKey (a0 := a1) (fun h1 => ?_) (fun h2 h3 => ?_)
  · refine zr_if_ne (tgt := 9) (n := 7) d_CM_remove_4 rfl (by decide) (fun h => absurd h (by decide)) (fun _ => ?_)
    refine zr_iconst (v := (-1)) (n := 8) d_CM_remove_7 rfl (by decide) ?_
    exact zr_ireturn d_CM_remove_8 rfl rfl (Nat.le_refl _) (Nat.le_refl _) (l1 h1)
  · refine zr_if_ne (tgt := 9) (n := 7) d_CM_remove_4 rfl (by decide) (fun _ => ?_) (fun h => absurd h (by decide))
    refine zr_aload_n (i := 0) (x := 0) (n := 10) d_CM_remove_9 rfl rfl rfl ?_
    refine zr_getr (n := 13) d_CM_remove_10 rfl f_CM_10 gg_0 rfl ?_
    refine zr_iload_n (i := 1) (x := a1) (n := 14) d_CM_remove_13 rfl rfl rfl ?_
    refine zr_callV (M' := M_Tree_isThere) (mc' := 0) (ms' := 0) (av := [.int a1]) (rest := []) (n := 17) d_CM_remove_14 rfl w_CM_56 w_CM_56k gg_1 rfl rfl rfl rfl rfl rfl (Nat.le_refl _) (Nat.le_refl _) ?_
    refine c_Tree_isThere (a1 := a1) j1 (o1 h2 h3) (fun h4 => ?_) (fun h5 => ?_)
    · refine zr_if_ne (tgt := 23) (n := 20) d_CM_remove_17 rfl (by decide) (fun h => absurd h (by decide)) (fun _ => ?_)
      refine zr_bipush (v := (-2)) (n := 22) d_CM_remove_20 rfl (by decide) ?_
      exact zr_ireturn d_CM_remove_22 rfl rfl (Nat.le_refl _) (Nat.le_refl _) (l2 h2 h3 h4)
    · refine zr_if_ne (tgt := 23) (n := 20) d_CM_remove_17 rfl (by decide) (fun _ => ?_) (fun h => absurd h (by decide))
      refine zr_aload_n (i := 0) (x := 0) (n := 24) d_CM_remove_23 rfl rfl rfl ?_
      refine zr_getr (n := 27) d_CM_remove_24 rfl f_CM_10 gg_0 rfl ?_
      refine zr_iload_n (i := 1) (x := a1) (n := 28) d_CM_remove_27 rfl rfl rfl ?_
      refine zr_callV (M' := M_Tree_entryCount) (mc' := 0) (ms' := 0) (av := [.int a1]) (rest := []) (n := 31) d_CM_remove_28 rfl w_CM_59 w_CM_59k gg_1 rfl rfl rfl rfl rfl rfl (Nat.le_refl _) (Nat.le_refl _) ?_
      exact (l3 h2 h3 h5)
theorem s_CM_remove_31 {d : Nat} {Q : zm_Q} {S : zm_S} {a1 r : Int32} (j1 : Nat) (o1 : r ≤ 0 → zm_ix a1 j1 12)
    (l1 : r ≤ 0 → Q (some 0) GG (zm_up (zm_up S 2 j1 0) 3 j1 (-1)))
    (l2 : ¬ r ≤ 0 → Q (some (-5)) GG S) :
    zw M_CM_remove (d + 1) Q 31 [some (.ref 0), some (.int a1)] [.int r] S := by
  refine zr_if_le (tgt := 37) (n := 34) d_CM_remove_31 rfl (by decide) (fun h1 => ?_) (fun h1 => ?_)
  · refine zr_aload_n (i := 0) (x := 0) (n := 38) d_CM_remove_37 rfl rfl rfl ?_
    refine zr_getr (n := 41) d_CM_remove_38 rfl f_CM_10 gg_0 rfl ?_
    refine zr_iload_n (i := 1) (x := a1) (n := 42) d_CM_remove_41 rfl rfl rfl ?_
    refine zr_weak (zm_LE.skip (zm_LE.skip zm_LE.nil)) ?_
    refine zr_callV (M' := M_Tree_take) (mc' := 0) (ms' := 0) (av := [.int a1]) (rest := []) (n := 45) d_CM_remove_42 rfl w_CM_63 w_CM_63k gg_1 rfl rfl rfl rfl rfl rfl (Nat.le_refl _) (Nat.le_refl _) ?_
    refine c_Tree_take (a1 := a1) j1 (o1 h1) ?_
    refine zr_iconst (v := 0) (n := 46) d_CM_remove_45 rfl (by decide) ?_
    exact zr_ireturn d_CM_remove_46 rfl rfl (Nat.le_refl _) (Nat.le_refl _) (l1 h1)
  · refine zr_bipush (v := (-5)) (n := 36) d_CM_remove_34 rfl (by decide) ?_
    exact zr_ireturn d_CM_remove_36 rfl rfl (Nat.le_refl _) (Nat.le_refl _) (l2 h1)
theorem e_CM_remove {d : Nat} {Q : zm_Q} {S : zm_S} {a1 : Int32} (h : zw M_CM_remove (d + 1) Q 0 [some (.ref 0), some (.int a1)] [] S) : zc M_CM_remove (d + 1) [.ref 0, .int a1] S Q := zm_CC_intro (by decide) rfl rfl h
theorem s_CM_append_0 {d : Nat} {Q : zm_Q} {S : zm_S} {a1 a2 : Int32} (j1 : Nat) (j2 : Nat) (o1 : ¬ a1 < 1 → ¬ 12 ≤ a1 → ¬ a2 < 0 → ¬ 255 < a2 → zm_ix a1 j1 12) (o2 : ¬ a1 < 1 → ¬ 12 ≤ a1 → ¬ a2 < 0 → ¬ 255 < a2 → (S 2 j1) = 3 → (S 5 j1) < 12 → zm_ix ((a1 * 12) + (S 5 j1)) j2 144)
    (l1 : ((((a1 < 1) ∨ (¬ a1 < 1 ∧ 12 ≤ a1))) ∨ (¬ a1 < 1 ∧ ¬ 12 ≤ a1 ∧ ((a2 < 0) ∨ (¬ a2 < 0 ∧ 255 < a2)))) → Q (some (-1)) GG S)
    (l2 : ¬ a1 < 1 → ¬ 12 ≤ a1 → ¬ a2 < 0 → ¬ 255 < a2 → ¬ (S 2 j1) = 3 → Q (some (-2)) GG S)
    (l3 : ¬ a1 < 1 → ¬ 12 ≤ a1 → ¬ a2 < 0 → ¬ 255 < a2 → (S 2 j1) = 3 → (S 5 j1) < 12 → Q (some ((S 5 j1) + 1)) GG (zm_up (zm_up S 6 j2 a2) 5 j1 ((S 5 j1) + 1)))
    (l4 : ¬ a1 < 1 → ¬ 12 ≤ a1 → ¬ a2 < 0 → ¬ 255 < a2 → (S 2 j1) = 3 → ¬ (S 5 j1) < 12 → Q (some (-4)) GG S) :
    zw M_CM_append (d + 1) Q 0 [some (.ref 0), some (.int a1), some (.int a2)] [] S := by
  refine zr_iload_n (i := 1) (x := a1) (n := 1) d_CM_append_0 rfl rfl rfl ?_
  refine zr_callS (M' := M_CM_isEntryKey) (mc' := 0) (ms' := 0) (av := [.int a1]) (rest := []) (n := 4) d_CM_append_1 rfl w_CM_53 w_CM_53k rfl rfl rfl rfl rfl (Nat.le_refl _) (Nat.le_refl _) ?_
  refine c_CM_isEntryKey (a0 := a1) (fun h1 => ?_) (fun h2 h3 => ?_)
  · refine zr_if_eq (tgt := 14) (n := 7) d_CM_append_4 rfl (by decide) (fun _ => ?_) (fun h => absurd h (by decide))
    refine zr_iconst (v := (-1)) (n := 15) d_CM_append_14 rfl (by decide) ?_
    exact zr_ireturn d_CM_append_15 rfl rfl (Nat.le_refl _) (Nat.le_refl _) (l1 (Or.inl h1))
  · refine zr_if_eq (tgt := 14) (n := 7) d_CM_append_4 rfl (by decide) (fun h => absurd h (by decide)) (fun _ => ?_)
    refine zr_iload_n (i := 2) (x := a2) (n := 8) d_CM_append_7 rfl rfl rfl ?_
    refine zr_callS (M' := M_CM_isByte) (mc' := 0) (ms' := 0) (av := [.int a2]) (rest := []) (n := 11) d_CM_append_8 rfl w_CM_67 w_CM_67k rfl rfl rfl rfl rfl (Nat.le_refl _) (Nat.le_refl _) ?_
    refine c_CM_isByte (a0 := a2) (fun h4 => ?_) (fun h5 h6 => ?_)
    · refine zr_if_ne (tgt := 16) (n := 14) d_CM_append_11 rfl (by decide) (fun h => absurd h (by decide)) (fun _ => ?_)
      refine zr_iconst (v := (-1)) (n := 15) d_CM_append_14 rfl (by decide) ?_
      exact zr_ireturn d_CM_append_15 rfl rfl (Nat.le_refl _) (Nat.le_refl _) (l1 (Or.inr ⟨h2, h3, h4⟩))
    · refine zr_if_ne (tgt := 16) (n := 14) d_CM_append_11 rfl (by decide) (fun _ => ?_) (fun h => absurd h (by decide))
      refine zr_aload_n (i := 0) (x := 0) (n := 17) d_CM_append_16 rfl rfl rfl ?_
      refine zr_getr (n := 20) d_CM_append_17 rfl f_CM_10 gg_0 rfl ?_
      refine zr_iload_n (i := 1) (x := a1) (n := 21) d_CM_append_20 rfl rfl rfl ?_
      refine zr_callV (M' := M_Tree_isFile) (mc' := 0) (ms' := 0) (av := [.int a1]) (rest := []) (n := 24) d_CM_append_21 rfl w_CM_70 w_CM_70k gg_1 rfl rfl rfl rfl rfl rfl (Nat.le_refl _) (Nat.le_refl _) ?_
      refine c_Tree_isFile (a1 := a1) j1 (o1 h2 h3 h5 h6) (fun h7 => ?_) (fun h8 => ?_)
      · refine zr_if_ne (tgt := 30) (n := 27) d_CM_append_24 rfl (by decide) (fun h => absurd h (by decide)) (fun _ => ?_)
        refine zr_bipush (v := (-2)) (n := 29) d_CM_append_27 rfl (by decide) ?_
        exact zr_ireturn d_CM_append_29 rfl rfl (Nat.le_refl _) (Nat.le_refl _) (l2 h2 h3 h5 h6 h7)
      · refine zr_if_ne (tgt := 30) (n := 27) d_CM_append_24 rfl (by decide) (fun _ => ?_) (fun h => absurd h (by decide))
        refine zr_aload_n (i := 0) (x := 0) (n := 31) d_CM_append_30 rfl rfl rfl ?_
        refine zr_getr (n := 34) d_CM_append_31 rfl f_CM_10 gg_0 rfl ?_
        refine zr_iload_n (i := 1) (x := a1) (n := 35) d_CM_append_34 rfl rfl rfl ?_
        refine zr_callV (M' := M_Tree_fileLength) (mc' := 0) (ms' := 0) (av := [.int a1]) (rest := []) (n := 38) d_CM_append_35 rfl w_CM_73 w_CM_73k gg_1 rfl rfl rfl rfl rfl rfl (Nat.le_refl _) (Nat.le_refl _) ?_
        refine c_Tree_fileLength (a1 := a1) j1 (o1 h2 h3 h5 h6) ?_
        refine zr_bipush (v := 12) (n := 40) d_CM_append_38 rfl (by decide) ?_
        refine zr_icmp_lt (tgt := 46) (n := 43) d_CM_append_40 rfl (by decide) (fun h9 => ?_) (fun h9 => ?_)
        · refine zr_aload_n (i := 0) (x := 0) (n := 47) d_CM_append_46 rfl rfl rfl ?_
          refine zr_getr (n := 50) d_CM_append_47 rfl f_CM_10 gg_0 rfl ?_
          refine zr_iload_n (i := 1) (x := a1) (n := 51) d_CM_append_50 rfl rfl rfl ?_
          refine zr_iload_n (i := 2) (x := a2) (n := 52) d_CM_append_51 rfl rfl rfl ?_
          refine zr_weak (zm_LE.skip (zm_LE.skip (zm_LE.skip zm_LE.nil))) ?_
          refine zr_callV (M' := M_Tree_addByte) (mc' := 0) (ms' := 0) (av := [.int a1, .int a2]) (rest := []) (n := 55) d_CM_append_52 rfl w_CM_76 w_CM_76k gg_1 rfl rfl rfl rfl rfl rfl (Nat.le_refl _) (Nat.le_refl _) ?_
          refine c_Tree_addByte (a1 := a1) (a2 := a2) j1 j2 (o1 h2 h3 h5 h6) (o2 h2 h3 h5 h6 h8 h9) ?_
          exact zr_ireturn d_CM_append_55 rfl rfl (Nat.le_refl _) (Nat.le_refl _) (l3 h2 h3 h5 h6 h8 h9)
        · refine zr_bipush (v := (-4)) (n := 45) d_CM_append_43 rfl (by decide) ?_
          exact zr_ireturn d_CM_append_45 rfl rfl (Nat.le_refl _) (Nat.le_refl _) (l4 h2 h3 h5 h6 h8 h9)
theorem e_CM_append {d : Nat} {Q : zm_Q} {S : zm_S} {a1 a2 : Int32} (h : zw M_CM_append (d + 1) Q 0 [some (.ref 0), some (.int a1), some (.int a2)] [] S) : zc M_CM_append (d + 1) [.ref 0, .int a1, .int a2] S Q := zm_CC_intro (by decide) rfl rfl h
theorem s_CM_publish_0 {d : Nat} {Q : zm_Q} {S : zm_S}
    (l1 : zc M_Ed_renew (d + 5) [.ref 7, .ref 1] S (fun v G' S' => zm_WP M_CM_publish none (d + 6) 0 0 Q 11 [some (.ref 0)] (zm_ps v []) G' S' 0 0)) :
    zw M_CM_publish (d + 6) Q 0 [some (.ref 0)] [] S := by
  refine zr_aload_n (i := 0) (x := 0) (n := 1) d_CM_publish_0 rfl rfl rfl ?_
  refine zr_getr (n := 4) d_CM_publish_1 rfl f_CM_19 gg_0 rfl ?_
  refine zr_aload_n (i := 0) (x := 0) (n := 5) d_CM_publish_4 rfl rfl rfl ?_
  refine zr_getr (n := 8) d_CM_publish_5 rfl f_CM_10 gg_0 rfl ?_
  refine zr_callV (M' := M_Ed_renew) (mc' := 0) (ms' := 0) (av := [.ref 1]) (rest := []) (n := 11) d_CM_publish_8 rfl w_CM_83 w_CM_83k gg_7 rfl rfl rfl rfl rfl rfl (Nat.le_refl _) (Nat.le_refl _) ?_
  exact l1
theorem s_CM_publish_11 {d : Nat} {Q : zm_Q} {S : zm_S}
    (l1 : zc M_Sn_beginCycleOf (d + 5) [.ref 14, .ref 7] S (fun v G' S' => zm_WP M_CM_publish none (d + 6) 0 0 Q 22 [some (.ref 0)] (zm_ps v []) G' S' 0 0)) :
    zw M_CM_publish (d + 6) Q 11 [some (.ref 0)] [] S := by
  refine zr_aload_n (i := 0) (x := 0) (n := 12) d_CM_publish_11 rfl rfl rfl ?_
  refine zr_getr (n := 15) d_CM_publish_12 rfl f_CM_26 gg_0 rfl ?_
  refine zr_aload_n (i := 0) (x := 0) (n := 16) d_CM_publish_15 rfl rfl rfl ?_
  refine zr_getr (n := 19) d_CM_publish_16 rfl f_CM_19 gg_0 rfl ?_
  refine zr_callV (M' := M_Sn_beginCycleOf) (mc' := 0) (ms' := 0) (av := [.ref 7]) (rest := []) (n := 22) d_CM_publish_19 rfl w_CM_87 w_CM_87k gg_14 rfl rfl rfl rfl rfl rfl (Nat.le_refl _) (Nat.le_refl _) ?_
  exact l1
theorem s_CM_publish_22 {d : Nat} {Q : zm_Q} {S : zm_S}
    (l1 : Q (some (S 7 0)) GG S) :
    zw M_CM_publish (d + 6) Q 22 [some (.ref 0)] [] S := by
  refine zr_aload_n (i := 0) (x := 0) (n := 23) d_CM_publish_22 rfl rfl rfl ?_
  refine zr_getr (n := 26) d_CM_publish_23 rfl f_CM_19 gg_0 rfl ?_
  refine zr_geti (n := 29) d_CM_publish_26 rfl f_CM_91 gg_7 rfl ?_
  exact zr_ireturn d_CM_publish_29 rfl rfl (Nat.le_refl _) (Nat.le_refl _) l1
theorem e_CM_publish {d : Nat} {Q : zm_Q} {S : zm_S} (h : zw M_CM_publish (d + 6) Q 0 [some (.ref 0)] [] S) : zc M_CM_publish (d + 6) [.ref 0] S Q := zm_CC_intro (by decide) rfl rfl h
theorem s_CM_send_0 {d : Nat} {Q : zm_Q} {S : zm_S} {a1 : Int32}
    (l1 : ((a1 < 0) ∨ (¬ a1 < 0 ∧ ¬ a1 ≤ 64)) → Q (some (-1)) GG S)
    (l2 : ¬ a1 < 0 → a1 ≤ 64 → (S 16 1) ≤ 0 → Q (some (-2)) GG S)
    (l3 : ¬ a1 < 0 → a1 ≤ 64 → ¬ (S 16 1) ≤ 0 → zw M_CM_send (d + 6) Q 27 [some (.ref 0), some (.int a1), some (.int 0)] [] S) :
    zw M_CM_send (d + 6) Q 0 [some (.ref 0), some (.int a1), none] [] S := by
  refine zr_iload_n (i := 1) (x := a1) (n := 1) d_CM_send_0 rfl rfl rfl ?_
  refine zr_if_lt (tgt := 10) (n := 4) d_CM_send_1 rfl (by decide) (fun h1 => ?_) (fun h1 => ?_)
  · refine zr_iconst (v := (-1)) (n := 11) d_CM_send_10 rfl (by decide) ?_
    exact zr_ireturn d_CM_send_11 rfl rfl (Nat.le_refl _) (Nat.le_refl _) (l1 (Or.inl h1))
  · refine zr_iload_n (i := 1) (x := a1) (n := 5) d_CM_send_4 rfl rfl rfl ?_
    refine zr_bipush (v := 64) (n := 7) d_CM_send_5 rfl (by decide) ?_
    refine zr_icmp_le (tgt := 12) (n := 10) d_CM_send_7 rfl (by decide) (fun h2 => ?_) (fun h2 => ?_)
    · refine zr_aload_n (i := 0) (x := 0) (n := 13) d_CM_send_12 rfl rfl rfl ?_
      refine zr_getr (n := 16) d_CM_send_13 rfl f_CM_26 gg_0 rfl ?_
      refine zr_callV (M' := M_Sn_isOnAir) (mc' := 0) (ms' := 0) (av := []) (rest := []) (n := 19) d_CM_send_16 rfl w_CM_106 w_CM_106k gg_14 rfl rfl rfl rfl rfl rfl (Nat.le_refl _) (Nat.le_refl _) ?_
      refine c_Sn_isOnAir (fun h3 => ?_) (fun h4 => ?_)
      · refine zr_if_ne (tgt := 25) (n := 22) d_CM_send_19 rfl (by decide) (fun h => absurd h (by decide)) (fun _ => ?_)
        refine zr_bipush (v := (-2)) (n := 24) d_CM_send_22 rfl (by decide) ?_
        exact zr_ireturn d_CM_send_24 rfl rfl (Nat.le_refl _) (Nat.le_refl _) (l2 h1 h2 h3)
      · refine zr_if_ne (tgt := 25) (n := 22) d_CM_send_19 rfl (by decide) (fun _ => ?_) (fun h => absurd h (by decide))
        refine zr_iconst (v := 0) (n := 26) d_CM_send_25 rfl (by decide) ?_
        refine zr_istore_n (i := 2) (L' := [some (.ref 0), some (.int a1), some (.int 0)]) (n := 27) d_CM_send_26 rfl rfl rfl rfl ?_
        exact (l3 h1 h2 h4)
    · refine zr_iconst (v := (-1)) (n := 11) d_CM_send_10 rfl (by decide) ?_
      exact zr_ireturn d_CM_send_11 rfl rfl (Nat.le_refl _) (Nat.le_refl _) (l1 (Or.inr ⟨h1, h2⟩))
theorem s_CM_send_27 {d : Nat} {Q : zm_Q} {S : zm_S} {a1 a2 : Int32}
    (l1 : a1 ≤ a2 → Q (some a1) GG S)
    (l2 : ¬ a1 ≤ a2 → zc M_Rc_takePacket (d + 5) [.ref 19, .ref 15] S (fun v G' S' => zm_WP M_CM_send none (d + 6) 0 0 Q 46 [some (.ref 0), some (.int a1), some (.int a2)] (zm_ps v []) G' S' 0 0)) :
    zw M_CM_send (d + 6) Q 27 [some (.ref 0), some (.int a1), some (.int a2)] [] S := by
  refine zr_iload_n (i := 2) (x := a2) (n := 28) d_CM_send_27 rfl rfl rfl ?_
  refine zr_iload_n (i := 1) (x := a1) (n := 29) d_CM_send_28 rfl rfl rfl ?_
  refine zr_icmp_ge (tgt := 59) (n := 32) d_CM_send_29 rfl (by decide) (fun h1 => ?_) (fun h1 => ?_)
  · refine zr_iload_n (i := 1) (x := a1) (n := 60) d_CM_send_59 rfl rfl rfl ?_
    exact zr_ireturn d_CM_send_60 rfl rfl (Nat.le_refl _) (Nat.le_refl _) (l1 h1)
  · refine zr_aload_n (i := 0) (x := 0) (n := 33) d_CM_send_32 rfl rfl rfl ?_
    refine zr_getr (n := 36) d_CM_send_33 rfl f_CM_33 gg_0 rfl ?_
    refine zr_aload_n (i := 0) (x := 0) (n := 37) d_CM_send_36 rfl rfl rfl ?_
    refine zr_getr (n := 40) d_CM_send_37 rfl f_CM_26 gg_0 rfl ?_
    refine zr_getr (n := 43) d_CM_send_40 rfl f_CM_110 gg_14 rfl ?_
    refine zr_callV (M' := M_Rc_takePacket) (mc' := 0) (ms' := 0) (av := [.ref 15]) (rest := []) (n := 46) d_CM_send_43 rfl w_CM_113 w_CM_113k gg_19 rfl rfl rfl rfl rfl rfl (Nat.le_refl _) (Nat.le_refl _) ?_
    exact (l2 h1)
theorem s_CM_send_46 {d : Nat} {Q : zm_Q} {S : zm_S} {a1 a2 : Int32}
    (l1 : zc M_Sn_advance (d + 5) [.ref 14] S (fun v G' S' => zm_WP M_CM_send none (d + 6) 0 0 Q 53 [some (.ref 0), some (.int a1), some (.int a2)] (zm_ps v []) G' S' 0 0)) :
    zw M_CM_send (d + 6) Q 46 [some (.ref 0), some (.int a1), some (.int a2)] [] S := by
  refine zr_aload_n (i := 0) (x := 0) (n := 47) d_CM_send_46 rfl rfl rfl ?_
  refine zr_getr (n := 50) d_CM_send_47 rfl f_CM_26 gg_0 rfl ?_
  refine zr_callV (M' := M_Sn_advance) (mc' := 0) (ms' := 0) (av := []) (rest := []) (n := 53) d_CM_send_50 rfl w_CM_117 w_CM_117k gg_14 rfl rfl rfl rfl rfl rfl (Nat.le_refl _) (Nat.le_refl _) ?_
  exact l1
theorem s_CM_send_53 {d : Nat} {Q : zm_Q} {S : zm_S} {a1 a2 : Int32}
    (l1 : zw M_CM_send (d + 6) Q 27 [some (.ref 0), some (.int a1), some (.int (a2 + 1))] [] S) :
    zw M_CM_send (d + 6) Q 53 [some (.ref 0), some (.int a1), some (.int a2)] [] S := by
  refine zr_iinc (i := 2) (w := 1) (x := a2) (L' := [some (.ref 0), some (.int a1), some (.int (a2 + 1))]) (n := 56) d_CM_send_53 rfl (by decide) rfl rfl ?_
  refine zr_goto (tgt := 27) d_CM_send_56 (by decide) ?_
  exact l1
theorem e_CM_send {d : Nat} {Q : zm_Q} {S : zm_S} {a1 : Int32} (h : zw M_CM_send (d + 6) Q 0 [some (.ref 0), some (.int a1), none] [] S) : zc M_CM_send (d + 6) [.ref 0, .int a1] S Q := zm_CC_intro (by decide) rfl rfl h
theorem s_CM_lose_0 {d : Nat} {Q : zm_Q} {S : zm_S} {a1 : Int32}
    (l1 : ((a1 < 0) ∨ (¬ a1 < 0 ∧ ¬ a1 ≤ 64)) → Q (some (-1)) GG S)
    (l2 : ¬ a1 < 0 → a1 ≤ 64 → (S 16 1) ≤ 0 → Q (some (-2)) GG S)
    (l3 : ¬ a1 < 0 → a1 ≤ 64 → ¬ (S 16 1) ≤ 0 → zw M_CM_lose (d + 3) Q 27 [some (.ref 0), some (.int a1), some (.int 0)] [] S) :
    zw M_CM_lose (d + 3) Q 0 [some (.ref 0), some (.int a1), none] [] S := by
  refine zr_iload_n (i := 1) (x := a1) (n := 1) d_CM_lose_0 rfl rfl rfl ?_
  refine zr_if_lt (tgt := 10) (n := 4) d_CM_lose_1 rfl (by decide) (fun h1 => ?_) (fun h1 => ?_)
  · refine zr_iconst (v := (-1)) (n := 11) d_CM_lose_10 rfl (by decide) ?_
    exact zr_ireturn d_CM_lose_11 rfl rfl (Nat.le_refl _) (Nat.le_refl _) (l1 (Or.inl h1))
  · refine zr_iload_n (i := 1) (x := a1) (n := 5) d_CM_lose_4 rfl rfl rfl ?_
    refine zr_bipush (v := 64) (n := 7) d_CM_lose_5 rfl (by decide) ?_
    refine zr_icmp_le (tgt := 12) (n := 10) d_CM_lose_7 rfl (by decide) (fun h2 => ?_) (fun h2 => ?_)
    · refine zr_aload_n (i := 0) (x := 0) (n := 13) d_CM_lose_12 rfl rfl rfl ?_
      refine zr_getr (n := 16) d_CM_lose_13 rfl f_CM_26 gg_0 rfl ?_
      refine zr_callV (M' := M_Sn_isOnAir) (mc' := 0) (ms' := 0) (av := []) (rest := []) (n := 19) d_CM_lose_16 rfl w_CM_106 w_CM_106k gg_14 rfl rfl rfl rfl rfl rfl (Nat.le_refl _) (Nat.le_refl _) ?_
      refine c_Sn_isOnAir (fun h3 => ?_) (fun h4 => ?_)
      · refine zr_if_ne (tgt := 25) (n := 22) d_CM_lose_19 rfl (by decide) (fun h => absurd h (by decide)) (fun _ => ?_)
        refine zr_bipush (v := (-2)) (n := 24) d_CM_lose_22 rfl (by decide) ?_
        exact zr_ireturn d_CM_lose_24 rfl rfl (Nat.le_refl _) (Nat.le_refl _) (l2 h1 h2 h3)
      · refine zr_if_ne (tgt := 25) (n := 22) d_CM_lose_19 rfl (by decide) (fun _ => ?_) (fun h => absurd h (by decide))
        refine zr_iconst (v := 0) (n := 26) d_CM_lose_25 rfl (by decide) ?_
        refine zr_istore_n (i := 2) (L' := [some (.ref 0), some (.int a1), some (.int 0)]) (n := 27) d_CM_lose_26 rfl rfl rfl rfl ?_
        exact (l3 h1 h2 h4)
    · refine zr_iconst (v := (-1)) (n := 11) d_CM_lose_10 rfl (by decide) ?_
      exact zr_ireturn d_CM_lose_11 rfl rfl (Nat.le_refl _) (Nat.le_refl _) (l1 (Or.inr ⟨h1, h2⟩))
theorem s_CM_lose_27 {d : Nat} {Q : zm_Q} {S : zm_S} {a1 a2 : Int32}
    (l1 : a1 ≤ a2 → Q (some a1) GG S)
    (l2 : ¬ a1 ≤ a2 → zc M_Sn_advance (d + 2) [.ref 14] S (fun v G' S' => zm_WP M_CM_lose none (d + 3) 0 0 Q 39 [some (.ref 0), some (.int a1), some (.int a2)] (zm_ps v []) G' S' 0 0)) :
    zw M_CM_lose (d + 3) Q 27 [some (.ref 0), some (.int a1), some (.int a2)] [] S := by
  refine zr_iload_n (i := 2) (x := a2) (n := 28) d_CM_lose_27 rfl rfl rfl ?_
  refine zr_iload_n (i := 1) (x := a1) (n := 29) d_CM_lose_28 rfl rfl rfl ?_
  refine zr_icmp_ge (tgt := 45) (n := 32) d_CM_lose_29 rfl (by decide) (fun h1 => ?_) (fun h1 => ?_)
  · refine zr_iload_n (i := 1) (x := a1) (n := 46) d_CM_lose_45 rfl rfl rfl ?_
    exact zr_ireturn d_CM_lose_46 rfl rfl (Nat.le_refl _) (Nat.le_refl _) (l1 h1)
  · refine zr_aload_n (i := 0) (x := 0) (n := 33) d_CM_lose_32 rfl rfl rfl ?_
    refine zr_getr (n := 36) d_CM_lose_33 rfl f_CM_26 gg_0 rfl ?_
    refine zr_callV (M' := M_Sn_advance) (mc' := 0) (ms' := 0) (av := []) (rest := []) (n := 39) d_CM_lose_36 rfl w_CM_117 w_CM_117k gg_14 rfl rfl rfl rfl rfl rfl (Nat.le_refl _) (Nat.le_refl _) ?_
    exact (l2 h1)
theorem s_CM_lose_39 {d : Nat} {Q : zm_Q} {S : zm_S} {a1 a2 : Int32}
    (l1 : zw M_CM_lose (d + 3) Q 27 [some (.ref 0), some (.int a1), some (.int (a2 + 1))] [] S) :
    zw M_CM_lose (d + 3) Q 39 [some (.ref 0), some (.int a1), some (.int a2)] [] S := by
  refine zr_iinc (i := 2) (w := 1) (x := a2) (L' := [some (.ref 0), some (.int a1), some (.int (a2 + 1))]) (n := 42) d_CM_lose_39 rfl (by decide) rfl rfl ?_
  refine zr_goto (tgt := 27) d_CM_lose_42 (by decide) ?_
  exact l1
theorem e_CM_lose {d : Nat} {Q : zm_Q} {S : zm_S} {a1 : Int32} (h : zw M_CM_lose (d + 3) Q 0 [some (.ref 0), some (.int a1), none] [] S) : zc M_CM_lose (d + 3) [.ref 0, .int a1] S Q := zm_CC_intro (by decide) rfl rfl h
theorem s_CM_spoil_0 {d : Nat} {Q : zm_Q} {S : zm_S} {a1 a2 : Int32} (j1 : Nat) (o1 : ¬ a1 < 0 → ¬ 16 ≤ a1 → ¬ a2 < 0 → ¬ 255 < a2 → ¬ (S 16 1) ≤ 0 → zm_ix a1 j1 16)
    (l1 : ((a1 < 0) ∨ (¬ a1 < 0 ∧ 16 ≤ a1) ∨ (¬ a1 < 0 ∧ ¬ 16 ≤ a1 ∧ ((a2 < 0) ∨ (¬ a2 < 0 ∧ 255 < a2)))) → Q (some (-1)) GG S)
    (l2 : ¬ a1 < 0 → ¬ 16 ≤ a1 → ¬ a2 < 0 → ¬ 255 < a2 → (S 16 1) ≤ 0 → Q (some (-2)) GG S)
    (l3 : ¬ a1 < 0 → ¬ 16 ≤ a1 → ¬ a2 < 0 → ¬ 255 < a2 → ¬ (S 16 1) ≤ 0 → zc M_Rc_takePacket (d + 5) [.ref 19, .ref 15] (zm_up S 15 j1 ((S 15 j1) ^^^ a2)) (fun v G' S' => zm_WP M_CM_spoil none (d + 6) 0 0 Q 59 [some (.ref 0), none, none] (zm_ps v []) G' S' 0 0)) :
    zw M_CM_spoil (d + 6) Q 0 [some (.ref 0), some (.int a1), some (.int a2)] [] S := by
  refine zr_iload_n (i := 1) (x := a1) (n := 1) d_CM_spoil_0 rfl rfl rfl ?_
  refine zr_if_lt (tgt := 17) (n := 4) d_CM_spoil_1 rfl (by decide) (fun h1 => ?_) (fun h1 => ?_)
  · refine zr_iconst (v := (-1)) (n := 18) d_CM_spoil_17 rfl (by decide) ?_
    exact zr_ireturn d_CM_spoil_18 rfl rfl (Nat.le_refl _) (Nat.le_refl _) (l1 (Or.inl h1))
  · refine zr_iload_n (i := 1) (x := a1) (n := 5) d_CM_spoil_4 rfl rfl rfl ?_
    refine zr_bipush (v := 16) (n := 7) d_CM_spoil_5 rfl (by decide) ?_
    refine zr_icmp_ge (tgt := 17) (n := 10) d_CM_spoil_7 rfl (by decide) (fun h2 => ?_) (fun h2 => ?_)
    · refine zr_iconst (v := (-1)) (n := 18) d_CM_spoil_17 rfl (by decide) ?_
      exact zr_ireturn d_CM_spoil_18 rfl rfl (Nat.le_refl _) (Nat.le_refl _) (l1 (Or.inr (Or.inl ⟨h1, h2⟩)))
    · refine zr_iload_n (i := 2) (x := a2) (n := 11) d_CM_spoil_10 rfl rfl rfl ?_
      refine zr_callS (M' := M_CM_isByte) (mc' := 0) (ms' := 0) (av := [.int a2]) (rest := []) (n := 14) d_CM_spoil_11 rfl w_CM_67 w_CM_67k rfl rfl rfl rfl rfl (Nat.le_refl _) (Nat.le_refl _) ?_
      refine c_CM_isByte (a0 := a2) (fun h3 => ?_) (fun h4 h5 => ?_)
      · refine zr_if_ne (tgt := 19) (n := 17) d_CM_spoil_14 rfl (by decide) (fun h => absurd h (by decide)) (fun _ => ?_)
        refine zr_iconst (v := (-1)) (n := 18) d_CM_spoil_17 rfl (by decide) ?_
        exact zr_ireturn d_CM_spoil_18 rfl rfl (Nat.le_refl _) (Nat.le_refl _) (l1 (Or.inr (Or.inr ⟨h1, h2, h3⟩)))
      · refine zr_if_ne (tgt := 19) (n := 17) d_CM_spoil_14 rfl (by decide) (fun _ => ?_) (fun h => absurd h (by decide))
        refine zr_aload_n (i := 0) (x := 0) (n := 20) d_CM_spoil_19 rfl rfl rfl ?_
        refine zr_getr (n := 23) d_CM_spoil_20 rfl f_CM_26 gg_0 rfl ?_
        refine zr_callV (M' := M_Sn_isOnAir) (mc' := 0) (ms' := 0) (av := []) (rest := []) (n := 26) d_CM_spoil_23 rfl w_CM_106 w_CM_106k gg_14 rfl rfl rfl rfl rfl rfl (Nat.le_refl _) (Nat.le_refl _) ?_
        refine c_Sn_isOnAir (fun h6 => ?_) (fun h7 => ?_)
        · refine zr_if_ne (tgt := 32) (n := 29) d_CM_spoil_26 rfl (by decide) (fun h => absurd h (by decide)) (fun _ => ?_)
          refine zr_bipush (v := (-2)) (n := 31) d_CM_spoil_29 rfl (by decide) ?_
          exact zr_ireturn d_CM_spoil_31 rfl rfl (Nat.le_refl _) (Nat.le_refl _) (l2 h1 h2 h4 h5 h6)
        · refine zr_if_ne (tgt := 32) (n := 29) d_CM_spoil_26 rfl (by decide) (fun _ => ?_) (fun h => absurd h (by decide))
          refine zr_aload_n (i := 0) (x := 0) (n := 33) d_CM_spoil_32 rfl rfl rfl ?_
          refine zr_getr (n := 36) d_CM_spoil_33 rfl f_CM_26 gg_0 rfl ?_
          refine zr_getr (n := 39) d_CM_spoil_36 rfl f_CM_110 gg_14 rfl ?_
          refine zr_iload_n (i := 1) (x := a1) (n := 40) d_CM_spoil_39 rfl rfl rfl ?_
          refine zr_dup2 (n := 41) d_CM_spoil_40 rfl rfl rfl ?_
          refine zr_iaload j1 (n := 42) d_CM_spoil_41 rfl gg_15 (o1 h1 h2 h4 h5 h7) ?_
          refine zr_iload_n (i := 2) (x := a2) (n := 43) d_CM_spoil_42 rfl rfl rfl ?_
          refine zr_ixor (n := 44) d_CM_spoil_43 rfl ?_
          refine zr_iastore j1 (n := 45) d_CM_spoil_44 rfl gg_15 (o1 h1 h2 h4 h5 h7) ?_
          refine zr_aload_n (i := 0) (x := 0) (n := 46) d_CM_spoil_45 rfl rfl rfl ?_
          refine zr_getr (n := 49) d_CM_spoil_46 rfl f_CM_33 gg_0 rfl ?_
          refine zr_aload_n (i := 0) (x := 0) (n := 50) d_CM_spoil_49 rfl rfl rfl ?_
          refine zr_getr (n := 53) d_CM_spoil_50 rfl f_CM_26 gg_0 rfl ?_
          refine zr_getr (n := 56) d_CM_spoil_53 rfl f_CM_110 gg_14 rfl ?_
          refine zr_weak (zm_LE.cons (zm_LE.skip (zm_LE.skip zm_LE.nil))) ?_
          refine zr_callV (M' := M_Rc_takePacket) (mc' := 0) (ms' := 0) (av := [.ref 15]) (rest := []) (n := 59) d_CM_spoil_56 rfl w_CM_113 w_CM_113k gg_19 rfl rfl rfl rfl rfl rfl (Nat.le_refl _) (Nat.le_refl _) ?_
          exact (l3 h1 h2 h4 h5 h7)
theorem s_CM_spoil_59 {d : Nat} {Q : zm_Q} {S : zm_S}
    (l1 : zc M_Sn_advance (d + 5) [.ref 14] S (fun v G' S' => zm_WP M_CM_spoil none (d + 6) 0 0 Q 66 [none, none, none] (zm_ps v []) G' S' 0 0)) :
    zw M_CM_spoil (d + 6) Q 59 [some (.ref 0), none, none] [] S := by
  refine zr_aload_n (i := 0) (x := 0) (n := 60) d_CM_spoil_59 rfl rfl rfl ?_
  refine zr_getr (n := 63) d_CM_spoil_60 rfl f_CM_26 gg_0 rfl ?_
  refine zr_weak (zm_LE.skip (zm_LE.cons (zm_LE.cons zm_LE.nil))) ?_
  refine zr_callV (M' := M_Sn_advance) (mc' := 0) (ms' := 0) (av := []) (rest := []) (n := 66) d_CM_spoil_63 rfl w_CM_117 w_CM_117k gg_14 rfl rfl rfl rfl rfl rfl (Nat.le_refl _) (Nat.le_refl _) ?_
  exact l1
theorem s_CM_spoil_66 {d : Nat} {Q : zm_Q} {S : zm_S}
    (l1 : Q (some 1) GG S) :
    zw M_CM_spoil (d + 6) Q 66 [none, none, none] [] S := by
  refine zr_iconst (v := 1) (n := 67) d_CM_spoil_66 rfl (by decide) ?_
  exact zr_ireturn d_CM_spoil_67 rfl rfl (Nat.le_refl _) (Nat.le_refl _) l1
theorem e_CM_spoil {d : Nat} {Q : zm_Q} {S : zm_S} {a1 a2 : Int32} (h : zw M_CM_spoil (d + 6) Q 0 [some (.ref 0), some (.int a1), some (.int a2)] [] S) : zc M_CM_spoil (d + 6) [.ref 0, .int a1, .int a2] S Q := zm_CC_intro (by decide) rfl rfl h
theorem s_CM_retune_0 {d : Nat} {Q : zm_Q} {S : zm_S}
    (l1 : zc M_Rc_reset (d + 2) [.ref 19] S (fun v G' S' => zm_WP M_CM_retune none (d + 3) 0 0 Q 7 [none] (zm_ps v []) G' S' 0 0)) :
    zw M_CM_retune (d + 3) Q 0 [some (.ref 0)] [] S := by
  refine zr_aload_n (i := 0) (x := 0) (n := 1) d_CM_retune_0 rfl rfl rfl ?_
  refine zr_getr (n := 4) d_CM_retune_1 rfl f_CM_33 gg_0 rfl ?_
  refine zr_weak (zm_LE.skip zm_LE.nil) ?_
  refine zr_callV (M' := M_Rc_reset) (mc' := 0) (ms' := 0) (av := []) (rest := []) (n := 7) d_CM_retune_4 rfl w_CM_120 w_CM_120k gg_19 rfl rfl rfl rfl rfl rfl (Nat.le_refl _) (Nat.le_refl _) ?_
  exact l1
theorem s_CM_retune_7 {d : Nat} {Q : zm_Q} {S : zm_S}
    (l1 : Q none GG S) :
    zw M_CM_retune (d + 3) Q 7 [none] [] S := by
  exact zr_return d_CM_retune_7 rfl (Nat.le_refl _) (Nat.le_refl _) l1
theorem e_CM_retune {d : Nat} {Q : zm_Q} {S : zm_S} (h : zw M_CM_retune (d + 3) Q 0 [some (.ref 0)] [] S) : zc M_CM_retune (d + 3) [.ref 0] S Q := zm_CC_intro (by decide) rfl rfl h
theorem s_CM_held_0 {d : Nat} {Q : zm_Q} {S : zm_S} {a1 : Int32} (j1 : Nat) (o1 : ¬ a1 < 0 → ¬ 12 ≤ a1 → zm_ix a1 j1 12)
    (l1 : ((a1 < 0) ∨ (¬ a1 < 0 ∧ 12 ≤ a1) ∨ (¬ a1 < 0 ∧ ¬ 12 ≤ a1 ∧ (S 21 j1) ≤ 0)) → Q (some (-2)) GG S)
    (l2 : ¬ a1 < 0 → ¬ 12 ≤ a1 → ¬ (S 21 j1) ≤ 0 → zc M_Mt_blocksHeld (d + 1) [.ref 20, .int a1] S (fun v G' S' => zm_WP M_CM_held none (d + 2) 0 0 Q 21 [none, none, none] (zm_ps v []) G' S' 0 0)) :
    zw M_CM_held (d + 2) Q 0 [some (.ref 0), some (.int a1), none] [] S := by
  refine zr_aload_n (i := 0) (x := 0) (n := 1) d_CM_held_0 rfl rfl rfl ?_
  refine zr_getr (n := 4) d_CM_held_1 rfl f_CM_33 gg_0 rfl ?_
  refine zr_getr (n := 7) d_CM_held_4 rfl f_CM_126 gg_19 rfl ?_
  refine zr_astore_n (i := 2) (L' := [some (.ref 0), some (.int a1), some (.ref 20)]) (n := 8) d_CM_held_7 rfl rfl rfl rfl ?_
  refine zr_aload_n (i := 2) (x := 20) (n := 9) d_CM_held_8 rfl rfl rfl ?_
  refine zr_iload_n (i := 1) (x := a1) (n := 10) d_CM_held_9 rfl rfl rfl ?_
  refine zr_weak (zm_LE.skip (zm_LE.cons (zm_LE.cons zm_LE.nil))) ?_
  refine zr_callV (M' := M_Mt_isListed) (mc' := 0) (ms' := 0) (av := [.int a1]) (rest := []) (n := 13) d_CM_held_10 rfl w_CM_139 w_CM_139k gg_20 rfl rfl rfl rfl rfl rfl (Nat.le_refl _) (Nat.le_refl _) ?_
  refine c_Mt_isListed (a1 := a1) j1 o1 (fun h1 => ?_) (fun h2 h3 h4 => ?_)
  · refine zr_if_eq (tgt := 24) (n := 16) d_CM_held_13 rfl (by decide) (fun _ => ?_) (fun h => absurd h (by decide))
    refine zr_bipush (v := (-2)) (n := 26) d_CM_held_24 rfl (by decide) ?_
    exact zr_ireturn d_CM_held_26 rfl rfl (Nat.le_refl _) (Nat.le_refl _) (l1 h1)
  · refine zr_if_eq (tgt := 24) (n := 16) d_CM_held_13 rfl (by decide) (fun h => absurd h (by decide)) (fun _ => ?_)
    refine zr_aload_n (i := 2) (x := 20) (n := 17) d_CM_held_16 rfl rfl rfl ?_
    refine zr_iload_n (i := 1) (x := a1) (n := 18) d_CM_held_17 rfl rfl rfl ?_
    refine zr_weak (zm_LE.cons (zm_LE.skip (zm_LE.skip zm_LE.nil))) ?_
    refine zr_callV (M' := M_Mt_blocksHeld) (mc' := 0) (ms' := 0) (av := [.int a1]) (rest := []) (n := 21) d_CM_held_18 rfl w_CM_142 w_CM_142k gg_20 rfl rfl rfl rfl rfl rfl (Nat.le_refl _) (Nat.le_refl _) ?_
    exact (l2 h2 h3 h4)
theorem s_CM_held_21 {d : Nat} {Q : zm_Q} {S : zm_S} {r : Int32}
    (l1 : Q (some r) GG S) :
    zw M_CM_held (d + 2) Q 21 [none, none, none] [.int r] S := by
  refine zr_goto (tgt := 26) d_CM_held_21 (by decide) ?_
  exact zr_ireturn d_CM_held_26 rfl rfl (Nat.le_refl _) (Nat.le_refl _) l1
theorem e_CM_held {d : Nat} {Q : zm_Q} {S : zm_S} {a1 : Int32} (h : zw M_CM_held (d + 2) Q 0 [some (.ref 0), some (.int a1), none] [] S) : zc M_CM_held (d + 2) [.ref 0, .int a1] S Q := zm_CC_intro (by decide) rfl rfl h
theorem s_CM_kind_0 {d : Nat} {Q : zm_Q} {S : zm_S} {a1 a2 a3 : Int32}
    (l1 : zc M_CM_follow (d + 5) [.ref 0, .int a1, .int a2, .int a3] S (fun v G' S' => zm_WP M_CM_kind none (d + 6) 0 0 Q 7 [some (.ref 0), none, none, none, none] (zm_ps v []) G' S' 0 0)) :
    zw M_CM_kind (d + 6) Q 0 [some (.ref 0), some (.int a1), some (.int a2), some (.int a3), none] [] S := by
  refine zr_aload_n (i := 0) (x := 0) (n := 1) d_CM_kind_0 rfl rfl rfl ?_
  refine zr_iload_n (i := 1) (x := a1) (n := 2) d_CM_kind_1 rfl rfl rfl ?_
  refine zr_iload_n (i := 2) (x := a2) (n := 3) d_CM_kind_2 rfl rfl rfl ?_
  refine zr_iload_n (i := 3) (x := a3) (n := 4) d_CM_kind_3 rfl rfl rfl ?_
  refine zr_weak (zm_LE.cons (zm_LE.skip (zm_LE.skip (zm_LE.skip (zm_LE.cons zm_LE.nil))))) ?_
  refine zr_callV (M' := M_CM_follow) (mc' := 0) (ms' := 0) (av := [.int a1, .int a2, .int a3]) (rest := []) (n := 7) d_CM_kind_4 rfl w_CM_145 w_CM_145k gg_0 rfl rfl rfl rfl rfl rfl (Nat.le_refl _) (Nat.le_refl _) ?_
  exact l1
theorem s_CM_kind_7 {d : Nat} {Q : zm_Q} {S : zm_S} {r : Int32} (j1 : Nat) (o1 : 0 ≤ r → zm_ix r j1 576)
    (l1 : 0 ≤ r → Q (some (S 24 j1)) GG S)
    (l2 : ¬ 0 ≤ r → Q (some r) GG S) :
    zw M_CM_kind (d + 6) Q 7 [some (.ref 0), none, none, none, none] [.int r] S := by
  refine zr_istore (i := 4) (L' := [some (.ref 0), none, none, none, some (.int r)]) (n := 9) d_CM_kind_7 rfl rfl rfl ?_
  refine zr_iload (i := 4) (x := r) (n := 11) d_CM_kind_9 rfl rfl ?_
  refine zr_if_ge (tgt := 19) (n := 14) d_CM_kind_11 rfl (by decide) (fun h1 => ?_) (fun h1 => ?_)
  · refine zr_aload_n (i := 0) (x := 0) (n := 20) d_CM_kind_19 rfl rfl rfl ?_
    refine zr_getr (n := 23) d_CM_kind_20 rfl f_CM_33 gg_0 rfl ?_
    refine zr_getr (n := 26) d_CM_kind_23 rfl f_CM_126 gg_19 rfl ?_
    refine zr_iload (i := 4) (x := r) (n := 28) d_CM_kind_26 rfl rfl ?_
    refine zr_weak (zm_LE.skip (zm_LE.cons (zm_LE.cons (zm_LE.cons (zm_LE.skip zm_LE.nil))))) ?_
    refine zr_callV (M' := M_Mt_kindAt) (mc' := 0) (ms' := 0) (av := [.int r]) (rest := []) (n := 31) d_CM_kind_28 rfl w_CM_149 w_CM_149k gg_20 rfl rfl rfl rfl rfl rfl (Nat.le_refl _) (Nat.le_refl _) ?_
    refine c_Mt_kindAt (a1 := r) j1 (o1 h1) ?_
    exact zr_ireturn d_CM_kind_31 rfl rfl (Nat.le_refl _) (Nat.le_refl _) (l1 h1)
  · refine zr_iload (i := 4) (x := r) (n := 16) d_CM_kind_14 rfl rfl ?_
    refine zr_goto (tgt := 31) d_CM_kind_16 (by decide) ?_
    exact zr_ireturn d_CM_kind_31 rfl rfl (Nat.le_refl _) (Nat.le_refl _) (l2 h1)
theorem e_CM_kind {d : Nat} {Q : zm_Q} {S : zm_S} {a1 a2 a3 : Int32} (h : zw M_CM_kind (d + 6) Q 0 [some (.ref 0), some (.int a1), some (.int a2), some (.int a3), none] [] S) : zc M_CM_kind (d + 6) [.ref 0, .int a1, .int a2, .int a3] S Q := zm_CC_intro (by decide) rfl rfl h
theorem s_CM_size_0 {d : Nat} {Q : zm_Q} {S : zm_S} {a1 a2 a3 : Int32}
    (l1 : zc M_CM_follow (d + 5) [.ref 0, .int a1, .int a2, .int a3] S (fun v G' S' => zm_WP M_CM_size none (d + 6) 0 0 Q 7 [some (.ref 0), none, none, none, none, none, none] (zm_ps v []) G' S' 0 0)) :
    zw M_CM_size (d + 6) Q 0 [some (.ref 0), some (.int a1), some (.int a2), some (.int a3), none, none, none] [] S := by
  refine zr_aload_n (i := 0) (x := 0) (n := 1) d_CM_size_0 rfl rfl rfl ?_
  refine zr_iload_n (i := 1) (x := a1) (n := 2) d_CM_size_1 rfl rfl rfl ?_
  refine zr_iload_n (i := 2) (x := a2) (n := 3) d_CM_size_2 rfl rfl rfl ?_
  refine zr_iload_n (i := 3) (x := a3) (n := 4) d_CM_size_3 rfl rfl rfl ?_
  refine zr_weak (zm_LE.cons (zm_LE.skip (zm_LE.skip (zm_LE.skip (zm_LE.cons (zm_LE.cons (zm_LE.cons zm_LE.nil))))))) ?_
  refine zr_callV (M' := M_CM_follow) (mc' := 0) (ms' := 0) (av := [.int a1, .int a2, .int a3]) (rest := []) (n := 7) d_CM_size_4 rfl w_CM_145 w_CM_145k gg_0 rfl rfl rfl rfl rfl rfl (Nat.le_refl _) (Nat.le_refl _) ?_
  exact l1
theorem s_CM_size_7 {d : Nat} {Q : zm_Q} {S : zm_S} {r : Int32} (j1 : Nat) (j2 : Nat) (o1 : 0 ≤ r → zm_ix (r + 2) j1 576) (o2 : 0 ≤ r → zm_ix r j2 576)
    (l1 : 0 ≤ r → (((S 24 j2) = 1) ∨ (¬ (S 24 j2) = 1 ∧ (S 24 j2) = 2)) → Q (some ((S 24 j1) / 4)) GG S)
    (l2 : 0 ≤ r → ¬ (S 24 j2) = 1 → ¬ (S 24 j2) = 2 → Q (some (S 24 j1)) GG S)
    (l3 : ¬ 0 ≤ r → Q (some r) GG S) :
    zw M_CM_size (d + 6) Q 7 [some (.ref 0), none, none, none, none, none, none] [.int r] S := by
  refine zr_istore (i := 4) (L' := [some (.ref 0), none, none, none, some (.int r), none, none]) (n := 9) d_CM_size_7 rfl rfl rfl ?_
  refine zr_iload (i := 4) (x := r) (n := 11) d_CM_size_9 rfl rfl ?_
  refine zr_if_ge (tgt := 17) (n := 14) d_CM_size_11 rfl (by decide) (fun h1 => ?_) (fun h1 => ?_)
  · refine zr_aload_n (i := 0) (x := 0) (n := 18) d_CM_size_17 rfl rfl rfl ?_
    refine zr_getr (n := 21) d_CM_size_18 rfl f_CM_33 gg_0 rfl ?_
    refine zr_getr (n := 24) d_CM_size_21 rfl f_CM_126 gg_19 rfl ?_
    refine zr_astore (i := 5) (L' := [some (.ref 0), none, none, none, some (.int r), some (.ref 20), none]) (n := 26) d_CM_size_24 rfl rfl rfl ?_
    refine zr_aload (i := 5) (x := 20) (n := 28) d_CM_size_26 rfl rfl ?_
    refine zr_iload (i := 4) (x := r) (n := 30) d_CM_size_28 rfl rfl ?_
    refine zr_weak (zm_LE.skip (zm_LE.cons (zm_LE.cons (zm_LE.cons (zm_LE.cons (zm_LE.cons (zm_LE.cons zm_LE.nil))))))) ?_
    refine zr_callV (M' := M_Mt_lengthAt) (mc' := 0) (ms' := 0) (av := [.int r]) (rest := []) (n := 33) d_CM_size_30 rfl w_CM_152 w_CM_152k gg_20 rfl rfl rfl rfl rfl rfl (Nat.le_refl _) (Nat.le_refl _) ?_
    refine c_Mt_lengthAt (a1 := r) j1 (o1 h1) ?_
    refine zr_istore (i := 6) (L' := [none, none, none, none, some (.int r), some (.ref 20), some (.int (S 24 j1))]) (n := 35) d_CM_size_33 rfl rfl rfl ?_
    refine zr_aload (i := 5) (x := 20) (n := 37) d_CM_size_35 rfl rfl ?_
    refine zr_iload (i := 4) (x := r) (n := 39) d_CM_size_37 rfl rfl ?_
    refine zr_weak (zm_LE.cons (zm_LE.cons (zm_LE.cons (zm_LE.cons (zm_LE.skip (zm_LE.skip (zm_LE.cons zm_LE.nil))))))) ?_
    refine zr_callV (M' := M_Mt_isDirectoryAt) (mc' := 0) (ms' := 0) (av := [.int r]) (rest := []) (n := 42) d_CM_size_39 rfl w_CM_155 w_CM_155k gg_20 rfl rfl rfl rfl rfl rfl (Nat.le_refl _) (Nat.le_refl _) ?_
    refine c_Mt_isDirectoryAt (a1 := r) j2 (o2 h1) (fun h2 => ?_) (fun h3 h4 => ?_)
    · refine zr_if_eq (tgt := 52) (n := 45) d_CM_size_42 rfl (by decide) (fun h => absurd h (by decide)) (fun _ => ?_)
      refine zr_iload (i := 6) (x := (S 24 j1)) (n := 47) d_CM_size_45 rfl rfl ?_
      refine zr_iconst (v := 4) (n := 48) d_CM_size_47 rfl (by decide) ?_
      refine zr_idiv (n := 49) d_CM_size_48 rfl (by decide) ?_
      refine zr_goto (tgt := 54) d_CM_size_49 (by decide) ?_
      exact zr_ireturn d_CM_size_54 rfl rfl (Nat.le_refl _) (Nat.le_refl _) (l1 h1 h2)
    · refine zr_if_eq (tgt := 52) (n := 45) d_CM_size_42 rfl (by decide) (fun _ => ?_) (fun h => absurd h (by decide))
      refine zr_iload (i := 6) (x := (S 24 j1)) (n := 54) d_CM_size_52 rfl rfl ?_
      exact zr_ireturn d_CM_size_54 rfl rfl (Nat.le_refl _) (Nat.le_refl _) (l2 h1 h3 h4)
  · refine zr_iload (i := 4) (x := r) (n := 16) d_CM_size_14 rfl rfl ?_
    exact zr_ireturn d_CM_size_16 rfl rfl (Nat.le_refl _) (Nat.le_refl _) (l3 h1)
theorem e_CM_size {d : Nat} {Q : zm_Q} {S : zm_S} {a1 a2 a3 : Int32} (h : zw M_CM_size (d + 6) Q 0 [some (.ref 0), some (.int a1), some (.int a2), some (.int a3), none, none, none] [] S) : zc M_CM_size (d + 6) [.ref 0, .int a1, .int a2, .int a3] S Q := zm_CC_intro (by decide) rfl rfl h
theorem s_CM_read_0 {d : Nat} {Q : zm_Q} {S : zm_S} {a1 a2 a3 a4 : Int32}
    (l1 : zc M_CM_follow (d + 5) [.ref 0, .int a1, .int a2, .int a3] S (fun v G' S' => zm_WP M_CM_read none (d + 6) 0 0 Q 7 [some (.ref 0), none, none, none, some (.int a4), none] (zm_ps v []) G' S' 0 0)) :
    zw M_CM_read (d + 6) Q 0 [some (.ref 0), some (.int a1), some (.int a2), some (.int a3), some (.int a4), none] [] S := by
  refine zr_aload_n (i := 0) (x := 0) (n := 1) d_CM_read_0 rfl rfl rfl ?_
  refine zr_iload_n (i := 1) (x := a1) (n := 2) d_CM_read_1 rfl rfl rfl ?_
  refine zr_iload_n (i := 2) (x := a2) (n := 3) d_CM_read_2 rfl rfl rfl ?_
  refine zr_iload_n (i := 3) (x := a3) (n := 4) d_CM_read_3 rfl rfl rfl ?_
  refine zr_weak (zm_LE.cons (zm_LE.skip (zm_LE.skip (zm_LE.skip (zm_LE.cons (zm_LE.cons zm_LE.nil)))))) ?_
  refine zr_callV (M' := M_CM_follow) (mc' := 0) (ms' := 0) (av := [.int a1, .int a2, .int a3]) (rest := []) (n := 7) d_CM_read_4 rfl w_CM_145 w_CM_145k gg_0 rfl rfl rfl rfl rfl rfl (Nat.le_refl _) (Nat.le_refl _) ?_
  exact l1
theorem s_CM_read_7 {d : Nat} {Q : zm_Q} {S : zm_S} {a4 r : Int32} (j1 : Nat) (j2 : Nat) (o1 : 0 ≤ r → ¬ a4 < 0 → zm_ix (r + 2) j1 576) (o2 : 0 ≤ r → ¬ a4 < 0 → a4 < (S 24 j1) → zm_ix ((r + 3) + a4) j2 576)
    (l1 : ((0 ≤ r ∧ a4 < 0) ∨ (0 ≤ r ∧ ¬ a4 < 0 ∧ ¬ a4 < (S 24 j1))) → Q (some (-2)) GG S)
    (l2 : 0 ≤ r → ¬ a4 < 0 → a4 < (S 24 j1) → Q (some (S 24 j2)) GG S)
    (l3 : ¬ 0 ≤ r → Q (some r) GG S) :
    zw M_CM_read (d + 6) Q 7 [some (.ref 0), none, none, none, some (.int a4), none] [.int r] S := by
  refine zr_istore (i := 5) (L' := [some (.ref 0), none, none, none, some (.int a4), some (.int r)]) (n := 9) d_CM_read_7 rfl rfl rfl ?_
  refine zr_iload (i := 5) (x := r) (n := 11) d_CM_read_9 rfl rfl ?_
  refine zr_if_ge (tgt := 17) (n := 14) d_CM_read_11 rfl (by decide) (fun h1 => ?_) (fun h1 => ?_)
  · refine zr_iload (i := 4) (x := a4) (n := 19) d_CM_read_17 rfl rfl ?_
    refine zr_if_lt (tgt := 39) (n := 22) d_CM_read_19 rfl (by decide) (fun h2 => ?_) (fun h2 => ?_)
    · refine zr_bipush (v := (-2)) (n := 41) d_CM_read_39 rfl (by decide) ?_
      exact zr_ireturn d_CM_read_41 rfl rfl (Nat.le_refl _) (Nat.le_refl _) (l1 (Or.inl ⟨h1, h2⟩))
    · refine zr_iload (i := 4) (x := a4) (n := 24) d_CM_read_22 rfl rfl ?_
      refine zr_aload_n (i := 0) (x := 0) (n := 25) d_CM_read_24 rfl rfl rfl ?_
      refine zr_getr (n := 28) d_CM_read_25 rfl f_CM_33 gg_0 rfl ?_
      refine zr_getr (n := 31) d_CM_read_28 rfl f_CM_126 gg_19 rfl ?_
      refine zr_iload (i := 5) (x := r) (n := 33) d_CM_read_31 rfl rfl ?_
      refine zr_callV (M' := M_Mt_lengthAt) (mc' := 0) (ms' := 0) (av := [.int r]) (rest := [.int a4]) (n := 36) d_CM_read_33 rfl w_CM_152 w_CM_152k gg_20 rfl rfl rfl rfl rfl rfl (Nat.le_refl _) (Nat.le_refl _) ?_
      refine c_Mt_lengthAt (a1 := r) j1 (o1 h1 h2) ?_
      refine zr_icmp_lt (tgt := 42) (n := 39) d_CM_read_36 rfl (by decide) (fun h3 => ?_) (fun h3 => ?_)
      · refine zr_aload_n (i := 0) (x := 0) (n := 43) d_CM_read_42 rfl rfl rfl ?_
        refine zr_getr (n := 46) d_CM_read_43 rfl f_CM_33 gg_0 rfl ?_
        refine zr_getr (n := 49) d_CM_read_46 rfl f_CM_126 gg_19 rfl ?_
        refine zr_iload (i := 5) (x := r) (n := 51) d_CM_read_49 rfl rfl ?_
        refine zr_iload (i := 4) (x := a4) (n := 53) d_CM_read_51 rfl rfl ?_
        refine zr_weak (zm_LE.skip (zm_LE.cons (zm_LE.cons (zm_LE.cons (zm_LE.skip (zm_LE.skip zm_LE.nil)))))) ?_
        refine zr_callV (M' := M_Mt_contentAt) (mc' := 0) (ms' := 0) (av := [.int r, .int a4]) (rest := []) (n := 56) d_CM_read_53 rfl w_CM_158 w_CM_158k gg_20 rfl rfl rfl rfl rfl rfl (Nat.le_refl _) (Nat.le_refl _) ?_
        refine c_Mt_contentAt (a1 := r) (a2 := a4) j2 (o2 h1 h2 h3) ?_
        exact zr_ireturn d_CM_read_56 rfl rfl (Nat.le_refl _) (Nat.le_refl _) (l2 h1 h2 h3)
      · refine zr_bipush (v := (-2)) (n := 41) d_CM_read_39 rfl (by decide) ?_
        exact zr_ireturn d_CM_read_41 rfl rfl (Nat.le_refl _) (Nat.le_refl _) (l1 (Or.inr ⟨h1, h2, h3⟩))
  · refine zr_iload (i := 5) (x := r) (n := 16) d_CM_read_14 rfl rfl ?_
    exact zr_ireturn d_CM_read_16 rfl rfl (Nat.le_refl _) (Nat.le_refl _) (l3 h1)
theorem e_CM_read {d : Nat} {Q : zm_Q} {S : zm_S} {a1 a2 a3 a4 : Int32} (h : zw M_CM_read (d + 6) Q 0 [some (.ref 0), some (.int a1), some (.int a2), some (.int a3), some (.int a4), none] [] S) : zc M_CM_read (d + 6) [.ref 0, .int a1, .int a2, .int a3, .int a4] S Q := zm_CC_intro (by decide) rfl rfl h
theorem s_CM_follow_0 {d : Nat} {Q : zm_Q} {S : zm_S} {a1 a2 a3 : Int32}
    (l1 : ((((a1 < 0) ∨ (¬ a1 < 0 ∧ 255 < a1))) ∨ (¬ a1 < 0 ∧ ¬ 255 < a1 ∧ ((a2 < 0) ∨ (¬ a2 < 0 ∧ 255 < a2))) ∨ (¬ a1 < 0 ∧ ¬ 255 < a1 ∧ ¬ a2 < 0 ∧ ¬ 255 < a2 ∧ ((a3 < 0) ∨ (¬ a3 < 0 ∧ 255 < a3)))) → Q (some (-1)) GG S)
    (l2 : ¬ a1 < 0 → ¬ 255 < a1 → ¬ a2 < 0 → ¬ 255 < a2 → ¬ a3 < 0 → ¬ 255 < a3 → zc M_Mt_gateway (d + 4) [.ref 20] S (fun v G' S' => zm_WP M_CM_follow none (d + 5) 0 0 Q 37 [none, some (.int a1), some (.int a2), some (.int a3), some (.ref 20), none] (zm_ps v []) G' S' 0 0)) :
    zw M_CM_follow (d + 5) Q 0 [some (.ref 0), some (.int a1), some (.int a2), some (.int a3), none, none] [] S := by
  refine zr_iload_n (i := 1) (x := a1) (n := 1) d_CM_follow_0 rfl rfl rfl ?_
  refine zr_callS (M' := M_CM_isByte) (mc' := 0) (ms' := 0) (av := [.int a1]) (rest := []) (n := 4) d_CM_follow_1 rfl w_CM_67 w_CM_67k rfl rfl rfl rfl rfl (Nat.le_refl _) (Nat.le_refl _) ?_
  refine c_CM_isByte (a0 := a1) (fun h1 => ?_) (fun h2 h3 => ?_)
  · refine zr_if_eq (tgt := 21) (n := 7) d_CM_follow_4 rfl (by decide) (fun _ => ?_) (fun h => absurd h (by decide))
    refine zr_iconst (v := (-1)) (n := 22) d_CM_follow_21 rfl (by decide) ?_
    exact zr_ireturn d_CM_follow_22 rfl rfl (Nat.le_refl _) (Nat.le_refl _) (l1 (Or.inl h1))
  · refine zr_if_eq (tgt := 21) (n := 7) d_CM_follow_4 rfl (by decide) (fun h => absurd h (by decide)) (fun _ => ?_)
    refine zr_iload_n (i := 2) (x := a2) (n := 8) d_CM_follow_7 rfl rfl rfl ?_
    refine zr_callS (M' := M_CM_isByte) (mc' := 0) (ms' := 0) (av := [.int a2]) (rest := []) (n := 11) d_CM_follow_8 rfl w_CM_67 w_CM_67k rfl rfl rfl rfl rfl (Nat.le_refl _) (Nat.le_refl _) ?_
    refine c_CM_isByte (a0 := a2) (fun h4 => ?_) (fun h5 h6 => ?_)
    · refine zr_if_eq (tgt := 21) (n := 14) d_CM_follow_11 rfl (by decide) (fun _ => ?_) (fun h => absurd h (by decide))
      refine zr_iconst (v := (-1)) (n := 22) d_CM_follow_21 rfl (by decide) ?_
      exact zr_ireturn d_CM_follow_22 rfl rfl (Nat.le_refl _) (Nat.le_refl _) (l1 (Or.inr (Or.inl ⟨h2, h3, h4⟩)))
    · refine zr_if_eq (tgt := 21) (n := 14) d_CM_follow_11 rfl (by decide) (fun h => absurd h (by decide)) (fun _ => ?_)
      refine zr_iload_n (i := 3) (x := a3) (n := 15) d_CM_follow_14 rfl rfl rfl ?_
      refine zr_callS (M' := M_CM_isByte) (mc' := 0) (ms' := 0) (av := [.int a3]) (rest := []) (n := 18) d_CM_follow_15 rfl w_CM_67 w_CM_67k rfl rfl rfl rfl rfl (Nat.le_refl _) (Nat.le_refl _) ?_
      refine c_CM_isByte (a0 := a3) (fun h7 => ?_) (fun h8 h9 => ?_)
      · refine zr_if_ne (tgt := 23) (n := 21) d_CM_follow_18 rfl (by decide) (fun h => absurd h (by decide)) (fun _ => ?_)
        refine zr_iconst (v := (-1)) (n := 22) d_CM_follow_21 rfl (by decide) ?_
        exact zr_ireturn d_CM_follow_22 rfl rfl (Nat.le_refl _) (Nat.le_refl _) (l1 (Or.inr (Or.inr ⟨h2, h3, h5, h6, h7⟩)))
      · refine zr_if_ne (tgt := 23) (n := 21) d_CM_follow_18 rfl (by decide) (fun _ => ?_) (fun h => absurd h (by decide))
        refine zr_aload_n (i := 0) (x := 0) (n := 24) d_CM_follow_23 rfl rfl rfl ?_
        refine zr_getr (n := 27) d_CM_follow_24 rfl f_CM_33 gg_0 rfl ?_
        refine zr_getr (n := 30) d_CM_follow_27 rfl f_CM_126 gg_19 rfl ?_
        refine zr_astore (i := 4) (L' := [some (.ref 0), some (.int a1), some (.int a2), some (.int a3), some (.ref 20), none]) (n := 32) d_CM_follow_30 rfl rfl rfl ?_
        refine zr_aload (i := 4) (x := 20) (n := 34) d_CM_follow_32 rfl rfl ?_
        refine zr_weak (zm_LE.skip (zm_LE.cons (zm_LE.cons (zm_LE.cons (zm_LE.cons (zm_LE.cons zm_LE.nil)))))) ?_
        refine zr_callV (M' := M_Mt_gateway) (mc' := 0) (ms' := 0) (av := []) (rest := []) (n := 37) d_CM_follow_34 rfl w_CM_161 w_CM_161k gg_20 rfl rfl rfl rfl rfl rfl (Nat.le_refl _) (Nat.le_refl _) ?_
        exact (l2 h2 h3 h5 h6 h8 h9)
theorem s_CM_follow_37 {d : Nat} {Q : zm_Q} {S : zm_S} {a1 a2 a3 r : Int32}
    (l1 : ((a1 = 0) ∨ (¬ a1 = 0 ∧ ¬ 0 ≤ r)) → Q (some r) GG S)
    (l2 : ¬ a1 = 0 → 0 ≤ r → zc M_Mt_enter (d + 4) [.ref 20, .int r, .int a1] S (fun v G' S' => zm_WP M_CM_follow none (d + 5) 0 0 Q 59 [none, none, some (.int a2), some (.int a3), some (.ref 20), none] (zm_ps v []) G' S' 0 0)) :
    zw M_CM_follow (d + 5) Q 37 [none, some (.int a1), some (.int a2), some (.int a3), some (.ref 20), none] [.int r] S := by
  refine zr_istore (i := 5) (L' := [none, some (.int a1), some (.int a2), some (.int a3), some (.ref 20), some (.int r)]) (n := 39) d_CM_follow_37 rfl rfl rfl ?_
  refine zr_iload_n (i := 1) (x := a1) (n := 40) d_CM_follow_39 rfl rfl rfl ?_
  refine zr_if_eq (tgt := 48) (n := 43) d_CM_follow_40 rfl (by decide) (fun h1 => ?_) (fun h1 => ?_)
  · refine zr_iload (i := 5) (x := r) (n := 50) d_CM_follow_48 rfl rfl ?_
    exact zr_ireturn d_CM_follow_50 rfl rfl (Nat.le_refl _) (Nat.le_refl _) (l1 (Or.inl h1))
  · refine zr_iload (i := 5) (x := r) (n := 45) d_CM_follow_43 rfl rfl ?_
    refine zr_if_ge (tgt := 51) (n := 48) d_CM_follow_45 rfl (by decide) (fun h2 => ?_) (fun h2 => ?_)
    · refine zr_aload (i := 4) (x := 20) (n := 53) d_CM_follow_51 rfl rfl ?_
      refine zr_iload (i := 5) (x := r) (n := 55) d_CM_follow_53 rfl rfl ?_
      refine zr_iload_n (i := 1) (x := a1) (n := 56) d_CM_follow_55 rfl rfl rfl ?_
      refine zr_weak (zm_LE.cons (zm_LE.skip (zm_LE.cons (zm_LE.cons (zm_LE.cons (zm_LE.skip zm_LE.nil)))))) ?_
      refine zr_callV (M' := M_Mt_enter) (mc' := 0) (ms' := 0) (av := [.int r, .int a1]) (rest := []) (n := 59) d_CM_follow_56 rfl w_CM_164 w_CM_164k gg_20 rfl rfl rfl rfl rfl rfl (Nat.le_refl _) (Nat.le_refl _) ?_
      exact (l2 h1 h2)
    · refine zr_iload (i := 5) (x := r) (n := 50) d_CM_follow_48 rfl rfl ?_
      exact zr_ireturn d_CM_follow_50 rfl rfl (Nat.le_refl _) (Nat.le_refl _) (l1 (Or.inr ⟨h1, h2⟩))
theorem s_CM_follow_59 {d : Nat} {Q : zm_Q} {S : zm_S} {a2 a3 r : Int32}
    (l1 : ((a2 = 0) ∨ (¬ a2 = 0 ∧ ¬ 0 ≤ r)) → Q (some r) GG S)
    (l2 : ¬ a2 = 0 → 0 ≤ r → zc M_Mt_enter (d + 4) [.ref 20, .int r, .int a2] S (fun v G' S' => zm_WP M_CM_follow none (d + 5) 0 0 Q 81 [none, none, none, some (.int a3), some (.ref 20), none] (zm_ps v []) G' S' 0 0)) :
    zw M_CM_follow (d + 5) Q 59 [none, none, some (.int a2), some (.int a3), some (.ref 20), none] [.int r] S := by
  refine zr_istore (i := 5) (L' := [none, none, some (.int a2), some (.int a3), some (.ref 20), some (.int r)]) (n := 61) d_CM_follow_59 rfl rfl rfl ?_
  refine zr_iload_n (i := 2) (x := a2) (n := 62) d_CM_follow_61 rfl rfl rfl ?_
  refine zr_if_eq (tgt := 70) (n := 65) d_CM_follow_62 rfl (by decide) (fun h1 => ?_) (fun h1 => ?_)
  · refine zr_iload (i := 5) (x := r) (n := 72) d_CM_follow_70 rfl rfl ?_
    exact zr_ireturn d_CM_follow_72 rfl rfl (Nat.le_refl _) (Nat.le_refl _) (l1 (Or.inl h1))
  · refine zr_iload (i := 5) (x := r) (n := 67) d_CM_follow_65 rfl rfl ?_
    refine zr_if_ge (tgt := 73) (n := 70) d_CM_follow_67 rfl (by decide) (fun h2 => ?_) (fun h2 => ?_)
    · refine zr_aload (i := 4) (x := 20) (n := 75) d_CM_follow_73 rfl rfl ?_
      refine zr_iload (i := 5) (x := r) (n := 77) d_CM_follow_75 rfl rfl ?_
      refine zr_iload_n (i := 2) (x := a2) (n := 78) d_CM_follow_77 rfl rfl rfl ?_
      refine zr_weak (zm_LE.cons (zm_LE.cons (zm_LE.skip (zm_LE.cons (zm_LE.cons (zm_LE.skip zm_LE.nil)))))) ?_
      refine zr_callV (M' := M_Mt_enter) (mc' := 0) (ms' := 0) (av := [.int r, .int a2]) (rest := []) (n := 81) d_CM_follow_78 rfl w_CM_164 w_CM_164k gg_20 rfl rfl rfl rfl rfl rfl (Nat.le_refl _) (Nat.le_refl _) ?_
      exact (l2 h1 h2)
    · refine zr_iload (i := 5) (x := r) (n := 72) d_CM_follow_70 rfl rfl ?_
      exact zr_ireturn d_CM_follow_72 rfl rfl (Nat.le_refl _) (Nat.le_refl _) (l1 (Or.inr ⟨h1, h2⟩))
theorem s_CM_follow_81 {d : Nat} {Q : zm_Q} {S : zm_S} {a3 r : Int32}
    (l1 : ((a3 = 0) ∨ (¬ a3 = 0 ∧ ¬ 0 ≤ r)) → Q (some r) GG S)
    (l2 : ¬ a3 = 0 → 0 ≤ r → zc M_Mt_enter (d + 4) [.ref 20, .int r, .int a3] S (fun v G' S' => zm_WP M_CM_follow none (d + 5) 0 0 Q 103 [none, none, none, none, none, none] (zm_ps v []) G' S' 0 0)) :
    zw M_CM_follow (d + 5) Q 81 [none, none, none, some (.int a3), some (.ref 20), none] [.int r] S := by
  refine zr_istore (i := 5) (L' := [none, none, none, some (.int a3), some (.ref 20), some (.int r)]) (n := 83) d_CM_follow_81 rfl rfl rfl ?_
  refine zr_iload_n (i := 3) (x := a3) (n := 84) d_CM_follow_83 rfl rfl rfl ?_
  refine zr_if_eq (tgt := 92) (n := 87) d_CM_follow_84 rfl (by decide) (fun h1 => ?_) (fun h1 => ?_)
  · refine zr_iload (i := 5) (x := r) (n := 94) d_CM_follow_92 rfl rfl ?_
    exact zr_ireturn d_CM_follow_94 rfl rfl (Nat.le_refl _) (Nat.le_refl _) (l1 (Or.inl h1))
  · refine zr_iload (i := 5) (x := r) (n := 89) d_CM_follow_87 rfl rfl ?_
    refine zr_if_ge (tgt := 95) (n := 92) d_CM_follow_89 rfl (by decide) (fun h2 => ?_) (fun h2 => ?_)
    · refine zr_aload (i := 4) (x := 20) (n := 97) d_CM_follow_95 rfl rfl ?_
      refine zr_iload (i := 5) (x := r) (n := 99) d_CM_follow_97 rfl rfl ?_
      refine zr_iload_n (i := 3) (x := a3) (n := 100) d_CM_follow_99 rfl rfl rfl ?_
      refine zr_weak (zm_LE.cons (zm_LE.cons (zm_LE.cons (zm_LE.skip (zm_LE.skip (zm_LE.skip zm_LE.nil)))))) ?_
      refine zr_callV (M' := M_Mt_enter) (mc' := 0) (ms' := 0) (av := [.int r, .int a3]) (rest := []) (n := 103) d_CM_follow_100 rfl w_CM_164 w_CM_164k gg_20 rfl rfl rfl rfl rfl rfl (Nat.le_refl _) (Nat.le_refl _) ?_
      exact (l2 h1 h2)
    · refine zr_iload (i := 5) (x := r) (n := 94) d_CM_follow_92 rfl rfl ?_
      exact zr_ireturn d_CM_follow_94 rfl rfl (Nat.le_refl _) (Nat.le_refl _) (l1 (Or.inr ⟨h1, h2⟩))
theorem s_CM_follow_103 {d : Nat} {Q : zm_Q} {S : zm_S} {r : Int32}
    (l1 : Q (some r) GG S) :
    zw M_CM_follow (d + 5) Q 103 [none, none, none, none, none, none] [.int r] S := by
  exact zr_ireturn d_CM_follow_103 rfl rfl (Nat.le_refl _) (Nat.le_refl _) l1
theorem e_CM_follow {d : Nat} {Q : zm_Q} {S : zm_S} {a1 a2 a3 : Int32} (h : zw M_CM_follow (d + 5) Q 0 [some (.ref 0), some (.int a1), some (.int a2), some (.int a3), none, none] [] S) : zc M_CM_follow (d + 5) [.ref 0, .int a1, .int a2, .int a3] S Q := zm_CC_intro (by decide) rfl rfl h
theorem s_CM_checkOf_0 {d : Nat} {Q : zm_Q} {S : zm_S} {a1 a2 : Int32} {ra N : Nat} (hg : GG[ra]? = some (.inl (false, N)))
    (l1 : zw M_CM_checkOf d Q 5 [some (.ref ra), none, some (.int a2), some (.int (-1)), some (.int a1), none] [] S) :
    zw M_CM_checkOf d Q 0 [some (.ref ra), some (.int a1), some (.int a2), none, none, none] [] S := by
  refine zr_iconst (v := (-1)) (n := 1) d_CM_checkOf_0 rfl (by decide) ?_
  refine zr_istore_n (i := 3) (L' := [some (.ref ra), some (.int a1), some (.int a2), some (.int (-1)), none, none]) (n := 2) d_CM_checkOf_1 rfl rfl rfl rfl ?_
  refine zr_iload_n (i := 1) (x := a1) (n := 3) d_CM_checkOf_2 rfl rfl rfl ?_
  refine zr_istore (i := 4) (L' := [some (.ref ra), some (.int a1), some (.int a2), some (.int (-1)), some (.int a1), none]) (n := 5) d_CM_checkOf_3 rfl rfl rfl ?_
  exact zr_weak (zm_LE.cons (zm_LE.skip (zm_LE.cons (zm_LE.cons (zm_LE.cons (zm_LE.cons zm_LE.nil)))))) l1
theorem s_CM_checkOf_5 {d : Nat} {Q : zm_Q} {S : zm_S} {a2 a3 a4 : Int32} {ra N : Nat} (hg : GG[ra]? = some (.inl (false, N))) (j1 : Nat) (o1 : ¬ a2 ≤ a4 → zm_ix a4 j1 N)
    (l1 : a2 ≤ a4 → Q (some a3) GG S)
    (l2 : ¬ a2 ≤ a4 → zw M_CM_checkOf d Q 24 [some (.ref ra), none, some (.int a2), some (.int (a3 ^^^ ((S ra j1) <<< (24 &&& 31)))), some (.int a4), some (.int 0)] [] S) :
    zw M_CM_checkOf d Q 5 [some (.ref ra), none, some (.int a2), some (.int a3), some (.int a4), none] [] S := by
  refine zr_iload (i := 4) (x := a4) (n := 7) d_CM_checkOf_5 rfl rfl ?_
  refine zr_iload_n (i := 2) (x := a2) (n := 8) d_CM_checkOf_7 rfl rfl rfl ?_
  refine zr_icmp_ge (tgt := 60) (n := 11) d_CM_checkOf_8 rfl (by decide) (fun h1 => ?_) (fun h1 => ?_)
  · refine zr_iload_n (i := 3) (x := a3) (n := 61) d_CM_checkOf_60 rfl rfl rfl ?_
    exact zr_ireturn d_CM_checkOf_61 rfl rfl (Nat.le_refl _) (Nat.le_refl _) (l1 h1)
  · refine zr_iload_n (i := 3) (x := a3) (n := 12) d_CM_checkOf_11 rfl rfl rfl ?_
    refine zr_aload_n (i := 0) (x := ra) (n := 13) d_CM_checkOf_12 rfl rfl rfl ?_
    refine zr_iload (i := 4) (x := a4) (n := 15) d_CM_checkOf_13 rfl rfl ?_
    refine zr_iaload j1 (n := 16) d_CM_checkOf_15 rfl hg (o1 h1) ?_
    refine zr_bipush (v := 24) (n := 18) d_CM_checkOf_16 rfl (by decide) ?_
    refine zr_ishl (n := 19) d_CM_checkOf_18 rfl ?_
    refine zr_ixor (n := 20) d_CM_checkOf_19 rfl ?_
    refine zr_istore_n (i := 3) (L' := [some (.ref ra), none, some (.int a2), some (.int (a3 ^^^ ((S ra j1) <<< (24 &&& 31)))), some (.int a4), none]) (n := 21) d_CM_checkOf_20 rfl rfl rfl rfl ?_
    refine zr_iconst (v := 0) (n := 22) d_CM_checkOf_21 rfl (by decide) ?_
    refine zr_istore (i := 5) (L' := [some (.ref ra), none, some (.int a2), some (.int (a3 ^^^ ((S ra j1) <<< (24 &&& 31)))), some (.int a4), some (.int 0)]) (n := 24) d_CM_checkOf_22 rfl rfl rfl ?_
    exact (l2 h1)
theorem s_CM_checkOf_24 {d : Nat} {Q : zm_Q} {S : zm_S} {a2 a3 a4 a5 : Int32} {ra N : Nat} (hg : GG[ra]? = some (.inl (false, N)))
    (l1 : 8 ≤ a5 → zw M_CM_checkOf d Q 5 [some (.ref ra), none, some (.int a2), some (.int a3), some (.int (a4 + 1)), none] [] S)
    (l2 : ¬ 8 ≤ a5 → 0 ≤ a3 → zw M_CM_checkOf d Q 24 [some (.ref ra), none, some (.int a2), some (.int (a3 <<< (1 &&& 31))), some (.int a4), some (.int (a5 + 1))] [] S)
    (l3 : ¬ 8 ≤ a5 → ¬ 0 ≤ a3 → zw M_CM_checkOf d Q 24 [some (.ref ra), none, some (.int a2), some (.int ((a3 <<< (1 &&& 31)) ^^^ 79764919)), some (.int a4), some (.int (a5 + 1))] [] S) :
    zw M_CM_checkOf d Q 24 [some (.ref ra), none, some (.int a2), some (.int a3), some (.int a4), some (.int a5)] [] S := by
  refine zr_iload (i := 5) (x := a5) (n := 26) d_CM_checkOf_24 rfl rfl ?_
  refine zr_bipush (v := 8) (n := 28) d_CM_checkOf_26 rfl (by decide) ?_
  refine zr_icmp_ge (tgt := 54) (n := 31) d_CM_checkOf_28 rfl (by decide) (fun h1 => ?_) (fun h1 => ?_)
  · refine zr_iinc (i := 4) (w := 1) (x := a4) (L' := [some (.ref ra), none, some (.int a2), some (.int a3), some (.int (a4 + 1)), some (.int a5)]) (n := 57) d_CM_checkOf_54 rfl (by decide) rfl rfl ?_
    refine zr_goto (tgt := 5) d_CM_checkOf_57 (by decide) ?_
    exact zr_weak (zm_LE.cons (zm_LE.cons (zm_LE.cons (zm_LE.cons (zm_LE.cons (zm_LE.skip zm_LE.nil)))))) (l1 h1)
  · refine zr_iload_n (i := 3) (x := a3) (n := 32) d_CM_checkOf_31 rfl rfl rfl ?_
    refine zr_if_ge (tgt := 44) (n := 35) d_CM_checkOf_32 rfl (by decide) (fun h2 => ?_) (fun h2 => ?_)
    · refine zr_iload_n (i := 3) (x := a3) (n := 45) d_CM_checkOf_44 rfl rfl rfl ?_
      refine zr_iconst (v := 1) (n := 46) d_CM_checkOf_45 rfl (by decide) ?_
      refine zr_ishl (n := 47) d_CM_checkOf_46 rfl ?_
      refine zr_istore_n (i := 3) (L' := [some (.ref ra), none, some (.int a2), some (.int (a3 <<< (1 &&& 31))), some (.int a4), some (.int a5)]) (n := 48) d_CM_checkOf_47 rfl rfl rfl rfl ?_
      refine zr_iinc (i := 5) (w := 1) (x := a5) (L' := [some (.ref ra), none, some (.int a2), some (.int (a3 <<< (1 &&& 31))), some (.int a4), some (.int (a5 + 1))]) (n := 51) d_CM_checkOf_48 rfl (by decide) rfl rfl ?_
      refine zr_goto (tgt := 24) d_CM_checkOf_51 (by decide) ?_
      exact (l2 h1 h2)
    · refine zr_iload_n (i := 3) (x := a3) (n := 36) d_CM_checkOf_35 rfl rfl rfl ?_
      refine zr_iconst (v := 1) (n := 37) d_CM_checkOf_36 rfl (by decide) ?_
      refine zr_ishl (n := 38) d_CM_checkOf_37 rfl ?_
      refine zr_ldc (v := 79764919) (n := 40) d_CM_checkOf_38 rfl k_CM_167 ?_
      refine zr_ixor (n := 41) d_CM_checkOf_40 rfl ?_
      refine zr_goto (tgt := 47) d_CM_checkOf_41 (by decide) ?_
      refine zr_istore_n (i := 3) (L' := [some (.ref ra), none, some (.int a2), some (.int ((a3 <<< (1 &&& 31)) ^^^ 79764919)), some (.int a4), some (.int a5)]) (n := 48) d_CM_checkOf_47 rfl rfl rfl rfl ?_
      refine zr_iinc (i := 5) (w := 1) (x := a5) (L' := [some (.ref ra), none, some (.int a2), some (.int ((a3 <<< (1 &&& 31)) ^^^ 79764919)), some (.int a4), some (.int (a5 + 1))]) (n := 51) d_CM_checkOf_48 rfl (by decide) rfl rfl ?_
      refine zr_goto (tgt := 24) d_CM_checkOf_51 (by decide) ?_
      exact (l3 h1 h2)
theorem e_CM_checkOf {d : Nat} {Q : zm_Q} {S : zm_S} {a1 a2 : Int32} {ra : Nat} (h : zw M_CM_checkOf d Q 0 [some (.ref ra), some (.int a1), some (.int a2), none, none, none] [] S) : zc M_CM_checkOf d [.ref ra, .int a1, .int a2] S Q := zm_CC_intro (by decide) rfl rfl h
theorem s_Ed_renew_0 {d : Nat} {Q : zm_Q} {S : zm_S}
    (l1 : zc M_Ed_arrange (d + 3) [.ref 7, .ref 1] (zm_up S 7 0 ((S 7 0) + 1)) (fun v G' S' => zm_WP M_Ed_renew none (d + 4) 0 0 Q 15 [some (.ref 7), some (.ref 1), none, none] (zm_ps v []) G' S' 0 0)) :
    zw M_Ed_renew (d + 4) Q 0 [some (.ref 7), some (.ref 1), none, none] [] S := by
  refine zr_aload_n (i := 0) (x := 7) (n := 1) d_Ed_renew_0 rfl rfl rfl ?_
  refine zr_dup (n := 2) d_Ed_renew_1 rfl rfl ?_
  refine zr_geti (n := 5) d_Ed_renew_2 rfl f_Ed_9 gg_7 rfl ?_
  refine zr_iconst (v := 1) (n := 6) d_Ed_renew_5 rfl (by decide) ?_
  refine zr_iadd (n := 7) d_Ed_renew_6 rfl ?_
  refine zr_puti (n := 10) d_Ed_renew_7 rfl f_Ed_9 tw_Ed rfl rfl rfl rfl gg_7 rfl ?_
  refine zr_aload_n (i := 0) (x := 7) (n := 11) d_Ed_renew_10 rfl rfl rfl ?_
  refine zr_aload_n (i := 1) (x := 1) (n := 12) d_Ed_renew_11 rfl rfl rfl ?_
  refine zr_callV (M' := M_Ed_arrange) (mc' := 0) (ms' := 0) (av := [.ref 1]) (rest := []) (n := 15) d_Ed_renew_12 rfl w_Ed_43 w_Ed_43k gg_7 rfl rfl rfl rfl rfl rfl (Nat.le_refl _) (Nat.le_refl _) ?_
  exact l1
theorem s_Ed_renew_15 {d : Nat} {Q : zm_Q} {S : zm_S}
    (l1 : zc M_Ed_assignModules (d + 3) [.ref 7, .ref 1] S (fun v G' S' => zm_WP M_Ed_renew none (d + 4) 0 0 Q 20 [some (.ref 7), some (.ref 1), none, none] (zm_ps v []) G' S' 0 0)) :
    zw M_Ed_renew (d + 4) Q 15 [some (.ref 7), some (.ref 1), none, none] [] S := by
  refine zr_aload_n (i := 0) (x := 7) (n := 16) d_Ed_renew_15 rfl rfl rfl ?_
  refine zr_aload_n (i := 1) (x := 1) (n := 17) d_Ed_renew_16 rfl rfl rfl ?_
  refine zr_callV (M' := M_Ed_assignModules) (mc' := 0) (ms' := 0) (av := [.ref 1]) (rest := []) (n := 20) d_Ed_renew_17 rfl w_Ed_47 w_Ed_47k gg_7 rfl rfl rfl rfl rfl rfl (Nat.le_refl _) (Nat.le_refl _) ?_
  exact l1
theorem s_Ed_renew_20 {d : Nat} {Q : zm_Q} {S : zm_S} {r : Int32}
    (l1 : zw M_Ed_renew (d + 4) Q 23 [some (.ref 7), some (.ref 1), some (.int r), some (.int 0)] [] S) :
    zw M_Ed_renew (d + 4) Q 20 [some (.ref 7), some (.ref 1), none, none] [.int r] S := by
  refine zr_istore_n (i := 2) (L' := [some (.ref 7), some (.ref 1), some (.int r), none]) (n := 21) d_Ed_renew_20 rfl rfl rfl rfl ?_
  refine zr_iconst (v := 0) (n := 22) d_Ed_renew_21 rfl (by decide) ?_
  refine zr_istore_n (i := 3) (L' := [some (.ref 7), some (.ref 1), some (.int r), some (.int 0)]) (n := 23) d_Ed_renew_22 rfl rfl rfl rfl ?_
  exact l1
theorem s_Ed_renew_23 {d : Nat} {Q : zm_Q} {S : zm_S} {a2 a3 : Int32}
    (l1 : a2 ≤ a3 → Q none GG (zm_up S 7 1 a2))
    (l2 : ¬ a2 ≤ a3 → zc M_Ed_draftModule (d + 3) [.ref 7, .ref 1, .int a3] S (fun v G' S' => zm_WP M_Ed_renew none (d + 4) 0 0 Q 34 [some (.ref 7), some (.ref 1), some (.int a2), some (.int a3)] (zm_ps v []) G' S' 0 0)) :
    zw M_Ed_renew (d + 4) Q 23 [some (.ref 7), some (.ref 1), some (.int a2), some (.int a3)] [] S := by
  refine zr_iload_n (i := 3) (x := a3) (n := 24) d_Ed_renew_23 rfl rfl rfl ?_
  refine zr_iload_n (i := 2) (x := a2) (n := 25) d_Ed_renew_24 rfl rfl rfl ?_
  refine zr_icmp_ge (tgt := 45) (n := 28) d_Ed_renew_25 rfl (by decide) (fun h1 => ?_) (fun h1 => ?_)
  · refine zr_aload_n (i := 0) (x := 7) (n := 46) d_Ed_renew_45 rfl rfl rfl ?_
    refine zr_iload_n (i := 2) (x := a2) (n := 47) d_Ed_renew_46 rfl rfl rfl ?_
    refine zr_puti (n := 50) d_Ed_renew_47 rfl f_Ed_15 tw_Ed rfl rfl rfl rfl gg_7 rfl ?_
    exact zr_return d_Ed_renew_50 rfl (Nat.le_refl _) (Nat.le_refl _) (l1 h1)
  · refine zr_aload_n (i := 0) (x := 7) (n := 29) d_Ed_renew_28 rfl rfl rfl ?_
    refine zr_aload_n (i := 1) (x := 1) (n := 30) d_Ed_renew_29 rfl rfl rfl ?_
    refine zr_iload_n (i := 3) (x := a3) (n := 31) d_Ed_renew_30 rfl rfl rfl ?_
    refine zr_callV (M' := M_Ed_draftModule) (mc' := 0) (ms' := 0) (av := [.ref 1, .int a3]) (rest := []) (n := 34) d_Ed_renew_31 rfl w_Ed_51 w_Ed_51k gg_7 rfl rfl rfl rfl rfl rfl (Nat.le_refl _) (Nat.le_refl _) ?_
    exact (l2 h1)
theorem s_Ed_renew_34 {d : Nat} {Q : zm_Q} {S : zm_S} {a2 a3 : Int32}
    (l1 : zc M_Ed_keepDraft (d + 3) [.ref 7, .int a3] S (fun v G' S' => zm_WP M_Ed_renew none (d + 4) 0 0 Q 39 [some (.ref 7), some (.ref 1), some (.int a2), some (.int a3)] (zm_ps v []) G' S' 0 0)) :
    zw M_Ed_renew (d + 4) Q 34 [some (.ref 7), some (.ref 1), some (.int a2), some (.int a3)] [] S := by
  refine zr_aload_n (i := 0) (x := 7) (n := 35) d_Ed_renew_34 rfl rfl rfl ?_
  refine zr_iload_n (i := 3) (x := a3) (n := 36) d_Ed_renew_35 rfl rfl rfl ?_
  refine zr_callV (M' := M_Ed_keepDraft) (mc' := 0) (ms' := 0) (av := [.int a3]) (rest := []) (n := 39) d_Ed_renew_36 rfl w_Ed_55 w_Ed_55k gg_7 rfl rfl rfl rfl rfl rfl (Nat.le_refl _) (Nat.le_refl _) ?_
  exact l1
theorem s_Ed_renew_39 {d : Nat} {Q : zm_Q} {S : zm_S} {a2 a3 : Int32}
    (l1 : zw M_Ed_renew (d + 4) Q 23 [some (.ref 7), some (.ref 1), some (.int a2), some (.int (a3 + 1))] [] S) :
    zw M_Ed_renew (d + 4) Q 39 [some (.ref 7), some (.ref 1), some (.int a2), some (.int a3)] [] S := by
  refine zr_iinc (i := 3) (w := 1) (x := a3) (L' := [some (.ref 7), some (.ref 1), some (.int a2), some (.int (a3 + 1))]) (n := 42) d_Ed_renew_39 rfl (by decide) rfl rfl ?_
  refine zr_goto (tgt := 23) d_Ed_renew_42 (by decide) ?_
  exact l1
theorem e_Ed_renew {d : Nat} {Q : zm_Q} {S : zm_S} (h : zw M_Ed_renew (d + 4) Q 0 [some (.ref 7), some (.ref 1), none, none] [] S) : zc M_Ed_renew (d + 4) [.ref 7, .ref 1] S Q := zm_CC_intro (by decide) rfl rfl h
theorem s_Ed_arrange_0 {d : Nat} {Q : zm_Q} {S : zm_S}
    (l1 : zw M_Ed_arrange (d + 2) Q 9 [some (.ref 7), some (.ref 1), some (.int 0), some (.int 0)] [] (zm_up S 7 6 0)) :
    zw M_Ed_arrange (d + 2) Q 0 [some (.ref 7), some (.ref 1), none, none] [] S := by
  refine zr_aload_n (i := 0) (x := 7) (n := 1) d_Ed_arrange_0 rfl rfl rfl ?_
  refine zr_iconst (v := 0) (n := 2) d_Ed_arrange_1 rfl (by decide) ?_
  refine zr_puti (n := 5) d_Ed_arrange_2 rfl f_Ed_31 tw_Ed rfl rfl rfl rfl gg_7 rfl ?_
  refine zr_iconst (v := 0) (n := 6) d_Ed_arrange_5 rfl (by decide) ?_
  refine zr_istore_n (i := 2) (L' := [some (.ref 7), some (.ref 1), some (.int 0), none]) (n := 7) d_Ed_arrange_6 rfl rfl rfl rfl ?_
  refine zr_iconst (v := 0) (n := 8) d_Ed_arrange_7 rfl (by decide) ?_
  refine zr_istore_n (i := 3) (L' := [some (.ref 7), some (.ref 1), some (.int 0), some (.int 0)]) (n := 9) d_Ed_arrange_8 rfl rfl rfl rfl ?_
  exact l1
theorem s_Ed_arrange_9 {d : Nat} {Q : zm_Q} {S : zm_S} {a2 a3 : Int32} (j1 : Nat) (o1 : ¬ 12 ≤ a3 → ¬ a2 = (-1) → zm_ix a3 j1 12)
    (l1 : ((12 ≤ a3) ∨ (¬ 12 ≤ a3 ∧ a2 = (-1))) → Q none GG S)
    (l2 : ¬ 12 ≤ a3 → ¬ a2 = (-1) → zc M_Tree_followerOf (d + 1) [.ref 1, .int a2] (zm_up (zm_up S 11 j1 a2) 7 6 ((S 7 6) + 1)) (fun v G' S' => zm_WP M_Ed_arrange none (d + 2) 0 0 Q 42 [some (.ref 7), some (.ref 1), none, some (.int a3)] (zm_ps v []) G' S' 0 0)) :
    zw M_Ed_arrange (d + 2) Q 9 [some (.ref 7), some (.ref 1), some (.int a2), some (.int a3)] [] S := by
  refine zr_iload_n (i := 3) (x := a3) (n := 10) d_Ed_arrange_9 rfl rfl rfl ?_
  refine zr_bipush (v := 12) (n := 12) d_Ed_arrange_10 rfl (by decide) ?_
  refine zr_icmp_ge (tgt := 49) (n := 15) d_Ed_arrange_12 rfl (by decide) (fun h1 => ?_) (fun h1 => ?_)
  · exact zr_return d_Ed_arrange_49 rfl (Nat.le_refl _) (Nat.le_refl _) (l1 (Or.inl h1))
  · refine zr_iload_n (i := 2) (x := a2) (n := 16) d_Ed_arrange_15 rfl rfl rfl ?_
    refine zr_iconst (v := (-1)) (n := 17) d_Ed_arrange_16 rfl (by decide) ?_
    refine zr_icmp_eq (tgt := 49) (n := 20) d_Ed_arrange_17 rfl (by decide) (fun h2 => ?_) (fun h2 => ?_)
    · exact zr_return d_Ed_arrange_49 rfl (Nat.le_refl _) (Nat.le_refl _) (l1 (Or.inr ⟨h1, h2⟩))
    · refine zr_aload_n (i := 0) (x := 7) (n := 21) d_Ed_arrange_20 rfl rfl rfl ?_
      refine zr_getr (n := 24) d_Ed_arrange_21 rfl f_Ed_28 gg_7 rfl ?_
      refine zr_iload_n (i := 3) (x := a3) (n := 25) d_Ed_arrange_24 rfl rfl rfl ?_
      refine zr_iload_n (i := 2) (x := a2) (n := 26) d_Ed_arrange_25 rfl rfl rfl ?_
      refine zr_iastore j1 (n := 27) d_Ed_arrange_26 rfl gg_11 (o1 h1 h2) ?_
      refine zr_aload_n (i := 0) (x := 7) (n := 28) d_Ed_arrange_27 rfl rfl rfl ?_
      refine zr_dup (n := 29) d_Ed_arrange_28 rfl rfl ?_
      refine zr_geti (n := 32) d_Ed_arrange_29 rfl f_Ed_31 gg_7 rfl ?_
      refine zr_iconst (v := 1) (n := 33) d_Ed_arrange_32 rfl (by decide) ?_
      refine zr_iadd (n := 34) d_Ed_arrange_33 rfl ?_
      refine zr_puti (n := 37) d_Ed_arrange_34 rfl f_Ed_31 tw_Ed rfl rfl rfl rfl gg_7 rfl ?_
      refine zr_aload_n (i := 1) (x := 1) (n := 38) d_Ed_arrange_37 rfl rfl rfl ?_
      refine zr_iload_n (i := 2) (x := a2) (n := 39) d_Ed_arrange_38 rfl rfl rfl ?_
      refine zr_weak (zm_LE.cons (zm_LE.cons (zm_LE.skip (zm_LE.cons zm_LE.nil)))) ?_
      refine zr_callV (M' := M_Tree_followerOf) (mc' := 0) (ms' := 0) (av := [.int a2]) (rest := []) (n := 42) d_Ed_arrange_39 rfl w_Ed_59 w_Ed_59k gg_1 rfl rfl rfl rfl rfl rfl (Nat.le_refl _) (Nat.le_refl _) ?_
      exact (l2 h1 h2)
theorem s_Ed_arrange_42 {d : Nat} {Q : zm_Q} {S : zm_S} {a3 r : Int32}
    (l1 : zw M_Ed_arrange (d + 2) Q 9 [some (.ref 7), some (.ref 1), some (.int r), some (.int (a3 + 1))] [] S) :
    zw M_Ed_arrange (d + 2) Q 42 [some (.ref 7), some (.ref 1), none, some (.int a3)] [.int r] S := by
  refine zr_istore_n (i := 2) (L' := [some (.ref 7), some (.ref 1), some (.int r), some (.int a3)]) (n := 43) d_Ed_arrange_42 rfl rfl rfl rfl ?_
  refine zr_iinc (i := 3) (w := 1) (x := a3) (L' := [some (.ref 7), some (.ref 1), some (.int r), some (.int (a3 + 1))]) (n := 46) d_Ed_arrange_43 rfl (by decide) rfl rfl ?_
  refine zr_goto (tgt := 9) d_Ed_arrange_46 (by decide) ?_
  exact l1
theorem e_Ed_arrange {d : Nat} {Q : zm_Q} {S : zm_S} (h : zw M_Ed_arrange (d + 2) Q 0 [some (.ref 7), some (.ref 1), none, none] [] S) : zc M_Ed_arrange (d + 2) [.ref 7, .ref 1] S Q := zm_CC_intro (by decide) rfl rfl h
theorem s_Ed_assignModules_0 {d : Nat} {Q : zm_Q} {S : zm_S}
    (l1 : zw M_Ed_assignModules (d + 2) Q 7 [some (.ref 7), some (.ref 1), some (.int 0), some (.int 0), some (.int 0), none] [] S) :
    zw M_Ed_assignModules (d + 2) Q 0 [some (.ref 7), some (.ref 1), none, none, none, none] [] S := by
  refine zr_iconst (v := 0) (n := 1) d_Ed_assignModules_0 rfl (by decide) ?_
  refine zr_istore_n (i := 2) (L' := [some (.ref 7), some (.ref 1), some (.int 0), none, none, none]) (n := 2) d_Ed_assignModules_1 rfl rfl rfl rfl ?_
  refine zr_iconst (v := 0) (n := 3) d_Ed_assignModules_2 rfl (by decide) ?_
  refine zr_istore_n (i := 3) (L' := [some (.ref 7), some (.ref 1), some (.int 0), some (.int 0), none, none]) (n := 4) d_Ed_assignModules_3 rfl rfl rfl rfl ?_
  refine zr_iconst (v := 0) (n := 5) d_Ed_assignModules_4 rfl (by decide) ?_
  refine zr_istore (i := 4) (L' := [some (.ref 7), some (.ref 1), some (.int 0), some (.int 0), some (.int 0), none]) (n := 7) d_Ed_assignModules_5 rfl rfl rfl ?_
  exact l1
theorem s_Ed_assignModules_7 {d : Nat} {Q : zm_Q} {S : zm_S} {a2 a3 a4 : Int32} (j1 : Nat) (o1 : ¬ (S 7 6) ≤ a4 → zm_ix a4 j1 12)
    (l1 : (S 7 6) ≤ a4 → Q (some (a2 + 1)) GG S)
    (l2 : ¬ (S 7 6) ≤ a4 → zc M_Tree_messageLength (d + 1) [.ref 1, .int (S 11 j1)] S (fun v G' S' => zm_WP M_Ed_assignModules none (d + 2) 0 0 Q 28 [some (.ref 7), some (.ref 1), some (.int a2), some (.int a3), some (.int a4), none] (zm_ps v [.int 3]) G' S' 0 0)) :
    zw M_Ed_assignModules (d + 2) Q 7 [some (.ref 7), some (.ref 1), some (.int a2), some (.int a3), some (.int a4), none] [] S := by
  refine zr_iload (i := 4) (x := a4) (n := 9) d_Ed_assignModules_7 rfl rfl ?_
  refine zr_aload_n (i := 0) (x := 7) (n := 10) d_Ed_assignModules_9 rfl rfl rfl ?_
  refine zr_geti (n := 13) d_Ed_assignModules_10 rfl f_Ed_31 gg_7 rfl ?_
  refine zr_icmp_ge (tgt := 74) (n := 16) d_Ed_assignModules_13 rfl (by decide) (fun h1 => ?_) (fun h1 => ?_)
  · refine zr_iload_n (i := 2) (x := a2) (n := 75) d_Ed_assignModules_74 rfl rfl rfl ?_
    refine zr_iconst (v := 1) (n := 76) d_Ed_assignModules_75 rfl (by decide) ?_
    refine zr_iadd (n := 77) d_Ed_assignModules_76 rfl ?_
    exact zr_ireturn d_Ed_assignModules_77 rfl rfl (Nat.le_refl _) (Nat.le_refl _) (l1 h1)
  · refine zr_iconst (v := 3) (n := 17) d_Ed_assignModules_16 rfl (by decide) ?_
    refine zr_aload_n (i := 1) (x := 1) (n := 18) d_Ed_assignModules_17 rfl rfl rfl ?_
    refine zr_aload_n (i := 0) (x := 7) (n := 19) d_Ed_assignModules_18 rfl rfl rfl ?_
    refine zr_getr (n := 22) d_Ed_assignModules_19 rfl f_Ed_28 gg_7 rfl ?_
    refine zr_iload (i := 4) (x := a4) (n := 24) d_Ed_assignModules_22 rfl rfl ?_
    refine zr_iaload j1 (n := 25) d_Ed_assignModules_24 rfl gg_11 (o1 h1) ?_
    refine zr_callV (M' := M_Tree_messageLength) (mc' := 0) (ms' := 0) (av := [.int (S 11 j1)]) (rest := [.int 3]) (n := 28) d_Ed_assignModules_25 rfl w_Ed_65 w_Ed_65k gg_1 rfl rfl rfl rfl rfl rfl (Nat.le_refl _) (Nat.le_refl _) ?_
    exact (l2 h1)
theorem s_Ed_assignModules_28 {d : Nat} {Q : zm_Q} {S : zm_S} {a2 a3 a4 b0 r : Int32} (j1 : Nat) (j2 : Nat) (o1 : a4 ≤ 0 → zm_ix a4 j1 12) (o2 : a4 ≤ 0 → zm_ix (S 11 j1) j2 12) (o3 : ¬ a4 ≤ 0 → (a3 + (b0 + r)) ≤ 24 → zm_ix a4 j1 12) (o4 : ¬ a4 ≤ 0 → (a3 + (b0 + r)) ≤ 24 → zm_ix (S 11 j1) j2 12) (o5 : ¬ a4 ≤ 0 → ¬ (a3 + (b0 + r)) ≤ 24 → zm_ix a4 j1 12) (o6 : ¬ a4 ≤ 0 → ¬ (a3 + (b0 + r)) ≤ 24 → zm_ix (S 11 j1) j2 12)
    (l1 : ((a4 ≤ 0) ∨ (¬ a4 ≤ 0 ∧ (a3 + (b0 + r)) ≤ 24)) → zw M_Ed_assignModules (d + 2) Q 7 [some (.ref 7), some (.ref 1), some (.int a2), some (.int (a3 + (b0 + r))), some (.int (a4 + 1)), none] [] (zm_up S 12 j2 a2))
    (l2 : ¬ a4 ≤ 0 → ¬ (a3 + (b0 + r)) ≤ 24 → zw M_Ed_assignModules (d + 2) Q 7 [some (.ref 7), some (.ref 1), some (.int (a2 + 1)), some (.int (0 + (b0 + r))), some (.int (a4 + 1)), none] [] (zm_up S 12 j2 (a2 + 1))) :
    zw M_Ed_assignModules (d + 2) Q 28 [some (.ref 7), some (.ref 1), some (.int a2), some (.int a3), some (.int a4), none] [.int r, .int b0] S := by
  refine zr_iadd (n := 29) d_Ed_assignModules_28 rfl ?_
  refine zr_istore (i := 5) (L' := [some (.ref 7), some (.ref 1), some (.int a2), some (.int a3), some (.int a4), some (.int (b0 + r))]) (n := 31) d_Ed_assignModules_29 rfl rfl rfl ?_
  refine zr_iload (i := 4) (x := a4) (n := 33) d_Ed_assignModules_31 rfl rfl ?_
  refine zr_if_le (tgt := 50) (n := 36) d_Ed_assignModules_33 rfl (by decide) (fun h1 => ?_) (fun h1 => ?_)
  · refine zr_aload_n (i := 0) (x := 7) (n := 51) d_Ed_assignModules_50 rfl rfl rfl ?_
    refine zr_getr (n := 54) d_Ed_assignModules_51 rfl f_Ed_34 gg_7 rfl ?_
    refine zr_aload_n (i := 0) (x := 7) (n := 55) d_Ed_assignModules_54 rfl rfl rfl ?_
    refine zr_getr (n := 58) d_Ed_assignModules_55 rfl f_Ed_28 gg_7 rfl ?_
    refine zr_iload (i := 4) (x := a4) (n := 60) d_Ed_assignModules_58 rfl rfl ?_
    refine zr_iaload j1 (n := 61) d_Ed_assignModules_60 rfl gg_11 (o1 h1) ?_
    refine zr_iload_n (i := 2) (x := a2) (n := 62) d_Ed_assignModules_61 rfl rfl rfl ?_
    refine zr_iastore j2 (n := 63) d_Ed_assignModules_62 rfl gg_12 (o2 h1) ?_
    refine zr_iload_n (i := 3) (x := a3) (n := 64) d_Ed_assignModules_63 rfl rfl rfl ?_
    refine zr_iload (i := 5) (x := (b0 + r)) (n := 66) d_Ed_assignModules_64 rfl rfl ?_
    refine zr_iadd (n := 67) d_Ed_assignModules_66 rfl ?_
    refine zr_istore_n (i := 3) (L' := [some (.ref 7), some (.ref 1), some (.int a2), some (.int (a3 + (b0 + r))), some (.int a4), some (.int (b0 + r))]) (n := 68) d_Ed_assignModules_67 rfl rfl rfl rfl ?_
    refine zr_iinc (i := 4) (w := 1) (x := a4) (L' := [some (.ref 7), some (.ref 1), some (.int a2), some (.int (a3 + (b0 + r))), some (.int (a4 + 1)), some (.int (b0 + r))]) (n := 71) d_Ed_assignModules_68 rfl (by decide) rfl rfl ?_
    refine zr_goto (tgt := 7) d_Ed_assignModules_71 (by decide) ?_
    exact zr_weak (zm_LE.cons (zm_LE.cons (zm_LE.cons (zm_LE.cons (zm_LE.cons (zm_LE.skip zm_LE.nil)))))) (l1 (Or.inl h1))
  · refine zr_iload_n (i := 3) (x := a3) (n := 37) d_Ed_assignModules_36 rfl rfl rfl ?_
    refine zr_iload (i := 5) (x := (b0 + r)) (n := 39) d_Ed_assignModules_37 rfl rfl ?_
    refine zr_iadd (n := 40) d_Ed_assignModules_39 rfl ?_
    refine zr_bipush (v := 24) (n := 42) d_Ed_assignModules_40 rfl (by decide) ?_
    refine zr_icmp_le (tgt := 50) (n := 45) d_Ed_assignModules_42 rfl (by decide) (fun h2 => ?_) (fun h2 => ?_)
    · refine zr_aload_n (i := 0) (x := 7) (n := 51) d_Ed_assignModules_50 rfl rfl rfl ?_
      refine zr_getr (n := 54) d_Ed_assignModules_51 rfl f_Ed_34 gg_7 rfl ?_
      refine zr_aload_n (i := 0) (x := 7) (n := 55) d_Ed_assignModules_54 rfl rfl rfl ?_
      refine zr_getr (n := 58) d_Ed_assignModules_55 rfl f_Ed_28 gg_7 rfl ?_
      refine zr_iload (i := 4) (x := a4) (n := 60) d_Ed_assignModules_58 rfl rfl ?_
      refine zr_iaload j1 (n := 61) d_Ed_assignModules_60 rfl gg_11 (o3 h1 h2) ?_
      refine zr_iload_n (i := 2) (x := a2) (n := 62) d_Ed_assignModules_61 rfl rfl rfl ?_
      refine zr_iastore j2 (n := 63) d_Ed_assignModules_62 rfl gg_12 (o4 h1 h2) ?_
      refine zr_iload_n (i := 3) (x := a3) (n := 64) d_Ed_assignModules_63 rfl rfl rfl ?_
      refine zr_iload (i := 5) (x := (b0 + r)) (n := 66) d_Ed_assignModules_64 rfl rfl ?_
      refine zr_iadd (n := 67) d_Ed_assignModules_66 rfl ?_
      refine zr_istore_n (i := 3) (L' := [some (.ref 7), some (.ref 1), some (.int a2), some (.int (a3 + (b0 + r))), some (.int a4), some (.int (b0 + r))]) (n := 68) d_Ed_assignModules_67 rfl rfl rfl rfl ?_
      refine zr_iinc (i := 4) (w := 1) (x := a4) (L' := [some (.ref 7), some (.ref 1), some (.int a2), some (.int (a3 + (b0 + r))), some (.int (a4 + 1)), some (.int (b0 + r))]) (n := 71) d_Ed_assignModules_68 rfl (by decide) rfl rfl ?_
      refine zr_goto (tgt := 7) d_Ed_assignModules_71 (by decide) ?_
      exact zr_weak (zm_LE.cons (zm_LE.cons (zm_LE.cons (zm_LE.cons (zm_LE.cons (zm_LE.skip zm_LE.nil)))))) (l1 (Or.inr ⟨h1, h2⟩))
    · refine zr_iinc (i := 2) (w := 1) (x := a2) (L' := [some (.ref 7), some (.ref 1), some (.int (a2 + 1)), some (.int a3), some (.int a4), some (.int (b0 + r))]) (n := 48) d_Ed_assignModules_45 rfl (by decide) rfl rfl ?_
      refine zr_iconst (v := 0) (n := 49) d_Ed_assignModules_48 rfl (by decide) ?_
      refine zr_istore_n (i := 3) (L' := [some (.ref 7), some (.ref 1), some (.int (a2 + 1)), some (.int 0), some (.int a4), some (.int (b0 + r))]) (n := 50) d_Ed_assignModules_49 rfl rfl rfl rfl ?_
      refine zr_aload_n (i := 0) (x := 7) (n := 51) d_Ed_assignModules_50 rfl rfl rfl ?_
      refine zr_getr (n := 54) d_Ed_assignModules_51 rfl f_Ed_34 gg_7 rfl ?_
      refine zr_aload_n (i := 0) (x := 7) (n := 55) d_Ed_assignModules_54 rfl rfl rfl ?_
      refine zr_getr (n := 58) d_Ed_assignModules_55 rfl f_Ed_28 gg_7 rfl ?_
      refine zr_iload (i := 4) (x := a4) (n := 60) d_Ed_assignModules_58 rfl rfl ?_
      refine zr_iaload j1 (n := 61) d_Ed_assignModules_60 rfl gg_11 (o5 h1 h2) ?_
      refine zr_iload_n (i := 2) (x := (a2 + 1)) (n := 62) d_Ed_assignModules_61 rfl rfl rfl ?_
      refine zr_iastore j2 (n := 63) d_Ed_assignModules_62 rfl gg_12 (o6 h1 h2) ?_
      refine zr_iload_n (i := 3) (x := 0) (n := 64) d_Ed_assignModules_63 rfl rfl rfl ?_
      refine zr_iload (i := 5) (x := (b0 + r)) (n := 66) d_Ed_assignModules_64 rfl rfl ?_
      refine zr_iadd (n := 67) d_Ed_assignModules_66 rfl ?_
      refine zr_istore_n (i := 3) (L' := [some (.ref 7), some (.ref 1), some (.int (a2 + 1)), some (.int (0 + (b0 + r))), some (.int a4), some (.int (b0 + r))]) (n := 68) d_Ed_assignModules_67 rfl rfl rfl rfl ?_
      refine zr_iinc (i := 4) (w := 1) (x := a4) (L' := [some (.ref 7), some (.ref 1), some (.int (a2 + 1)), some (.int (0 + (b0 + r))), some (.int (a4 + 1)), some (.int (b0 + r))]) (n := 71) d_Ed_assignModules_68 rfl (by decide) rfl rfl ?_
      refine zr_goto (tgt := 7) d_Ed_assignModules_71 (by decide) ?_
      exact zr_weak (zm_LE.cons (zm_LE.cons (zm_LE.cons (zm_LE.cons (zm_LE.cons (zm_LE.skip zm_LE.nil)))))) (l2 h1 h2)
theorem e_Ed_assignModules {d : Nat} {Q : zm_Q} {S : zm_S} (h : zw M_Ed_assignModules (d + 2) Q 0 [some (.ref 7), some (.ref 1), none, none, none, none] [] S) : zc M_Ed_assignModules (d + 2) [.ref 7, .ref 1] S Q := zm_CC_intro (by decide) rfl rfl h
theorem s_Ed_draftModule_0 {d : Nat} {Q : zm_Q} {S : zm_S} {a2 : Int32}
    (l1 : zw M_Ed_draftModule (d + 3) Q 7 [some (.ref 7), some (.ref 1), some (.int a2), some (.int 0)] [] (zm_up S 7 9 0)) :
    zw M_Ed_draftModule (d + 3) Q 0 [some (.ref 7), some (.ref 1), some (.int a2), none] [] S := by
  refine zr_aload_n (i := 0) (x := 7) (n := 1) d_Ed_draftModule_0 rfl rfl rfl ?_
  refine zr_iconst (v := 0) (n := 2) d_Ed_draftModule_1 rfl (by decide) ?_
  refine zr_puti (n := 5) d_Ed_draftModule_2 rfl f_Ed_40 tw_Ed rfl rfl rfl rfl gg_7 rfl ?_
  refine zr_iconst (v := 0) (n := 6) d_Ed_draftModule_5 rfl (by decide) ?_
  refine zr_istore_n (i := 3) (L' := [some (.ref 7), some (.ref 1), some (.int a2), some (.int 0)]) (n := 7) d_Ed_draftModule_6 rfl rfl rfl rfl ?_
  exact l1
theorem s_Ed_draftModule_7 {d : Nat} {Q : zm_Q} {S : zm_S} {a2 a3 : Int32} (j1 : Nat) (j2 : Nat) (o1 : ¬ (S 7 6) ≤ a3 → zm_ix a3 j1 12) (o2 : ¬ (S 7 6) ≤ a3 → zm_ix (S 11 j1) j2 12)
    (l1 : (S 7 6) ≤ a3 → Q none GG S)
    (l2 : ¬ (S 7 6) ≤ a3 → ¬ (S 12 j2) = a2 → zw M_Ed_draftModule (d + 3) Q 7 [some (.ref 7), some (.ref 1), some (.int a2), some (.int (a3 + 1))] [] S)
    (l3 : ¬ (S 7 6) ≤ a3 → (S 12 j2) = a2 → zc M_Ed_draftMessage (d + 2) [.ref 7, .ref 1, .int (S 11 j1)] S (fun v G' S' => zm_WP M_Ed_draftModule none (d + 3) 0 0 Q 41 [some (.ref 7), some (.ref 1), some (.int a2), some (.int a3)] (zm_ps v []) G' S' 0 0)) :
    zw M_Ed_draftModule (d + 3) Q 7 [some (.ref 7), some (.ref 1), some (.int a2), some (.int a3)] [] S := by
  refine zr_iload_n (i := 3) (x := a3) (n := 8) d_Ed_draftModule_7 rfl rfl rfl ?_
  refine zr_aload_n (i := 0) (x := 7) (n := 9) d_Ed_draftModule_8 rfl rfl rfl ?_
  refine zr_geti (n := 12) d_Ed_draftModule_9 rfl f_Ed_31 gg_7 rfl ?_
  refine zr_icmp_ge (tgt := 47) (n := 15) d_Ed_draftModule_12 rfl (by decide) (fun h1 => ?_) (fun h1 => ?_)
  · exact zr_return d_Ed_draftModule_47 rfl (Nat.le_refl _) (Nat.le_refl _) (l1 h1)
  · refine zr_aload_n (i := 0) (x := 7) (n := 16) d_Ed_draftModule_15 rfl rfl rfl ?_
    refine zr_getr (n := 19) d_Ed_draftModule_16 rfl f_Ed_34 gg_7 rfl ?_
    refine zr_aload_n (i := 0) (x := 7) (n := 20) d_Ed_draftModule_19 rfl rfl rfl ?_
    refine zr_getr (n := 23) d_Ed_draftModule_20 rfl f_Ed_28 gg_7 rfl ?_
    refine zr_iload_n (i := 3) (x := a3) (n := 24) d_Ed_draftModule_23 rfl rfl rfl ?_
    refine zr_iaload j1 (n := 25) d_Ed_draftModule_24 rfl gg_11 (o1 h1) ?_
    refine zr_iaload j2 (n := 26) d_Ed_draftModule_25 rfl gg_12 (o2 h1) ?_
    refine zr_iload_n (i := 2) (x := a2) (n := 27) d_Ed_draftModule_26 rfl rfl rfl ?_
    refine zr_icmp_ne (tgt := 41) (n := 30) d_Ed_draftModule_27 rfl (by decide) (fun h2 => ?_) (fun h2 => ?_)
    · refine zr_iinc (i := 3) (w := 1) (x := a3) (L' := [some (.ref 7), some (.ref 1), some (.int a2), some (.int (a3 + 1))]) (n := 44) d_Ed_draftModule_41 rfl (by decide) rfl rfl ?_
      refine zr_goto (tgt := 7) d_Ed_draftModule_44 (by decide) ?_
      exact (l2 h1 h2)
    · refine zr_aload_n (i := 0) (x := 7) (n := 31) d_Ed_draftModule_30 rfl rfl rfl ?_
      refine zr_aload_n (i := 1) (x := 1) (n := 32) d_Ed_draftModule_31 rfl rfl rfl ?_
      refine zr_aload_n (i := 0) (x := 7) (n := 33) d_Ed_draftModule_32 rfl rfl rfl ?_
      refine zr_getr (n := 36) d_Ed_draftModule_33 rfl f_Ed_28 gg_7 rfl ?_
      refine zr_iload_n (i := 3) (x := a3) (n := 37) d_Ed_draftModule_36 rfl rfl rfl ?_
      refine zr_iaload j1 (n := 38) d_Ed_draftModule_37 rfl gg_11 (o1 h1) ?_
      refine zr_callV (M' := M_Ed_draftMessage) (mc' := 0) (ms' := 0) (av := [.ref 1, .int (S 11 j1)]) (rest := []) (n := 41) d_Ed_draftModule_38 rfl w_Ed_68 w_Ed_68k gg_7 rfl rfl rfl rfl rfl rfl (Nat.le_refl _) (Nat.le_refl _) ?_
      exact (l3 h1 h2)
theorem s_Ed_draftModule_41 {d : Nat} {Q : zm_Q} {S : zm_S} {a2 a3 : Int32}
    (l1 : zw M_Ed_draftModule (d + 3) Q 7 [some (.ref 7), some (.ref 1), some (.int a2), some (.int (a3 + 1))] [] S) :
    zw M_Ed_draftModule (d + 3) Q 41 [some (.ref 7), some (.ref 1), some (.int a2), some (.int a3)] [] S := by
  refine zr_iinc (i := 3) (w := 1) (x := a3) (L' := [some (.ref 7), some (.ref 1), some (.int a2), some (.int (a3 + 1))]) (n := 44) d_Ed_draftModule_41 rfl (by decide) rfl rfl ?_
  refine zr_goto (tgt := 7) d_Ed_draftModule_44 (by decide) ?_
  exact l1
theorem e_Ed_draftModule {d : Nat} {Q : zm_Q} {S : zm_S} {a2 : Int32} (h : zw M_Ed_draftModule (d + 3) Q 0 [some (.ref 7), some (.ref 1), some (.int a2), none] [] S) : zc M_Ed_draftModule (d + 3) [.ref 7, .ref 1, .int a2] S Q := zm_CC_intro (by decide) rfl rfl h
theorem s_Ed_draftMessage_0 {d : Nat} {Q : zm_Q} {S : zm_S} {a2 : Int32} (j1 : Nat) (o1 : zm_ix a2 j1 12)
    (l1 : zc M_Ed_write (d + 1) [.ref 7, .int (S 2 j1)] S (fun v G' S' => zm_WP M_Ed_draftMessage none (d + 2) 0 0 Q 9 [some (.ref 7), some (.ref 1), some (.int a2), none] (zm_ps v []) G' S' 0 0)) :
    zw M_Ed_draftMessage (d + 2) Q 0 [some (.ref 7), some (.ref 1), some (.int a2), none] [] S := by
  refine zr_aload_n (i := 0) (x := 7) (n := 1) d_Ed_draftMessage_0 rfl rfl rfl ?_
  refine zr_aload_n (i := 1) (x := 1) (n := 2) d_Ed_draftMessage_1 rfl rfl rfl ?_
  refine zr_iload_n (i := 2) (x := a2) (n := 3) d_Ed_draftMessage_2 rfl rfl rfl ?_
  refine zr_callV (M' := M_Tree_kindOf) (mc' := 0) (ms' := 0) (av := [.int a2]) (rest := [.ref 7]) (n := 6) d_Ed_draftMessage_3 rfl w_Ed_71 w_Ed_71k gg_1 rfl rfl rfl rfl rfl rfl (Nat.le_refl _) (Nat.le_refl _) ?_
  refine c_Tree_kindOf (a1 := a2) j1 o1 ?_
  refine zr_callV (M' := M_Ed_write) (mc' := 0) (ms' := 0) (av := [.int (S 2 j1)]) (rest := []) (n := 9) d_Ed_draftMessage_6 rfl w_Ed_74 w_Ed_74k gg_7 rfl rfl rfl rfl rfl rfl (Nat.le_refl _) (Nat.le_refl _) ?_
  exact l1
theorem s_Ed_draftMessage_9 {d : Nat} {Q : zm_Q} {S : zm_S} {a2 : Int32}
    (l1 : zc M_Ed_write (d + 1) [.ref 7, .int a2] S (fun v G' S' => zm_WP M_Ed_draftMessage none (d + 2) 0 0 Q 14 [some (.ref 7), some (.ref 1), some (.int a2), none] (zm_ps v []) G' S' 0 0)) :
    zw M_Ed_draftMessage (d + 2) Q 9 [some (.ref 7), some (.ref 1), some (.int a2), none] [] S := by
  refine zr_aload_n (i := 0) (x := 7) (n := 10) d_Ed_draftMessage_9 rfl rfl rfl ?_
  refine zr_iload_n (i := 2) (x := a2) (n := 11) d_Ed_draftMessage_10 rfl rfl rfl ?_
  refine zr_callV (M' := M_Ed_write) (mc' := 0) (ms' := 0) (av := [.int a2]) (rest := []) (n := 14) d_Ed_draftMessage_11 rfl w_Ed_74 w_Ed_74k gg_7 rfl rfl rfl rfl rfl rfl (Nat.le_refl _) (Nat.le_refl _) ?_
  exact l1
theorem s_Ed_draftMessage_14 {d : Nat} {Q : zm_Q} {S : zm_S} {a2 : Int32}
    (l1 : zc M_Tree_messageLength (d + 1) [.ref 1, .int a2] S (fun v G' S' => zm_WP M_Ed_draftMessage none (d + 2) 0 0 Q 20 [some (.ref 7), some (.ref 1), some (.int a2), none] (zm_ps v [.ref 7]) G' S' 0 0)) :
    zw M_Ed_draftMessage (d + 2) Q 14 [some (.ref 7), some (.ref 1), some (.int a2), none] [] S := by
  refine zr_aload_n (i := 0) (x := 7) (n := 15) d_Ed_draftMessage_14 rfl rfl rfl ?_
  refine zr_aload_n (i := 1) (x := 1) (n := 16) d_Ed_draftMessage_15 rfl rfl rfl ?_
  refine zr_iload_n (i := 2) (x := a2) (n := 17) d_Ed_draftMessage_16 rfl rfl rfl ?_
  refine zr_callV (M' := M_Tree_messageLength) (mc' := 0) (ms' := 0) (av := [.int a2]) (rest := [.ref 7]) (n := 20) d_Ed_draftMessage_17 rfl w_Ed_65 w_Ed_65k gg_1 rfl rfl rfl rfl rfl rfl (Nat.le_refl _) (Nat.le_refl _) ?_
  exact l1
theorem s_Ed_draftMessage_20 {d : Nat} {Q : zm_Q} {S : zm_S} {a2 r : Int32}
    (l1 : zc M_Ed_write (d + 1) [.ref 7, .int r] S (fun v G' S' => zm_WP M_Ed_draftMessage none (d + 2) 0 0 Q 23 [some (.ref 7), some (.ref 1), some (.int a2), none] (zm_ps v []) G' S' 0 0)) :
    zw M_Ed_draftMessage (d + 2) Q 20 [some (.ref 7), some (.ref 1), some (.int a2), none] [.int r, .ref 7] S := by
  refine zr_callV (M' := M_Ed_write) (mc' := 0) (ms' := 0) (av := [.int r]) (rest := []) (n := 23) d_Ed_draftMessage_20 rfl w_Ed_74 w_Ed_74k gg_7 rfl rfl rfl rfl rfl rfl (Nat.le_refl _) (Nat.le_refl _) ?_
  exact l1
theorem s_Ed_draftMessage_23 {d : Nat} {Q : zm_Q} {S : zm_S} {a2 : Int32} (j1 : Nat) (o1 : zm_ix a2 j1 12)
    (l1 : ¬ (S 2 j1) = 3 → zc M_Ed_draftEntries (d + 1) [.ref 7, .ref 1, .int a2] S (fun v G' S' => zm_WP M_Ed_draftMessage none (d + 2) 0 0 Q 67 [none, none, none, none] (zm_ps v []) G' S' 0 0))
    (l2 : (S 2 j1) = 3 → zw M_Ed_draftMessage (d + 2) Q 33 [some (.ref 7), some (.ref 1), some (.int a2), some (.int 0)] [] S) :
    zw M_Ed_draftMessage (d + 2) Q 23 [some (.ref 7), some (.ref 1), some (.int a2), none] [] S := by
  refine zr_aload_n (i := 1) (x := 1) (n := 24) d_Ed_draftMessage_23 rfl rfl rfl ?_
  refine zr_iload_n (i := 2) (x := a2) (n := 25) d_Ed_draftMessage_24 rfl rfl rfl ?_
  refine zr_callV (M' := M_Tree_isFile) (mc' := 0) (ms' := 0) (av := [.int a2]) (rest := []) (n := 28) d_Ed_draftMessage_25 rfl w_Ed_77 w_Ed_77k gg_1 rfl rfl rfl rfl rfl rfl (Nat.le_refl _) (Nat.le_refl _) ?_
  refine c_Tree_isFile (a1 := a2) j1 o1 (fun h1 => ?_) (fun h2 => ?_)
  · refine zr_if_eq (tgt := 61) (n := 31) d_Ed_draftMessage_28 rfl (by decide) (fun _ => ?_) (fun h => absurd h (by decide))
    refine zr_aload_n (i := 0) (x := 7) (n := 62) d_Ed_draftMessage_61 rfl rfl rfl ?_
    refine zr_aload_n (i := 1) (x := 1) (n := 63) d_Ed_draftMessage_62 rfl rfl rfl ?_
    refine zr_iload_n (i := 2) (x := a2) (n := 64) d_Ed_draftMessage_63 rfl rfl rfl ?_
    refine zr_weak (zm_LE.skip (zm_LE.skip (zm_LE.skip (zm_LE.cons zm_LE.nil)))) ?_
    refine zr_callV (M' := M_Ed_draftEntries) (mc' := 0) (ms' := 0) (av := [.ref 1, .int a2]) (rest := []) (n := 67) d_Ed_draftMessage_64 rfl w_Ed_88 w_Ed_88k gg_7 rfl rfl rfl rfl rfl rfl (Nat.le_refl _) (Nat.le_refl _) ?_
    exact (l1 h1)
  · refine zr_if_eq (tgt := 61) (n := 31) d_Ed_draftMessage_28 rfl (by decide) (fun h => absurd h (by decide)) (fun _ => ?_)
    refine zr_iconst (v := 0) (n := 32) d_Ed_draftMessage_31 rfl (by decide) ?_
    refine zr_istore_n (i := 3) (L' := [some (.ref 7), some (.ref 1), some (.int a2), some (.int 0)]) (n := 33) d_Ed_draftMessage_32 rfl rfl rfl rfl ?_
    exact (l2 h2)
theorem s_Ed_draftMessage_67 {d : Nat} {Q : zm_Q} {S : zm_S}
    (l1 : Q none GG S) :
    zw M_Ed_draftMessage (d + 2) Q 67 [none, none, none, none] [] S := by
  exact zr_return d_Ed_draftMessage_67 rfl (Nat.le_refl _) (Nat.le_refl _) l1
theorem s_Ed_draftMessage_33 {d : Nat} {Q : zm_Q} {S : zm_S} {a2 a3 : Int32} (j1 : Nat) (j2 : Nat) (o1 : zm_ix a2 j1 12) (o2 : ¬ (S 5 j1) ≤ a3 → zm_ix ((a2 * 12) + a3) j2 144)
    (l1 : (S 5 j1) ≤ a3 → Q none GG S)
    (l2 : ¬ (S 5 j1) ≤ a3 → zc M_Ed_write (d + 1) [.ref 7, .int (S 6 j2)] S (fun v G' S' => zm_WP M_Ed_draftMessage none (d + 2) 0 0 Q 52 [some (.ref 7), some (.ref 1), some (.int a2), some (.int a3)] (zm_ps v []) G' S' 0 0)) :
    zw M_Ed_draftMessage (d + 2) Q 33 [some (.ref 7), some (.ref 1), some (.int a2), some (.int a3)] [] S := by
  refine zr_iload_n (i := 3) (x := a3) (n := 34) d_Ed_draftMessage_33 rfl rfl rfl ?_
  refine zr_aload_n (i := 1) (x := 1) (n := 35) d_Ed_draftMessage_34 rfl rfl rfl ?_
  refine zr_iload_n (i := 2) (x := a2) (n := 36) d_Ed_draftMessage_35 rfl rfl rfl ?_
  refine zr_callV (M' := M_Tree_fileLength) (mc' := 0) (ms' := 0) (av := [.int a2]) (rest := [.int a3]) (n := 39) d_Ed_draftMessage_36 rfl w_Ed_81 w_Ed_81k gg_1 rfl rfl rfl rfl rfl rfl (Nat.le_refl _) (Nat.le_refl _) ?_
  refine c_Tree_fileLength (a1 := a2) j1 o1 ?_
  refine zr_icmp_ge (tgt := 58) (n := 42) d_Ed_draftMessage_39 rfl (by decide) (fun h1 => ?_) (fun h1 => ?_)
  · refine zr_goto (tgt := 67) d_Ed_draftMessage_58 (by decide) ?_
    exact zr_return d_Ed_draftMessage_67 rfl (Nat.le_refl _) (Nat.le_refl _) (l1 h1)
  · refine zr_aload_n (i := 0) (x := 7) (n := 43) d_Ed_draftMessage_42 rfl rfl rfl ?_
    refine zr_aload_n (i := 1) (x := 1) (n := 44) d_Ed_draftMessage_43 rfl rfl rfl ?_
    refine zr_iload_n (i := 2) (x := a2) (n := 45) d_Ed_draftMessage_44 rfl rfl rfl ?_
    refine zr_iload_n (i := 3) (x := a3) (n := 46) d_Ed_draftMessage_45 rfl rfl rfl ?_
    refine zr_callV (M' := M_Tree_fileByte) (mc' := 0) (ms' := 0) (av := [.int a2, .int a3]) (rest := [.ref 7]) (n := 49) d_Ed_draftMessage_46 rfl w_Ed_84 w_Ed_84k gg_1 rfl rfl rfl rfl rfl rfl (Nat.le_refl _) (Nat.le_refl _) ?_
    refine c_Tree_fileByte (a1 := a2) (a2 := a3) j2 (o2 h1) ?_
    refine zr_callV (M' := M_Ed_write) (mc' := 0) (ms' := 0) (av := [.int (S 6 j2)]) (rest := []) (n := 52) d_Ed_draftMessage_49 rfl w_Ed_74 w_Ed_74k gg_7 rfl rfl rfl rfl rfl rfl (Nat.le_refl _) (Nat.le_refl _) ?_
    exact (l2 h1)
theorem s_Ed_draftMessage_52 {d : Nat} {Q : zm_Q} {S : zm_S} {a2 a3 : Int32}
    (l1 : zw M_Ed_draftMessage (d + 2) Q 33 [some (.ref 7), some (.ref 1), some (.int a2), some (.int (a3 + 1))] [] S) :
    zw M_Ed_draftMessage (d + 2) Q 52 [some (.ref 7), some (.ref 1), some (.int a2), some (.int a3)] [] S := by
  refine zr_iinc (i := 3) (w := 1) (x := a3) (L' := [some (.ref 7), some (.ref 1), some (.int a2), some (.int (a3 + 1))]) (n := 55) d_Ed_draftMessage_52 rfl (by decide) rfl rfl ?_
  refine zr_goto (tgt := 33) d_Ed_draftMessage_55 (by decide) ?_
  exact l1
theorem e_Ed_draftMessage {d : Nat} {Q : zm_Q} {S : zm_S} {a2 : Int32} (h : zw M_Ed_draftMessage (d + 2) Q 0 [some (.ref 7), some (.ref 1), some (.int a2), none] [] S) : zc M_Ed_draftMessage (d + 2) [.ref 7, .ref 1, .int a2] S Q := zm_CC_intro (by decide) rfl rfl h
theorem s_Ed_draftEntries_0 {d : Nat} {Q : zm_Q} {S : zm_S} {a2 : Int32}
    (l1 : zc M_Tree_entryAfter d [.ref 1, .int a2, .int 0] S (fun v G' S' => zm_WP M_Ed_draftEntries none (d + 1) 0 0 Q 6 [some (.ref 7), some (.ref 1), some (.int a2), none, none] (zm_ps v []) G' S' 0 0)) :
    zw M_Ed_draftEntries (d + 1) Q 0 [some (.ref 7), some (.ref 1), some (.int a2), none, none] [] S := by
  refine zr_aload_n (i := 1) (x := 1) (n := 1) d_Ed_draftEntries_0 rfl rfl rfl ?_
  refine zr_iload_n (i := 2) (x := a2) (n := 2) d_Ed_draftEntries_1 rfl rfl rfl ?_
  refine zr_iconst (v := 0) (n := 3) d_Ed_draftEntries_2 rfl (by decide) ?_
  refine zr_callV (M' := M_Tree_entryAfter) (mc' := 0) (ms' := 0) (av := [.int a2, .int 0]) (rest := []) (n := 6) d_Ed_draftEntries_3 rfl w_Ed_91 w_Ed_91k gg_1 rfl rfl rfl rfl rfl rfl (Nat.le_refl _) (Nat.le_refl _) ?_
  exact l1
theorem s_Ed_draftEntries_6 {d : Nat} {Q : zm_Q} {S : zm_S} {a2 r : Int32}
    (l1 : zw M_Ed_draftEntries (d + 1) Q 10 [some (.ref 7), some (.ref 1), some (.int a2), some (.int r), some (.int 0)] [] S) :
    zw M_Ed_draftEntries (d + 1) Q 6 [some (.ref 7), some (.ref 1), some (.int a2), none, none] [.int r] S := by
  refine zr_istore_n (i := 3) (L' := [some (.ref 7), some (.ref 1), some (.int a2), some (.int r), none]) (n := 7) d_Ed_draftEntries_6 rfl rfl rfl rfl ?_
  refine zr_iconst (v := 0) (n := 8) d_Ed_draftEntries_7 rfl (by decide) ?_
  refine zr_istore (i := 4) (L' := [some (.ref 7), some (.ref 1), some (.int a2), some (.int r), some (.int 0)]) (n := 10) d_Ed_draftEntries_8 rfl rfl rfl ?_
  exact l1
theorem s_Ed_draftEntries_10 {d : Nat} {Q : zm_Q} {S : zm_S} {a2 a3 a4 : Int32} (j1 : Nat) (o1 : ¬ 12 ≤ a4 → ¬ a3 = (-1) → zm_ix a3 j1 12)
    (l1 : ((12 ≤ a4) ∨ (¬ 12 ≤ a4 ∧ a3 = (-1))) → Q none GG S)
    (l2 : ¬ 12 ≤ a4 → ¬ a3 = (-1) → zc M_Ed_write d [.ref 7, .int (S 4 j1)] S (fun v G' S' => zm_WP M_Ed_draftEntries none (d + 1) 0 0 Q 31 [some (.ref 7), some (.ref 1), some (.int a2), some (.int a3), some (.int a4)] (zm_ps v []) G' S' 0 0)) :
    zw M_Ed_draftEntries (d + 1) Q 10 [some (.ref 7), some (.ref 1), some (.int a2), some (.int a3), some (.int a4)] [] S := by
  refine zr_iload (i := 4) (x := a4) (n := 12) d_Ed_draftEntries_10 rfl rfl ?_
  refine zr_bipush (v := 12) (n := 14) d_Ed_draftEntries_12 rfl (by decide) ?_
  refine zr_icmp_ge (tgt := 72) (n := 17) d_Ed_draftEntries_14 rfl (by decide) (fun h1 => ?_) (fun h1 => ?_)
  · exact zr_return d_Ed_draftEntries_72 rfl (Nat.le_refl _) (Nat.le_refl _) (l1 (Or.inl h1))
  · refine zr_iload_n (i := 3) (x := a3) (n := 18) d_Ed_draftEntries_17 rfl rfl rfl ?_
    refine zr_iconst (v := (-1)) (n := 19) d_Ed_draftEntries_18 rfl (by decide) ?_
    refine zr_icmp_eq (tgt := 72) (n := 22) d_Ed_draftEntries_19 rfl (by decide) (fun h2 => ?_) (fun h2 => ?_)
    · exact zr_return d_Ed_draftEntries_72 rfl (Nat.le_refl _) (Nat.le_refl _) (l1 (Or.inr ⟨h1, h2⟩))
    · refine zr_aload_n (i := 0) (x := 7) (n := 23) d_Ed_draftEntries_22 rfl rfl rfl ?_
      refine zr_aload_n (i := 1) (x := 1) (n := 24) d_Ed_draftEntries_23 rfl rfl rfl ?_
      refine zr_iload_n (i := 3) (x := a3) (n := 25) d_Ed_draftEntries_24 rfl rfl rfl ?_
      refine zr_callV (M' := M_Tree_nameOf) (mc' := 0) (ms' := 0) (av := [.int a3]) (rest := [.ref 7]) (n := 28) d_Ed_draftEntries_25 rfl w_Ed_94 w_Ed_94k gg_1 rfl rfl rfl rfl rfl rfl (Nat.le_refl _) (Nat.le_refl _) ?_
      refine c_Tree_nameOf (a1 := a3) j1 (o1 h1 h2) ?_
      refine zr_callV (M' := M_Ed_write) (mc' := 0) (ms' := 0) (av := [.int (S 4 j1)]) (rest := []) (n := 31) d_Ed_draftEntries_28 rfl w_Ed_74 w_Ed_74k gg_7 rfl rfl rfl rfl rfl rfl (Nat.le_refl _) (Nat.le_refl _) ?_
      exact (l2 h1 h2)
theorem s_Ed_draftEntries_31 {d : Nat} {Q : zm_Q} {S : zm_S} {a2 a3 a4 : Int32} (j1 : Nat) (o1 : zm_ix a3 j1 12)
    (l1 : zc M_Ed_write d [.ref 7, .int (S 2 j1)] S (fun v G' S' => zm_WP M_Ed_draftEntries none (d + 1) 0 0 Q 40 [some (.ref 7), some (.ref 1), some (.int a2), some (.int a3), some (.int a4)] (zm_ps v []) G' S' 0 0)) :
    zw M_Ed_draftEntries (d + 1) Q 31 [some (.ref 7), some (.ref 1), some (.int a2), some (.int a3), some (.int a4)] [] S := by
  refine zr_aload_n (i := 0) (x := 7) (n := 32) d_Ed_draftEntries_31 rfl rfl rfl ?_
  refine zr_aload_n (i := 1) (x := 1) (n := 33) d_Ed_draftEntries_32 rfl rfl rfl ?_
  refine zr_iload_n (i := 3) (x := a3) (n := 34) d_Ed_draftEntries_33 rfl rfl rfl ?_
  refine zr_callV (M' := M_Tree_kindOf) (mc' := 0) (ms' := 0) (av := [.int a3]) (rest := [.ref 7]) (n := 37) d_Ed_draftEntries_34 rfl w_Ed_71 w_Ed_71k gg_1 rfl rfl rfl rfl rfl rfl (Nat.le_refl _) (Nat.le_refl _) ?_
  refine c_Tree_kindOf (a1 := a3) j1 o1 ?_
  refine zr_callV (M' := M_Ed_write) (mc' := 0) (ms' := 0) (av := [.int (S 2 j1)]) (rest := []) (n := 40) d_Ed_draftEntries_37 rfl w_Ed_74 w_Ed_74k gg_7 rfl rfl rfl rfl rfl rfl (Nat.le_refl _) (Nat.le_refl _) ?_
  exact l1
theorem s_Ed_draftEntries_40 {d : Nat} {Q : zm_Q} {S : zm_S} {a2 a3 a4 : Int32} (j1 : Nat) (o1 : zm_ix a3 j1 12)
    (l1 : zc M_Ed_write d [.ref 7, .int (S 12 j1)] S (fun v G' S' => zm_WP M_Ed_draftEntries none (d + 1) 0 0 Q 50 [some (.ref 7), some (.ref 1), some (.int a2), some (.int a3), some (.int a4)] (zm_ps v []) G' S' 0 0)) :
    zw M_Ed_draftEntries (d + 1) Q 40 [some (.ref 7), some (.ref 1), some (.int a2), some (.int a3), some (.int a4)] [] S := by
  refine zr_aload_n (i := 0) (x := 7) (n := 41) d_Ed_draftEntries_40 rfl rfl rfl ?_
  refine zr_aload_n (i := 0) (x := 7) (n := 42) d_Ed_draftEntries_41 rfl rfl rfl ?_
  refine zr_getr (n := 45) d_Ed_draftEntries_42 rfl f_Ed_34 gg_7 rfl ?_
  refine zr_iload_n (i := 3) (x := a3) (n := 46) d_Ed_draftEntries_45 rfl rfl rfl ?_
  refine zr_iaload j1 (n := 47) d_Ed_draftEntries_46 rfl gg_12 o1 ?_
  refine zr_callV (M' := M_Ed_write) (mc' := 0) (ms' := 0) (av := [.int (S 12 j1)]) (rest := []) (n := 50) d_Ed_draftEntries_47 rfl w_Ed_74 w_Ed_74k gg_7 rfl rfl rfl rfl rfl rfl (Nat.le_refl _) (Nat.le_refl _) ?_
  exact l1
theorem s_Ed_draftEntries_50 {d : Nat} {Q : zm_Q} {S : zm_S} {a2 a3 a4 : Int32}
    (l1 : zc M_Ed_write d [.ref 7, .int a3] S (fun v G' S' => zm_WP M_Ed_draftEntries none (d + 1) 0 0 Q 55 [some (.ref 7), some (.ref 1), some (.int a2), some (.int a3), some (.int a4)] (zm_ps v []) G' S' 0 0)) :
    zw M_Ed_draftEntries (d + 1) Q 50 [some (.ref 7), some (.ref 1), some (.int a2), some (.int a3), some (.int a4)] [] S := by
  refine zr_aload_n (i := 0) (x := 7) (n := 51) d_Ed_draftEntries_50 rfl rfl rfl ?_
  refine zr_iload_n (i := 3) (x := a3) (n := 52) d_Ed_draftEntries_51 rfl rfl rfl ?_
  refine zr_callV (M' := M_Ed_write) (mc' := 0) (ms' := 0) (av := [.int a3]) (rest := []) (n := 55) d_Ed_draftEntries_52 rfl w_Ed_74 w_Ed_74k gg_7 rfl rfl rfl rfl rfl rfl (Nat.le_refl _) (Nat.le_refl _) ?_
  exact l1
theorem s_Ed_draftEntries_55 {d : Nat} {Q : zm_Q} {S : zm_S} {a2 a3 a4 : Int32} (j1 : Nat) (o1 : zm_ix a3 j1 12)
    (l1 : zc M_Tree_entryAfter d [.ref 1, .int a2, .int (S 4 j1)] S (fun v G' S' => zm_WP M_Ed_draftEntries none (d + 1) 0 0 Q 65 [some (.ref 7), some (.ref 1), some (.int a2), none, some (.int a4)] (zm_ps v []) G' S' 0 0)) :
    zw M_Ed_draftEntries (d + 1) Q 55 [some (.ref 7), some (.ref 1), some (.int a2), some (.int a3), some (.int a4)] [] S := by
  refine zr_aload_n (i := 1) (x := 1) (n := 56) d_Ed_draftEntries_55 rfl rfl rfl ?_
  refine zr_iload_n (i := 2) (x := a2) (n := 57) d_Ed_draftEntries_56 rfl rfl rfl ?_
  refine zr_aload_n (i := 1) (x := 1) (n := 58) d_Ed_draftEntries_57 rfl rfl rfl ?_
  refine zr_iload_n (i := 3) (x := a3) (n := 59) d_Ed_draftEntries_58 rfl rfl rfl ?_
  refine zr_weak (zm_LE.cons (zm_LE.cons (zm_LE.cons (zm_LE.skip (zm_LE.cons zm_LE.nil))))) ?_
  refine zr_callV (M' := M_Tree_nameOf) (mc' := 0) (ms' := 0) (av := [.int a3]) (rest := [.int a2, .ref 1]) (n := 62) d_Ed_draftEntries_59 rfl w_Ed_94 w_Ed_94k gg_1 rfl rfl rfl rfl rfl rfl (Nat.le_refl _) (Nat.le_refl _) ?_
  refine c_Tree_nameOf (a1 := a3) j1 o1 ?_
  refine zr_callV (M' := M_Tree_entryAfter) (mc' := 0) (ms' := 0) (av := [.int a2, .int (S 4 j1)]) (rest := []) (n := 65) d_Ed_draftEntries_62 rfl w_Ed_91 w_Ed_91k gg_1 rfl rfl rfl rfl rfl rfl (Nat.le_refl _) (Nat.le_refl _) ?_
  exact l1
theorem s_Ed_draftEntries_65 {d : Nat} {Q : zm_Q} {S : zm_S} {a2 a4 r : Int32}
    (l1 : zw M_Ed_draftEntries (d + 1) Q 10 [some (.ref 7), some (.ref 1), some (.int a2), some (.int r), some (.int (a4 + 1))] [] S) :
    zw M_Ed_draftEntries (d + 1) Q 65 [some (.ref 7), some (.ref 1), some (.int a2), none, some (.int a4)] [.int r] S := by
  refine zr_istore_n (i := 3) (L' := [some (.ref 7), some (.ref 1), some (.int a2), some (.int r), some (.int a4)]) (n := 66) d_Ed_draftEntries_65 rfl rfl rfl rfl ?_
  refine zr_iinc (i := 4) (w := 1) (x := a4) (L' := [some (.ref 7), some (.ref 1), some (.int a2), some (.int r), some (.int (a4 + 1))]) (n := 69) d_Ed_draftEntries_66 rfl (by decide) rfl rfl ?_
  refine zr_goto (tgt := 10) d_Ed_draftEntries_69 (by decide) ?_
  exact l1
theorem e_Ed_draftEntries {d : Nat} {Q : zm_Q} {S : zm_S} {a2 : Int32} (h : zw M_Ed_draftEntries (d + 1) Q 0 [some (.ref 7), some (.ref 1), some (.int a2), none, none] [] S) : zc M_Ed_draftEntries (d + 1) [.ref 7, .ref 1, .int a2] S Q := zm_CC_intro (by decide) rfl rfl h
theorem s_Ed_write_0 {d : Nat} {Q : zm_Q} {S : zm_S} {a1 : Int32} (j1 : Nat) (o1 : ¬ 48 ≤ (S 7 9) → zm_ix (S 7 9) j1 48)
    (l1 : 48 ≤ (S 7 9) → Q none GG S)
    (l2 : ¬ 48 ≤ (S 7 9) → Q none GG (zm_up (zm_up S 13 j1 a1) 7 9 ((S 7 9) + 1))) :
    zw M_Ed_write d Q 0 [some (.ref 7), some (.int a1)] [] S := by
  refine zr_aload_n (i := 0) (x := 7) (n := 1) d_Ed_write_0 rfl rfl rfl ?_
  refine zr_geti (n := 4) d_Ed_write_1 rfl f_Ed_40 gg_7 rfl ?_
  refine zr_aload_n (i := 0) (x := 7) (n := 5) d_Ed_write_4 rfl rfl rfl ?_
  refine zr_getr (n := 8) d_Ed_write_5 rfl f_Ed_37 gg_7 rfl ?_
  refine zr_alen (v := 48) (n := 9) d_Ed_write_8 rfl gg_13 (by decide) ?_
  refine zr_icmp_ge (tgt := 32) (n := 12) d_Ed_write_9 rfl (by decide) (fun h1 => ?_) (fun h1 => ?_)
  · exact zr_return d_Ed_write_32 rfl (Nat.le_refl _) (Nat.le_refl _) (l1 h1)
  · refine zr_aload_n (i := 0) (x := 7) (n := 13) d_Ed_write_12 rfl rfl rfl ?_
    refine zr_getr (n := 16) d_Ed_write_13 rfl f_Ed_37 gg_7 rfl ?_
    refine zr_aload_n (i := 0) (x := 7) (n := 17) d_Ed_write_16 rfl rfl rfl ?_
    refine zr_geti (n := 20) d_Ed_write_17 rfl f_Ed_40 gg_7 rfl ?_
    refine zr_iload_n (i := 1) (x := a1) (n := 21) d_Ed_write_20 rfl rfl rfl ?_
    refine zr_iastore j1 (n := 22) d_Ed_write_21 rfl gg_13 (o1 h1) ?_
    refine zr_aload_n (i := 0) (x := 7) (n := 23) d_Ed_write_22 rfl rfl rfl ?_
    refine zr_dup (n := 24) d_Ed_write_23 rfl rfl ?_
    refine zr_geti (n := 27) d_Ed_write_24 rfl f_Ed_40 gg_7 rfl ?_
    refine zr_iconst (v := 1) (n := 28) d_Ed_write_27 rfl (by decide) ?_
    refine zr_iadd (n := 29) d_Ed_write_28 rfl ?_
    refine zr_puti (n := 32) d_Ed_write_29 rfl f_Ed_40 tw_Ed rfl rfl rfl rfl gg_7 rfl ?_
    exact zr_return d_Ed_write_32 rfl (Nat.le_refl _) (Nat.le_refl _) (l2 h1)
theorem e_Ed_write {d : Nat} {Q : zm_Q} {S : zm_S} {a1 : Int32} (h : zw M_Ed_write d Q 0 [some (.ref 7), some (.int a1)] [] S) : zc M_Ed_write d [.ref 7, .int a1] S Q := zm_CC_intro (by decide) rfl rfl h
theorem s_Ed_keepDraft_0 {d : Nat} {Q : zm_Q} {S : zm_S} {a1 : Int32} (j1 : Nat) (o1 : (S 7 1) ≤ a1 → zm_ix a1 j1 12)
    (l1 : (S 7 1) ≤ a1 → zw M_Ed_keepDraft (d + 2) Q 26 [some (.ref 7), some (.int a1)] [] (zm_up S 9 j1 (S 7 0)))
    (l2 : ¬ (S 7 1) ≤ a1 → zc M_Ed_draftEquals (d + 1) [.ref 7, .int a1] S (fun v G' S' => zm_WP M_Ed_keepDraft none (d + 2) 0 0 Q 13 [some (.ref 7), some (.int a1)] (zm_ps v []) G' S' 0 0)) :
    zw M_Ed_keepDraft (d + 2) Q 0 [some (.ref 7), some (.int a1)] [] S := by
  refine zr_iload_n (i := 1) (x := a1) (n := 1) d_Ed_keepDraft_0 rfl rfl rfl ?_
  refine zr_aload_n (i := 0) (x := 7) (n := 2) d_Ed_keepDraft_1 rfl rfl rfl ?_
  refine zr_geti (n := 5) d_Ed_keepDraft_2 rfl f_Ed_15 gg_7 rfl ?_
  refine zr_icmp_ge (tgt := 16) (n := 8) d_Ed_keepDraft_5 rfl (by decide) (fun h1 => ?_) (fun h1 => ?_)
  · refine zr_aload_n (i := 0) (x := 7) (n := 17) d_Ed_keepDraft_16 rfl rfl rfl ?_
    refine zr_getr (n := 20) d_Ed_keepDraft_17 rfl f_Ed_22 gg_7 rfl ?_
    refine zr_iload_n (i := 1) (x := a1) (n := 21) d_Ed_keepDraft_20 rfl rfl rfl ?_
    refine zr_aload_n (i := 0) (x := 7) (n := 22) d_Ed_keepDraft_21 rfl rfl rfl ?_
    refine zr_geti (n := 25) d_Ed_keepDraft_22 rfl f_Ed_9 gg_7 rfl ?_
    refine zr_iastore j1 (n := 26) d_Ed_keepDraft_25 rfl gg_9 (o1 h1) ?_
    exact (l1 h1)
  · refine zr_aload_n (i := 0) (x := 7) (n := 9) d_Ed_keepDraft_8 rfl rfl rfl ?_
    refine zr_iload_n (i := 1) (x := a1) (n := 10) d_Ed_keepDraft_9 rfl rfl rfl ?_
    refine zr_callV (M' := M_Ed_draftEquals) (mc' := 0) (ms' := 0) (av := [.int a1]) (rest := []) (n := 13) d_Ed_keepDraft_10 rfl w_Ed_97 w_Ed_97k gg_7 rfl rfl rfl rfl rfl rfl (Nat.le_refl _) (Nat.le_refl _) ?_
    exact (l2 h1)
theorem s_Ed_keepDraft_26 {d : Nat} {Q : zm_Q} {S : zm_S} {a1 : Int32} (j1 : Nat) (j2 : Nat) (j3 : Nat) (o1 : zm_ix a1 j1 12) (o2 : ¬ (a1 * 48) < 0 ∧ ((a1 * 48)).toNatClampNeg = j2) (o3 : ¬ (S 7 9) < 0 ∧ ((S 7 9)).toNatClampNeg = j3) (o4 : 0 + j3 ≤ 48) (o5 : j2 + j3 ≤ 576)
    (l1 : Q none GG (zm_upA (zm_up S 8 j1 (S 7 9)) 10 (va_cpy ((zm_up S 8 j1 (S 7 9)) 13) ((zm_up S 8 j1 (S 7 9)) 10) 0 j2 j3))) :
    zw M_Ed_keepDraft (d + 2) Q 26 [some (.ref 7), some (.int a1)] [] S := by
  refine zr_aload_n (i := 0) (x := 7) (n := 27) d_Ed_keepDraft_26 rfl rfl rfl ?_
  refine zr_getr (n := 30) d_Ed_keepDraft_27 rfl f_Ed_18 gg_7 rfl ?_
  refine zr_iload_n (i := 1) (x := a1) (n := 31) d_Ed_keepDraft_30 rfl rfl rfl ?_
  refine zr_aload_n (i := 0) (x := 7) (n := 32) d_Ed_keepDraft_31 rfl rfl rfl ?_
  refine zr_geti (n := 35) d_Ed_keepDraft_32 rfl f_Ed_40 gg_7 rfl ?_
  refine zr_iastore j1 (n := 36) d_Ed_keepDraft_35 rfl gg_8 o1 ?_
  refine zr_aload_n (i := 0) (x := 7) (n := 37) d_Ed_keepDraft_36 rfl rfl rfl ?_
  refine zr_getr (n := 40) d_Ed_keepDraft_37 rfl f_Ed_37 gg_7 rfl ?_
  refine zr_iconst (v := 0) (n := 41) d_Ed_keepDraft_40 rfl (by decide) ?_
  refine zr_aload_n (i := 0) (x := 7) (n := 42) d_Ed_keepDraft_41 rfl rfl rfl ?_
  refine zr_getr (n := 45) d_Ed_keepDraft_42 rfl f_Ed_25 gg_7 rfl ?_
  refine zr_iload_n (i := 1) (x := a1) (n := 46) d_Ed_keepDraft_45 rfl rfl rfl ?_
  refine zr_bipush (v := 48) (n := 48) d_Ed_keepDraft_46 rfl (by decide) ?_
  refine zr_imul (n := 49) d_Ed_keepDraft_48 rfl ?_
  refine zr_aload_n (i := 0) (x := 7) (n := 50) d_Ed_keepDraft_49 rfl rfl rfl ?_
  refine zr_geti (n := 53) d_Ed_keepDraft_50 rfl f_Ed_40 gg_7 rfl ?_
  refine zr_copy (n := 56) 0 j2 j3 d_Ed_keepDraft_53 rfl acw_Ed gg_13 gg_10 ⟨(by decide), (by decide)⟩ o2 o3 o4 o5 rfl ?_
  exact zr_return d_Ed_keepDraft_56 rfl (Nat.le_refl _) (Nat.le_refl _) l1
theorem s_Ed_keepDraft_13 {d : Nat} {Q : zm_Q} {S : zm_S} {a1 r : Int32} (j1 : Nat) (o1 : r = 0 → zm_ix a1 j1 12)
    (l1 : ¬ r = 0 → zw M_Ed_keepDraft (d + 2) Q 26 [some (.ref 7), some (.int a1)] [] S)
    (l2 : r = 0 → zw M_Ed_keepDraft (d + 2) Q 26 [some (.ref 7), some (.int a1)] [] (zm_up S 9 j1 (S 7 0))) :
    zw M_Ed_keepDraft (d + 2) Q 13 [some (.ref 7), some (.int a1)] [.int r] S := by
  refine zr_if_ne (tgt := 26) (n := 16) d_Ed_keepDraft_13 rfl (by decide) (fun h1 => ?_) (fun h1 => ?_)
  · exact (l1 h1)
  · refine zr_aload_n (i := 0) (x := 7) (n := 17) d_Ed_keepDraft_16 rfl rfl rfl ?_
    refine zr_getr (n := 20) d_Ed_keepDraft_17 rfl f_Ed_22 gg_7 rfl ?_
    refine zr_iload_n (i := 1) (x := a1) (n := 21) d_Ed_keepDraft_20 rfl rfl rfl ?_
    refine zr_aload_n (i := 0) (x := 7) (n := 22) d_Ed_keepDraft_21 rfl rfl rfl ?_
    refine zr_geti (n := 25) d_Ed_keepDraft_22 rfl f_Ed_9 gg_7 rfl ?_
    refine zr_iastore j1 (n := 26) d_Ed_keepDraft_25 rfl gg_9 (o1 h1) ?_
    exact (l2 h1)
theorem e_Ed_keepDraft {d : Nat} {Q : zm_Q} {S : zm_S} {a1 : Int32} (h : zw M_Ed_keepDraft (d + 2) Q 0 [some (.ref 7), some (.int a1)] [] S) : zc M_Ed_keepDraft (d + 2) [.ref 7, .int a1] S Q := zm_CC_intro (by decide) rfl rfl h
theorem s_Ed_draftEquals_0 {d : Nat} {Q : zm_Q} {S : zm_S} {a1 : Int32} (j1 : Nat) (o1 : zm_ix a1 j1 12)
    (l1 : (S 8 j1) = (S 7 9) → zw M_Ed_draftEquals (d + 1) Q 17 [some (.ref 7), some (.int a1), some (.int 0)] [] S)
    (l2 : ¬ (S 8 j1) = (S 7 9) → Q (some 0) GG S) :
    zw M_Ed_draftEquals (d + 1) Q 0 [some (.ref 7), some (.int a1), none] [] S := by
  refine zr_aload_n (i := 0) (x := 7) (n := 1) d_Ed_draftEquals_0 rfl rfl rfl ?_
  refine zr_getr (n := 4) d_Ed_draftEquals_1 rfl f_Ed_18 gg_7 rfl ?_
  refine zr_iload_n (i := 1) (x := a1) (n := 5) d_Ed_draftEquals_4 rfl rfl rfl ?_
  refine zr_iaload j1 (n := 6) d_Ed_draftEquals_5 rfl gg_8 o1 ?_
  refine zr_aload_n (i := 0) (x := 7) (n := 7) d_Ed_draftEquals_6 rfl rfl rfl ?_
  refine zr_geti (n := 10) d_Ed_draftEquals_7 rfl f_Ed_40 gg_7 rfl ?_
  refine zr_icmp_eq (tgt := 15) (n := 13) d_Ed_draftEquals_10 rfl (by decide) (fun h1 => ?_) (fun h1 => ?_)
  · refine zr_iconst (v := 0) (n := 16) d_Ed_draftEquals_15 rfl (by decide) ?_
    refine zr_istore_n (i := 2) (L' := [some (.ref 7), some (.int a1), some (.int 0)]) (n := 17) d_Ed_draftEquals_16 rfl rfl rfl rfl ?_
    exact (l1 h1)
  · refine zr_iconst (v := 0) (n := 14) d_Ed_draftEquals_13 rfl (by decide) ?_
    exact zr_ireturn d_Ed_draftEquals_14 rfl (by decide) (Nat.le_refl _) (Nat.le_refl _) (l2 h1)
theorem s_Ed_draftEquals_17 {d : Nat} {Q : zm_Q} {S : zm_S} {a1 a2 : Int32} (j1 : Nat) (j2 : Nat) (o1 : ¬ (S 7 9) ≤ a2 → zm_ix ((a1 * 48) + a2) j1 576) (o2 : ¬ (S 7 9) ≤ a2 → zm_ix a2 j2 48)
    (l1 : (S 7 9) ≤ a2 → Q (some 1) GG S)
    (l2 : ¬ (S 7 9) ≤ a2 → (S 10 j1) = (S 13 j2) → zw M_Ed_draftEquals (d + 1) Q 17 [some (.ref 7), some (.int a1), some (.int (a2 + 1))] [] S)
    (l3 : ¬ (S 7 9) ≤ a2 → ¬ (S 10 j1) = (S 13 j2) → Q (some 0) GG S) :
    zw M_Ed_draftEquals (d + 1) Q 17 [some (.ref 7), some (.int a1), some (.int a2)] [] S := by
  refine zr_iload_n (i := 2) (x := a2) (n := 18) d_Ed_draftEquals_17 rfl rfl rfl ?_
  refine zr_aload_n (i := 0) (x := 7) (n := 19) d_Ed_draftEquals_18 rfl rfl rfl ?_
  refine zr_geti (n := 22) d_Ed_draftEquals_19 rfl f_Ed_40 gg_7 rfl ?_
  refine zr_icmp_ge (tgt := 48) (n := 25) d_Ed_draftEquals_22 rfl (by decide) (fun h1 => ?_) (fun h1 => ?_)
  · refine zr_iconst (v := 1) (n := 49) d_Ed_draftEquals_48 rfl (by decide) ?_
    exact zr_ireturn d_Ed_draftEquals_49 rfl (by decide) (Nat.le_refl _) (Nat.le_refl _) (l1 h1)
  · refine zr_aload_n (i := 0) (x := 7) (n := 26) d_Ed_draftEquals_25 rfl rfl rfl ?_
    refine zr_iload_n (i := 1) (x := a1) (n := 27) d_Ed_draftEquals_26 rfl rfl rfl ?_
    refine zr_iload_n (i := 2) (x := a2) (n := 28) d_Ed_draftEquals_27 rfl rfl rfl ?_
    refine zr_callV (M' := M_Ed_byteAt) (mc' := 0) (ms' := 0) (av := [.int a1, .int a2]) (rest := []) (n := 31) d_Ed_draftEquals_28 rfl w_Ed_106 w_Ed_106k gg_7 rfl rfl rfl rfl rfl rfl (Nat.le_refl _) (Nat.le_refl _) ?_
    refine c_Ed_byteAt (a1 := a1) (a2 := a2) j1 (o1 h1) ?_
    refine zr_aload_n (i := 0) (x := 7) (n := 32) d_Ed_draftEquals_31 rfl rfl rfl ?_
    refine zr_getr (n := 35) d_Ed_draftEquals_32 rfl f_Ed_37 gg_7 rfl ?_
    refine zr_iload_n (i := 2) (x := a2) (n := 36) d_Ed_draftEquals_35 rfl rfl rfl ?_
    refine zr_iaload j2 (n := 37) d_Ed_draftEquals_36 rfl gg_13 (o2 h1) ?_
    refine zr_icmp_eq (tgt := 42) (n := 40) d_Ed_draftEquals_37 rfl (by decide) (fun h2 => ?_) (fun h2 => ?_)
    · refine zr_iinc (i := 2) (w := 1) (x := a2) (L' := [some (.ref 7), some (.int a1), some (.int (a2 + 1))]) (n := 45) d_Ed_draftEquals_42 rfl (by decide) rfl rfl ?_
      refine zr_goto (tgt := 17) d_Ed_draftEquals_45 (by decide) ?_
      exact (l2 h1 h2)
    · refine zr_iconst (v := 0) (n := 41) d_Ed_draftEquals_40 rfl (by decide) ?_
      exact zr_ireturn d_Ed_draftEquals_41 rfl (by decide) (Nat.le_refl _) (Nat.le_refl _) (l3 h1 h2)
theorem e_Ed_draftEquals {d : Nat} {Q : zm_Q} {S : zm_S} {a1 : Int32} (h : zw M_Ed_draftEquals (d + 1) Q 0 [some (.ref 7), some (.int a1), none] [] S) : zc M_Ed_draftEquals (d + 1) [.ref 7, .int a1] S Q := zm_CC_intro (by decide) rfl rfl h
theorem s_Tree_hasEntry_0 {d : Nat} {Q : zm_Q} {S : zm_S} {a1 a2 : Int32}
    (l1 : zw M_Tree_hasEntry d Q 2 [some (.ref 1), some (.int a1), some (.int a2), some (.int 1)] [] S) :
    zw M_Tree_hasEntry d Q 0 [some (.ref 1), some (.int a1), some (.int a2), none] [] S := by
  refine zr_iconst (v := 1) (n := 1) d_Tree_hasEntry_0 rfl (by decide) ?_
  refine zr_istore_n (i := 3) (L' := [some (.ref 1), some (.int a1), some (.int a2), some (.int 1)]) (n := 2) d_Tree_hasEntry_1 rfl rfl rfl rfl ?_
  exact l1
theorem s_Tree_hasEntry_2 {d : Nat} {Q : zm_Q} {S : zm_S} {a1 a2 a3 : Int32} (j1 : Nat) (o1 : ¬ 12 ≤ a3 → zm_ix a3 j1 12)
    (l1 : 12 ≤ a3 → Q (some 0) GG S)
    (l2 : ((¬ 12 ≤ a3 ∧ ¬ (S 3 j1) = a1) ∨ (¬ 12 ≤ a3 ∧ (S 3 j1) = a1 ∧ ¬ (S 4 j1) = a2)) → zw M_Tree_hasEntry d Q 2 [some (.ref 1), some (.int a1), some (.int a2), some (.int (a3 + 1))] [] S)
    (l3 : ¬ 12 ≤ a3 → (S 3 j1) = a1 → (S 4 j1) = a2 → Q (some 1) GG S) :
    zw M_Tree_hasEntry d Q 2 [some (.ref 1), some (.int a1), some (.int a2), some (.int a3)] [] S := by
  refine zr_iload_n (i := 3) (x := a3) (n := 3) d_Tree_hasEntry_2 rfl rfl rfl ?_
  refine zr_bipush (v := 12) (n := 5) d_Tree_hasEntry_3 rfl (by decide) ?_
  refine zr_icmp_ge (tgt := 36) (n := 8) d_Tree_hasEntry_5 rfl (by decide) (fun h1 => ?_) (fun h1 => ?_)
  · refine zr_iconst (v := 0) (n := 37) d_Tree_hasEntry_36 rfl (by decide) ?_
    exact zr_ireturn d_Tree_hasEntry_37 rfl (by decide) (Nat.le_refl _) (Nat.le_refl _) (l1 h1)
  · refine zr_aload_n (i := 0) (x := 1) (n := 9) d_Tree_hasEntry_8 rfl rfl rfl ?_
    refine zr_getr (n := 12) d_Tree_hasEntry_9 rfl f_Tree_15 gg_1 rfl ?_
    refine zr_iload_n (i := 3) (x := a3) (n := 13) d_Tree_hasEntry_12 rfl rfl rfl ?_
    refine zr_iaload j1 (n := 14) d_Tree_hasEntry_13 rfl gg_3 (o1 h1) ?_
    refine zr_iload_n (i := 1) (x := a1) (n := 15) d_Tree_hasEntry_14 rfl rfl rfl ?_
    refine zr_icmp_ne (tgt := 30) (n := 18) d_Tree_hasEntry_15 rfl (by decide) (fun h2 => ?_) (fun h2 => ?_)
    · refine zr_iinc (i := 3) (w := 1) (x := a3) (L' := [some (.ref 1), some (.int a1), some (.int a2), some (.int (a3 + 1))]) (n := 33) d_Tree_hasEntry_30 rfl (by decide) rfl rfl ?_
      refine zr_goto (tgt := 2) d_Tree_hasEntry_33 (by decide) ?_
      exact (l2 (Or.inl ⟨h1, h2⟩))
    · refine zr_aload_n (i := 0) (x := 1) (n := 19) d_Tree_hasEntry_18 rfl rfl rfl ?_
      refine zr_getr (n := 22) d_Tree_hasEntry_19 rfl f_Tree_18 gg_1 rfl ?_
      refine zr_iload_n (i := 3) (x := a3) (n := 23) d_Tree_hasEntry_22 rfl rfl rfl ?_
      refine zr_iaload j1 (n := 24) d_Tree_hasEntry_23 rfl gg_4 (o1 h1) ?_
      refine zr_iload_n (i := 2) (x := a2) (n := 25) d_Tree_hasEntry_24 rfl rfl rfl ?_
      refine zr_icmp_ne (tgt := 30) (n := 28) d_Tree_hasEntry_25 rfl (by decide) (fun h3 => ?_) (fun h3 => ?_)
      · refine zr_iinc (i := 3) (w := 1) (x := a3) (L' := [some (.ref 1), some (.int a1), some (.int a2), some (.int (a3 + 1))]) (n := 33) d_Tree_hasEntry_30 rfl (by decide) rfl rfl ?_
        refine zr_goto (tgt := 2) d_Tree_hasEntry_33 (by decide) ?_
        exact (l2 (Or.inr ⟨h1, h2, h3⟩))
      · refine zr_iconst (v := 1) (n := 29) d_Tree_hasEntry_28 rfl (by decide) ?_
        exact zr_ireturn d_Tree_hasEntry_29 rfl (by decide) (Nat.le_refl _) (Nat.le_refl _) (l3 h1 h2 h3)
theorem e_Tree_hasEntry {d : Nat} {Q : zm_Q} {S : zm_S} {a1 a2 : Int32} (h : zw M_Tree_hasEntry d Q 0 [some (.ref 1), some (.int a1), some (.int a2), none] [] S) : zc M_Tree_hasEntry d [.ref 1, .int a1, .int a2] S Q := zm_CC_intro (by decide) rfl rfl h
theorem s_Tree_entryCount_0 {d : Nat} {Q : zm_Q} {S : zm_S} {a1 : Int32}
    (l1 : zw M_Tree_entryCount d Q 4 [some (.ref 1), some (.int a1), some (.int 0), some (.int 1)] [] S) :
    zw M_Tree_entryCount d Q 0 [some (.ref 1), some (.int a1), none, none] [] S := by
  refine zr_iconst (v := 0) (n := 1) d_Tree_entryCount_0 rfl (by decide) ?_
  refine zr_istore_n (i := 2) (L' := [some (.ref 1), some (.int a1), some (.int 0), none]) (n := 2) d_Tree_entryCount_1 rfl rfl rfl rfl ?_
  refine zr_iconst (v := 1) (n := 3) d_Tree_entryCount_2 rfl (by decide) ?_
  refine zr_istore_n (i := 3) (L' := [some (.ref 1), some (.int a1), some (.int 0), some (.int 1)]) (n := 4) d_Tree_entryCount_3 rfl rfl rfl rfl ?_
  exact l1
theorem s_Tree_entryCount_4 {d : Nat} {Q : zm_Q} {S : zm_S} {a1 a2 a3 : Int32} (j1 : Nat) (o1 : ¬ 12 ≤ a3 → zm_ix a3 j1 12)
    (l1 : 12 ≤ a3 → Q (some a2) GG S)
    (l2 : ¬ 12 ≤ a3 → ¬ (S 3 j1) = a1 → zw M_Tree_entryCount d Q 4 [some (.ref 1), some (.int a1), some (.int a2), some (.int (a3 + 1))] [] S)
    (l3 : ¬ 12 ≤ a3 → (S 3 j1) = a1 → zw M_Tree_entryCount d Q 4 [some (.ref 1), some (.int a1), some (.int (a2 + 1)), some (.int (a3 + 1))] [] S) :
    zw M_Tree_entryCount d Q 4 [some (.ref 1), some (.int a1), some (.int a2), some (.int a3)] [] S := by
  refine zr_iload_n (i := 3) (x := a3) (n := 5) d_Tree_entryCount_4 rfl rfl rfl ?_
  refine zr_bipush (v := 12) (n := 7) d_Tree_entryCount_5 rfl (by decide) ?_
  refine zr_icmp_ge (tgt := 29) (n := 10) d_Tree_entryCount_7 rfl (by decide) (fun h1 => ?_) (fun h1 => ?_)
  · refine zr_iload_n (i := 2) (x := a2) (n := 30) d_Tree_entryCount_29 rfl rfl rfl ?_
    exact zr_ireturn d_Tree_entryCount_30 rfl rfl (Nat.le_refl _) (Nat.le_refl _) (l1 h1)
  · refine zr_aload_n (i := 0) (x := 1) (n := 11) d_Tree_entryCount_10 rfl rfl rfl ?_
    refine zr_getr (n := 14) d_Tree_entryCount_11 rfl f_Tree_15 gg_1 rfl ?_
    refine zr_iload_n (i := 3) (x := a3) (n := 15) d_Tree_entryCount_14 rfl rfl rfl ?_
    refine zr_iaload j1 (n := 16) d_Tree_entryCount_15 rfl gg_3 (o1 h1) ?_
    refine zr_iload_n (i := 1) (x := a1) (n := 17) d_Tree_entryCount_16 rfl rfl rfl ?_
    refine zr_icmp_ne (tgt := 23) (n := 20) d_Tree_entryCount_17 rfl (by decide) (fun h2 => ?_) (fun h2 => ?_)
    · refine zr_iinc (i := 3) (w := 1) (x := a3) (L' := [some (.ref 1), some (.int a1), some (.int a2), some (.int (a3 + 1))]) (n := 26) d_Tree_entryCount_23 rfl (by decide) rfl rfl ?_
      refine zr_goto (tgt := 4) d_Tree_entryCount_26 (by decide) ?_
      exact (l2 h1 h2)
    · refine zr_iinc (i := 2) (w := 1) (x := a2) (L' := [some (.ref 1), some (.int a1), some (.int (a2 + 1)), some (.int a3)]) (n := 23) d_Tree_entryCount_20 rfl (by decide) rfl rfl ?_
      refine zr_iinc (i := 3) (w := 1) (x := a3) (L' := [some (.ref 1), some (.int a1), some (.int (a2 + 1)), some (.int (a3 + 1))]) (n := 26) d_Tree_entryCount_23 rfl (by decide) rfl rfl ?_
      refine zr_goto (tgt := 4) d_Tree_entryCount_26 (by decide) ?_
      exact (l3 h1 h2)
theorem e_Tree_entryCount {d : Nat} {Q : zm_Q} {S : zm_S} {a1 : Int32} (h : zw M_Tree_entryCount d Q 0 [some (.ref 1), some (.int a1), none, none] [] S) : zc M_Tree_entryCount d [.ref 1, .int a1] S Q := zm_CC_intro (by decide) rfl rfl h
theorem s_Tree_leastFreeKey_0 {d : Nat} {Q : zm_Q} {S : zm_S}
    (l1 : zw M_Tree_leastFreeKey (d + 1) Q 2 [some (.ref 1), some (.int 1)] [] S) :
    zw M_Tree_leastFreeKey (d + 1) Q 0 [some (.ref 1), none] [] S := by
  refine zr_iconst (v := 1) (n := 1) d_Tree_leastFreeKey_0 rfl (by decide) ?_
  refine zr_istore_n (i := 1) (L' := [some (.ref 1), some (.int 1)]) (n := 2) d_Tree_leastFreeKey_1 rfl rfl rfl rfl ?_
  exact l1
theorem s_Tree_leastFreeKey_2 {d : Nat} {Q : zm_Q} {S : zm_S} {a1 : Int32} (j1 : Nat) (o1 : ¬ 12 ≤ a1 → zm_ix a1 j1 12)
    (l1 : 12 ≤ a1 → Q (some (-1)) GG S)
    (l2 : ¬ 12 ≤ a1 → (S 2 j1) = 0 → Q (some a1) GG S)
    (l3 : ¬ 12 ≤ a1 → ¬ (S 2 j1) = 0 → zw M_Tree_leastFreeKey (d + 1) Q 2 [some (.ref 1), some (.int (a1 + 1))] [] S) :
    zw M_Tree_leastFreeKey (d + 1) Q 2 [some (.ref 1), some (.int a1)] [] S := by
  refine zr_iload_n (i := 1) (x := a1) (n := 3) d_Tree_leastFreeKey_2 rfl rfl rfl ?_
  refine zr_bipush (v := 12) (n := 5) d_Tree_leastFreeKey_3 rfl (by decide) ?_
  refine zr_icmp_ge (tgt := 24) (n := 8) d_Tree_leastFreeKey_5 rfl (by decide) (fun h1 => ?_) (fun h1 => ?_)
  · refine zr_iconst (v := (-1)) (n := 25) d_Tree_leastFreeKey_24 rfl (by decide) ?_
    exact zr_ireturn d_Tree_leastFreeKey_25 rfl rfl (Nat.le_refl _) (Nat.le_refl _) (l1 h1)
  · refine zr_aload_n (i := 0) (x := 1) (n := 9) d_Tree_leastFreeKey_8 rfl rfl rfl ?_
    refine zr_iload_n (i := 1) (x := a1) (n := 10) d_Tree_leastFreeKey_9 rfl rfl rfl ?_
    refine zr_callV (M' := M_Tree_isThere) (mc' := 0) (ms' := 0) (av := [.int a1]) (rest := []) (n := 13) d_Tree_leastFreeKey_10 rfl w_Tree_33 w_Tree_33k gg_1 rfl rfl rfl rfl rfl rfl (Nat.le_refl _) (Nat.le_refl _) ?_
    refine c_Tree_isThere (a1 := a1) j1 (o1 h1) (fun h2 => ?_) (fun h3 => ?_)
    · refine zr_if_ne (tgt := 18) (n := 16) d_Tree_leastFreeKey_13 rfl (by decide) (fun h => absurd h (by decide)) (fun _ => ?_)
      refine zr_iload_n (i := 1) (x := a1) (n := 17) d_Tree_leastFreeKey_16 rfl rfl rfl ?_
      exact zr_ireturn d_Tree_leastFreeKey_17 rfl rfl (Nat.le_refl _) (Nat.le_refl _) (l2 h1 h2)
    · refine zr_if_ne (tgt := 18) (n := 16) d_Tree_leastFreeKey_13 rfl (by decide) (fun _ => ?_) (fun h => absurd h (by decide))
      refine zr_iinc (i := 1) (w := 1) (x := a1) (L' := [some (.ref 1), some (.int (a1 + 1))]) (n := 21) d_Tree_leastFreeKey_18 rfl (by decide) rfl rfl ?_
      refine zr_goto (tgt := 2) d_Tree_leastFreeKey_21 (by decide) ?_
      exact (l3 h1 h3)
theorem e_Tree_leastFreeKey {d : Nat} {Q : zm_Q} {S : zm_S} (h : zw M_Tree_leastFreeKey (d + 1) Q 0 [some (.ref 1), none] [] S) : zc M_Tree_leastFreeKey (d + 1) [.ref 1] S Q := zm_CC_intro (by decide) rfl rfl h
theorem s_Tree_messageLength_0 {d : Nat} {Q : zm_Q} {S : zm_S} {a1 : Int32} (j1 : Nat) (o1 : zm_ix a1 j1 12) (o2 : (S 2 j1) = 3 → zm_ix a1 j1 12)
    (l1 : ¬ (S 2 j1) = 3 → zc M_Tree_entryCount d [.ref 1, .int a1] S (fun v G' S' => zm_WP M_Tree_messageLength none (d + 1) 0 0 Q 23 [none, none] (zm_ps v [.int 4]) G' S' 0 0))
    (l2 : (S 2 j1) = 3 → Q (some (S 5 j1)) GG S) :
    zw M_Tree_messageLength (d + 1) Q 0 [some (.ref 1), some (.int a1)] [] S := by
  refine zr_aload_n (i := 0) (x := 1) (n := 1) d_Tree_messageLength_0 rfl rfl rfl ?_
  refine zr_iload_n (i := 1) (x := a1) (n := 2) d_Tree_messageLength_1 rfl rfl rfl ?_
  refine zr_callV (M' := M_Tree_isFile) (mc' := 0) (ms' := 0) (av := [.int a1]) (rest := []) (n := 5) d_Tree_messageLength_2 rfl w_Tree_37 w_Tree_37k gg_1 rfl rfl rfl rfl rfl rfl (Nat.le_refl _) (Nat.le_refl _) ?_
  refine c_Tree_isFile (a1 := a1) j1 o1 (fun h1 => ?_) (fun h2 => ?_)
  · refine zr_if_eq (tgt := 17) (n := 8) d_Tree_messageLength_5 rfl (by decide) (fun _ => ?_) (fun h => absurd h (by decide))
    refine zr_iconst (v := 4) (n := 18) d_Tree_messageLength_17 rfl (by decide) ?_
    refine zr_aload_n (i := 0) (x := 1) (n := 19) d_Tree_messageLength_18 rfl rfl rfl ?_
    refine zr_iload_n (i := 1) (x := a1) (n := 20) d_Tree_messageLength_19 rfl rfl rfl ?_
    refine zr_weak (zm_LE.skip (zm_LE.skip zm_LE.nil)) ?_
    refine zr_callV (M' := M_Tree_entryCount) (mc' := 0) (ms' := 0) (av := [.int a1]) (rest := [.int 4]) (n := 23) d_Tree_messageLength_20 rfl w_Tree_40 w_Tree_40k gg_1 rfl rfl rfl rfl rfl rfl (Nat.le_refl _) (Nat.le_refl _) ?_
    exact (l1 h1)
  · refine zr_if_eq (tgt := 17) (n := 8) d_Tree_messageLength_5 rfl (by decide) (fun h => absurd h (by decide)) (fun _ => ?_)
    refine zr_aload_n (i := 0) (x := 1) (n := 9) d_Tree_messageLength_8 rfl rfl rfl ?_
    refine zr_getr (n := 12) d_Tree_messageLength_9 rfl f_Tree_21 gg_1 rfl ?_
    refine zr_iload_n (i := 1) (x := a1) (n := 13) d_Tree_messageLength_12 rfl rfl rfl ?_
    refine zr_iaload j1 (n := 14) d_Tree_messageLength_13 rfl gg_5 (o2 h2) ?_
    refine zr_goto (tgt := 24) d_Tree_messageLength_14 (by decide) ?_
    exact zr_ireturn d_Tree_messageLength_24 rfl rfl (Nat.le_refl _) (Nat.le_refl _) (l2 h2)
theorem s_Tree_messageLength_23 {d : Nat} {Q : zm_Q} {S : zm_S} {b0 r : Int32}
    (l1 : Q (some (b0 * r)) GG S) :
    zw M_Tree_messageLength (d + 1) Q 23 [none, none] [.int r, .int b0] S := by
  refine zr_imul (n := 24) d_Tree_messageLength_23 rfl ?_
  exact zr_ireturn d_Tree_messageLength_24 rfl rfl (Nat.le_refl _) (Nat.le_refl _) l1
theorem e_Tree_messageLength {d : Nat} {Q : zm_Q} {S : zm_S} {a1 : Int32} (h : zw M_Tree_messageLength (d + 1) Q 0 [some (.ref 1), some (.int a1)] [] S) : zc M_Tree_messageLength (d + 1) [.ref 1, .int a1] S Q := zm_CC_intro (by decide) rfl rfl h
theorem s_Tree_entryAfter_0 {d : Nat} {Q : zm_Q} {S : zm_S} {a1 a2 : Int32}
    (l1 : zw M_Tree_entryAfter d Q 5 [some (.ref 1), some (.int a1), some (.int a2), some (.int (-1)), some (.int 1), none] [] S) :
    zw M_Tree_entryAfter d Q 0 [some (.ref 1), some (.int a1), some (.int a2), none, none, none] [] S := by
  refine zr_iconst (v := (-1)) (n := 1) d_Tree_entryAfter_0 rfl (by decide) ?_
  refine zr_istore_n (i := 3) (L' := [some (.ref 1), some (.int a1), some (.int a2), some (.int (-1)), none, none]) (n := 2) d_Tree_entryAfter_1 rfl rfl rfl rfl ?_
  refine zr_iconst (v := 1) (n := 3) d_Tree_entryAfter_2 rfl (by decide) ?_
  refine zr_istore (i := 4) (L' := [some (.ref 1), some (.int a1), some (.int a2), some (.int (-1)), some (.int 1), none]) (n := 5) d_Tree_entryAfter_3 rfl rfl rfl ?_
  exact l1
theorem s_Tree_entryAfter_5 {d : Nat} {Q : zm_Q} {S : zm_S} {a1 a2 a3 a4 : Int32} (j1 : Nat) (j2 : Nat) (o1 : ¬ 12 ≤ a4 → zm_ix a4 j1 12) (o2 : ¬ 12 ≤ a4 → (S 3 j1) = a1 → ¬ (S 4 j1) ≤ a2 → ¬ a3 = (-1) → zm_ix a3 j2 12)
    (l1 : 12 ≤ a4 → Q (some a3) GG S)
    (l2 : ((¬ 12 ≤ a4 ∧ ¬ (S 3 j1) = a1) ∨ (¬ 12 ≤ a4 ∧ (S 3 j1) = a1 ∧ (S 4 j1) ≤ a2) ∨ (¬ 12 ≤ a4 ∧ (S 3 j1) = a1 ∧ ¬ (S 4 j1) ≤ a2 ∧ ¬ a3 = (-1) ∧ (S 4 j2) ≤ (S 4 j1))) → zw M_Tree_entryAfter d Q 5 [some (.ref 1), some (.int a1), some (.int a2), some (.int a3), some (.int (a4 + 1)), none] [] S)
    (l3 : ((¬ 12 ≤ a4 ∧ (S 3 j1) = a1 ∧ ¬ (S 4 j1) ≤ a2 ∧ a3 = (-1)) ∨ (¬ 12 ≤ a4 ∧ (S 3 j1) = a1 ∧ ¬ (S 4 j1) ≤ a2 ∧ ¬ a3 = (-1) ∧ ¬ (S 4 j2) ≤ (S 4 j1))) → zw M_Tree_entryAfter d Q 5 [some (.ref 1), some (.int a1), some (.int a2), some (.int a4), some (.int (a4 + 1)), none] [] S) :
    zw M_Tree_entryAfter d Q 5 [some (.ref 1), some (.int a1), some (.int a2), some (.int a3), some (.int a4), none] [] S := by
  refine zr_iload (i := 4) (x := a4) (n := 7) d_Tree_entryAfter_5 rfl rfl ?_
  refine zr_bipush (v := 12) (n := 9) d_Tree_entryAfter_7 rfl (by decide) ?_
  refine zr_icmp_ge (tgt := 76) (n := 12) d_Tree_entryAfter_9 rfl (by decide) (fun h1 => ?_) (fun h1 => ?_)
  · refine zr_iload_n (i := 3) (x := a3) (n := 77) d_Tree_entryAfter_76 rfl rfl rfl ?_
    exact zr_ireturn d_Tree_entryAfter_77 rfl rfl (Nat.le_refl _) (Nat.le_refl _) (l1 h1)
  · refine zr_aload_n (i := 0) (x := 1) (n := 13) d_Tree_entryAfter_12 rfl rfl rfl ?_
    refine zr_getr (n := 16) d_Tree_entryAfter_13 rfl f_Tree_15 gg_1 rfl ?_
    refine zr_iload (i := 4) (x := a4) (n := 18) d_Tree_entryAfter_16 rfl rfl ?_
    refine zr_iaload j1 (n := 19) d_Tree_entryAfter_18 rfl gg_3 (o1 h1) ?_
    refine zr_iload_n (i := 1) (x := a1) (n := 20) d_Tree_entryAfter_19 rfl rfl rfl ?_
    refine zr_icmp_ne (tgt := 38) (n := 23) d_Tree_entryAfter_20 rfl (by decide) (fun h2 => ?_) (fun h2 => ?_)
    · refine zr_iconst (v := 0) (n := 39) d_Tree_entryAfter_38 rfl (by decide) ?_
      refine zr_istore (i := 5) (L' := [some (.ref 1), some (.int a1), some (.int a2), some (.int a3), some (.int a4), some (.int 0)]) (n := 41) d_Tree_entryAfter_39 rfl rfl rfl ?_
      refine zr_iload (i := 5) (x := 0) (n := 43) d_Tree_entryAfter_41 rfl rfl ?_
      refine zr_if_eq (tgt := 70) (n := 46) d_Tree_entryAfter_43 rfl (by decide) (fun _ => ?_) (fun h => absurd h (by decide))
      refine zr_iinc (i := 4) (w := 1) (x := a4) (L' := [some (.ref 1), some (.int a1), some (.int a2), some (.int a3), some (.int (a4 + 1)), some (.int 0)]) (n := 73) d_Tree_entryAfter_70 rfl (by decide) rfl rfl ?_
      refine zr_goto (tgt := 5) d_Tree_entryAfter_73 (by decide) ?_
      exact zr_weak (zm_LE.cons (zm_LE.cons (zm_LE.cons (zm_LE.cons (zm_LE.cons (zm_LE.skip zm_LE.nil)))))) (l2 (Or.inl ⟨h1, h2⟩))
    · refine zr_aload_n (i := 0) (x := 1) (n := 24) d_Tree_entryAfter_23 rfl rfl rfl ?_
      refine zr_getr (n := 27) d_Tree_entryAfter_24 rfl f_Tree_18 gg_1 rfl ?_
      refine zr_iload (i := 4) (x := a4) (n := 29) d_Tree_entryAfter_27 rfl rfl ?_
      refine zr_iaload j1 (n := 30) d_Tree_entryAfter_29 rfl gg_4 (o1 h1) ?_
      refine zr_iload_n (i := 2) (x := a2) (n := 31) d_Tree_entryAfter_30 rfl rfl rfl ?_
      refine zr_icmp_le (tgt := 38) (n := 34) d_Tree_entryAfter_31 rfl (by decide) (fun h3 => ?_) (fun h3 => ?_)
      · refine zr_iconst (v := 0) (n := 39) d_Tree_entryAfter_38 rfl (by decide) ?_
        refine zr_istore (i := 5) (L' := [some (.ref 1), some (.int a1), some (.int a2), some (.int a3), some (.int a4), some (.int 0)]) (n := 41) d_Tree_entryAfter_39 rfl rfl rfl ?_
        refine zr_iload (i := 5) (x := 0) (n := 43) d_Tree_entryAfter_41 rfl rfl ?_
        refine zr_if_eq (tgt := 70) (n := 46) d_Tree_entryAfter_43 rfl (by decide) (fun _ => ?_) (fun h => absurd h (by decide))
        refine zr_iinc (i := 4) (w := 1) (x := a4) (L' := [some (.ref 1), some (.int a1), some (.int a2), some (.int a3), some (.int (a4 + 1)), some (.int 0)]) (n := 73) d_Tree_entryAfter_70 rfl (by decide) rfl rfl ?_
        refine zr_goto (tgt := 5) d_Tree_entryAfter_73 (by decide) ?_
        exact zr_weak (zm_LE.cons (zm_LE.cons (zm_LE.cons (zm_LE.cons (zm_LE.cons (zm_LE.skip zm_LE.nil)))))) (l2 (Or.inr (Or.inl ⟨h1, h2, h3⟩)))
      · refine zr_iconst (v := 1) (n := 35) d_Tree_entryAfter_34 rfl (by decide) ?_
        refine zr_goto (tgt := 39) d_Tree_entryAfter_35 (by decide) ?_
        refine zr_istore (i := 5) (L' := [some (.ref 1), some (.int a1), some (.int a2), some (.int a3), some (.int a4), some (.int 1)]) (n := 41) d_Tree_entryAfter_39 rfl rfl rfl ?_
        refine zr_iload (i := 5) (x := 1) (n := 43) d_Tree_entryAfter_41 rfl rfl ?_
        refine zr_if_eq (tgt := 70) (n := 46) d_Tree_entryAfter_43 rfl (by decide) (fun h => absurd h (by decide)) (fun _ => ?_)
        refine zr_iload_n (i := 3) (x := a3) (n := 47) d_Tree_entryAfter_46 rfl rfl rfl ?_
        refine zr_iconst (v := (-1)) (n := 48) d_Tree_entryAfter_47 rfl (by decide) ?_
        refine zr_icmp_eq (tgt := 67) (n := 51) d_Tree_entryAfter_48 rfl (by decide) (fun h4 => ?_) (fun h4 => ?_)
        · refine zr_iload (i := 4) (x := a4) (n := 69) d_Tree_entryAfter_67 rfl rfl ?_
          refine zr_istore_n (i := 3) (L' := [some (.ref 1), some (.int a1), some (.int a2), some (.int a4), some (.int a4), some (.int 1)]) (n := 70) d_Tree_entryAfter_69 rfl rfl rfl rfl ?_
          refine zr_iinc (i := 4) (w := 1) (x := a4) (L' := [some (.ref 1), some (.int a1), some (.int a2), some (.int a4), some (.int (a4 + 1)), some (.int 1)]) (n := 73) d_Tree_entryAfter_70 rfl (by decide) rfl rfl ?_
          refine zr_goto (tgt := 5) d_Tree_entryAfter_73 (by decide) ?_
          exact zr_weak (zm_LE.cons (zm_LE.cons (zm_LE.cons (zm_LE.cons (zm_LE.cons (zm_LE.skip zm_LE.nil)))))) (l3 (Or.inl ⟨h1, h2, h3, h4⟩))
        · refine zr_aload_n (i := 0) (x := 1) (n := 52) d_Tree_entryAfter_51 rfl rfl rfl ?_
          refine zr_getr (n := 55) d_Tree_entryAfter_52 rfl f_Tree_18 gg_1 rfl ?_
          refine zr_iload (i := 4) (x := a4) (n := 57) d_Tree_entryAfter_55 rfl rfl ?_
          refine zr_iaload j1 (n := 58) d_Tree_entryAfter_57 rfl gg_4 (o1 h1) ?_
          refine zr_aload_n (i := 0) (x := 1) (n := 59) d_Tree_entryAfter_58 rfl rfl rfl ?_
          refine zr_getr (n := 62) d_Tree_entryAfter_59 rfl f_Tree_18 gg_1 rfl ?_
          refine zr_iload_n (i := 3) (x := a3) (n := 63) d_Tree_entryAfter_62 rfl rfl rfl ?_
          refine zr_iaload j2 (n := 64) d_Tree_entryAfter_63 rfl gg_4 (o2 h1 h2 h3 h4) ?_
          refine zr_icmp_ge (tgt := 70) (n := 67) d_Tree_entryAfter_64 rfl (by decide) (fun h5 => ?_) (fun h5 => ?_)
          · refine zr_iinc (i := 4) (w := 1) (x := a4) (L' := [some (.ref 1), some (.int a1), some (.int a2), some (.int a3), some (.int (a4 + 1)), some (.int 1)]) (n := 73) d_Tree_entryAfter_70 rfl (by decide) rfl rfl ?_
            refine zr_goto (tgt := 5) d_Tree_entryAfter_73 (by decide) ?_
            exact zr_weak (zm_LE.cons (zm_LE.cons (zm_LE.cons (zm_LE.cons (zm_LE.cons (zm_LE.skip zm_LE.nil)))))) (l2 (Or.inr (Or.inr ⟨h1, h2, h3, h4, h5⟩)))
          · refine zr_iload (i := 4) (x := a4) (n := 69) d_Tree_entryAfter_67 rfl rfl ?_
            refine zr_istore_n (i := 3) (L' := [some (.ref 1), some (.int a1), some (.int a2), some (.int a4), some (.int a4), some (.int 1)]) (n := 70) d_Tree_entryAfter_69 rfl rfl rfl rfl ?_
            refine zr_iinc (i := 4) (w := 1) (x := a4) (L' := [some (.ref 1), some (.int a1), some (.int a2), some (.int a4), some (.int (a4 + 1)), some (.int 1)]) (n := 73) d_Tree_entryAfter_70 rfl (by decide) rfl rfl ?_
            refine zr_goto (tgt := 5) d_Tree_entryAfter_73 (by decide) ?_
            exact zr_weak (zm_LE.cons (zm_LE.cons (zm_LE.cons (zm_LE.cons (zm_LE.cons (zm_LE.skip zm_LE.nil)))))) (l3 (Or.inr ⟨h1, h2, h3, h4, h5⟩))
theorem e_Tree_entryAfter {d : Nat} {Q : zm_Q} {S : zm_S} {a1 a2 : Int32} (h : zw M_Tree_entryAfter d Q 0 [some (.ref 1), some (.int a1), some (.int a2), none, none, none] [] S) : zc M_Tree_entryAfter d [.ref 1, .int a1, .int a2] S Q := zm_CC_intro (by decide) rfl rfl h
theorem s_Tree_followerOf_0 {d : Nat} {Q : zm_Q} {S : zm_S} {a1 : Int32}
    (l1 : zc M_Tree_entryAfter d [.ref 1, .int a1, .int 0] S (fun v G' S' => zm_WP M_Tree_followerOf none (d + 1) 0 0 Q 6 [some (.ref 1), some (.int a1), none, none, none] (zm_ps v []) G' S' 0 0)) :
    zw M_Tree_followerOf (d + 1) Q 0 [some (.ref 1), some (.int a1), none, none, none] [] S := by
  refine zr_aload_n (i := 0) (x := 1) (n := 1) d_Tree_followerOf_0 rfl rfl rfl ?_
  refine zr_iload_n (i := 1) (x := a1) (n := 2) d_Tree_followerOf_1 rfl rfl rfl ?_
  refine zr_iconst (v := 0) (n := 3) d_Tree_followerOf_2 rfl (by decide) ?_
  refine zr_callV (M' := M_Tree_entryAfter) (mc' := 0) (ms' := 0) (av := [.int a1, .int 0]) (rest := []) (n := 6) d_Tree_followerOf_3 rfl w_Tree_44 w_Tree_44k gg_1 rfl rfl rfl rfl rfl rfl (Nat.le_refl _) (Nat.le_refl _) ?_
  exact l1
theorem s_Tree_followerOf_6 {d : Nat} {Q : zm_Q} {S : zm_S} {a1 r : Int32}
    (l1 : zw M_Tree_followerOf (d + 1) Q 12 [some (.ref 1), none, some (.int r), some (.int a1), some (.int 0)] [] S) :
    zw M_Tree_followerOf (d + 1) Q 6 [some (.ref 1), some (.int a1), none, none, none] [.int r] S := by
  refine zr_istore_n (i := 2) (L' := [some (.ref 1), some (.int a1), some (.int r), none, none]) (n := 7) d_Tree_followerOf_6 rfl rfl rfl rfl ?_
  refine zr_iload_n (i := 1) (x := a1) (n := 8) d_Tree_followerOf_7 rfl rfl rfl ?_
  refine zr_istore_n (i := 3) (L' := [some (.ref 1), some (.int a1), some (.int r), some (.int a1), none]) (n := 9) d_Tree_followerOf_8 rfl rfl rfl rfl ?_
  refine zr_iconst (v := 0) (n := 10) d_Tree_followerOf_9 rfl (by decide) ?_
  refine zr_istore (i := 4) (L' := [some (.ref 1), some (.int a1), some (.int r), some (.int a1), some (.int 0)]) (n := 12) d_Tree_followerOf_10 rfl rfl rfl ?_
  exact zr_weak (zm_LE.cons (zm_LE.skip (zm_LE.cons (zm_LE.cons (zm_LE.cons zm_LE.nil))))) l1
theorem s_Tree_followerOf_12 {d : Nat} {Q : zm_Q} {S : zm_S} {a2 a3 a4 : Int32} (j1 : Nat) (o1 : ¬ 12 ≤ a4 → a2 = (-1) → ¬ a3 ≤ 0 → zm_ix a3 j1 12)
    (l1 : ((12 ≤ a4) ∨ (¬ 12 ≤ a4 ∧ ¬ a2 = (-1)) ∨ (¬ 12 ≤ a4 ∧ a2 = (-1) ∧ a3 ≤ 0)) → Q (some a2) GG S)
    (l2 : ¬ 12 ≤ a4 → a2 = (-1) → ¬ a3 ≤ 0 → zc M_Tree_entryAfter d [.ref 1, .int (S 3 j1), .int (S 4 j1)] S (fun v G' S' => zm_WP M_Tree_followerOf none (d + 1) 0 0 Q 44 [some (.ref 1), none, none, some (.int a3), some (.int a4)] (zm_ps v []) G' S' 0 0)) :
    zw M_Tree_followerOf (d + 1) Q 12 [some (.ref 1), none, some (.int a2), some (.int a3), some (.int a4)] [] S := by
  refine zr_iload (i := 4) (x := a4) (n := 14) d_Tree_followerOf_12 rfl rfl ?_
  refine zr_bipush (v := 12) (n := 16) d_Tree_followerOf_14 rfl (by decide) ?_
  refine zr_icmp_ge (tgt := 58) (n := 19) d_Tree_followerOf_16 rfl (by decide) (fun h1 => ?_) (fun h1 => ?_)
  · refine zr_iload_n (i := 2) (x := a2) (n := 59) d_Tree_followerOf_58 rfl rfl rfl ?_
    exact zr_ireturn d_Tree_followerOf_59 rfl rfl (Nat.le_refl _) (Nat.le_refl _) (l1 (Or.inl h1))
  · refine zr_iload_n (i := 2) (x := a2) (n := 20) d_Tree_followerOf_19 rfl rfl rfl ?_
    refine zr_iconst (v := (-1)) (n := 21) d_Tree_followerOf_20 rfl (by decide) ?_
    refine zr_icmp_ne (tgt := 58) (n := 24) d_Tree_followerOf_21 rfl (by decide) (fun h2 => ?_) (fun h2 => ?_)
    · refine zr_iload_n (i := 2) (x := a2) (n := 59) d_Tree_followerOf_58 rfl rfl rfl ?_
      exact zr_ireturn d_Tree_followerOf_59 rfl rfl (Nat.le_refl _) (Nat.le_refl _) (l1 (Or.inr (Or.inl ⟨h1, h2⟩)))
    · refine zr_iload_n (i := 3) (x := a3) (n := 25) d_Tree_followerOf_24 rfl rfl rfl ?_
      refine zr_if_le (tgt := 58) (n := 28) d_Tree_followerOf_25 rfl (by decide) (fun h3 => ?_) (fun h3 => ?_)
      · refine zr_iload_n (i := 2) (x := a2) (n := 59) d_Tree_followerOf_58 rfl rfl rfl ?_
        exact zr_ireturn d_Tree_followerOf_59 rfl rfl (Nat.le_refl _) (Nat.le_refl _) (l1 (Or.inr (Or.inr ⟨h1, h2, h3⟩)))
      · refine zr_aload_n (i := 0) (x := 1) (n := 29) d_Tree_followerOf_28 rfl rfl rfl ?_
        refine zr_aload_n (i := 0) (x := 1) (n := 30) d_Tree_followerOf_29 rfl rfl rfl ?_
        refine zr_getr (n := 33) d_Tree_followerOf_30 rfl f_Tree_15 gg_1 rfl ?_
        refine zr_iload_n (i := 3) (x := a3) (n := 34) d_Tree_followerOf_33 rfl rfl rfl ?_
        refine zr_iaload j1 (n := 35) d_Tree_followerOf_34 rfl gg_3 (o1 h1 h2 h3) ?_
        refine zr_aload_n (i := 0) (x := 1) (n := 36) d_Tree_followerOf_35 rfl rfl rfl ?_
        refine zr_getr (n := 39) d_Tree_followerOf_36 rfl f_Tree_18 gg_1 rfl ?_
        refine zr_iload_n (i := 3) (x := a3) (n := 40) d_Tree_followerOf_39 rfl rfl rfl ?_
        refine zr_iaload j1 (n := 41) d_Tree_followerOf_40 rfl gg_4 (o1 h1 h2 h3) ?_
        refine zr_weak (zm_LE.cons (zm_LE.cons (zm_LE.skip (zm_LE.cons (zm_LE.cons zm_LE.nil))))) ?_
        refine zr_callV (M' := M_Tree_entryAfter) (mc' := 0) (ms' := 0) (av := [.int (S 3 j1), .int (S 4 j1)]) (rest := []) (n := 44) d_Tree_followerOf_41 rfl w_Tree_44 w_Tree_44k gg_1 rfl rfl rfl rfl rfl rfl (Nat.le_refl _) (Nat.le_refl _) ?_
        exact (l2 h1 h2 h3)
theorem s_Tree_followerOf_44 {d : Nat} {Q : zm_Q} {S : zm_S} {a3 a4 r : Int32} (j1 : Nat) (o1 : zm_ix a3 j1 12)
    (l1 : zw M_Tree_followerOf (d + 1) Q 12 [some (.ref 1), none, some (.int r), some (.int (S 3 j1)), some (.int (a4 + 1))] [] S) :
    zw M_Tree_followerOf (d + 1) Q 44 [some (.ref 1), none, none, some (.int a3), some (.int a4)] [.int r] S := by
  refine zr_istore_n (i := 2) (L' := [some (.ref 1), none, some (.int r), some (.int a3), some (.int a4)]) (n := 45) d_Tree_followerOf_44 rfl rfl rfl rfl ?_
  refine zr_aload_n (i := 0) (x := 1) (n := 46) d_Tree_followerOf_45 rfl rfl rfl ?_
  refine zr_getr (n := 49) d_Tree_followerOf_46 rfl f_Tree_15 gg_1 rfl ?_
  refine zr_iload_n (i := 3) (x := a3) (n := 50) d_Tree_followerOf_49 rfl rfl rfl ?_
  refine zr_iaload j1 (n := 51) d_Tree_followerOf_50 rfl gg_3 o1 ?_
  refine zr_istore_n (i := 3) (L' := [some (.ref 1), none, some (.int r), some (.int (S 3 j1)), some (.int a4)]) (n := 52) d_Tree_followerOf_51 rfl rfl rfl rfl ?_
  refine zr_iinc (i := 4) (w := 1) (x := a4) (L' := [some (.ref 1), none, some (.int r), some (.int (S 3 j1)), some (.int (a4 + 1))]) (n := 55) d_Tree_followerOf_52 rfl (by decide) rfl rfl ?_
  refine zr_goto (tgt := 12) d_Tree_followerOf_55 (by decide) ?_
  exact l1
theorem e_Tree_followerOf {d : Nat} {Q : zm_Q} {S : zm_S} {a1 : Int32} (h : zw M_Tree_followerOf (d + 1) Q 0 [some (.ref 1), some (.int a1), none, none, none] [] S) : zc M_Tree_followerOf (d + 1) [.ref 1, .int a1] S Q := zm_CC_intro (by decide) rfl rfl h
theorem s_Arr_fill_0 {d : Nat} {Q : zm_Q} {S : zm_S} {a1 : Int32} {ra N : Nat} (hg : GG[ra]? = some (.inl (false, N)))
    (l1 : zw M_Arr_fill d Q 5 [some (.ref ra), some (.int a1), some (.int 0), some (.int (nI N))] [] S) :
    zw M_Arr_fill d Q 0 [some (.ref ra), some (.int a1), none, none] [] S := by
  refine zr_iconst (v := 0) (n := 1) d_Arr_fill_0 rfl (by decide) ?_
  refine zr_istore_n (i := 2) (L' := [some (.ref ra), some (.int a1), some (.int 0), none]) (n := 2) d_Arr_fill_1 rfl rfl rfl rfl ?_
  refine zr_aload_n (i := 0) (x := ra) (n := 3) d_Arr_fill_2 rfl rfl rfl ?_
  refine zr_alen (v := nI N) (n := 4) d_Arr_fill_3 rfl hg rfl ?_
  refine zr_istore_n (i := 3) (L' := [some (.ref ra), some (.int a1), some (.int 0), some (.int (nI N))]) (n := 5) d_Arr_fill_4 rfl rfl rfl rfl ?_
  exact l1
theorem s_Arr_fill_5 {d : Nat} {Q : zm_Q} {S : zm_S} {a1 a2 a3 : Int32} {ra N : Nat} (hg : GG[ra]? = some (.inl (false, N))) (j1 : Nat) (o1 : ¬ a3 ≤ a2 → zm_ix a2 j1 N)
    (l1 : a3 ≤ a2 → Q none GG S)
    (l2 : ¬ a3 ≤ a2 → zw M_Arr_fill d Q 5 [some (.ref ra), some (.int a1), some (.int (a2 + 1)), some (.int a3)] [] (zm_up S ra j1 a1)) :
    zw M_Arr_fill d Q 5 [some (.ref ra), some (.int a1), some (.int a2), some (.int a3)] [] S := by
  refine zr_iload_n (i := 2) (x := a2) (n := 6) d_Arr_fill_5 rfl rfl rfl ?_
  refine zr_iload_n (i := 3) (x := a3) (n := 7) d_Arr_fill_6 rfl rfl rfl ?_
  refine zr_icmp_ge (tgt := 20) (n := 10) d_Arr_fill_7 rfl (by decide) (fun h1 => ?_) (fun h1 => ?_)
  · exact zr_return d_Arr_fill_20 rfl (Nat.le_refl _) (Nat.le_refl _) (l1 h1)
  · refine zr_aload_n (i := 0) (x := ra) (n := 11) d_Arr_fill_10 rfl rfl rfl ?_
    refine zr_iload_n (i := 2) (x := a2) (n := 12) d_Arr_fill_11 rfl rfl rfl ?_
    refine zr_iload_n (i := 1) (x := a1) (n := 13) d_Arr_fill_12 rfl rfl rfl ?_
    refine zr_iastore j1 (n := 14) d_Arr_fill_13 rfl hg (o1 h1) ?_
    refine zr_iinc (i := 2) (w := 1) (x := a2) (L' := [some (.ref ra), some (.int a1), some (.int (a2 + 1)), some (.int a3)]) (n := 17) d_Arr_fill_14 rfl (by decide) rfl rfl ?_
    refine zr_goto (tgt := 5) d_Arr_fill_17 (by decide) ?_
    exact (l2 h1)
theorem e_Arr_fill {d : Nat} {Q : zm_Q} {S : zm_S} {a1 : Int32} {ra : Nat} (h : zw M_Arr_fill d Q 0 [some (.ref ra), some (.int a1), none, none] [] S) : zc M_Arr_fill d [.ref ra, .int a1] S Q := zm_CC_intro (by decide) rfl rfl h
theorem s_Int_bitCount_0 {d : Nat} {Q : zm_Q} {S : zm_S} {a0 : Int32}
    (l1 : Q (some ((((((((a0 - (((Int32.toUInt32 a0 >>> (Int32.toUInt32 1 &&& Int32.toUInt32 31)).toInt32) &&& 1431655765)) &&& 858993459) + (((Int32.toUInt32 (a0 - (((Int32.toUInt32 a0 >>> (Int32.toUInt32 1 &&& Int32.toUInt32 31)).toInt32) &&& 1431655765)) >>> (Int32.toUInt32 2 &&& Int32.toUInt32 31)).toInt32) &&& 858993459)) + ((Int32.toUInt32 (((a0 - (((Int32.toUInt32 a0 >>> (Int32.toUInt32 1 &&& Int32.toUInt32 31)).toInt32) &&& 1431655765)) &&& 858993459) + (((Int32.toUInt32 (a0 - (((Int32.toUInt32 a0 >>> (Int32.toUInt32 1 &&& Int32.toUInt32 31)).toInt32) &&& 1431655765)) >>> (Int32.toUInt32 2 &&& Int32.toUInt32 31)).toInt32) &&& 858993459)) >>> (Int32.toUInt32 4 &&& Int32.toUInt32 31)).toInt32)) &&& 252645135) + ((Int32.toUInt32 (((((a0 - (((Int32.toUInt32 a0 >>> (Int32.toUInt32 1 &&& Int32.toUInt32 31)).toInt32) &&& 1431655765)) &&& 858993459) + (((Int32.toUInt32 (a0 - (((Int32.toUInt32 a0 >>> (Int32.toUInt32 1 &&& Int32.toUInt32 31)).toInt32) &&& 1431655765)) >>> (Int32.toUInt32 2 &&& Int32.toUInt32 31)).toInt32) &&& 858993459)) + ((Int32.toUInt32 (((a0 - (((Int32.toUInt32 a0 >>> (Int32.toUInt32 1 &&& Int32.toUInt32 31)).toInt32) &&& 1431655765)) &&& 858993459) + (((Int32.toUInt32 (a0 - (((Int32.toUInt32 a0 >>> (Int32.toUInt32 1 &&& Int32.toUInt32 31)).toInt32) &&& 1431655765)) >>> (Int32.toUInt32 2 &&& Int32.toUInt32 31)).toInt32) &&& 858993459)) >>> (Int32.toUInt32 4 &&& Int32.toUInt32 31)).toInt32)) &&& 252645135) >>> (Int32.toUInt32 8 &&& Int32.toUInt32 31)).toInt32)) + ((Int32.toUInt32 ((((((a0 - (((Int32.toUInt32 a0 >>> (Int32.toUInt32 1 &&& Int32.toUInt32 31)).toInt32) &&& 1431655765)) &&& 858993459) + (((Int32.toUInt32 (a0 - (((Int32.toUInt32 a0 >>> (Int32.toUInt32 1 &&& Int32.toUInt32 31)).toInt32) &&& 1431655765)) >>> (Int32.toUInt32 2 &&& Int32.toUInt32 31)).toInt32) &&& 858993459)) + ((Int32.toUInt32 (((a0 - (((Int32.toUInt32 a0 >>> (Int32.toUInt32 1 &&& Int32.toUInt32 31)).toInt32) &&& 1431655765)) &&& 858993459) + (((Int32.toUInt32 (a0 - (((Int32.toUInt32 a0 >>> (Int32.toUInt32 1 &&& Int32.toUInt32 31)).toInt32) &&& 1431655765)) >>> (Int32.toUInt32 2 &&& Int32.toUInt32 31)).toInt32) &&& 858993459)) >>> (Int32.toUInt32 4 &&& Int32.toUInt32 31)).toInt32)) &&& 252645135) + ((Int32.toUInt32 (((((a0 - (((Int32.toUInt32 a0 >>> (Int32.toUInt32 1 &&& Int32.toUInt32 31)).toInt32) &&& 1431655765)) &&& 858993459) + (((Int32.toUInt32 (a0 - (((Int32.toUInt32 a0 >>> (Int32.toUInt32 1 &&& Int32.toUInt32 31)).toInt32) &&& 1431655765)) >>> (Int32.toUInt32 2 &&& Int32.toUInt32 31)).toInt32) &&& 858993459)) + ((Int32.toUInt32 (((a0 - (((Int32.toUInt32 a0 >>> (Int32.toUInt32 1 &&& Int32.toUInt32 31)).toInt32) &&& 1431655765)) &&& 858993459) + (((Int32.toUInt32 (a0 - (((Int32.toUInt32 a0 >>> (Int32.toUInt32 1 &&& Int32.toUInt32 31)).toInt32) &&& 1431655765)) >>> (Int32.toUInt32 2 &&& Int32.toUInt32 31)).toInt32) &&& 858993459)) >>> (Int32.toUInt32 4 &&& Int32.toUInt32 31)).toInt32)) &&& 252645135) >>> (Int32.toUInt32 8 &&& Int32.toUInt32 31)).toInt32)) >>> (Int32.toUInt32 16 &&& Int32.toUInt32 31)).toInt32)) &&& 63)) GG S) :
    zw M_Int_bitCount d Q 0 [some (.int a0)] [] S := by
  refine zr_iload_n (i := 0) (x := a0) (n := 1) d_Int_bitCount_0 rfl rfl rfl ?_
  refine zr_iload_n (i := 0) (x := a0) (n := 2) d_Int_bitCount_1 rfl rfl rfl ?_
  refine zr_iconst (v := 1) (n := 3) d_Int_bitCount_2 rfl (by decide) ?_
  refine zr_iushr (n := 4) d_Int_bitCount_3 rfl ?_
  refine zr_ldcw (v := 1431655765) (n := 7) d_Int_bitCount_4 rfl k_Int_265 ?_
  refine zr_iand (n := 8) d_Int_bitCount_7 rfl ?_
  refine zr_isub (n := 9) d_Int_bitCount_8 rfl ?_
  refine zr_istore_n (i := 0) (L' := [some (.int (a0 - (((Int32.toUInt32 a0 >>> (Int32.toUInt32 1 &&& Int32.toUInt32 31)).toInt32) &&& 1431655765)))]) (n := 10) d_Int_bitCount_9 rfl rfl rfl rfl ?_
  refine zr_iload_n (i := 0) (x := (a0 - (((Int32.toUInt32 a0 >>> (Int32.toUInt32 1 &&& Int32.toUInt32 31)).toInt32) &&& 1431655765))) (n := 11) d_Int_bitCount_10 rfl rfl rfl ?_
  refine zr_ldcw (v := 858993459) (n := 14) d_Int_bitCount_11 rfl k_Int_266 ?_
  refine zr_iand (n := 15) d_Int_bitCount_14 rfl ?_
  refine zr_iload_n (i := 0) (x := (a0 - (((Int32.toUInt32 a0 >>> (Int32.toUInt32 1 &&& Int32.toUInt32 31)).toInt32) &&& 1431655765))) (n := 16) d_Int_bitCount_15 rfl rfl rfl ?_
  refine zr_iconst (v := 2) (n := 17) d_Int_bitCount_16 rfl (by decide) ?_
  refine zr_iushr (n := 18) d_Int_bitCount_17 rfl ?_
  refine zr_ldcw (v := 858993459) (n := 21) d_Int_bitCount_18 rfl k_Int_266 ?_
  refine zr_iand (n := 22) d_Int_bitCount_21 rfl ?_
  refine zr_iadd (n := 23) d_Int_bitCount_22 rfl ?_
  refine zr_istore_n (i := 0) (L' := [some (.int (((a0 - (((Int32.toUInt32 a0 >>> (Int32.toUInt32 1 &&& Int32.toUInt32 31)).toInt32) &&& 1431655765)) &&& 858993459) + (((Int32.toUInt32 (a0 - (((Int32.toUInt32 a0 >>> (Int32.toUInt32 1 &&& Int32.toUInt32 31)).toInt32) &&& 1431655765)) >>> (Int32.toUInt32 2 &&& Int32.toUInt32 31)).toInt32) &&& 858993459)))]) (n := 24) d_Int_bitCount_23 rfl rfl rfl rfl ?_
  refine zr_iload_n (i := 0) (x := (((a0 - (((Int32.toUInt32 a0 >>> (Int32.toUInt32 1 &&& Int32.toUInt32 31)).toInt32) &&& 1431655765)) &&& 858993459) + (((Int32.toUInt32 (a0 - (((Int32.toUInt32 a0 >>> (Int32.toUInt32 1 &&& Int32.toUInt32 31)).toInt32) &&& 1431655765)) >>> (Int32.toUInt32 2 &&& Int32.toUInt32 31)).toInt32) &&& 858993459))) (n := 25) d_Int_bitCount_24 rfl rfl rfl ?_
  refine zr_iload_n (i := 0) (x := (((a0 - (((Int32.toUInt32 a0 >>> (Int32.toUInt32 1 &&& Int32.toUInt32 31)).toInt32) &&& 1431655765)) &&& 858993459) + (((Int32.toUInt32 (a0 - (((Int32.toUInt32 a0 >>> (Int32.toUInt32 1 &&& Int32.toUInt32 31)).toInt32) &&& 1431655765)) >>> (Int32.toUInt32 2 &&& Int32.toUInt32 31)).toInt32) &&& 858993459))) (n := 26) d_Int_bitCount_25 rfl rfl rfl ?_
  refine zr_iconst (v := 4) (n := 27) d_Int_bitCount_26 rfl (by decide) ?_
  refine zr_iushr (n := 28) d_Int_bitCount_27 rfl ?_
  refine zr_iadd (n := 29) d_Int_bitCount_28 rfl ?_
  refine zr_ldcw (v := 252645135) (n := 32) d_Int_bitCount_29 rfl k_Int_267 ?_
  refine zr_iand (n := 33) d_Int_bitCount_32 rfl ?_
  refine zr_istore_n (i := 0) (L' := [some (.int (((((a0 - (((Int32.toUInt32 a0 >>> (Int32.toUInt32 1 &&& Int32.toUInt32 31)).toInt32) &&& 1431655765)) &&& 858993459) + (((Int32.toUInt32 (a0 - (((Int32.toUInt32 a0 >>> (Int32.toUInt32 1 &&& Int32.toUInt32 31)).toInt32) &&& 1431655765)) >>> (Int32.toUInt32 2 &&& Int32.toUInt32 31)).toInt32) &&& 858993459)) + ((Int32.toUInt32 (((a0 - (((Int32.toUInt32 a0 >>> (Int32.toUInt32 1 &&& Int32.toUInt32 31)).toInt32) &&& 1431655765)) &&& 858993459) + (((Int32.toUInt32 (a0 - (((Int32.toUInt32 a0 >>> (Int32.toUInt32 1 &&& Int32.toUInt32 31)).toInt32) &&& 1431655765)) >>> (Int32.toUInt32 2 &&& Int32.toUInt32 31)).toInt32) &&& 858993459)) >>> (Int32.toUInt32 4 &&& Int32.toUInt32 31)).toInt32)) &&& 252645135))]) (n := 34) d_Int_bitCount_33 rfl rfl rfl rfl ?_
  refine zr_iload_n (i := 0) (x := (((((a0 - (((Int32.toUInt32 a0 >>> (Int32.toUInt32 1 &&& Int32.toUInt32 31)).toInt32) &&& 1431655765)) &&& 858993459) + (((Int32.toUInt32 (a0 - (((Int32.toUInt32 a0 >>> (Int32.toUInt32 1 &&& Int32.toUInt32 31)).toInt32) &&& 1431655765)) >>> (Int32.toUInt32 2 &&& Int32.toUInt32 31)).toInt32) &&& 858993459)) + ((Int32.toUInt32 (((a0 - (((Int32.toUInt32 a0 >>> (Int32.toUInt32 1 &&& Int32.toUInt32 31)).toInt32) &&& 1431655765)) &&& 858993459) + (((Int32.toUInt32 (a0 - (((Int32.toUInt32 a0 >>> (Int32.toUInt32 1 &&& Int32.toUInt32 31)).toInt32) &&& 1431655765)) >>> (Int32.toUInt32 2 &&& Int32.toUInt32 31)).toInt32) &&& 858993459)) >>> (Int32.toUInt32 4 &&& Int32.toUInt32 31)).toInt32)) &&& 252645135)) (n := 35) d_Int_bitCount_34 rfl rfl rfl ?_
  refine zr_iload_n (i := 0) (x := (((((a0 - (((Int32.toUInt32 a0 >>> (Int32.toUInt32 1 &&& Int32.toUInt32 31)).toInt32) &&& 1431655765)) &&& 858993459) + (((Int32.toUInt32 (a0 - (((Int32.toUInt32 a0 >>> (Int32.toUInt32 1 &&& Int32.toUInt32 31)).toInt32) &&& 1431655765)) >>> (Int32.toUInt32 2 &&& Int32.toUInt32 31)).toInt32) &&& 858993459)) + ((Int32.toUInt32 (((a0 - (((Int32.toUInt32 a0 >>> (Int32.toUInt32 1 &&& Int32.toUInt32 31)).toInt32) &&& 1431655765)) &&& 858993459) + (((Int32.toUInt32 (a0 - (((Int32.toUInt32 a0 >>> (Int32.toUInt32 1 &&& Int32.toUInt32 31)).toInt32) &&& 1431655765)) >>> (Int32.toUInt32 2 &&& Int32.toUInt32 31)).toInt32) &&& 858993459)) >>> (Int32.toUInt32 4 &&& Int32.toUInt32 31)).toInt32)) &&& 252645135)) (n := 36) d_Int_bitCount_35 rfl rfl rfl ?_
  refine zr_bipush (v := 8) (n := 38) d_Int_bitCount_36 rfl (by decide) ?_
  refine zr_iushr (n := 39) d_Int_bitCount_38 rfl ?_
  refine zr_iadd (n := 40) d_Int_bitCount_39 rfl ?_
  refine zr_istore_n (i := 0) (L' := [some (.int ((((((a0 - (((Int32.toUInt32 a0 >>> (Int32.toUInt32 1 &&& Int32.toUInt32 31)).toInt32) &&& 1431655765)) &&& 858993459) + (((Int32.toUInt32 (a0 - (((Int32.toUInt32 a0 >>> (Int32.toUInt32 1 &&& Int32.toUInt32 31)).toInt32) &&& 1431655765)) >>> (Int32.toUInt32 2 &&& Int32.toUInt32 31)).toInt32) &&& 858993459)) + ((Int32.toUInt32 (((a0 - (((Int32.toUInt32 a0 >>> (Int32.toUInt32 1 &&& Int32.toUInt32 31)).toInt32) &&& 1431655765)) &&& 858993459) + (((Int32.toUInt32 (a0 - (((Int32.toUInt32 a0 >>> (Int32.toUInt32 1 &&& Int32.toUInt32 31)).toInt32) &&& 1431655765)) >>> (Int32.toUInt32 2 &&& Int32.toUInt32 31)).toInt32) &&& 858993459)) >>> (Int32.toUInt32 4 &&& Int32.toUInt32 31)).toInt32)) &&& 252645135) + ((Int32.toUInt32 (((((a0 - (((Int32.toUInt32 a0 >>> (Int32.toUInt32 1 &&& Int32.toUInt32 31)).toInt32) &&& 1431655765)) &&& 858993459) + (((Int32.toUInt32 (a0 - (((Int32.toUInt32 a0 >>> (Int32.toUInt32 1 &&& Int32.toUInt32 31)).toInt32) &&& 1431655765)) >>> (Int32.toUInt32 2 &&& Int32.toUInt32 31)).toInt32) &&& 858993459)) + ((Int32.toUInt32 (((a0 - (((Int32.toUInt32 a0 >>> (Int32.toUInt32 1 &&& Int32.toUInt32 31)).toInt32) &&& 1431655765)) &&& 858993459) + (((Int32.toUInt32 (a0 - (((Int32.toUInt32 a0 >>> (Int32.toUInt32 1 &&& Int32.toUInt32 31)).toInt32) &&& 1431655765)) >>> (Int32.toUInt32 2 &&& Int32.toUInt32 31)).toInt32) &&& 858993459)) >>> (Int32.toUInt32 4 &&& Int32.toUInt32 31)).toInt32)) &&& 252645135) >>> (Int32.toUInt32 8 &&& Int32.toUInt32 31)).toInt32)))]) (n := 41) d_Int_bitCount_40 rfl rfl rfl rfl ?_
  refine zr_iload_n (i := 0) (x := ((((((a0 - (((Int32.toUInt32 a0 >>> (Int32.toUInt32 1 &&& Int32.toUInt32 31)).toInt32) &&& 1431655765)) &&& 858993459) + (((Int32.toUInt32 (a0 - (((Int32.toUInt32 a0 >>> (Int32.toUInt32 1 &&& Int32.toUInt32 31)).toInt32) &&& 1431655765)) >>> (Int32.toUInt32 2 &&& Int32.toUInt32 31)).toInt32) &&& 858993459)) + ((Int32.toUInt32 (((a0 - (((Int32.toUInt32 a0 >>> (Int32.toUInt32 1 &&& Int32.toUInt32 31)).toInt32) &&& 1431655765)) &&& 858993459) + (((Int32.toUInt32 (a0 - (((Int32.toUInt32 a0 >>> (Int32.toUInt32 1 &&& Int32.toUInt32 31)).toInt32) &&& 1431655765)) >>> (Int32.toUInt32 2 &&& Int32.toUInt32 31)).toInt32) &&& 858993459)) >>> (Int32.toUInt32 4 &&& Int32.toUInt32 31)).toInt32)) &&& 252645135) + ((Int32.toUInt32 (((((a0 - (((Int32.toUInt32 a0 >>> (Int32.toUInt32 1 &&& Int32.toUInt32 31)).toInt32) &&& 1431655765)) &&& 858993459) + (((Int32.toUInt32 (a0 - (((Int32.toUInt32 a0 >>> (Int32.toUInt32 1 &&& Int32.toUInt32 31)).toInt32) &&& 1431655765)) >>> (Int32.toUInt32 2 &&& Int32.toUInt32 31)).toInt32) &&& 858993459)) + ((Int32.toUInt32 (((a0 - (((Int32.toUInt32 a0 >>> (Int32.toUInt32 1 &&& Int32.toUInt32 31)).toInt32) &&& 1431655765)) &&& 858993459) + (((Int32.toUInt32 (a0 - (((Int32.toUInt32 a0 >>> (Int32.toUInt32 1 &&& Int32.toUInt32 31)).toInt32) &&& 1431655765)) >>> (Int32.toUInt32 2 &&& Int32.toUInt32 31)).toInt32) &&& 858993459)) >>> (Int32.toUInt32 4 &&& Int32.toUInt32 31)).toInt32)) &&& 252645135) >>> (Int32.toUInt32 8 &&& Int32.toUInt32 31)).toInt32))) (n := 42) d_Int_bitCount_41 rfl rfl rfl ?_
  refine zr_iload_n (i := 0) (x := ((((((a0 - (((Int32.toUInt32 a0 >>> (Int32.toUInt32 1 &&& Int32.toUInt32 31)).toInt32) &&& 1431655765)) &&& 858993459) + (((Int32.toUInt32 (a0 - (((Int32.toUInt32 a0 >>> (Int32.toUInt32 1 &&& Int32.toUInt32 31)).toInt32) &&& 1431655765)) >>> (Int32.toUInt32 2 &&& Int32.toUInt32 31)).toInt32) &&& 858993459)) + ((Int32.toUInt32 (((a0 - (((Int32.toUInt32 a0 >>> (Int32.toUInt32 1 &&& Int32.toUInt32 31)).toInt32) &&& 1431655765)) &&& 858993459) + (((Int32.toUInt32 (a0 - (((Int32.toUInt32 a0 >>> (Int32.toUInt32 1 &&& Int32.toUInt32 31)).toInt32) &&& 1431655765)) >>> (Int32.toUInt32 2 &&& Int32.toUInt32 31)).toInt32) &&& 858993459)) >>> (Int32.toUInt32 4 &&& Int32.toUInt32 31)).toInt32)) &&& 252645135) + ((Int32.toUInt32 (((((a0 - (((Int32.toUInt32 a0 >>> (Int32.toUInt32 1 &&& Int32.toUInt32 31)).toInt32) &&& 1431655765)) &&& 858993459) + (((Int32.toUInt32 (a0 - (((Int32.toUInt32 a0 >>> (Int32.toUInt32 1 &&& Int32.toUInt32 31)).toInt32) &&& 1431655765)) >>> (Int32.toUInt32 2 &&& Int32.toUInt32 31)).toInt32) &&& 858993459)) + ((Int32.toUInt32 (((a0 - (((Int32.toUInt32 a0 >>> (Int32.toUInt32 1 &&& Int32.toUInt32 31)).toInt32) &&& 1431655765)) &&& 858993459) + (((Int32.toUInt32 (a0 - (((Int32.toUInt32 a0 >>> (Int32.toUInt32 1 &&& Int32.toUInt32 31)).toInt32) &&& 1431655765)) >>> (Int32.toUInt32 2 &&& Int32.toUInt32 31)).toInt32) &&& 858993459)) >>> (Int32.toUInt32 4 &&& Int32.toUInt32 31)).toInt32)) &&& 252645135) >>> (Int32.toUInt32 8 &&& Int32.toUInt32 31)).toInt32))) (n := 43) d_Int_bitCount_42 rfl rfl rfl ?_
  refine zr_bipush (v := 16) (n := 45) d_Int_bitCount_43 rfl (by decide) ?_
  refine zr_iushr (n := 46) d_Int_bitCount_45 rfl ?_
  refine zr_iadd (n := 47) d_Int_bitCount_46 rfl ?_
  refine zr_istore_n (i := 0) (L' := [some (.int (((((((a0 - (((Int32.toUInt32 a0 >>> (Int32.toUInt32 1 &&& Int32.toUInt32 31)).toInt32) &&& 1431655765)) &&& 858993459) + (((Int32.toUInt32 (a0 - (((Int32.toUInt32 a0 >>> (Int32.toUInt32 1 &&& Int32.toUInt32 31)).toInt32) &&& 1431655765)) >>> (Int32.toUInt32 2 &&& Int32.toUInt32 31)).toInt32) &&& 858993459)) + ((Int32.toUInt32 (((a0 - (((Int32.toUInt32 a0 >>> (Int32.toUInt32 1 &&& Int32.toUInt32 31)).toInt32) &&& 1431655765)) &&& 858993459) + (((Int32.toUInt32 (a0 - (((Int32.toUInt32 a0 >>> (Int32.toUInt32 1 &&& Int32.toUInt32 31)).toInt32) &&& 1431655765)) >>> (Int32.toUInt32 2 &&& Int32.toUInt32 31)).toInt32) &&& 858993459)) >>> (Int32.toUInt32 4 &&& Int32.toUInt32 31)).toInt32)) &&& 252645135) + ((Int32.toUInt32 (((((a0 - (((Int32.toUInt32 a0 >>> (Int32.toUInt32 1 &&& Int32.toUInt32 31)).toInt32) &&& 1431655765)) &&& 858993459) + (((Int32.toUInt32 (a0 - (((Int32.toUInt32 a0 >>> (Int32.toUInt32 1 &&& Int32.toUInt32 31)).toInt32) &&& 1431655765)) >>> (Int32.toUInt32 2 &&& Int32.toUInt32 31)).toInt32) &&& 858993459)) + ((Int32.toUInt32 (((a0 - (((Int32.toUInt32 a0 >>> (Int32.toUInt32 1 &&& Int32.toUInt32 31)).toInt32) &&& 1431655765)) &&& 858993459) + (((Int32.toUInt32 (a0 - (((Int32.toUInt32 a0 >>> (Int32.toUInt32 1 &&& Int32.toUInt32 31)).toInt32) &&& 1431655765)) >>> (Int32.toUInt32 2 &&& Int32.toUInt32 31)).toInt32) &&& 858993459)) >>> (Int32.toUInt32 4 &&& Int32.toUInt32 31)).toInt32)) &&& 252645135) >>> (Int32.toUInt32 8 &&& Int32.toUInt32 31)).toInt32)) + ((Int32.toUInt32 ((((((a0 - (((Int32.toUInt32 a0 >>> (Int32.toUInt32 1 &&& Int32.toUInt32 31)).toInt32) &&& 1431655765)) &&& 858993459) + (((Int32.toUInt32 (a0 - (((Int32.toUInt32 a0 >>> (Int32.toUInt32 1 &&& Int32.toUInt32 31)).toInt32) &&& 1431655765)) >>> (Int32.toUInt32 2 &&& Int32.toUInt32 31)).toInt32) &&& 858993459)) + ((Int32.toUInt32 (((a0 - (((Int32.toUInt32 a0 >>> (Int32.toUInt32 1 &&& Int32.toUInt32 31)).toInt32) &&& 1431655765)) &&& 858993459) + (((Int32.toUInt32 (a0 - (((Int32.toUInt32 a0 >>> (Int32.toUInt32 1 &&& Int32.toUInt32 31)).toInt32) &&& 1431655765)) >>> (Int32.toUInt32 2 &&& Int32.toUInt32 31)).toInt32) &&& 858993459)) >>> (Int32.toUInt32 4 &&& Int32.toUInt32 31)).toInt32)) &&& 252645135) + ((Int32.toUInt32 (((((a0 - (((Int32.toUInt32 a0 >>> (Int32.toUInt32 1 &&& Int32.toUInt32 31)).toInt32) &&& 1431655765)) &&& 858993459) + (((Int32.toUInt32 (a0 - (((Int32.toUInt32 a0 >>> (Int32.toUInt32 1 &&& Int32.toUInt32 31)).toInt32) &&& 1431655765)) >>> (Int32.toUInt32 2 &&& Int32.toUInt32 31)).toInt32) &&& 858993459)) + ((Int32.toUInt32 (((a0 - (((Int32.toUInt32 a0 >>> (Int32.toUInt32 1 &&& Int32.toUInt32 31)).toInt32) &&& 1431655765)) &&& 858993459) + (((Int32.toUInt32 (a0 - (((Int32.toUInt32 a0 >>> (Int32.toUInt32 1 &&& Int32.toUInt32 31)).toInt32) &&& 1431655765)) >>> (Int32.toUInt32 2 &&& Int32.toUInt32 31)).toInt32) &&& 858993459)) >>> (Int32.toUInt32 4 &&& Int32.toUInt32 31)).toInt32)) &&& 252645135) >>> (Int32.toUInt32 8 &&& Int32.toUInt32 31)).toInt32)) >>> (Int32.toUInt32 16 &&& Int32.toUInt32 31)).toInt32)))]) (n := 48) d_Int_bitCount_47 rfl rfl rfl rfl ?_
  refine zr_iload_n (i := 0) (x := (((((((a0 - (((Int32.toUInt32 a0 >>> (Int32.toUInt32 1 &&& Int32.toUInt32 31)).toInt32) &&& 1431655765)) &&& 858993459) + (((Int32.toUInt32 (a0 - (((Int32.toUInt32 a0 >>> (Int32.toUInt32 1 &&& Int32.toUInt32 31)).toInt32) &&& 1431655765)) >>> (Int32.toUInt32 2 &&& Int32.toUInt32 31)).toInt32) &&& 858993459)) + ((Int32.toUInt32 (((a0 - (((Int32.toUInt32 a0 >>> (Int32.toUInt32 1 &&& Int32.toUInt32 31)).toInt32) &&& 1431655765)) &&& 858993459) + (((Int32.toUInt32 (a0 - (((Int32.toUInt32 a0 >>> (Int32.toUInt32 1 &&& Int32.toUInt32 31)).toInt32) &&& 1431655765)) >>> (Int32.toUInt32 2 &&& Int32.toUInt32 31)).toInt32) &&& 858993459)) >>> (Int32.toUInt32 4 &&& Int32.toUInt32 31)).toInt32)) &&& 252645135) + ((Int32.toUInt32 (((((a0 - (((Int32.toUInt32 a0 >>> (Int32.toUInt32 1 &&& Int32.toUInt32 31)).toInt32) &&& 1431655765)) &&& 858993459) + (((Int32.toUInt32 (a0 - (((Int32.toUInt32 a0 >>> (Int32.toUInt32 1 &&& Int32.toUInt32 31)).toInt32) &&& 1431655765)) >>> (Int32.toUInt32 2 &&& Int32.toUInt32 31)).toInt32) &&& 858993459)) + ((Int32.toUInt32 (((a0 - (((Int32.toUInt32 a0 >>> (Int32.toUInt32 1 &&& Int32.toUInt32 31)).toInt32) &&& 1431655765)) &&& 858993459) + (((Int32.toUInt32 (a0 - (((Int32.toUInt32 a0 >>> (Int32.toUInt32 1 &&& Int32.toUInt32 31)).toInt32) &&& 1431655765)) >>> (Int32.toUInt32 2 &&& Int32.toUInt32 31)).toInt32) &&& 858993459)) >>> (Int32.toUInt32 4 &&& Int32.toUInt32 31)).toInt32)) &&& 252645135) >>> (Int32.toUInt32 8 &&& Int32.toUInt32 31)).toInt32)) + ((Int32.toUInt32 ((((((a0 - (((Int32.toUInt32 a0 >>> (Int32.toUInt32 1 &&& Int32.toUInt32 31)).toInt32) &&& 1431655765)) &&& 858993459) + (((Int32.toUInt32 (a0 - (((Int32.toUInt32 a0 >>> (Int32.toUInt32 1 &&& Int32.toUInt32 31)).toInt32) &&& 1431655765)) >>> (Int32.toUInt32 2 &&& Int32.toUInt32 31)).toInt32) &&& 858993459)) + ((Int32.toUInt32 (((a0 - (((Int32.toUInt32 a0 >>> (Int32.toUInt32 1 &&& Int32.toUInt32 31)).toInt32) &&& 1431655765)) &&& 858993459) + (((Int32.toUInt32 (a0 - (((Int32.toUInt32 a0 >>> (Int32.toUInt32 1 &&& Int32.toUInt32 31)).toInt32) &&& 1431655765)) >>> (Int32.toUInt32 2 &&& Int32.toUInt32 31)).toInt32) &&& 858993459)) >>> (Int32.toUInt32 4 &&& Int32.toUInt32 31)).toInt32)) &&& 252645135) + ((Int32.toUInt32 (((((a0 - (((Int32.toUInt32 a0 >>> (Int32.toUInt32 1 &&& Int32.toUInt32 31)).toInt32) &&& 1431655765)) &&& 858993459) + (((Int32.toUInt32 (a0 - (((Int32.toUInt32 a0 >>> (Int32.toUInt32 1 &&& Int32.toUInt32 31)).toInt32) &&& 1431655765)) >>> (Int32.toUInt32 2 &&& Int32.toUInt32 31)).toInt32) &&& 858993459)) + ((Int32.toUInt32 (((a0 - (((Int32.toUInt32 a0 >>> (Int32.toUInt32 1 &&& Int32.toUInt32 31)).toInt32) &&& 1431655765)) &&& 858993459) + (((Int32.toUInt32 (a0 - (((Int32.toUInt32 a0 >>> (Int32.toUInt32 1 &&& Int32.toUInt32 31)).toInt32) &&& 1431655765)) >>> (Int32.toUInt32 2 &&& Int32.toUInt32 31)).toInt32) &&& 858993459)) >>> (Int32.toUInt32 4 &&& Int32.toUInt32 31)).toInt32)) &&& 252645135) >>> (Int32.toUInt32 8 &&& Int32.toUInt32 31)).toInt32)) >>> (Int32.toUInt32 16 &&& Int32.toUInt32 31)).toInt32))) (n := 49) d_Int_bitCount_48 rfl rfl rfl ?_
  refine zr_bipush (v := 63) (n := 51) d_Int_bitCount_49 rfl (by decide) ?_
  refine zr_iand (n := 52) d_Int_bitCount_51 rfl ?_
  exact zr_ireturn d_Int_bitCount_52 rfl rfl (Nat.le_refl _) (Nat.le_refl _) l1
theorem e_Int_bitCount {d : Nat} {Q : zm_Q} {S : zm_S} {a0 : Int32} (h : zw M_Int_bitCount d Q 0 [some (.int a0)] [] S) : zc M_Int_bitCount d [.int a0] S Q := zm_CC_intro (by decide) rfl rfl h
