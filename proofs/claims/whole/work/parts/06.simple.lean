theorem s_CM_blockLength_0 {d : Nat} {Q : zm_Q} {S : zm_S} {a0 a1 : Int32}
    (l1 : 8 ≤ (a0 - (a1 * 8)) → Q (some 8) GG S)
    (l2 : ¬ 8 ≤ (a0 - (a1 * 8)) → Q (some (a0 - (a1 * 8))) GG S) :
    zw M_CM_blockLength d Q 0 [some (.int a0), some (.int a1), none] [] S := by
  refine zr_iload_n (i := 0) (x := a0) (n := 1) d_CM_blockLength_0 rfl rfl rfl ?_
  refine zr_iload_n (i := 1) (x := a1) (n := 2) d_CM_blockLength_1 rfl rfl rfl ?_
  refine zr_bipush (v := 8) (n := 4) d_CM_blockLength_2 rfl (by decide) ?_
  refine zr_imul (n := 5) d_CM_blockLength_4 rfl ?_
  refine zr_isub (n := 6) d_CM_blockLength_5 rfl ?_
  refine zr_istore_n (i := 2) (L' := [some (.int a0), some (.int a1), some (.int (a0 - (a1 * 8)))]) (n := 7) d_CM_blockLength_6 rfl rfl rfl rfl ?_
  refine zr_iload_n (i := 2) (x := (a0 - (a1 * 8))) (n := 8) d_CM_blockLength_7 rfl rfl rfl ?_
  refine zr_bipush (v := 8) (n := 10) d_CM_blockLength_8 rfl (by decide) ?_
  refine zr_icmp_ge (tgt := 17) (n := 13) d_CM_blockLength_10 rfl (by decide) (fun h1 => ?_) (fun h1 => ?_)
  · refine zr_bipush (v := 8) (n := 19) d_CM_blockLength_17 rfl (by decide) ?_
    exact zr_ireturn d_CM_blockLength_19 rfl rfl (Nat.le_refl _) (Nat.le_refl _) (l1 h1)
  · refine zr_iload_n (i := 2) (x := (a0 - (a1 * 8))) (n := 14) d_CM_blockLength_13 rfl rfl rfl ?_
    refine zr_goto (tgt := 19) d_CM_blockLength_14 (by decide) ?_
    exact zr_ireturn d_CM_blockLength_19 rfl rfl (Nat.le_refl _) (Nat.le_refl _) (l2 h1)
theorem c_CM_blockLength {d : Nat} {Q : zm_Q} {S : zm_S} {a0 a1 : Int32}
    (l1 : 8 ≤ (a0 - (a1 * 8)) → Q (some 8) GG S)
    (l2 : ¬ 8 ≤ (a0 - (a1 * 8)) → Q (some (a0 - (a1 * 8))) GG S) :
    zc M_CM_blockLength d [.int a0, .int a1] S Q := zm_CC_intro (by decide) rfl rfl (s_CM_blockLength_0 l1 l2)
theorem s_CM_blocksIn_0 {d : Nat} {Q : zm_Q} {S : zm_S} {a0 : Int32}
    (l1 : Q (some (((a0 + 8) - 1) / 8)) GG S) :
    zw M_CM_blocksIn d Q 0 [some (.int a0)] [] S := by
  refine zr_iload_n (i := 0) (x := a0) (n := 1) d_CM_blocksIn_0 rfl rfl rfl ?_
  refine zr_bipush (v := 8) (n := 3) d_CM_blocksIn_1 rfl (by decide) ?_
  refine zr_iadd (n := 4) d_CM_blocksIn_3 rfl ?_
  refine zr_iconst (v := 1) (n := 5) d_CM_blocksIn_4 rfl (by decide) ?_
  refine zr_isub (n := 6) d_CM_blocksIn_5 rfl ?_
  refine zr_bipush (v := 8) (n := 8) d_CM_blocksIn_6 rfl (by decide) ?_
  refine zr_idiv (n := 9) d_CM_blocksIn_8 rfl (by decide) ?_
  exact zr_ireturn d_CM_blocksIn_9 rfl rfl (Nat.le_refl _) (Nat.le_refl _) l1
theorem c_CM_blocksIn {d : Nat} {Q : zm_Q} {S : zm_S} {a0 : Int32}
    (l1 : Q (some (((a0 + 8) - 1) / 8)) GG S) :
    zc M_CM_blocksIn d [.int a0] S Q := zm_CC_intro (by decide) rfl rfl (s_CM_blocksIn_0 l1)
theorem s_CM_count_0 {d : Nat} {Q : zm_Q} {S : zm_S} {a1 : Int32} (j1 : Nat) (o1 : ¬ a1 < 0 → a1 < 6 → zm_ix a1 j1 6)
    (l1 : ((a1 < 0) ∨ (¬ a1 < 0 ∧ ¬ a1 < 6)) → Q (some (-1)) GG S)
    (l2 : ¬ a1 < 0 → a1 < 6 → Q (some (S 25 j1)) GG S) :
    zw M_CM_count d Q 0 [some (.ref 0), some (.int a1)] [] S := by
  refine zr_iload_n (i := 1) (x := a1) (n := 1) d_CM_count_0 rfl rfl rfl ?_
  refine zr_if_lt (tgt := 16) (n := 4) d_CM_count_1 rfl (by decide) (fun h1 => ?_) (fun h1 => ?_)
  · refine zr_iconst (v := (-1)) (n := 17) d_CM_count_16 rfl (by decide) ?_
    exact zr_ireturn d_CM_count_17 rfl rfl (Nat.le_refl _) (Nat.le_refl _) (l1 (Or.inl h1))
  · refine zr_iload_n (i := 1) (x := a1) (n := 5) d_CM_count_4 rfl rfl rfl ?_
    refine zr_aload_n (i := 0) (x := 0) (n := 6) d_CM_count_5 rfl rfl rfl ?_
    refine zr_getr (n := 9) d_CM_count_6 rfl f_CM_33 gg_0 rfl ?_
    refine zr_getr (n := 12) d_CM_count_9 rfl f_CM_123 gg_19 rfl ?_
    refine zr_alen (v := 6) (n := 13) d_CM_count_12 rfl gg_25 (by decide) ?_
    refine zr_icmp_lt (tgt := 18) (n := 16) d_CM_count_13 rfl (by decide) (fun h2 => ?_) (fun h2 => ?_)
    · refine zr_aload_n (i := 0) (x := 0) (n := 19) d_CM_count_18 rfl rfl rfl ?_
      refine zr_getr (n := 22) d_CM_count_19 rfl f_CM_33 gg_0 rfl ?_
      refine zr_getr (n := 25) d_CM_count_22 rfl f_CM_123 gg_19 rfl ?_
      refine zr_iload_n (i := 1) (x := a1) (n := 26) d_CM_count_25 rfl rfl rfl ?_
      refine zr_iaload j1 (n := 27) d_CM_count_26 rfl gg_25 (o1 h1 h2) ?_
      exact zr_ireturn d_CM_count_27 rfl rfl (Nat.le_refl _) (Nat.le_refl _) (l2 h1 h2)
    · refine zr_iconst (v := (-1)) (n := 17) d_CM_count_16 rfl (by decide) ?_
      exact zr_ireturn d_CM_count_17 rfl rfl (Nat.le_refl _) (Nat.le_refl _) (l1 (Or.inr ⟨h1, h2⟩))
theorem c_CM_count {d : Nat} {Q : zm_Q} {S : zm_S} {a1 : Int32} (j1 : Nat) (o1 : ¬ a1 < 0 → a1 < 6 → zm_ix a1 j1 6)
    (l1 : ((a1 < 0) ∨ (¬ a1 < 0 ∧ ¬ a1 < 6)) → Q (some (-1)) GG S)
    (l2 : ¬ a1 < 0 → a1 < 6 → Q (some (S 25 j1)) GG S) :
    zc M_CM_count d [.ref 0, .int a1] S Q := zm_CC_intro (by decide) rfl rfl (s_CM_count_0 j1 o1 l1 l2)
theorem s_CM_isByte_0 {d : Nat} {Q : zm_Q} {S : zm_S} {a0 : Int32}
    (l1 : ((a0 < 0) ∨ (¬ a0 < 0 ∧ 255 < a0)) → Q (some 0) GG S)
    (l2 : ¬ a0 < 0 → ¬ 255 < a0 → Q (some 1) GG S) :
    zw M_CM_isByte d Q 0 [some (.int a0)] [] S := by
  refine zr_iload_n (i := 0) (x := a0) (n := 1) d_CM_isByte_0 rfl rfl rfl ?_
  refine zr_if_lt (tgt := 15) (n := 4) d_CM_isByte_1 rfl (by decide) (fun h1 => ?_) (fun h1 => ?_)
  · refine zr_iconst (v := 0) (n := 16) d_CM_isByte_15 rfl (by decide) ?_
    exact zr_ireturn d_CM_isByte_16 rfl (by decide) (Nat.le_refl _) (Nat.le_refl _) (l1 (Or.inl h1))
  · refine zr_iload_n (i := 0) (x := a0) (n := 5) d_CM_isByte_4 rfl rfl rfl ?_
    refine zr_sipush (v := 255) (n := 8) d_CM_isByte_5 rfl (by decide) ?_
    refine zr_icmp_gt (tgt := 15) (n := 11) d_CM_isByte_8 rfl (by decide) (fun h2 => ?_) (fun h2 => ?_)
    · refine zr_iconst (v := 0) (n := 16) d_CM_isByte_15 rfl (by decide) ?_
      exact zr_ireturn d_CM_isByte_16 rfl (by decide) (Nat.le_refl _) (Nat.le_refl _) (l1 (Or.inr ⟨h1, h2⟩))
    · refine zr_iconst (v := 1) (n := 12) d_CM_isByte_11 rfl (by decide) ?_
      refine zr_goto (tgt := 16) d_CM_isByte_12 (by decide) ?_
      exact zr_ireturn d_CM_isByte_16 rfl (by decide) (Nat.le_refl _) (Nat.le_refl _) (l2 h1 h2)
theorem c_CM_isByte {d : Nat} {Q : zm_Q} {S : zm_S} {a0 : Int32}
    (l1 : ((a0 < 0) ∨ (¬ a0 < 0 ∧ 255 < a0)) → Q (some 0) GG S)
    (l2 : ¬ a0 < 0 → ¬ 255 < a0 → Q (some 1) GG S) :
    zc M_CM_isByte d [.int a0] S Q := zm_CC_intro (by decide) rfl rfl (s_CM_isByte_0 l1 l2)
theorem s_CM_isEntryKey_0 {d : Nat} {Q : zm_Q} {S : zm_S} {a0 : Int32}
    (l1 : ((a0 < 1) ∨ (¬ a0 < 1 ∧ 12 ≤ a0)) → Q (some 0) GG S)
    (l2 : ¬ a0 < 1 → ¬ 12 ≤ a0 → Q (some 1) GG S) :
    zw M_CM_isEntryKey d Q 0 [some (.int a0)] [] S := by
  refine zr_iload_n (i := 0) (x := a0) (n := 1) d_CM_isEntryKey_0 rfl rfl rfl ?_
  refine zr_iconst (v := 1) (n := 2) d_CM_isEntryKey_1 rfl (by decide) ?_
  refine zr_icmp_lt (tgt := 15) (n := 5) d_CM_isEntryKey_2 rfl (by decide) (fun h1 => ?_) (fun h1 => ?_)
  · refine zr_iconst (v := 0) (n := 16) d_CM_isEntryKey_15 rfl (by decide) ?_
    exact zr_ireturn d_CM_isEntryKey_16 rfl (by decide) (Nat.le_refl _) (Nat.le_refl _) (l1 (Or.inl h1))
  · refine zr_iload_n (i := 0) (x := a0) (n := 6) d_CM_isEntryKey_5 rfl rfl rfl ?_
    refine zr_bipush (v := 12) (n := 8) d_CM_isEntryKey_6 rfl (by decide) ?_
    refine zr_icmp_ge (tgt := 15) (n := 11) d_CM_isEntryKey_8 rfl (by decide) (fun h2 => ?_) (fun h2 => ?_)
    · refine zr_iconst (v := 0) (n := 16) d_CM_isEntryKey_15 rfl (by decide) ?_
      exact zr_ireturn d_CM_isEntryKey_16 rfl (by decide) (Nat.le_refl _) (Nat.le_refl _) (l1 (Or.inr ⟨h1, h2⟩))
    · refine zr_iconst (v := 1) (n := 12) d_CM_isEntryKey_11 rfl (by decide) ?_
      refine zr_goto (tgt := 16) d_CM_isEntryKey_12 (by decide) ?_
      exact zr_ireturn d_CM_isEntryKey_16 rfl (by decide) (Nat.le_refl _) (Nat.le_refl _) (l2 h1 h2)
theorem c_CM_isEntryKey {d : Nat} {Q : zm_Q} {S : zm_S} {a0 : Int32}
    (l1 : ((a0 < 1) ∨ (¬ a0 < 1 ∧ 12 ≤ a0)) → Q (some 0) GG S)
    (l2 : ¬ a0 < 1 → ¬ 12 ≤ a0 → Q (some 1) GG S) :
    zc M_CM_isEntryKey d [.int a0] S Q := zm_CC_intro (by decide) rfl rfl (s_CM_isEntryKey_0 l1 l2)
theorem s_CM_module_0 {d : Nat} {Q : zm_Q} {S : zm_S} {a1 : Int32} (j1 : Nat) (o1 : ¬ a1 < 0 → a1 < (S 7 1) → zm_ix a1 j1 12)
    (l1 : ((a1 < 0) ∨ (¬ a1 < 0 ∧ ¬ a1 < (S 7 1))) → Q (some (-2)) GG S)
    (l2 : ¬ a1 < 0 → a1 < (S 7 1) → Q (some ((65536 * (S 9 j1)) + (S 8 j1))) GG S) :
    zw M_CM_module d Q 0 [some (.ref 0), some (.int a1)] [] S := by
  refine zr_iload_n (i := 1) (x := a1) (n := 1) d_CM_module_0 rfl rfl rfl ?_
  refine zr_if_lt (tgt := 15) (n := 4) d_CM_module_1 rfl (by decide) (fun h1 => ?_) (fun h1 => ?_)
  · refine zr_bipush (v := (-2)) (n := 17) d_CM_module_15 rfl (by decide) ?_
    exact zr_ireturn d_CM_module_17 rfl rfl (Nat.le_refl _) (Nat.le_refl _) (l1 (Or.inl h1))
  · refine zr_iload_n (i := 1) (x := a1) (n := 5) d_CM_module_4 rfl rfl rfl ?_
    refine zr_aload_n (i := 0) (x := 0) (n := 6) d_CM_module_5 rfl rfl rfl ?_
    refine zr_getr (n := 9) d_CM_module_6 rfl f_CM_19 gg_0 rfl ?_
    refine zr_geti (n := 12) d_CM_module_9 rfl f_CM_95 gg_7 rfl ?_
    refine zr_icmp_lt (tgt := 18) (n := 15) d_CM_module_12 rfl (by decide) (fun h2 => ?_) (fun h2 => ?_)
    · refine zr_ldc (v := 65536) (n := 20) d_CM_module_18 rfl k_CM_98 ?_
      refine zr_aload_n (i := 0) (x := 0) (n := 21) d_CM_module_20 rfl rfl rfl ?_
      refine zr_getr (n := 24) d_CM_module_21 rfl f_CM_19 gg_0 rfl ?_
      refine zr_getr (n := 27) d_CM_module_24 rfl f_CM_99 gg_7 rfl ?_
      refine zr_iload_n (i := 1) (x := a1) (n := 28) d_CM_module_27 rfl rfl rfl ?_
      refine zr_iaload j1 (n := 29) d_CM_module_28 rfl gg_9 (o1 h1 h2) ?_
      refine zr_imul (n := 30) d_CM_module_29 rfl ?_
      refine zr_aload_n (i := 0) (x := 0) (n := 31) d_CM_module_30 rfl rfl rfl ?_
      refine zr_getr (n := 34) d_CM_module_31 rfl f_CM_19 gg_0 rfl ?_
      refine zr_getr (n := 37) d_CM_module_34 rfl f_CM_103 gg_7 rfl ?_
      refine zr_iload_n (i := 1) (x := a1) (n := 38) d_CM_module_37 rfl rfl rfl ?_
      refine zr_iaload j1 (n := 39) d_CM_module_38 rfl gg_8 (o1 h1 h2) ?_
      refine zr_iadd (n := 40) d_CM_module_39 rfl ?_
      exact zr_ireturn d_CM_module_40 rfl rfl (Nat.le_refl _) (Nat.le_refl _) (l2 h1 h2)
    · refine zr_bipush (v := (-2)) (n := 17) d_CM_module_15 rfl (by decide) ?_
      exact zr_ireturn d_CM_module_17 rfl rfl (Nat.le_refl _) (Nat.le_refl _) (l1 (Or.inr ⟨h1, h2⟩))
theorem c_CM_module {d : Nat} {Q : zm_Q} {S : zm_S} {a1 : Int32} (j1 : Nat) (o1 : ¬ a1 < 0 → a1 < (S 7 1) → zm_ix a1 j1 12)
    (l1 : ((a1 < 0) ∨ (¬ a1 < 0 ∧ ¬ a1 < (S 7 1))) → Q (some (-2)) GG S)
    (l2 : ¬ a1 < 0 → a1 < (S 7 1) → Q (some ((65536 * (S 9 j1)) + (S 8 j1))) GG S) :
    zc M_CM_module d [.ref 0, .int a1] S Q := zm_CC_intro (by decide) rfl rfl (s_CM_module_0 j1 o1 l1 l2)
theorem s_CM_modules_0 {d : Nat} {Q : zm_Q} {S : zm_S}
    (l1 : Q (some (S 7 1)) GG S) :
    zw M_CM_modules d Q 0 [some (.ref 0)] [] S := by
  refine zr_aload_n (i := 0) (x := 0) (n := 1) d_CM_modules_0 rfl rfl rfl ?_
  refine zr_getr (n := 4) d_CM_modules_1 rfl f_CM_19 gg_0 rfl ?_
  refine zr_geti (n := 7) d_CM_modules_4 rfl f_CM_95 gg_7 rfl ?_
  exact zr_ireturn d_CM_modules_7 rfl rfl (Nat.le_refl _) (Nat.le_refl _) l1
theorem c_CM_modules {d : Nat} {Q : zm_Q} {S : zm_S}
    (l1 : Q (some (S 7 1)) GG S) :
    zc M_CM_modules d [.ref 0] S Q := zm_CC_intro (by decide) rfl rfl (s_CM_modules_0 l1)
theorem s_CM_pairAt_0 {d : Nat} {Q : zm_Q} {S : zm_S} {a1 : Int32} (j1 : Nat) (j2 : Nat) (o1 : zm_ix a1 j1 257) (o2 : zm_ix (a1 + 1) j2 257)
    (l1 : Q (some (((S 26 j1) * 256) + (S 26 j2))) GG S) :
    zw M_CM_pairAt d Q 0 [some (.ref 26), some (.int a1)] [] S := by
  refine zr_aload_n (i := 0) (x := 26) (n := 1) d_CM_pairAt_0 rfl rfl rfl ?_
  refine zr_iload_n (i := 1) (x := a1) (n := 2) d_CM_pairAt_1 rfl rfl rfl ?_
  refine zr_iaload j1 (n := 3) d_CM_pairAt_2 rfl gg_26 o1 ?_
  refine zr_sipush (v := 256) (n := 6) d_CM_pairAt_3 rfl (by decide) ?_
  refine zr_imul (n := 7) d_CM_pairAt_6 rfl ?_
  refine zr_aload_n (i := 0) (x := 26) (n := 8) d_CM_pairAt_7 rfl rfl rfl ?_
  refine zr_iload_n (i := 1) (x := a1) (n := 9) d_CM_pairAt_8 rfl rfl rfl ?_
  refine zr_iconst (v := 1) (n := 10) d_CM_pairAt_9 rfl (by decide) ?_
  refine zr_iadd (n := 11) d_CM_pairAt_10 rfl ?_
  refine zr_iaload j2 (n := 12) d_CM_pairAt_11 rfl gg_26 o2 ?_
  refine zr_iadd (n := 13) d_CM_pairAt_12 rfl ?_
  exact zr_ireturn d_CM_pairAt_13 rfl rfl (Nat.le_refl _) (Nat.le_refl _) l1
theorem c_CM_pairAt {d : Nat} {Q : zm_Q} {S : zm_S} {a1 : Int32} (j1 : Nat) (j2 : Nat) (o1 : zm_ix a1 j1 257) (o2 : zm_ix (a1 + 1) j2 257)
    (l1 : Q (some (((S 26 j1) * 256) + (S 26 j2))) GG S) :
    zc M_CM_pairAt d [.ref 26, .int a1] S Q := zm_CC_intro (by decide) rfl rfl (s_CM_pairAt_0 j1 j2 o1 o2 l1)
theorem s_CM_transaction_0 {d : Nat} {Q : zm_Q} {S : zm_S}
    (l1 : (S 20 0) = 0 → Q (some (-2)) GG S)
    (l2 : ¬ (S 20 0) = 0 → Q (some (S 20 1)) GG S) :
    zw M_CM_transaction d Q 0 [some (.ref 0), none] [] S := by
  refine zr_aload_n (i := 0) (x := 0) (n := 1) d_CM_transaction_0 rfl rfl rfl ?_
  refine zr_getr (n := 4) d_CM_transaction_1 rfl f_CM_33 gg_0 rfl ?_
  refine zr_getr (n := 7) d_CM_transaction_4 rfl f_CM_126 gg_19 rfl ?_
  refine zr_astore_n (i := 1) (L' := [some (.ref 0), some (.ref 20)]) (n := 8) d_CM_transaction_7 rfl rfl rfl rfl ?_
  refine zr_aload_n (i := 1) (x := 20) (n := 9) d_CM_transaction_8 rfl rfl rfl ?_
  refine zr_geti (n := 12) d_CM_transaction_9 rfl f_CM_130 gg_20 rfl ?_
  refine zr_if_eq (tgt := 22) (n := 15) d_CM_transaction_12 rfl (by decide) (fun h1 => ?_) (fun h1 => ?_)
  · refine zr_bipush (v := (-2)) (n := 24) d_CM_transaction_22 rfl (by decide) ?_
    exact zr_ireturn d_CM_transaction_24 rfl rfl (Nat.le_refl _) (Nat.le_refl _) (l1 h1)
  · refine zr_aload_n (i := 1) (x := 20) (n := 16) d_CM_transaction_15 rfl rfl rfl ?_
    refine zr_geti (n := 19) d_CM_transaction_16 rfl f_CM_136 gg_20 rfl ?_
    refine zr_goto (tgt := 24) d_CM_transaction_19 (by decide) ?_
    exact zr_ireturn d_CM_transaction_24 rfl rfl (Nat.le_refl _) (Nat.le_refl _) (l2 h1)
theorem c_CM_transaction {d : Nat} {Q : zm_Q} {S : zm_S}
    (l1 : (S 20 0) = 0 → Q (some (-2)) GG S)
    (l2 : ¬ (S 20 0) = 0 → Q (some (S 20 1)) GG S) :
    zc M_CM_transaction d [.ref 0] S Q := zm_CC_intro (by decide) rfl rfl (s_CM_transaction_0 l1 l2)
theorem s_Ed_byteAt_0 {d : Nat} {Q : zm_Q} {S : zm_S} {a1 a2 : Int32} (j1 : Nat) (o1 : zm_ix ((a1 * 48) + a2) j1 576)
    (l1 : Q (some (S 10 j1)) GG S) :
    zw M_Ed_byteAt d Q 0 [some (.ref 7), some (.int a1), some (.int a2)] [] S := by
  refine zr_aload_n (i := 0) (x := 7) (n := 1) d_Ed_byteAt_0 rfl rfl rfl ?_
  refine zr_getr (n := 4) d_Ed_byteAt_1 rfl f_Ed_25 gg_7 rfl ?_
  refine zr_iload_n (i := 1) (x := a1) (n := 5) d_Ed_byteAt_4 rfl rfl rfl ?_
  refine zr_bipush (v := 48) (n := 7) d_Ed_byteAt_5 rfl (by decide) ?_
  refine zr_imul (n := 8) d_Ed_byteAt_7 rfl ?_
  refine zr_iload_n (i := 2) (x := a2) (n := 9) d_Ed_byteAt_8 rfl rfl rfl ?_
  refine zr_iadd (n := 10) d_Ed_byteAt_9 rfl ?_
  refine zr_iaload j1 (n := 11) d_Ed_byteAt_10 rfl gg_10 o1 ?_
  exact zr_ireturn d_Ed_byteAt_11 rfl rfl (Nat.le_refl _) (Nat.le_refl _) l1
theorem c_Ed_byteAt {d : Nat} {Q : zm_Q} {S : zm_S} {a1 a2 : Int32} (j1 : Nat) (o1 : zm_ix ((a1 * 48) + a2) j1 576)
    (l1 : Q (some (S 10 j1)) GG S) :
    zc M_Ed_byteAt d [.ref 7, .int a1, .int a2] S Q := zm_CC_intro (by decide) rfl rfl (s_Ed_byteAt_0 j1 o1 l1)
theorem s_Md_module_0 {d : Nat} {Q : zm_Q} {S : zm_S} {a1 : Int32} (j1 : Nat) (o1 : ¬ a1 < 0 → ¬ (S 27 6) ≤ a1 → zm_ix a1 j1 12)
    (l1 : ((a1 < 0) ∨ (¬ a1 < 0 ∧ (S 27 6) ≤ a1)) → Q (some (-2)) GG S)
    (l2 : ¬ a1 < 0 → ¬ (S 27 6) ≤ a1 → Q (some ((65536 * (S 34 j1)) + (S 33 j1))) GG S) :
    zw M_Md_module d Q 0 [some (.ref 27), some (.int a1)] [] S := by
  refine zr_iload_n (i := 1) (x := a1) (n := 1) d_Md_module_0 rfl rfl rfl ?_
  refine zr_if_lt (tgt := 31) (n := 4) d_Md_module_1 rfl (by decide) (fun h1 => ?_) (fun h1 => ?_)
  · refine zr_bipush (v := (-2)) (n := 33) d_Md_module_31 rfl (by decide) ?_
    exact zr_ireturn d_Md_module_33 rfl rfl (Nat.le_refl _) (Nat.le_refl _) (l1 (Or.inl h1))
  · refine zr_iload_n (i := 1) (x := a1) (n := 5) d_Md_module_4 rfl rfl rfl ?_
    refine zr_aload_n (i := 0) (x := 27) (n := 6) d_Md_module_5 rfl rfl rfl ?_
    refine zr_geti (n := 9) d_Md_module_6 rfl f_Md_100 gg_27 rfl ?_
    refine zr_icmp_ge (tgt := 31) (n := 12) d_Md_module_9 rfl (by decide) (fun h2 => ?_) (fun h2 => ?_)
    · refine zr_bipush (v := (-2)) (n := 33) d_Md_module_31 rfl (by decide) ?_
      exact zr_ireturn d_Md_module_33 rfl rfl (Nat.le_refl _) (Nat.le_refl _) (l1 (Or.inr ⟨h1, h2⟩))
    · refine zr_ldc (v := 65536) (n := 14) d_Md_module_12 rfl k_Md_148 ?_
      refine zr_aload_n (i := 0) (x := 27) (n := 15) d_Md_module_14 rfl rfl rfl ?_
      refine zr_getr (n := 18) d_Md_module_15 rfl f_Md_28 gg_27 rfl ?_
      refine zr_iload_n (i := 1) (x := a1) (n := 19) d_Md_module_18 rfl rfl rfl ?_
      refine zr_iaload j1 (n := 20) d_Md_module_19 rfl gg_34 (o1 h1 h2) ?_
      refine zr_imul (n := 21) d_Md_module_20 rfl ?_
      refine zr_aload_n (i := 0) (x := 27) (n := 22) d_Md_module_21 rfl rfl rfl ?_
      refine zr_getr (n := 25) d_Md_module_22 rfl f_Md_25 gg_27 rfl ?_
      refine zr_iload_n (i := 1) (x := a1) (n := 26) d_Md_module_25 rfl rfl rfl ?_
      refine zr_iaload j1 (n := 27) d_Md_module_26 rfl gg_33 (o1 h1 h2) ?_
      refine zr_iadd (n := 28) d_Md_module_27 rfl ?_
      refine zr_goto (tgt := 33) d_Md_module_28 (by decide) ?_
      exact zr_ireturn d_Md_module_33 rfl rfl (Nat.le_refl _) (Nat.le_refl _) (l2 h1 h2)
theorem c_Md_module {d : Nat} {Q : zm_Q} {S : zm_S} {a1 : Int32} (j1 : Nat) (o1 : ¬ a1 < 0 → ¬ (S 27 6) ≤ a1 → zm_ix a1 j1 12)
    (l1 : ((a1 < 0) ∨ (¬ a1 < 0 ∧ (S 27 6) ≤ a1)) → Q (some (-2)) GG S)
    (l2 : ¬ a1 < 0 → ¬ (S 27 6) ≤ a1 → Q (some ((65536 * (S 34 j1)) + (S 33 j1))) GG S) :
    zc M_Md_module d [.ref 27, .int a1] S Q := zm_CC_intro (by decide) rfl rfl (s_Md_module_0 j1 o1 l1 l2)
theorem s_Md_modules_0 {d : Nat} {Q : zm_Q} {S : zm_S}
    (l1 : Q (some (S 27 6)) GG S) :
    zw M_Md_modules d Q 0 [some (.ref 27)] [] S := by
  refine zr_aload_n (i := 0) (x := 27) (n := 1) d_Md_modules_0 rfl rfl rfl ?_
  refine zr_geti (n := 4) d_Md_modules_1 rfl f_Md_100 gg_27 rfl ?_
  exact zr_ireturn d_Md_modules_4 rfl rfl (Nat.le_refl _) (Nat.le_refl _) l1
theorem c_Md_modules {d : Nat} {Q : zm_Q} {S : zm_S}
    (l1 : Q (some (S 27 6)) GG S) :
    zc M_Md_modules d [.ref 27] S Q := zm_CC_intro (by decide) rfl rfl (s_Md_modules_0 l1)
theorem s_Md_pair_0 {d : Nat} {Q : zm_Q} {S : zm_S} {a1 : Int32} (j1 : Nat) (j2 : Nat) (o1 : zm_ix a1 j1 258) (o2 : zm_ix (a1 + 1) j2 258)
    (l1 : Q (some ((256 * (S 48 j1)) + (S 48 j2))) GG S) :
    zw M_Md_pair d Q 0 [some (.ref 27), some (.int a1)] [] S := by
  refine zr_sipush (v := 256) (n := 3) d_Md_pair_0 rfl (by decide) ?_
  refine zr_aload_n (i := 0) (x := 27) (n := 4) d_Md_pair_3 rfl rfl rfl ?_
  refine zr_getr (n := 7) d_Md_pair_4 rfl f_Md_78 gg_27 rfl ?_
  refine zr_iload_n (i := 1) (x := a1) (n := 8) d_Md_pair_7 rfl rfl rfl ?_
  refine zr_iaload j1 (n := 9) d_Md_pair_8 rfl gg_48 o1 ?_
  refine zr_imul (n := 10) d_Md_pair_9 rfl ?_
  refine zr_aload_n (i := 0) (x := 27) (n := 11) d_Md_pair_10 rfl rfl rfl ?_
  refine zr_getr (n := 14) d_Md_pair_11 rfl f_Md_78 gg_27 rfl ?_
  refine zr_iload_n (i := 1) (x := a1) (n := 15) d_Md_pair_14 rfl rfl rfl ?_
  refine zr_iconst (v := 1) (n := 16) d_Md_pair_15 rfl (by decide) ?_
  refine zr_iadd (n := 17) d_Md_pair_16 rfl ?_
  refine zr_iaload j2 (n := 18) d_Md_pair_17 rfl gg_48 o2 ?_
  refine zr_iadd (n := 19) d_Md_pair_18 rfl ?_
  exact zr_ireturn d_Md_pair_19 rfl rfl (Nat.le_refl _) (Nat.le_refl _) l1
theorem c_Md_pair {d : Nat} {Q : zm_Q} {S : zm_S} {a1 : Int32} (j1 : Nat) (j2 : Nat) (o1 : zm_ix a1 j1 258) (o2 : zm_ix (a1 + 1) j2 258)
    (l1 : Q (some ((256 * (S 48 j1)) + (S 48 j2))) GG S) :
    zc M_Md_pair d [.ref 27, .int a1] S Q := zm_CC_intro (by decide) rfl rfl (s_Md_pair_0 j1 j2 o1 o2 l1)
theorem s_Md_stands_0 {d : Nat} {Q : zm_Q} {S : zm_S} {a1 a2 : Int32} (j1 : Nat) (j2 : Nat) (o1 : zm_ix a1 j1 12) (o2 : ¬ (S 45 j1) < (a2 + 3) → zm_ix (((48 * a1) + a2) + 2) j2 576)
    (l1 : (((S 45 j1) < (a2 + 3)) ∨ (¬ (S 45 j1) < (a2 + 3) ∧ (S 45 j1) < ((a2 + 3) + (S 47 j2)))) → Q (some 0) GG S)
    (l2 : ¬ (S 45 j1) < (a2 + 3) → ¬ (S 45 j1) < ((a2 + 3) + (S 47 j2)) → Q (some 1) GG S) :
    zw M_Md_stands d Q 0 [some (.ref 27), some (.int a1), some (.int a2), none] [] S := by
  refine zr_aload_n (i := 0) (x := 27) (n := 1) d_Md_stands_0 rfl rfl rfl ?_
  refine zr_getr (n := 4) d_Md_stands_1 rfl f_Md_69 gg_27 rfl ?_
  refine zr_iload_n (i := 1) (x := a1) (n := 5) d_Md_stands_4 rfl rfl rfl ?_
  refine zr_iaload j1 (n := 6) d_Md_stands_5 rfl gg_45 o1 ?_
  refine zr_istore_n (i := 3) (L' := [some (.ref 27), some (.int a1), some (.int a2), some (.int (S 45 j1))]) (n := 7) d_Md_stands_6 rfl rfl rfl rfl ?_
  refine zr_iload_n (i := 2) (x := a2) (n := 8) d_Md_stands_7 rfl rfl rfl ?_
  refine zr_iconst (v := 3) (n := 9) d_Md_stands_8 rfl (by decide) ?_
  refine zr_iadd (n := 10) d_Md_stands_9 rfl ?_
  refine zr_iload_n (i := 3) (x := (S 45 j1)) (n := 11) d_Md_stands_10 rfl rfl rfl ?_
  refine zr_icmp_gt (tgt := 39) (n := 14) d_Md_stands_11 rfl (by decide) (fun h1 => ?_) (fun h1 => ?_)
  · refine zr_iconst (v := 0) (n := 40) d_Md_stands_39 rfl (by decide) ?_
    exact zr_ireturn d_Md_stands_40 rfl (by decide) (Nat.le_refl _) (Nat.le_refl _) (l1 (Or.inl h1))
  · refine zr_iload_n (i := 2) (x := a2) (n := 15) d_Md_stands_14 rfl rfl rfl ?_
    refine zr_iconst (v := 3) (n := 16) d_Md_stands_15 rfl (by decide) ?_
    refine zr_iadd (n := 17) d_Md_stands_16 rfl ?_
    refine zr_aload_n (i := 0) (x := 27) (n := 18) d_Md_stands_17 rfl rfl rfl ?_
    refine zr_getr (n := 21) d_Md_stands_18 rfl f_Md_75 gg_27 rfl ?_
    refine zr_bipush (v := 48) (n := 23) d_Md_stands_21 rfl (by decide) ?_
    refine zr_iload_n (i := 1) (x := a1) (n := 24) d_Md_stands_23 rfl rfl rfl ?_
    refine zr_imul (n := 25) d_Md_stands_24 rfl ?_
    refine zr_iload_n (i := 2) (x := a2) (n := 26) d_Md_stands_25 rfl rfl rfl ?_
    refine zr_iadd (n := 27) d_Md_stands_26 rfl ?_
    refine zr_iconst (v := 2) (n := 28) d_Md_stands_27 rfl (by decide) ?_
    refine zr_iadd (n := 29) d_Md_stands_28 rfl ?_
    refine zr_iaload j2 (n := 30) d_Md_stands_29 rfl gg_47 (o2 h1) ?_
    refine zr_iadd (n := 31) d_Md_stands_30 rfl ?_
    refine zr_iload_n (i := 3) (x := (S 45 j1)) (n := 32) d_Md_stands_31 rfl rfl rfl ?_
    refine zr_icmp_gt (tgt := 39) (n := 35) d_Md_stands_32 rfl (by decide) (fun h2 => ?_) (fun h2 => ?_)
    · refine zr_iconst (v := 0) (n := 40) d_Md_stands_39 rfl (by decide) ?_
      exact zr_ireturn d_Md_stands_40 rfl (by decide) (Nat.le_refl _) (Nat.le_refl _) (l1 (Or.inr ⟨h1, h2⟩))
    · refine zr_iconst (v := 1) (n := 36) d_Md_stands_35 rfl (by decide) ?_
      refine zr_goto (tgt := 40) d_Md_stands_36 (by decide) ?_
      exact zr_ireturn d_Md_stands_40 rfl (by decide) (Nat.le_refl _) (Nat.le_refl _) (l2 h1 h2)
theorem c_Md_stands {d : Nat} {Q : zm_Q} {S : zm_S} {a1 a2 : Int32} (j1 : Nat) (j2 : Nat) (o1 : zm_ix a1 j1 12) (o2 : ¬ (S 45 j1) < (a2 + 3) → zm_ix (((48 * a1) + a2) + 2) j2 576)
    (l1 : (((S 45 j1) < (a2 + 3)) ∨ (¬ (S 45 j1) < (a2 + 3) ∧ (S 45 j1) < ((a2 + 3) + (S 47 j2)))) → Q (some 0) GG S)
    (l2 : ¬ (S 45 j1) < (a2 + 3) → ¬ (S 45 j1) < ((a2 + 3) + (S 47 j2)) → Q (some 1) GG S) :
    zc M_Md_stands d [.ref 27, .int a1, .int a2] S Q := zm_CC_intro (by decide) rfl rfl (s_Md_stands_0 j1 j2 o1 o2 l1 l2)
theorem s_Md_transaction_0 {d : Nat} {Q : zm_Q} {S : zm_S}
    (l1 : 0 ≤ (S 27 22) → Q (some (S 27 22)) GG S)
    (l2 : ¬ 0 ≤ (S 27 22) → Q (some (-2)) GG S) :
    zw M_Md_transaction d Q 0 [some (.ref 27)] [] S := by
  refine zr_aload_n (i := 0) (x := 27) (n := 1) d_Md_transaction_0 rfl rfl rfl ?_
  refine zr_geti (n := 4) d_Md_transaction_1 rfl f_Md_56 gg_27 rfl ?_
  refine zr_if_ge (tgt := 12) (n := 7) d_Md_transaction_4 rfl (by decide) (fun h1 => ?_) (fun h1 => ?_)
  · refine zr_aload_n (i := 0) (x := 27) (n := 13) d_Md_transaction_12 rfl rfl rfl ?_
    refine zr_geti (n := 16) d_Md_transaction_13 rfl f_Md_56 gg_27 rfl ?_
    exact zr_ireturn d_Md_transaction_16 rfl rfl (Nat.le_refl _) (Nat.le_refl _) (l1 h1)
  · refine zr_bipush (v := (-2)) (n := 9) d_Md_transaction_7 rfl (by decide) ?_
    refine zr_goto (tgt := 16) d_Md_transaction_9 (by decide) ?_
    exact zr_ireturn d_Md_transaction_16 rfl rfl (Nat.le_refl _) (Nat.le_refl _) (l2 h1)
theorem c_Md_transaction {d : Nat} {Q : zm_Q} {S : zm_S}
    (l1 : 0 ≤ (S 27 22) → Q (some (S 27 22)) GG S)
    (l2 : ¬ 0 ≤ (S 27 22) → Q (some (-2)) GG S) :
    zc M_Md_transaction d [.ref 27] S Q := zm_CC_intro (by decide) rfl rfl (s_Md_transaction_0 l1 l2)
theorem s_Md_within_0 {d : Nat} {Q : zm_Q} {S : zm_S} {a0 a1 a2 : Int32}
    (l1 : ((a0 < a1) ∨ (¬ a0 < a1 ∧ a2 < a0)) → Q (some 0) GG S)
    (l2 : ¬ a0 < a1 → ¬ a2 < a0 → Q (some 1) GG S) :
    zw M_Md_within d Q 0 [some (.int a0), some (.int a1), some (.int a2)] [] S := by
  refine zr_iload_n (i := 0) (x := a0) (n := 1) d_Md_within_0 rfl rfl rfl ?_
  refine zr_iload_n (i := 1) (x := a1) (n := 2) d_Md_within_1 rfl rfl rfl ?_
  refine zr_icmp_lt (tgt := 14) (n := 5) d_Md_within_2 rfl (by decide) (fun h1 => ?_) (fun h1 => ?_)
  · refine zr_iconst (v := 0) (n := 15) d_Md_within_14 rfl (by decide) ?_
    exact zr_ireturn d_Md_within_15 rfl (by decide) (Nat.le_refl _) (Nat.le_refl _) (l1 (Or.inl h1))
  · refine zr_iload_n (i := 0) (x := a0) (n := 6) d_Md_within_5 rfl rfl rfl ?_
    refine zr_iload_n (i := 2) (x := a2) (n := 7) d_Md_within_6 rfl rfl rfl ?_
    refine zr_icmp_gt (tgt := 14) (n := 10) d_Md_within_7 rfl (by decide) (fun h2 => ?_) (fun h2 => ?_)
    · refine zr_iconst (v := 0) (n := 15) d_Md_within_14 rfl (by decide) ?_
      exact zr_ireturn d_Md_within_15 rfl (by decide) (Nat.le_refl _) (Nat.le_refl _) (l1 (Or.inr ⟨h1, h2⟩))
    · refine zr_iconst (v := 1) (n := 11) d_Md_within_10 rfl (by decide) ?_
      refine zr_goto (tgt := 15) d_Md_within_11 (by decide) ?_
      exact zr_ireturn d_Md_within_15 rfl (by decide) (Nat.le_refl _) (Nat.le_refl _) (l2 h1 h2)
theorem c_Md_within {d : Nat} {Q : zm_Q} {S : zm_S} {a0 a1 a2 : Int32}
    (l1 : ((a0 < a1) ∨ (¬ a0 < a1 ∧ a2 < a0)) → Q (some 0) GG S)
    (l2 : ¬ a0 < a1 → ¬ a2 < a0 → Q (some 1) GG S) :
    zc M_Md_within d [.int a0, .int a1, .int a2] S Q := zm_CC_intro (by decide) rfl rfl (s_Md_within_0 l1 l2)
theorem s_Mt_contentAt_0 {d : Nat} {Q : zm_Q} {S : zm_S} {a1 a2 : Int32} (j1 : Nat) (o1 : zm_ix ((a1 + 3) + a2) j1 576)
    (l1 : Q (some (S 24 j1)) GG S) :
    zw M_Mt_contentAt d Q 0 [some (.ref 20), some (.int a1), some (.int a2)] [] S := by
  refine zr_aload_n (i := 0) (x := 20) (n := 1) d_Mt_contentAt_0 rfl rfl rfl ?_
  refine zr_getr (n := 4) d_Mt_contentAt_1 rfl f_Mt_29 gg_20 rfl ?_
  refine zr_iload_n (i := 1) (x := a1) (n := 5) d_Mt_contentAt_4 rfl rfl rfl ?_
  refine zr_iconst (v := 3) (n := 6) d_Mt_contentAt_5 rfl (by decide) ?_
  refine zr_iadd (n := 7) d_Mt_contentAt_6 rfl ?_
  refine zr_iload_n (i := 2) (x := a2) (n := 8) d_Mt_contentAt_7 rfl rfl rfl ?_
  refine zr_iadd (n := 9) d_Mt_contentAt_8 rfl ?_
  refine zr_iaload j1 (n := 10) d_Mt_contentAt_9 rfl gg_24 o1 ?_
  exact zr_ireturn d_Mt_contentAt_10 rfl rfl (Nat.le_refl _) (Nat.le_refl _) l1
theorem c_Mt_contentAt {d : Nat} {Q : zm_Q} {S : zm_S} {a1 a2 : Int32} (j1 : Nat) (o1 : zm_ix ((a1 + 3) + a2) j1 576)
    (l1 : Q (some (S 24 j1)) GG S) :
    zc M_Mt_contentAt d [.ref 20, .int a1, .int a2] S Q := zm_CC_intro (by decide) rfl rfl (s_Mt_contentAt_0 j1 o1 l1)
theorem s_Mt_isListed_0 {d : Nat} {Q : zm_Q} {S : zm_S} {a1 : Int32} (j1 : Nat) (o1 : ¬ a1 < 0 → ¬ 12 ≤ a1 → zm_ix a1 j1 12)
    (l1 : ((a1 < 0) ∨ (¬ a1 < 0 ∧ 12 ≤ a1) ∨ (¬ a1 < 0 ∧ ¬ 12 ≤ a1 ∧ (S 21 j1) ≤ 0)) → Q (some 0) GG S)
    (l2 : ¬ a1 < 0 → ¬ 12 ≤ a1 → ¬ (S 21 j1) ≤ 0 → Q (some 1) GG S) :
    zw M_Mt_isListed d Q 0 [some (.ref 20), some (.int a1)] [] S := by
  refine zr_iload_n (i := 1) (x := a1) (n := 1) d_Mt_isListed_0 rfl rfl rfl ?_
  refine zr_if_lt (tgt := 23) (n := 4) d_Mt_isListed_1 rfl (by decide) (fun h1 => ?_) (fun h1 => ?_)
  · refine zr_iconst (v := 0) (n := 24) d_Mt_isListed_23 rfl (by decide) ?_
    exact zr_ireturn d_Mt_isListed_24 rfl (by decide) (Nat.le_refl _) (Nat.le_refl _) (l1 (Or.inl h1))
  · refine zr_iload_n (i := 1) (x := a1) (n := 5) d_Mt_isListed_4 rfl rfl rfl ?_
    refine zr_bipush (v := 12) (n := 7) d_Mt_isListed_5 rfl (by decide) ?_
    refine zr_icmp_ge (tgt := 23) (n := 10) d_Mt_isListed_7 rfl (by decide) (fun h2 => ?_) (fun h2 => ?_)
    · refine zr_iconst (v := 0) (n := 24) d_Mt_isListed_23 rfl (by decide) ?_
      exact zr_ireturn d_Mt_isListed_24 rfl (by decide) (Nat.le_refl _) (Nat.le_refl _) (l1 (Or.inr (Or.inl ⟨h1, h2⟩)))
    · refine zr_aload_n (i := 0) (x := 20) (n := 11) d_Mt_isListed_10 rfl rfl rfl ?_
      refine zr_getr (n := 14) d_Mt_isListed_11 rfl f_Mt_19 gg_20 rfl ?_
      refine zr_iload_n (i := 1) (x := a1) (n := 15) d_Mt_isListed_14 rfl rfl rfl ?_
      refine zr_iaload j1 (n := 16) d_Mt_isListed_15 rfl gg_21 (o1 h1 h2) ?_
      refine zr_if_le (tgt := 23) (n := 19) d_Mt_isListed_16 rfl (by decide) (fun h3 => ?_) (fun h3 => ?_)
      · refine zr_iconst (v := 0) (n := 24) d_Mt_isListed_23 rfl (by decide) ?_
        exact zr_ireturn d_Mt_isListed_24 rfl (by decide) (Nat.le_refl _) (Nat.le_refl _) (l1 (Or.inr (Or.inr ⟨h1, h2, h3⟩)))
      · refine zr_iconst (v := 1) (n := 20) d_Mt_isListed_19 rfl (by decide) ?_
        refine zr_goto (tgt := 24) d_Mt_isListed_20 (by decide) ?_
        exact zr_ireturn d_Mt_isListed_24 rfl (by decide) (Nat.le_refl _) (Nat.le_refl _) (l2 h1 h2 h3)
theorem c_Mt_isListed {d : Nat} {Q : zm_Q} {S : zm_S} {a1 : Int32} (j1 : Nat) (o1 : ¬ a1 < 0 → ¬ 12 ≤ a1 → zm_ix a1 j1 12)
    (l1 : ((a1 < 0) ∨ (¬ a1 < 0 ∧ 12 ≤ a1) ∨ (¬ a1 < 0 ∧ ¬ 12 ≤ a1 ∧ (S 21 j1) ≤ 0)) → Q (some 0) GG S)
    (l2 : ¬ a1 < 0 → ¬ 12 ≤ a1 → ¬ (S 21 j1) ≤ 0 → Q (some 1) GG S) :
    zc M_Mt_isListed d [.ref 20, .int a1] S Q := zm_CC_intro (by decide) rfl rfl (s_Mt_isListed_0 j1 o1 l1 l2)
theorem s_Mt_kindAt_0 {d : Nat} {Q : zm_Q} {S : zm_S} {a1 : Int32} (j1 : Nat) (o1 : zm_ix a1 j1 576)
    (l1 : Q (some (S 24 j1)) GG S) :
    zw M_Mt_kindAt d Q 0 [some (.ref 20), some (.int a1)] [] S := by
  refine zr_aload_n (i := 0) (x := 20) (n := 1) d_Mt_kindAt_0 rfl rfl rfl ?_
  refine zr_getr (n := 4) d_Mt_kindAt_1 rfl f_Mt_29 gg_20 rfl ?_
  refine zr_iload_n (i := 1) (x := a1) (n := 5) d_Mt_kindAt_4 rfl rfl rfl ?_
  refine zr_iaload j1 (n := 6) d_Mt_kindAt_5 rfl gg_24 o1 ?_
  exact zr_ireturn d_Mt_kindAt_6 rfl rfl (Nat.le_refl _) (Nat.le_refl _) l1
theorem c_Mt_kindAt {d : Nat} {Q : zm_Q} {S : zm_S} {a1 : Int32} (j1 : Nat) (o1 : zm_ix a1 j1 576)
    (l1 : Q (some (S 24 j1)) GG S) :
    zc M_Mt_kindAt d [.ref 20, .int a1] S Q := zm_CC_intro (by decide) rfl rfl (s_Mt_kindAt_0 j1 o1 l1)
theorem s_Mt_lengthAt_0 {d : Nat} {Q : zm_Q} {S : zm_S} {a1 : Int32} (j1 : Nat) (o1 : zm_ix (a1 + 2) j1 576)
    (l1 : Q (some (S 24 j1)) GG S) :
    zw M_Mt_lengthAt d Q 0 [some (.ref 20), some (.int a1)] [] S := by
  refine zr_aload_n (i := 0) (x := 20) (n := 1) d_Mt_lengthAt_0 rfl rfl rfl ?_
  refine zr_getr (n := 4) d_Mt_lengthAt_1 rfl f_Mt_29 gg_20 rfl ?_
  refine zr_iload_n (i := 1) (x := a1) (n := 5) d_Mt_lengthAt_4 rfl rfl rfl ?_
  refine zr_iconst (v := 2) (n := 6) d_Mt_lengthAt_5 rfl (by decide) ?_
  refine zr_iadd (n := 7) d_Mt_lengthAt_6 rfl ?_
  refine zr_iaload j1 (n := 8) d_Mt_lengthAt_7 rfl gg_24 o1 ?_
  exact zr_ireturn d_Mt_lengthAt_8 rfl rfl (Nat.le_refl _) (Nat.le_refl _) l1
theorem c_Mt_lengthAt {d : Nat} {Q : zm_Q} {S : zm_S} {a1 : Int32} (j1 : Nat) (o1 : zm_ix (a1 + 2) j1 576)
    (l1 : Q (some (S 24 j1)) GG S) :
    zc M_Mt_lengthAt d [.ref 20, .int a1] S Q := zm_CC_intro (by decide) rfl rfl (s_Mt_lengthAt_0 j1 o1 l1)
theorem s_Mt_relist_0 {d : Nat} {Q : zm_Q} {S : zm_S} {a1 a2 a3 : Int32} (j1 : Nat) (o1 : zm_ix a1 j1 12)
    (l1 : Q none GG (zm_up (zm_up (zm_up S 21 j1 a2) 22 j1 a3) 23 j1 0)) :
    zw M_Mt_relist d Q 0 [some (.ref 20), some (.int a1), some (.int a2), some (.int a3)] [] S := by
  refine zr_aload_n (i := 0) (x := 20) (n := 1) d_Mt_relist_0 rfl rfl rfl ?_
  refine zr_getr (n := 4) d_Mt_relist_1 rfl f_Mt_19 gg_20 rfl ?_
  refine zr_iload_n (i := 1) (x := a1) (n := 5) d_Mt_relist_4 rfl rfl rfl ?_
  refine zr_iload_n (i := 2) (x := a2) (n := 6) d_Mt_relist_5 rfl rfl rfl ?_
  refine zr_iastore j1 (n := 7) d_Mt_relist_6 rfl gg_21 o1 ?_
  refine zr_aload_n (i := 0) (x := 20) (n := 8) d_Mt_relist_7 rfl rfl rfl ?_
  refine zr_getr (n := 11) d_Mt_relist_8 rfl f_Mt_23 gg_20 rfl ?_
  refine zr_iload_n (i := 1) (x := a1) (n := 12) d_Mt_relist_11 rfl rfl rfl ?_
  refine zr_iload_n (i := 3) (x := a3) (n := 13) d_Mt_relist_12 rfl rfl rfl ?_
  refine zr_iastore j1 (n := 14) d_Mt_relist_13 rfl gg_22 o1 ?_
  refine zr_aload_n (i := 0) (x := 20) (n := 15) d_Mt_relist_14 rfl rfl rfl ?_
  refine zr_getr (n := 18) d_Mt_relist_15 rfl f_Mt_26 gg_20 rfl ?_
  refine zr_iload_n (i := 1) (x := a1) (n := 19) d_Mt_relist_18 rfl rfl rfl ?_
  refine zr_iconst (v := 0) (n := 20) d_Mt_relist_19 rfl (by decide) ?_
  refine zr_iastore j1 (n := 21) d_Mt_relist_20 rfl gg_23 o1 ?_
  exact zr_return d_Mt_relist_21 rfl (Nat.le_refl _) (Nat.le_refl _) l1
theorem c_Mt_relist {d : Nat} {Q : zm_Q} {S : zm_S} {a1 a2 a3 : Int32} (j1 : Nat) (o1 : zm_ix a1 j1 12)
    (l1 : Q none GG (zm_up (zm_up (zm_up S 21 j1 a2) 22 j1 a3) 23 j1 0)) :
    zc M_Mt_relist d [.ref 20, .int a1, .int a2, .int a3] S Q := zm_CC_intro (by decide) rfl rfl (s_Mt_relist_0 j1 o1 l1)
theorem s_Rc_isBlock_0 {d : Nat} {Q : zm_Q} {S : zm_S} {a1 : Int32}
    (l1 : ((¬ (S 26 0) = 60) ∨ ((S 26 0) = 60 ∧ ((a1 - 6) - 4) < 1) ∨ ((S 26 0) = 60 ∧ ¬ ((a1 - 6) - 4) < 1 ∧ 8 < ((a1 - 6) - 4))) → Q (some 0) GG S)
    (l2 : (S 26 0) = 60 → ¬ ((a1 - 6) - 4) < 1 → ¬ 8 < ((a1 - 6) - 4) → Q (some 1) GG S) :
    zw M_Rc_isBlock d Q 0 [some (.ref 19), some (.int a1), none] [] S := by
  refine zr_iload_n (i := 1) (x := a1) (n := 1) d_Rc_isBlock_0 rfl rfl rfl ?_
  refine zr_bipush (v := 6) (n := 3) d_Rc_isBlock_1 rfl (by decide) ?_
  refine zr_isub (n := 4) d_Rc_isBlock_3 rfl ?_
  refine zr_iconst (v := 4) (n := 5) d_Rc_isBlock_4 rfl (by decide) ?_
  refine zr_isub (n := 6) d_Rc_isBlock_5 rfl ?_
  refine zr_istore_n (i := 2) (L' := [some (.ref 19), some (.int a1), some (.int ((a1 - 6) - 4))]) (n := 7) d_Rc_isBlock_6 rfl rfl rfl rfl ?_
  refine zr_aload_n (i := 0) (x := 19) (n := 8) d_Rc_isBlock_7 rfl rfl rfl ?_
  refine zr_getr (n := 11) d_Rc_isBlock_8 rfl f_Rc_22 gg_19 rfl ?_
  refine zr_iconst (v := 0) (n := 12) d_Rc_isBlock_11 rfl (by decide) ?_
  refine zr_iaload 0 (n := 13) d_Rc_isBlock_12 rfl gg_26 (zm_ixN (Nat.le_of_ble_eq_true rfl) (Nat.le_of_ble_eq_true rfl)) ?_
  refine zr_bipush (v := 60) (n := 15) d_Rc_isBlock_13 rfl (by decide) ?_
  refine zr_icmp_ne (tgt := 33) (n := 18) d_Rc_isBlock_15 rfl (by decide) (fun h1 => ?_) (fun h1 => ?_)
  · refine zr_iconst (v := 0) (n := 34) d_Rc_isBlock_33 rfl (by decide) ?_
    exact zr_ireturn d_Rc_isBlock_34 rfl (by decide) (Nat.le_refl _) (Nat.le_refl _) (l1 (Or.inl h1))
  · refine zr_iload_n (i := 2) (x := ((a1 - 6) - 4)) (n := 19) d_Rc_isBlock_18 rfl rfl rfl ?_
    refine zr_iconst (v := 1) (n := 20) d_Rc_isBlock_19 rfl (by decide) ?_
    refine zr_icmp_lt (tgt := 33) (n := 23) d_Rc_isBlock_20 rfl (by decide) (fun h2 => ?_) (fun h2 => ?_)
    · refine zr_iconst (v := 0) (n := 34) d_Rc_isBlock_33 rfl (by decide) ?_
      exact zr_ireturn d_Rc_isBlock_34 rfl (by decide) (Nat.le_refl _) (Nat.le_refl _) (l1 (Or.inr (Or.inl ⟨h1, h2⟩)))
    · refine zr_iload_n (i := 2) (x := ((a1 - 6) - 4)) (n := 24) d_Rc_isBlock_23 rfl rfl rfl ?_
      refine zr_bipush (v := 8) (n := 26) d_Rc_isBlock_24 rfl (by decide) ?_
      refine zr_icmp_gt (tgt := 33) (n := 29) d_Rc_isBlock_26 rfl (by decide) (fun h3 => ?_) (fun h3 => ?_)
      · refine zr_iconst (v := 0) (n := 34) d_Rc_isBlock_33 rfl (by decide) ?_
        exact zr_ireturn d_Rc_isBlock_34 rfl (by decide) (Nat.le_refl _) (Nat.le_refl _) (l1 (Or.inr (Or.inr ⟨h1, h2, h3⟩)))
      · refine zr_iconst (v := 1) (n := 30) d_Rc_isBlock_29 rfl (by decide) ?_
        refine zr_goto (tgt := 34) d_Rc_isBlock_30 (by decide) ?_
        exact zr_ireturn d_Rc_isBlock_34 rfl (by decide) (Nat.le_refl _) (Nat.le_refl _) (l2 h1 h2 h3)
theorem c_Rc_isBlock {d : Nat} {Q : zm_Q} {S : zm_S} {a1 : Int32}
    (l1 : ((¬ (S 26 0) = 60) ∨ ((S 26 0) = 60 ∧ ((a1 - 6) - 4) < 1) ∨ ((S 26 0) = 60 ∧ ¬ ((a1 - 6) - 4) < 1 ∧ 8 < ((a1 - 6) - 4))) → Q (some 0) GG S)
    (l2 : (S 26 0) = 60 → ¬ ((a1 - 6) - 4) < 1 → ¬ 8 < ((a1 - 6) - 4) → Q (some 1) GG S) :
    zc M_Rc_isBlock d [.ref 19, .int a1] S Q := zm_CC_intro (by decide) rfl rfl (s_Rc_isBlock_0 l1 l2)
theorem s_Sn_isOnAir_0 {d : Nat} {Q : zm_Q} {S : zm_S}
    (l1 : (S 16 1) ≤ 0 → Q (some 0) GG S)
    (l2 : ¬ (S 16 1) ≤ 0 → Q (some 1) GG S) :
    zw M_Sn_isOnAir d Q 0 [some (.ref 14)] [] S := by
  refine zr_aload_n (i := 0) (x := 14) (n := 1) d_Sn_isOnAir_0 rfl rfl rfl ?_
  refine zr_getr (n := 4) d_Sn_isOnAir_1 rfl f_Sn_18 gg_14 rfl ?_
  refine zr_geti (n := 7) d_Sn_isOnAir_4 rfl f_Sn_32 gg_16 rfl ?_
  refine zr_if_le (tgt := 14) (n := 10) d_Sn_isOnAir_7 rfl (by decide) (fun h1 => ?_) (fun h1 => ?_)
  · refine zr_iconst (v := 0) (n := 15) d_Sn_isOnAir_14 rfl (by decide) ?_
    exact zr_ireturn d_Sn_isOnAir_15 rfl (by decide) (Nat.le_refl _) (Nat.le_refl _) (l1 h1)
  · refine zr_iconst (v := 1) (n := 11) d_Sn_isOnAir_10 rfl (by decide) ?_
    refine zr_goto (tgt := 15) d_Sn_isOnAir_11 (by decide) ?_
    exact zr_ireturn d_Sn_isOnAir_15 rfl (by decide) (Nat.le_refl _) (Nat.le_refl _) (l2 h1)
theorem c_Sn_isOnAir {d : Nat} {Q : zm_Q} {S : zm_S}
    (l1 : (S 16 1) ≤ 0 → Q (some 0) GG S)
    (l2 : ¬ (S 16 1) ≤ 0 → Q (some 1) GG S) :
    zc M_Sn_isOnAir d [.ref 14] S Q := zm_CC_intro (by decide) rfl rfl (s_Sn_isOnAir_0 l1 l2)
theorem s_Tree_addByte_0 {d : Nat} {Q : zm_Q} {S : zm_S} {a1 a2 : Int32} (j1 : Nat) (j2 : Nat) (o1 : zm_ix a1 j1 12) (o2 : zm_ix ((a1 * 12) + (S 5 j1)) j2 144)
    (l1 : Q (some ((S 5 j1) + 1)) GG (zm_up (zm_up S 6 j2 a2) 5 j1 ((S 5 j1) + 1))) :
    zw M_Tree_addByte d Q 0 [some (.ref 1), some (.int a1), some (.int a2)] [] S := by
  refine zr_aload_n (i := 0) (x := 1) (n := 1) d_Tree_addByte_0 rfl rfl rfl ?_
  refine zr_getr (n := 4) d_Tree_addByte_1 rfl f_Tree_24 gg_1 rfl ?_
  refine zr_iload_n (i := 1) (x := a1) (n := 5) d_Tree_addByte_4 rfl rfl rfl ?_
  refine zr_bipush (v := 12) (n := 7) d_Tree_addByte_5 rfl (by decide) ?_
  refine zr_imul (n := 8) d_Tree_addByte_7 rfl ?_
  refine zr_aload_n (i := 0) (x := 1) (n := 9) d_Tree_addByte_8 rfl rfl rfl ?_
  refine zr_getr (n := 12) d_Tree_addByte_9 rfl f_Tree_21 gg_1 rfl ?_
  refine zr_iload_n (i := 1) (x := a1) (n := 13) d_Tree_addByte_12 rfl rfl rfl ?_
  refine zr_iaload j1 (n := 14) d_Tree_addByte_13 rfl gg_5 o1 ?_
  refine zr_iadd (n := 15) d_Tree_addByte_14 rfl ?_
  refine zr_iload_n (i := 2) (x := a2) (n := 16) d_Tree_addByte_15 rfl rfl rfl ?_
  refine zr_iastore j2 (n := 17) d_Tree_addByte_16 rfl gg_6 o2 ?_
  refine zr_aload_n (i := 0) (x := 1) (n := 18) d_Tree_addByte_17 rfl rfl rfl ?_
  refine zr_getr (n := 21) d_Tree_addByte_18 rfl f_Tree_21 gg_1 rfl ?_
  refine zr_iload_n (i := 1) (x := a1) (n := 22) d_Tree_addByte_21 rfl rfl rfl ?_
  refine zr_dup2 (n := 23) d_Tree_addByte_22 rfl rfl rfl ?_
  refine zr_iaload j1 (n := 24) d_Tree_addByte_23 rfl gg_5 o1 ?_
  refine zr_iconst (v := 1) (n := 25) d_Tree_addByte_24 rfl (by decide) ?_
  refine zr_iadd (n := 26) d_Tree_addByte_25 rfl ?_
  refine zr_iastore j1 (n := 27) d_Tree_addByte_26 rfl gg_5 o1 ?_
  refine zr_aload_n (i := 0) (x := 1) (n := 28) d_Tree_addByte_27 rfl rfl rfl ?_
  refine zr_getr (n := 31) d_Tree_addByte_28 rfl f_Tree_21 gg_1 rfl ?_
  refine zr_iload_n (i := 1) (x := a1) (n := 32) d_Tree_addByte_31 rfl rfl rfl ?_
  refine zr_iaload j1 (n := 33) d_Tree_addByte_32 rfl gg_5 o1 ?_
  refine zr_top (v := ((S 5 j1) + 1)) (by simp [zm_up, upd]) ?_
  exact zr_ireturn d_Tree_addByte_33 rfl rfl (Nat.le_refl _) (Nat.le_refl _) l1
theorem c_Tree_addByte {d : Nat} {Q : zm_Q} {S : zm_S} {a1 a2 : Int32} (j1 : Nat) (j2 : Nat) (o1 : zm_ix a1 j1 12) (o2 : zm_ix ((a1 * 12) + (S 5 j1)) j2 144)
    (l1 : Q (some ((S 5 j1) + 1)) GG (zm_up (zm_up S 6 j2 a2) 5 j1 ((S 5 j1) + 1))) :
    zc M_Tree_addByte d [.ref 1, .int a1, .int a2] S Q := zm_CC_intro (by decide) rfl rfl (s_Tree_addByte_0 j1 j2 o1 o2 l1)
theorem s_Tree_clearFile_0 {d : Nat} {Q : zm_Q} {S : zm_S} {a1 : Int32} (j1 : Nat) (o1 : zm_ix a1 j1 12)
    (l1 : Q (some (S 5 j1)) GG (zm_up S 5 j1 0)) :
    zw M_Tree_clearFile d Q 0 [some (.ref 1), some (.int a1), none] [] S := by
  refine zr_aload_n (i := 0) (x := 1) (n := 1) d_Tree_clearFile_0 rfl rfl rfl ?_
  refine zr_getr (n := 4) d_Tree_clearFile_1 rfl f_Tree_21 gg_1 rfl ?_
  refine zr_iload_n (i := 1) (x := a1) (n := 5) d_Tree_clearFile_4 rfl rfl rfl ?_
  refine zr_iaload j1 (n := 6) d_Tree_clearFile_5 rfl gg_5 o1 ?_
  refine zr_istore_n (i := 2) (L' := [some (.ref 1), some (.int a1), some (.int (S 5 j1))]) (n := 7) d_Tree_clearFile_6 rfl rfl rfl rfl ?_
  refine zr_aload_n (i := 0) (x := 1) (n := 8) d_Tree_clearFile_7 rfl rfl rfl ?_
  refine zr_getr (n := 11) d_Tree_clearFile_8 rfl f_Tree_21 gg_1 rfl ?_
  refine zr_iload_n (i := 1) (x := a1) (n := 12) d_Tree_clearFile_11 rfl rfl rfl ?_
  refine zr_iconst (v := 0) (n := 13) d_Tree_clearFile_12 rfl (by decide) ?_
  refine zr_iastore j1 (n := 14) d_Tree_clearFile_13 rfl gg_5 o1 ?_
  refine zr_iload_n (i := 2) (x := (S 5 j1)) (n := 15) d_Tree_clearFile_14 rfl rfl rfl ?_
  exact zr_ireturn d_Tree_clearFile_15 rfl rfl (Nat.le_refl _) (Nat.le_refl _) l1
theorem c_Tree_clearFile {d : Nat} {Q : zm_Q} {S : zm_S} {a1 : Int32} (j1 : Nat) (o1 : zm_ix a1 j1 12)
    (l1 : Q (some (S 5 j1)) GG (zm_up S 5 j1 0)) :
    zc M_Tree_clearFile d [.ref 1, .int a1] S Q := zm_CC_intro (by decide) rfl rfl (s_Tree_clearFile_0 j1 o1 l1)
theorem s_Tree_fileByte_0 {d : Nat} {Q : zm_Q} {S : zm_S} {a1 a2 : Int32} (j1 : Nat) (o1 : zm_ix ((a1 * 12) + a2) j1 144)
    (l1 : Q (some (S 6 j1)) GG S) :
    zw M_Tree_fileByte d Q 0 [some (.ref 1), some (.int a1), some (.int a2)] [] S := by
  refine zr_aload_n (i := 0) (x := 1) (n := 1) d_Tree_fileByte_0 rfl rfl rfl ?_
  refine zr_getr (n := 4) d_Tree_fileByte_1 rfl f_Tree_24 gg_1 rfl ?_
  refine zr_iload_n (i := 1) (x := a1) (n := 5) d_Tree_fileByte_4 rfl rfl rfl ?_
  refine zr_bipush (v := 12) (n := 7) d_Tree_fileByte_5 rfl (by decide) ?_
  refine zr_imul (n := 8) d_Tree_fileByte_7 rfl ?_
  refine zr_iload_n (i := 2) (x := a2) (n := 9) d_Tree_fileByte_8 rfl rfl rfl ?_
  refine zr_iadd (n := 10) d_Tree_fileByte_9 rfl ?_
  refine zr_iaload j1 (n := 11) d_Tree_fileByte_10 rfl gg_6 o1 ?_
  exact zr_ireturn d_Tree_fileByte_11 rfl rfl (Nat.le_refl _) (Nat.le_refl _) l1
theorem c_Tree_fileByte {d : Nat} {Q : zm_Q} {S : zm_S} {a1 a2 : Int32} (j1 : Nat) (o1 : zm_ix ((a1 * 12) + a2) j1 144)
    (l1 : Q (some (S 6 j1)) GG S) :
    zc M_Tree_fileByte d [.ref 1, .int a1, .int a2] S Q := zm_CC_intro (by decide) rfl rfl (s_Tree_fileByte_0 j1 o1 l1)
theorem s_Tree_fileLength_0 {d : Nat} {Q : zm_Q} {S : zm_S} {a1 : Int32} (j1 : Nat) (o1 : zm_ix a1 j1 12)
    (l1 : Q (some (S 5 j1)) GG S) :
    zw M_Tree_fileLength d Q 0 [some (.ref 1), some (.int a1)] [] S := by
  refine zr_aload_n (i := 0) (x := 1) (n := 1) d_Tree_fileLength_0 rfl rfl rfl ?_
  refine zr_getr (n := 4) d_Tree_fileLength_1 rfl f_Tree_21 gg_1 rfl ?_
  refine zr_iload_n (i := 1) (x := a1) (n := 5) d_Tree_fileLength_4 rfl rfl rfl ?_
  refine zr_iaload j1 (n := 6) d_Tree_fileLength_5 rfl gg_5 o1 ?_
  exact zr_ireturn d_Tree_fileLength_6 rfl rfl (Nat.le_refl _) (Nat.le_refl _) l1
theorem c_Tree_fileLength {d : Nat} {Q : zm_Q} {S : zm_S} {a1 : Int32} (j1 : Nat) (o1 : zm_ix a1 j1 12)
    (l1 : Q (some (S 5 j1)) GG S) :
    zc M_Tree_fileLength d [.ref 1, .int a1] S Q := zm_CC_intro (by decide) rfl rfl (s_Tree_fileLength_0 j1 o1 l1)
theorem s_Tree_isDirectory_0 {d : Nat} {Q : zm_Q} {S : zm_S} {a1 : Int32} (j1 : Nat) (o1 : zm_ix a1 j1 12)
    (l1 : (((S 2 j1) = 1) ∨ (¬ (S 2 j1) = 1 ∧ (S 2 j1) = 2)) → Q (some 1) GG S)
    (l2 : ¬ (S 2 j1) = 1 → ¬ (S 2 j1) = 2 → Q (some 0) GG S) :
    zw M_Tree_isDirectory d Q 0 [some (.ref 1), some (.int a1)] [] S := by
  refine zr_aload_n (i := 0) (x := 1) (n := 1) d_Tree_isDirectory_0 rfl rfl rfl ?_
  refine zr_getr (n := 4) d_Tree_isDirectory_1 rfl f_Tree_9 gg_1 rfl ?_
  refine zr_iload_n (i := 1) (x := a1) (n := 5) d_Tree_isDirectory_4 rfl rfl rfl ?_
  refine zr_iaload j1 (n := 6) d_Tree_isDirectory_5 rfl gg_2 o1 ?_
  refine zr_iconst (v := 1) (n := 7) d_Tree_isDirectory_6 rfl (by decide) ?_
  refine zr_icmp_eq (tgt := 20) (n := 10) d_Tree_isDirectory_7 rfl (by decide) (fun h1 => ?_) (fun h1 => ?_)
  · refine zr_iconst (v := 1) (n := 21) d_Tree_isDirectory_20 rfl (by decide) ?_
    refine zr_goto (tgt := 25) d_Tree_isDirectory_21 (by decide) ?_
    exact zr_ireturn d_Tree_isDirectory_25 rfl (by decide) (Nat.le_refl _) (Nat.le_refl _) (l1 (Or.inl h1))
  · refine zr_aload_n (i := 0) (x := 1) (n := 11) d_Tree_isDirectory_10 rfl rfl rfl ?_
    refine zr_getr (n := 14) d_Tree_isDirectory_11 rfl f_Tree_9 gg_1 rfl ?_
    refine zr_iload_n (i := 1) (x := a1) (n := 15) d_Tree_isDirectory_14 rfl rfl rfl ?_
    refine zr_iaload j1 (n := 16) d_Tree_isDirectory_15 rfl gg_2 o1 ?_
    refine zr_iconst (v := 2) (n := 17) d_Tree_isDirectory_16 rfl (by decide) ?_
    refine zr_icmp_ne (tgt := 24) (n := 20) d_Tree_isDirectory_17 rfl (by decide) (fun h2 => ?_) (fun h2 => ?_)
    · refine zr_iconst (v := 0) (n := 25) d_Tree_isDirectory_24 rfl (by decide) ?_
      exact zr_ireturn d_Tree_isDirectory_25 rfl (by decide) (Nat.le_refl _) (Nat.le_refl _) (l2 h1 h2)
    · refine zr_iconst (v := 1) (n := 21) d_Tree_isDirectory_20 rfl (by decide) ?_
      refine zr_goto (tgt := 25) d_Tree_isDirectory_21 (by decide) ?_
      exact zr_ireturn d_Tree_isDirectory_25 rfl (by decide) (Nat.le_refl _) (Nat.le_refl _) (l1 (Or.inr ⟨h1, h2⟩))
theorem c_Tree_isDirectory {d : Nat} {Q : zm_Q} {S : zm_S} {a1 : Int32} (j1 : Nat) (o1 : zm_ix a1 j1 12)
    (l1 : (((S 2 j1) = 1) ∨ (¬ (S 2 j1) = 1 ∧ (S 2 j1) = 2)) → Q (some 1) GG S)
    (l2 : ¬ (S 2 j1) = 1 → ¬ (S 2 j1) = 2 → Q (some 0) GG S) :
    zc M_Tree_isDirectory d [.ref 1, .int a1] S Q := zm_CC_intro (by decide) rfl rfl (s_Tree_isDirectory_0 j1 o1 l1 l2)
theorem s_Tree_isFile_0 {d : Nat} {Q : zm_Q} {S : zm_S} {a1 : Int32} (j1 : Nat) (o1 : zm_ix a1 j1 12)
    (l1 : ¬ (S 2 j1) = 3 → Q (some 0) GG S)
    (l2 : (S 2 j1) = 3 → Q (some 1) GG S) :
    zw M_Tree_isFile d Q 0 [some (.ref 1), some (.int a1)] [] S := by
  refine zr_aload_n (i := 0) (x := 1) (n := 1) d_Tree_isFile_0 rfl rfl rfl ?_
  refine zr_getr (n := 4) d_Tree_isFile_1 rfl f_Tree_9 gg_1 rfl ?_
  refine zr_iload_n (i := 1) (x := a1) (n := 5) d_Tree_isFile_4 rfl rfl rfl ?_
  refine zr_iaload j1 (n := 6) d_Tree_isFile_5 rfl gg_2 o1 ?_
  refine zr_iconst (v := 3) (n := 7) d_Tree_isFile_6 rfl (by decide) ?_
  refine zr_icmp_ne (tgt := 14) (n := 10) d_Tree_isFile_7 rfl (by decide) (fun h1 => ?_) (fun h1 => ?_)
  · refine zr_iconst (v := 0) (n := 15) d_Tree_isFile_14 rfl (by decide) ?_
    exact zr_ireturn d_Tree_isFile_15 rfl (by decide) (Nat.le_refl _) (Nat.le_refl _) (l1 h1)
  · refine zr_iconst (v := 1) (n := 11) d_Tree_isFile_10 rfl (by decide) ?_
    refine zr_goto (tgt := 15) d_Tree_isFile_11 (by decide) ?_
    exact zr_ireturn d_Tree_isFile_15 rfl (by decide) (Nat.le_refl _) (Nat.le_refl _) (l2 h1)
theorem c_Tree_isFile {d : Nat} {Q : zm_Q} {S : zm_S} {a1 : Int32} (j1 : Nat) (o1 : zm_ix a1 j1 12)
    (l1 : ¬ (S 2 j1) = 3 → Q (some 0) GG S)
    (l2 : (S 2 j1) = 3 → Q (some 1) GG S) :
    zc M_Tree_isFile d [.ref 1, .int a1] S Q := zm_CC_intro (by decide) rfl rfl (s_Tree_isFile_0 j1 o1 l1 l2)
theorem s_Tree_isThere_0 {d : Nat} {Q : zm_Q} {S : zm_S} {a1 : Int32} (j1 : Nat) (o1 : zm_ix a1 j1 12)
    (l1 : (S 2 j1) = 0 → Q (some 0) GG S)
    (l2 : ¬ (S 2 j1) = 0 → Q (some 1) GG S) :
    zw M_Tree_isThere d Q 0 [some (.ref 1), some (.int a1)] [] S := by
  refine zr_aload_n (i := 0) (x := 1) (n := 1) d_Tree_isThere_0 rfl rfl rfl ?_
  refine zr_getr (n := 4) d_Tree_isThere_1 rfl f_Tree_9 gg_1 rfl ?_
  refine zr_iload_n (i := 1) (x := a1) (n := 5) d_Tree_isThere_4 rfl rfl rfl ?_
  refine zr_iaload j1 (n := 6) d_Tree_isThere_5 rfl gg_2 o1 ?_
  refine zr_if_eq (tgt := 13) (n := 9) d_Tree_isThere_6 rfl (by decide) (fun h1 => ?_) (fun h1 => ?_)
  · refine zr_iconst (v := 0) (n := 14) d_Tree_isThere_13 rfl (by decide) ?_
    exact zr_ireturn d_Tree_isThere_14 rfl (by decide) (Nat.le_refl _) (Nat.le_refl _) (l1 h1)
  · refine zr_iconst (v := 1) (n := 10) d_Tree_isThere_9 rfl (by decide) ?_
    refine zr_goto (tgt := 14) d_Tree_isThere_10 (by decide) ?_
    exact zr_ireturn d_Tree_isThere_14 rfl (by decide) (Nat.le_refl _) (Nat.le_refl _) (l2 h1)
theorem c_Tree_isThere {d : Nat} {Q : zm_Q} {S : zm_S} {a1 : Int32} (j1 : Nat) (o1 : zm_ix a1 j1 12)
    (l1 : (S 2 j1) = 0 → Q (some 0) GG S)
    (l2 : ¬ (S 2 j1) = 0 → Q (some 1) GG S) :
    zc M_Tree_isThere d [.ref 1, .int a1] S Q := zm_CC_intro (by decide) rfl rfl (s_Tree_isThere_0 j1 o1 l1 l2)
theorem s_Tree_kindOf_0 {d : Nat} {Q : zm_Q} {S : zm_S} {a1 : Int32} (j1 : Nat) (o1 : zm_ix a1 j1 12)
    (l1 : Q (some (S 2 j1)) GG S) :
    zw M_Tree_kindOf d Q 0 [some (.ref 1), some (.int a1)] [] S := by
  refine zr_aload_n (i := 0) (x := 1) (n := 1) d_Tree_kindOf_0 rfl rfl rfl ?_
  refine zr_getr (n := 4) d_Tree_kindOf_1 rfl f_Tree_9 gg_1 rfl ?_
  refine zr_iload_n (i := 1) (x := a1) (n := 5) d_Tree_kindOf_4 rfl rfl rfl ?_
  refine zr_iaload j1 (n := 6) d_Tree_kindOf_5 rfl gg_2 o1 ?_
  exact zr_ireturn d_Tree_kindOf_6 rfl rfl (Nat.le_refl _) (Nat.le_refl _) l1
theorem c_Tree_kindOf {d : Nat} {Q : zm_Q} {S : zm_S} {a1 : Int32} (j1 : Nat) (o1 : zm_ix a1 j1 12)
    (l1 : Q (some (S 2 j1)) GG S) :
    zc M_Tree_kindOf d [.ref 1, .int a1] S Q := zm_CC_intro (by decide) rfl rfl (s_Tree_kindOf_0 j1 o1 l1)
theorem s_Tree_nameOf_0 {d : Nat} {Q : zm_Q} {S : zm_S} {a1 : Int32} (j1 : Nat) (o1 : zm_ix a1 j1 12)
    (l1 : Q (some (S 4 j1)) GG S) :
    zw M_Tree_nameOf d Q 0 [some (.ref 1), some (.int a1)] [] S := by
  refine zr_aload_n (i := 0) (x := 1) (n := 1) d_Tree_nameOf_0 rfl rfl rfl ?_
  refine zr_getr (n := 4) d_Tree_nameOf_1 rfl f_Tree_18 gg_1 rfl ?_
  refine zr_iload_n (i := 1) (x := a1) (n := 5) d_Tree_nameOf_4 rfl rfl rfl ?_
  refine zr_iaload j1 (n := 6) d_Tree_nameOf_5 rfl gg_4 o1 ?_
  exact zr_ireturn d_Tree_nameOf_6 rfl rfl (Nat.le_refl _) (Nat.le_refl _) l1
theorem c_Tree_nameOf {d : Nat} {Q : zm_Q} {S : zm_S} {a1 : Int32} (j1 : Nat) (o1 : zm_ix a1 j1 12)
    (l1 : Q (some (S 4 j1)) GG S) :
    zc M_Tree_nameOf d [.ref 1, .int a1] S Q := zm_CC_intro (by decide) rfl rfl (s_Tree_nameOf_0 j1 o1 l1)
theorem s_Tree_put_0 {d : Nat} {Q : zm_Q} {S : zm_S} {a1 a2 a3 a4 : Int32} (j1 : Nat) (o1 : zm_ix a1 j1 12)
    (l1 : Q none GG (zm_up (zm_up (zm_up (zm_up S 2 j1 a4) 3 j1 a2) 4 j1 a3) 5 j1 0)) :
    zw M_Tree_put d Q 0 [some (.ref 1), some (.int a1), some (.int a2), some (.int a3), some (.int a4)] [] S := by
  refine zr_aload_n (i := 0) (x := 1) (n := 1) d_Tree_put_0 rfl rfl rfl ?_
  refine zr_getr (n := 4) d_Tree_put_1 rfl f_Tree_9 gg_1 rfl ?_
  refine zr_iload_n (i := 1) (x := a1) (n := 5) d_Tree_put_4 rfl rfl rfl ?_
  refine zr_iload (i := 4) (x := a4) (n := 7) d_Tree_put_5 rfl rfl ?_
  refine zr_iastore j1 (n := 8) d_Tree_put_7 rfl gg_2 o1 ?_
  refine zr_aload_n (i := 0) (x := 1) (n := 9) d_Tree_put_8 rfl rfl rfl ?_
  refine zr_getr (n := 12) d_Tree_put_9 rfl f_Tree_15 gg_1 rfl ?_
  refine zr_iload_n (i := 1) (x := a1) (n := 13) d_Tree_put_12 rfl rfl rfl ?_
  refine zr_iload_n (i := 2) (x := a2) (n := 14) d_Tree_put_13 rfl rfl rfl ?_
  refine zr_iastore j1 (n := 15) d_Tree_put_14 rfl gg_3 o1 ?_
  refine zr_aload_n (i := 0) (x := 1) (n := 16) d_Tree_put_15 rfl rfl rfl ?_
  refine zr_getr (n := 19) d_Tree_put_16 rfl f_Tree_18 gg_1 rfl ?_
  refine zr_iload_n (i := 1) (x := a1) (n := 20) d_Tree_put_19 rfl rfl rfl ?_
  refine zr_iload_n (i := 3) (x := a3) (n := 21) d_Tree_put_20 rfl rfl rfl ?_
  refine zr_iastore j1 (n := 22) d_Tree_put_21 rfl gg_4 o1 ?_
  refine zr_aload_n (i := 0) (x := 1) (n := 23) d_Tree_put_22 rfl rfl rfl ?_
  refine zr_getr (n := 26) d_Tree_put_23 rfl f_Tree_21 gg_1 rfl ?_
  refine zr_iload_n (i := 1) (x := a1) (n := 27) d_Tree_put_26 rfl rfl rfl ?_
  refine zr_iconst (v := 0) (n := 28) d_Tree_put_27 rfl (by decide) ?_
  refine zr_iastore j1 (n := 29) d_Tree_put_28 rfl gg_5 o1 ?_
  exact zr_return d_Tree_put_29 rfl (Nat.le_refl _) (Nat.le_refl _) l1
theorem c_Tree_put {d : Nat} {Q : zm_Q} {S : zm_S} {a1 a2 a3 a4 : Int32} (j1 : Nat) (o1 : zm_ix a1 j1 12)
    (l1 : Q none GG (zm_up (zm_up (zm_up (zm_up S 2 j1 a4) 3 j1 a2) 4 j1 a3) 5 j1 0)) :
    zc M_Tree_put d [.ref 1, .int a1, .int a2, .int a3, .int a4] S Q := zm_CC_intro (by decide) rfl rfl (s_Tree_put_0 j1 o1 l1)
theorem s_Tree_take_0 {d : Nat} {Q : zm_Q} {S : zm_S} {a1 : Int32} (j1 : Nat) (o1 : zm_ix a1 j1 12)
    (l1 : Q none GG (zm_up (zm_up S 2 j1 0) 3 j1 (-1))) :
    zw M_Tree_take d Q 0 [some (.ref 1), some (.int a1)] [] S := by
  refine zr_aload_n (i := 0) (x := 1) (n := 1) d_Tree_take_0 rfl rfl rfl ?_
  refine zr_getr (n := 4) d_Tree_take_1 rfl f_Tree_9 gg_1 rfl ?_
  refine zr_iload_n (i := 1) (x := a1) (n := 5) d_Tree_take_4 rfl rfl rfl ?_
  refine zr_iconst (v := 0) (n := 6) d_Tree_take_5 rfl (by decide) ?_
  refine zr_iastore j1 (n := 7) d_Tree_take_6 rfl gg_2 o1 ?_
  refine zr_aload_n (i := 0) (x := 1) (n := 8) d_Tree_take_7 rfl rfl rfl ?_
  refine zr_getr (n := 11) d_Tree_take_8 rfl f_Tree_15 gg_1 rfl ?_
  refine zr_iload_n (i := 1) (x := a1) (n := 12) d_Tree_take_11 rfl rfl rfl ?_
  refine zr_iconst (v := (-1)) (n := 13) d_Tree_take_12 rfl (by decide) ?_
  refine zr_iastore j1 (n := 14) d_Tree_take_13 rfl gg_3 o1 ?_
  exact zr_return d_Tree_take_14 rfl (Nat.le_refl _) (Nat.le_refl _) l1
theorem c_Tree_take {d : Nat} {Q : zm_Q} {S : zm_S} {a1 : Int32} (j1 : Nat) (o1 : zm_ix a1 j1 12)
    (l1 : Q none GG (zm_up (zm_up S 2 j1 0) 3 j1 (-1))) :
    zc M_Tree_take d [.ref 1, .int a1] S Q := zm_CC_intro (by decide) rfl rfl (s_Tree_take_0 j1 o1 l1)
theorem s_CM_empty_0 {d : Nat} {Q : zm_Q} {S : zm_S} {a1 : Int32} (j1 : Nat) (o1 : ¬ a1 < 1 → ¬ 12 ≤ a1 → zm_ix a1 j1 12)
    (l1 : ((a1 < 1) ∨ (¬ a1 < 1 ∧ 12 ≤ a1)) → Q (some (-1)) GG S)
    (l2 : ¬ a1 < 1 → ¬ 12 ≤ a1 → ¬ (S 2 j1) = 3 → Q (some (-2)) GG S)
    (l3 : ¬ a1 < 1 → ¬ 12 ≤ a1 → (S 2 j1) = 3 → Q (some (S 5 j1)) GG (zm_up S 5 j1 0)) :
    zw M_CM_empty (d + 1) Q 0 [some (.ref 0), some (.int a1)] [] S := by
  refine zr_iload_n (i := 1) (x := a1) (n := 1) d_CM_empty_0 rfl rfl rfl ?_
  refine zr_callS (M' := M_CM_isEntryKey) (mc' := 0) (ms' := 0) (av := [.int a1]) (rest := []) (n := 4) d_CM_empty_1 rfl w_CM_53 w_CM_53k rfl rfl rfl rfl rfl (Nat.le_refl _) (Nat.le_refl _) ?_
  refine c_CM_isEntryKey (a0 := a1) (fun h1 => ?_) (fun h2 h3 => ?_)
  · refine zr_if_ne (tgt := 9) (n := 7) d_CM_empty_4 rfl (by decide) (fun h => absurd h (by decide)) (fun _ => ?_)
    refine zr_iconst (v := (-1)) (n := 8) d_CM_empty_7 rfl (by decide) ?_
    exact zr_ireturn d_CM_empty_8 rfl rfl (Nat.le_refl _) (Nat.le_refl _) (l1 h1)
  · refine zr_if_ne (tgt := 9) (n := 7) d_CM_empty_4 rfl (by decide) (fun _ => ?_) (fun h => absurd h (by decide))
    refine zr_aload_n (i := 0) (x := 0) (n := 10) d_CM_empty_9 rfl rfl rfl ?_
    refine zr_getr (n := 13) d_CM_empty_10 rfl f_CM_10 gg_0 rfl ?_
    refine zr_iload_n (i := 1) (x := a1) (n := 14) d_CM_empty_13 rfl rfl rfl ?_
    refine zr_callV (M' := M_Tree_isFile) (mc' := 0) (ms' := 0) (av := [.int a1]) (rest := []) (n := 17) d_CM_empty_14 rfl w_CM_70 w_CM_70k gg_1 rfl rfl rfl rfl rfl rfl (Nat.le_refl _) (Nat.le_refl _) ?_
    refine c_Tree_isFile (a1 := a1) j1 (o1 h2 h3) (fun h4 => ?_) (fun h5 => ?_)
    · refine zr_if_ne (tgt := 23) (n := 20) d_CM_empty_17 rfl (by decide) (fun h => absurd h (by decide)) (fun _ => ?_)
      refine zr_bipush (v := (-2)) (n := 22) d_CM_empty_20 rfl (by decide) ?_
      exact zr_ireturn d_CM_empty_22 rfl rfl (Nat.le_refl _) (Nat.le_refl _) (l2 h2 h3 h4)
    · refine zr_if_ne (tgt := 23) (n := 20) d_CM_empty_17 rfl (by decide) (fun _ => ?_) (fun h => absurd h (by decide))
      refine zr_aload_n (i := 0) (x := 0) (n := 24) d_CM_empty_23 rfl rfl rfl ?_
      refine zr_getr (n := 27) d_CM_empty_24 rfl f_CM_10 gg_0 rfl ?_
      refine zr_iload_n (i := 1) (x := a1) (n := 28) d_CM_empty_27 rfl rfl rfl ?_
      refine zr_weak (zm_LE.skip (zm_LE.skip zm_LE.nil)) ?_
      refine zr_callV (M' := M_Tree_clearFile) (mc' := 0) (ms' := 0) (av := [.int a1]) (rest := []) (n := 31) d_CM_empty_28 rfl w_CM_80 w_CM_80k gg_1 rfl rfl rfl rfl rfl rfl (Nat.le_refl _) (Nat.le_refl _) ?_
      refine c_Tree_clearFile (a1 := a1) j1 (o1 h2 h3) ?_
      exact zr_ireturn d_CM_empty_31 rfl rfl (Nat.le_refl _) (Nat.le_refl _) (l3 h2 h3 h5)
theorem c_CM_empty {d : Nat} {Q : zm_Q} {S : zm_S} {a1 : Int32} (j1 : Nat) (o1 : ¬ a1 < 1 → ¬ 12 ≤ a1 → zm_ix a1 j1 12)
    (l1 : ((a1 < 1) ∨ (¬ a1 < 1 ∧ 12 ≤ a1)) → Q (some (-1)) GG S)
    (l2 : ¬ a1 < 1 → ¬ 12 ≤ a1 → ¬ (S 2 j1) = 3 → Q (some (-2)) GG S)
    (l3 : ¬ a1 < 1 → ¬ 12 ≤ a1 → (S 2 j1) = 3 → Q (some (S 5 j1)) GG (zm_up S 5 j1 0)) :
    zc M_CM_empty (d + 1) [.ref 0, .int a1] S Q := zm_CC_intro (by decide) rfl rfl (s_CM_empty_0 j1 o1 l1 l2 l3)
theorem s_CM_peek_0 {d : Nat} {Q : zm_Q} {S : zm_S} {a1 : Int32} (j1 : Nat) (o1 : ¬ (S 16 1) ≤ 0 → ¬ a1 < 0 → a1 < 16 → zm_ix a1 j1 16)
    (l1 : (((S 16 1) ≤ 0) ∨ (¬ (S 16 1) ≤ 0 ∧ a1 < 0) ∨ (¬ (S 16 1) ≤ 0 ∧ ¬ a1 < 0 ∧ ¬ a1 < 16)) → Q (some (-2)) GG S)
    (l2 : ¬ (S 16 1) ≤ 0 → ¬ a1 < 0 → a1 < 16 → Q (some (S 15 j1)) GG S) :
    zw M_CM_peek (d + 1) Q 0 [some (.ref 0), some (.int a1)] [] S := by
  refine zr_aload_n (i := 0) (x := 0) (n := 1) d_CM_peek_0 rfl rfl rfl ?_
  refine zr_getr (n := 4) d_CM_peek_1 rfl f_CM_26 gg_0 rfl ?_
  refine zr_callV (M' := M_Sn_isOnAir) (mc' := 0) (ms' := 0) (av := []) (rest := []) (n := 7) d_CM_peek_4 rfl w_CM_106 w_CM_106k gg_14 rfl rfl rfl rfl rfl rfl (Nat.le_refl _) (Nat.le_refl _) ?_
  refine c_Sn_isOnAir (fun h1 => ?_) (fun h2 => ?_)
  · refine zr_if_eq (tgt := 20) (n := 10) d_CM_peek_7 rfl (by decide) (fun _ => ?_) (fun h => absurd h (by decide))
    refine zr_bipush (v := (-2)) (n := 22) d_CM_peek_20 rfl (by decide) ?_
    exact zr_ireturn d_CM_peek_22 rfl rfl (Nat.le_refl _) (Nat.le_refl _) (l1 (Or.inl h1))
  · refine zr_if_eq (tgt := 20) (n := 10) d_CM_peek_7 rfl (by decide) (fun h => absurd h (by decide)) (fun _ => ?_)
    refine zr_iload_n (i := 1) (x := a1) (n := 11) d_CM_peek_10 rfl rfl rfl ?_
    refine zr_if_lt (tgt := 20) (n := 14) d_CM_peek_11 rfl (by decide) (fun h3 => ?_) (fun h3 => ?_)
    · refine zr_bipush (v := (-2)) (n := 22) d_CM_peek_20 rfl (by decide) ?_
      exact zr_ireturn d_CM_peek_22 rfl rfl (Nat.le_refl _) (Nat.le_refl _) (l1 (Or.inr (Or.inl ⟨h2, h3⟩)))
    · refine zr_iload_n (i := 1) (x := a1) (n := 15) d_CM_peek_14 rfl rfl rfl ?_
      refine zr_bipush (v := 16) (n := 17) d_CM_peek_15 rfl (by decide) ?_
      refine zr_icmp_lt (tgt := 23) (n := 20) d_CM_peek_17 rfl (by decide) (fun h4 => ?_) (fun h4 => ?_)
      · refine zr_aload_n (i := 0) (x := 0) (n := 24) d_CM_peek_23 rfl rfl rfl ?_
        refine zr_getr (n := 27) d_CM_peek_24 rfl f_CM_26 gg_0 rfl ?_
        refine zr_getr (n := 30) d_CM_peek_27 rfl f_CM_110 gg_14 rfl ?_
        refine zr_iload_n (i := 1) (x := a1) (n := 31) d_CM_peek_30 rfl rfl rfl ?_
        refine zr_iaload j1 (n := 32) d_CM_peek_31 rfl gg_15 (o1 h2 h3 h4) ?_
        exact zr_ireturn d_CM_peek_32 rfl rfl (Nat.le_refl _) (Nat.le_refl _) (l2 h2 h3 h4)
      · refine zr_bipush (v := (-2)) (n := 22) d_CM_peek_20 rfl (by decide) ?_
        exact zr_ireturn d_CM_peek_22 rfl rfl (Nat.le_refl _) (Nat.le_refl _) (l1 (Or.inr (Or.inr ⟨h2, h3, h4⟩)))
theorem c_CM_peek {d : Nat} {Q : zm_Q} {S : zm_S} {a1 : Int32} (j1 : Nat) (o1 : ¬ (S 16 1) ≤ 0 → ¬ a1 < 0 → a1 < 16 → zm_ix a1 j1 16)
    (l1 : (((S 16 1) ≤ 0) ∨ (¬ (S 16 1) ≤ 0 ∧ a1 < 0) ∨ (¬ (S 16 1) ≤ 0 ∧ ¬ a1 < 0 ∧ ¬ a1 < 16)) → Q (some (-2)) GG S)
    (l2 : ¬ (S 16 1) ≤ 0 → ¬ a1 < 0 → a1 < 16 → Q (some (S 15 j1)) GG S) :
    zc M_CM_peek (d + 1) [.ref 0, .int a1] S Q := zm_CC_intro (by decide) rfl rfl (s_CM_peek_0 j1 o1 l1 l2)
theorem s_Md_count_0 {d : Nat} {Q : zm_Q} {S : zm_S} {a1 : Int32} (j1 : Nat) (o1 : ¬ a1 < 0 → ¬ 5 < a1 → zm_ix a1 j1 6)
    (l1 : ((a1 < 0) ∨ (¬ a1 < 0 ∧ 5 < a1)) → Q (some (-1)) GG S)
    (l2 : ¬ a1 < 0 → ¬ 5 < a1 → Q (some (S 49 j1)) GG S) :
    zw M_Md_count (d + 1) Q 0 [some (.ref 27), some (.int a1)] [] S := by
  refine zr_iload_n (i := 1) (x := a1) (n := 1) d_Md_count_0 rfl rfl rfl ?_
  refine zr_iconst (v := 0) (n := 2) d_Md_count_1 rfl (by decide) ?_
  refine zr_iconst (v := 5) (n := 3) d_Md_count_2 rfl (by decide) ?_
  refine zr_callS (M' := M_Md_within) (mc' := 0) (ms' := 0) (av := [.int a1, .int 0, .int 5]) (rest := []) (n := 6) d_Md_count_3 rfl w_Md_84 w_Md_84k rfl rfl rfl rfl rfl (Nat.le_refl _) (Nat.le_refl _) ?_
  refine c_Md_within (a0 := a1) (a1 := 0) (a2 := 5) (fun h1 => ?_) (fun h2 h3 => ?_)
  · refine zr_if_eq (tgt := 18) (n := 9) d_Md_count_6 rfl (by decide) (fun _ => ?_) (fun h => absurd h (by decide))
    refine zr_iconst (v := (-1)) (n := 19) d_Md_count_18 rfl (by decide) ?_
    exact zr_ireturn d_Md_count_19 rfl rfl (Nat.le_refl _) (Nat.le_refl _) (l1 h1)
  · refine zr_if_eq (tgt := 18) (n := 9) d_Md_count_6 rfl (by decide) (fun h => absurd h (by decide)) (fun _ => ?_)
    refine zr_aload_n (i := 0) (x := 27) (n := 10) d_Md_count_9 rfl rfl rfl ?_
    refine zr_getr (n := 13) d_Md_count_10 rfl f_Md_81 gg_27 rfl ?_
    refine zr_iload_n (i := 1) (x := a1) (n := 14) d_Md_count_13 rfl rfl rfl ?_
    refine zr_iaload j1 (n := 15) d_Md_count_14 rfl gg_49 (o1 h2 h3) ?_
    refine zr_goto (tgt := 19) d_Md_count_15 (by decide) ?_
    exact zr_ireturn d_Md_count_19 rfl rfl (Nat.le_refl _) (Nat.le_refl _) (l2 h2 h3)
theorem c_Md_count {d : Nat} {Q : zm_Q} {S : zm_S} {a1 : Int32} (j1 : Nat) (o1 : ¬ a1 < 0 → ¬ 5 < a1 → zm_ix a1 j1 6)
    (l1 : ((a1 < 0) ∨ (¬ a1 < 0 ∧ 5 < a1)) → Q (some (-1)) GG S)
    (l2 : ¬ a1 < 0 → ¬ 5 < a1 → Q (some (S 49 j1)) GG S) :
    zc M_Md_count (d + 1) [.ref 27, .int a1] S Q := zm_CC_intro (by decide) rfl rfl (s_Md_count_0 j1 o1 l1 l2)
theorem s_Md_empty_0 {d : Nat} {Q : zm_Q} {S : zm_S} {a1 : Int32} (j1 : Nat) (o1 : ¬ a1 < 1 → ¬ 11 < a1 → zm_ix a1 j1 12)
    (l1 : ((a1 < 1) ∨ (¬ a1 < 1 ∧ 11 < a1)) → Q (some (-1)) GG S)
    (l2 : ¬ a1 < 1 → ¬ 11 < a1 → (S 28 j1) = 3 → Q (some (S 31 j1)) GG (zm_up S 31 j1 0))
    (l3 : ¬ a1 < 1 → ¬ 11 < a1 → ¬ (S 28 j1) = 3 → Q (some (-2)) GG S) :
    zw M_Md_empty (d + 1) Q 0 [some (.ref 27), some (.int a1), none] [] S := by
  refine zr_iload_n (i := 1) (x := a1) (n := 1) d_Md_empty_0 rfl rfl rfl ?_
  refine zr_iconst (v := 1) (n := 2) d_Md_empty_1 rfl (by decide) ?_
  refine zr_bipush (v := 11) (n := 4) d_Md_empty_2 rfl (by decide) ?_
  refine zr_callS (M' := M_Md_within) (mc' := 0) (ms' := 0) (av := [.int a1, .int 1, .int 11]) (rest := []) (n := 7) d_Md_empty_4 rfl w_Md_84 w_Md_84k rfl rfl rfl rfl rfl (Nat.le_refl _) (Nat.le_refl _) ?_
  refine c_Md_within (a0 := a1) (a1 := 1) (a2 := 11) (fun h1 => ?_) (fun h2 h3 => ?_)
  · refine zr_if_ne (tgt := 12) (n := 10) d_Md_empty_7 rfl (by decide) (fun h => absurd h (by decide)) (fun _ => ?_)
    refine zr_iconst (v := (-1)) (n := 11) d_Md_empty_10 rfl (by decide) ?_
    exact zr_ireturn d_Md_empty_11 rfl rfl (Nat.le_refl _) (Nat.le_refl _) (l1 h1)
  · refine zr_if_ne (tgt := 12) (n := 10) d_Md_empty_7 rfl (by decide) (fun _ => ?_) (fun h => absurd h (by decide))
    refine zr_aload_n (i := 0) (x := 27) (n := 13) d_Md_empty_12 rfl rfl rfl ?_
    refine zr_getr (n := 16) d_Md_empty_13 rfl f_Md_7 gg_27 rfl ?_
    refine zr_iload_n (i := 1) (x := a1) (n := 17) d_Md_empty_16 rfl rfl rfl ?_
    refine zr_iaload j1 (n := 18) d_Md_empty_17 rfl gg_28 (o1 h2 h3) ?_
    refine zr_iconst (v := 3) (n := 19) d_Md_empty_18 rfl (by decide) ?_
    refine zr_icmp_eq (tgt := 25) (n := 22) d_Md_empty_19 rfl (by decide) (fun h4 => ?_) (fun h4 => ?_)
    · refine zr_aload_n (i := 0) (x := 27) (n := 26) d_Md_empty_25 rfl rfl rfl ?_
      refine zr_getr (n := 29) d_Md_empty_26 rfl f_Md_19 gg_27 rfl ?_
      refine zr_iload_n (i := 1) (x := a1) (n := 30) d_Md_empty_29 rfl rfl rfl ?_
      refine zr_iaload j1 (n := 31) d_Md_empty_30 rfl gg_31 (o1 h2 h3) ?_
      refine zr_istore_n (i := 2) (L' := [some (.ref 27), some (.int a1), some (.int (S 31 j1))]) (n := 32) d_Md_empty_31 rfl rfl rfl rfl ?_
      refine zr_aload_n (i := 0) (x := 27) (n := 33) d_Md_empty_32 rfl rfl rfl ?_
      refine zr_getr (n := 36) d_Md_empty_33 rfl f_Md_19 gg_27 rfl ?_
      refine zr_iload_n (i := 1) (x := a1) (n := 37) d_Md_empty_36 rfl rfl rfl ?_
      refine zr_iconst (v := 0) (n := 38) d_Md_empty_37 rfl (by decide) ?_
      refine zr_iastore j1 (n := 39) d_Md_empty_38 rfl gg_31 (o1 h2 h3) ?_
      refine zr_iload_n (i := 2) (x := (S 31 j1)) (n := 40) d_Md_empty_39 rfl rfl rfl ?_
      exact zr_ireturn d_Md_empty_40 rfl rfl (Nat.le_refl _) (Nat.le_refl _) (l2 h2 h3 h4)
    · refine zr_bipush (v := (-2)) (n := 24) d_Md_empty_22 rfl (by decide) ?_
      exact zr_ireturn d_Md_empty_24 rfl rfl (Nat.le_refl _) (Nat.le_refl _) (l3 h2 h3 h4)
theorem c_Md_empty {d : Nat} {Q : zm_Q} {S : zm_S} {a1 : Int32} (j1 : Nat) (o1 : ¬ a1 < 1 → ¬ 11 < a1 → zm_ix a1 j1 12)
    (l1 : ((a1 < 1) ∨ (¬ a1 < 1 ∧ 11 < a1)) → Q (some (-1)) GG S)
    (l2 : ¬ a1 < 1 → ¬ 11 < a1 → (S 28 j1) = 3 → Q (some (S 31 j1)) GG (zm_up S 31 j1 0))
    (l3 : ¬ a1 < 1 → ¬ 11 < a1 → ¬ (S 28 j1) = 3 → Q (some (-2)) GG S) :
    zc M_Md_empty (d + 1) [.ref 27, .int a1] S Q := zm_CC_intro (by decide) rfl rfl (s_Md_empty_0 j1 o1 l1 l2 l3)
theorem s_Mt_fits_0 {d : Nat} {Q : zm_Q} {S : zm_S} {a1 a2 : Int32} (j1 : Nat) (o1 : ¬ a2 < (a1 + 3) → zm_ix (a1 + 2) j1 576)
    (l1 : ((a2 < (a1 + 3)) ∨ (¬ a2 < (a1 + 3) ∧ a2 < ((a1 + 3) + (S 24 j1)))) → Q (some 0) GG S)
    (l2 : ¬ a2 < (a1 + 3) → ¬ a2 < ((a1 + 3) + (S 24 j1)) → Q (some 1) GG S) :
    zw M_Mt_fits (d + 1) Q 0 [some (.ref 20), some (.int a1), some (.int a2)] [] S := by
  refine zr_iload_n (i := 1) (x := a1) (n := 1) d_Mt_fits_0 rfl rfl rfl ?_
  refine zr_iconst (v := 3) (n := 2) d_Mt_fits_1 rfl (by decide) ?_
  refine zr_iadd (n := 3) d_Mt_fits_2 rfl ?_
  refine zr_iload_n (i := 2) (x := a2) (n := 4) d_Mt_fits_3 rfl rfl rfl ?_
  refine zr_icmp_gt (tgt := 24) (n := 7) d_Mt_fits_4 rfl (by decide) (fun h1 => ?_) (fun h1 => ?_)
  · refine zr_iconst (v := 0) (n := 25) d_Mt_fits_24 rfl (by decide) ?_
    exact zr_ireturn d_Mt_fits_25 rfl (by decide) (Nat.le_refl _) (Nat.le_refl _) (l1 (Or.inl h1))
  · refine zr_iload_n (i := 1) (x := a1) (n := 8) d_Mt_fits_7 rfl rfl rfl ?_
    refine zr_iconst (v := 3) (n := 9) d_Mt_fits_8 rfl (by decide) ?_
    refine zr_iadd (n := 10) d_Mt_fits_9 rfl ?_
    refine zr_aload_n (i := 0) (x := 20) (n := 11) d_Mt_fits_10 rfl rfl rfl ?_
    refine zr_iload_n (i := 1) (x := a1) (n := 12) d_Mt_fits_11 rfl rfl rfl ?_
    refine zr_weak (zm_LE.skip (zm_LE.skip (zm_LE.cons zm_LE.nil))) ?_
    refine zr_callV (M' := M_Mt_lengthAt) (mc' := 0) (ms' := 0) (av := [.int a1]) (rest := [.int (a1 + 3)]) (n := 15) d_Mt_fits_12 rfl w_Mt_79 w_Mt_79k gg_20 rfl rfl rfl rfl rfl rfl (Nat.le_refl _) (Nat.le_refl _) ?_
    refine c_Mt_lengthAt (a1 := a1) j1 (o1 h1) ?_
    refine zr_iadd (n := 16) d_Mt_fits_15 rfl ?_
    refine zr_iload_n (i := 2) (x := a2) (n := 17) d_Mt_fits_16 rfl rfl rfl ?_
    refine zr_icmp_gt (tgt := 24) (n := 20) d_Mt_fits_17 rfl (by decide) (fun h2 => ?_) (fun h2 => ?_)
    · refine zr_iconst (v := 0) (n := 25) d_Mt_fits_24 rfl (by decide) ?_
      exact zr_ireturn d_Mt_fits_25 rfl (by decide) (Nat.le_refl _) (Nat.le_refl _) (l1 (Or.inr ⟨h1, h2⟩))
    · refine zr_iconst (v := 1) (n := 21) d_Mt_fits_20 rfl (by decide) ?_
      refine zr_goto (tgt := 25) d_Mt_fits_21 (by decide) ?_
      exact zr_ireturn d_Mt_fits_25 rfl (by decide) (Nat.le_refl _) (Nat.le_refl _) (l2 h1 h2)
theorem c_Mt_fits {d : Nat} {Q : zm_Q} {S : zm_S} {a1 a2 : Int32} (j1 : Nat) (o1 : ¬ a2 < (a1 + 3) → zm_ix (a1 + 2) j1 576)
    (l1 : ((a2 < (a1 + 3)) ∨ (¬ a2 < (a1 + 3) ∧ a2 < ((a1 + 3) + (S 24 j1)))) → Q (some 0) GG S)
    (l2 : ¬ a2 < (a1 + 3) → ¬ a2 < ((a1 + 3) + (S 24 j1)) → Q (some 1) GG S) :
    zc M_Mt_fits (d + 1) [.ref 20, .int a1, .int a2] S Q := zm_CC_intro (by decide) rfl rfl (s_Mt_fits_0 j1 o1 l1 l2)
theorem s_Mt_isDirectoryAt_0 {d : Nat} {Q : zm_Q} {S : zm_S} {a1 : Int32} (j1 : Nat) (o1 : zm_ix a1 j1 576)
    (l1 : (((S 24 j1) = 1) ∨ (¬ (S 24 j1) = 1 ∧ (S 24 j1) = 2)) → Q (some 1) GG S)
    (l2 : ¬ (S 24 j1) = 1 → ¬ (S 24 j1) = 2 → Q (some 0) GG S) :
    zw M_Mt_isDirectoryAt (d + 1) Q 0 [some (.ref 20), some (.int a1)] [] S := by
  refine zr_aload_n (i := 0) (x := 20) (n := 1) d_Mt_isDirectoryAt_0 rfl rfl rfl ?_
  refine zr_iload_n (i := 1) (x := a1) (n := 2) d_Mt_isDirectoryAt_1 rfl rfl rfl ?_
  refine zr_callV (M' := M_Mt_kindAt) (mc' := 0) (ms' := 0) (av := [.int a1]) (rest := []) (n := 5) d_Mt_isDirectoryAt_2 rfl w_Mt_73 w_Mt_73k gg_20 rfl rfl rfl rfl rfl rfl (Nat.le_refl _) (Nat.le_refl _) ?_
  refine c_Mt_kindAt (a1 := a1) j1 o1 ?_
  refine zr_iconst (v := 1) (n := 6) d_Mt_isDirectoryAt_5 rfl (by decide) ?_
  refine zr_icmp_eq (tgt := 18) (n := 9) d_Mt_isDirectoryAt_6 rfl (by decide) (fun h1 => ?_) (fun h1 => ?_)
  · refine zr_iconst (v := 1) (n := 19) d_Mt_isDirectoryAt_18 rfl (by decide) ?_
    refine zr_goto (tgt := 23) d_Mt_isDirectoryAt_19 (by decide) ?_
    exact zr_ireturn d_Mt_isDirectoryAt_23 rfl (by decide) (Nat.le_refl _) (Nat.le_refl _) (l1 (Or.inl h1))
  · refine zr_aload_n (i := 0) (x := 20) (n := 10) d_Mt_isDirectoryAt_9 rfl rfl rfl ?_
    refine zr_iload_n (i := 1) (x := a1) (n := 11) d_Mt_isDirectoryAt_10 rfl rfl rfl ?_
    refine zr_weak (zm_LE.skip (zm_LE.skip zm_LE.nil)) ?_
    refine zr_callV (M' := M_Mt_kindAt) (mc' := 0) (ms' := 0) (av := [.int a1]) (rest := []) (n := 14) d_Mt_isDirectoryAt_11 rfl w_Mt_73 w_Mt_73k gg_20 rfl rfl rfl rfl rfl rfl (Nat.le_refl _) (Nat.le_refl _) ?_
    refine c_Mt_kindAt (a1 := a1) j1 o1 ?_
    refine zr_iconst (v := 2) (n := 15) d_Mt_isDirectoryAt_14 rfl (by decide) ?_
    refine zr_icmp_ne (tgt := 22) (n := 18) d_Mt_isDirectoryAt_15 rfl (by decide) (fun h2 => ?_) (fun h2 => ?_)
    · refine zr_iconst (v := 0) (n := 23) d_Mt_isDirectoryAt_22 rfl (by decide) ?_
      exact zr_ireturn d_Mt_isDirectoryAt_23 rfl (by decide) (Nat.le_refl _) (Nat.le_refl _) (l2 h1 h2)
    · refine zr_iconst (v := 1) (n := 19) d_Mt_isDirectoryAt_18 rfl (by decide) ?_
      refine zr_goto (tgt := 23) d_Mt_isDirectoryAt_19 (by decide) ?_
      exact zr_ireturn d_Mt_isDirectoryAt_23 rfl (by decide) (Nat.le_refl _) (Nat.le_refl _) (l1 (Or.inr ⟨h1, h2⟩))
theorem c_Mt_isDirectoryAt {d : Nat} {Q : zm_Q} {S : zm_S} {a1 : Int32} (j1 : Nat) (o1 : zm_ix a1 j1 576)
    (l1 : (((S 24 j1) = 1) ∨ (¬ (S 24 j1) = 1 ∧ (S 24 j1) = 2)) → Q (some 1) GG S)
    (l2 : ¬ (S 24 j1) = 1 → ¬ (S 24 j1) = 2 → Q (some 0) GG S) :
    zc M_Mt_isDirectoryAt (d + 1) [.ref 20, .int a1] S Q := zm_CC_intro (by decide) rfl rfl (s_Mt_isDirectoryAt_0 j1 o1 l1 l2)
