theorem s_Cy_renew_0 {d : Nat} {Q : zm_Q} {S : zm_S}
    (l1 : zc M_Cy_addList (d + 3) [.ref 16, .ref 7] (zm_up (zm_up S 16 1 0) 16 3 0) (fun v G' S' => zm_WP M_Cy_renew none (d + 4) 0 0 Q 15 [some (.ref 16), some (.ref 7), none, none, none] (zm_ps v []) G' S' 0 0)) :
    zw M_Cy_renew (d + 4) Q 0 [some (.ref 16), some (.ref 7), none, none, none] [] S := by
  refine zr_aload_n (i := 0) (x := 16) (n := 1) d_Cy_renew_0 rfl rfl rfl ?_
  refine zr_iconst (v := 0) (n := 2) d_Cy_renew_1 rfl (by decide) ?_
  refine zr_puti (n := 5) d_Cy_renew_2 rfl f_Cy_15 tw_Cy rfl rfl rfl rfl gg_16 rfl ?_
  refine zr_aload_n (i := 0) (x := 16) (n := 6) d_Cy_renew_5 rfl rfl rfl ?_
  refine zr_iconst (v := 0) (n := 7) d_Cy_renew_6 rfl (by decide) ?_
  refine zr_puti (n := 10) d_Cy_renew_7 rfl f_Cy_22 tw_Cy rfl rfl rfl rfl gg_16 rfl ?_
  refine zr_aload_n (i := 0) (x := 16) (n := 11) d_Cy_renew_10 rfl rfl rfl ?_
  refine zr_aload_n (i := 1) (x := 7) (n := 12) d_Cy_renew_11 rfl rfl rfl ?_
  refine zr_callV (M' := M_Cy_addList) (mc' := 0) (ms' := 0) (av := [.ref 7]) (rest := []) (n := 15) d_Cy_renew_12 rfl w_Cy_25 w_Cy_25k gg_16 rfl rfl rfl rfl rfl rfl (Nat.le_refl _) (Nat.le_refl _) ?_
  exact l1
theorem s_Cy_renew_15 {d : Nat} {Q : zm_Q} {S : zm_S}
    (l1 : zw M_Cy_renew (d + 4) Q 17 [some (.ref 16), some (.ref 7), some (.int 0), none, none] [] S) :
    zw M_Cy_renew (d + 4) Q 15 [some (.ref 16), some (.ref 7), none, none, none] [] S := by
  refine zr_iconst (v := 0) (n := 16) d_Cy_renew_15 rfl (by decide) ?_
  refine zr_istore_n (i := 2) (L' := [some (.ref 16), some (.ref 7), some (.int 0), none, none]) (n := 17) d_Cy_renew_16 rfl rfl rfl rfl ?_
  exact l1
theorem s_Cy_renew_17 {d : Nat} {Q : zm_Q} {S : zm_S} {a2 : Int32} (j1 : Nat) (o1 : ¬ (S 7 1) ≤ a2 → zm_ix a2 j1 12)
    (l1 : (S 7 1) ≤ a2 → Q none GG S)
    (l2 : ¬ (S 7 1) ≤ a2 → zw M_Cy_renew (d + 4) Q 38 [some (.ref 16), some (.ref 7), some (.int a2), some (.int ((((S 8 j1) + 8) - 1) / 8)), some (.int 0)] [] S) :
    zw M_Cy_renew (d + 4) Q 17 [some (.ref 16), some (.ref 7), some (.int a2), none, none] [] S := by
  refine zr_iload_n (i := 2) (x := a2) (n := 18) d_Cy_renew_17 rfl rfl rfl ?_
  refine zr_aload_n (i := 1) (x := 7) (n := 19) d_Cy_renew_18 rfl rfl rfl ?_
  refine zr_geti (n := 22) d_Cy_renew_19 rfl f_Cy_29 gg_7 rfl ?_
  refine zr_icmp_ge (tgt := 64) (n := 25) d_Cy_renew_22 rfl (by decide) (fun h1 => ?_) (fun h1 => ?_)
  · exact zr_return d_Cy_renew_64 rfl (Nat.le_refl _) (Nat.le_refl _) (l1 h1)
  · refine zr_aload_n (i := 1) (x := 7) (n := 26) d_Cy_renew_25 rfl rfl rfl ?_
    refine zr_getr (n := 29) d_Cy_renew_26 rfl f_Cy_34 gg_7 rfl ?_
    refine zr_iload_n (i := 2) (x := a2) (n := 30) d_Cy_renew_29 rfl rfl rfl ?_
    refine zr_iaload j1 (n := 31) d_Cy_renew_30 rfl gg_8 (o1 h1) ?_
    refine zr_callS (M' := M_CM_blocksIn) (mc' := 0) (ms' := 0) (av := [.int (S 8 j1)]) (rest := []) (n := 34) d_Cy_renew_31 rfl w_Cy_37 w_Cy_37k rfl rfl rfl rfl rfl (Nat.le_refl _) (Nat.le_refl _) ?_
    refine c_CM_blocksIn (a0 := (S 8 j1)) ?_
    refine zr_istore_n (i := 3) (L' := [some (.ref 16), some (.ref 7), some (.int a2), some (.int ((((S 8 j1) + 8) - 1) / 8)), none]) (n := 35) d_Cy_renew_34 rfl rfl rfl rfl ?_
    refine zr_iconst (v := 0) (n := 36) d_Cy_renew_35 rfl (by decide) ?_
    refine zr_istore (i := 4) (L' := [some (.ref 16), some (.ref 7), some (.int a2), some (.int ((((S 8 j1) + 8) - 1) / 8)), some (.int 0)]) (n := 38) d_Cy_renew_36 rfl rfl rfl ?_
    exact (l2 h1)
theorem s_Cy_renew_38 {d : Nat} {Q : zm_Q} {S : zm_S} {a2 a3 a4 : Int32}
    (l1 : a3 ≤ a4 → zw M_Cy_renew (d + 4) Q 17 [some (.ref 16), some (.ref 7), some (.int (a2 + 1)), none, none] [] S)
    (l2 : ¬ a3 ≤ a4 → zc M_Cy_addBlock (d + 3) [.ref 16, .ref 7, .int a2, .int a4] S (fun v G' S' => zm_WP M_Cy_renew none (d + 4) 0 0 Q 52 [some (.ref 16), some (.ref 7), some (.int a2), some (.int a3), some (.int a4)] (zm_ps v []) G' S' 0 0)) :
    zw M_Cy_renew (d + 4) Q 38 [some (.ref 16), some (.ref 7), some (.int a2), some (.int a3), some (.int a4)] [] S := by
  refine zr_iload (i := 4) (x := a4) (n := 40) d_Cy_renew_38 rfl rfl ?_
  refine zr_iload_n (i := 3) (x := a3) (n := 41) d_Cy_renew_40 rfl rfl rfl ?_
  refine zr_icmp_ge (tgt := 58) (n := 44) d_Cy_renew_41 rfl (by decide) (fun h1 => ?_) (fun h1 => ?_)
  · refine zr_iinc (i := 2) (w := 1) (x := a2) (L' := [some (.ref 16), some (.ref 7), some (.int (a2 + 1)), some (.int a3), some (.int a4)]) (n := 61) d_Cy_renew_58 rfl (by decide) rfl rfl ?_
    refine zr_goto (tgt := 17) d_Cy_renew_61 (by decide) ?_
    exact zr_weak (zm_LE.cons (zm_LE.cons (zm_LE.cons (zm_LE.skip (zm_LE.skip zm_LE.nil))))) (l1 h1)
  · refine zr_aload_n (i := 0) (x := 16) (n := 45) d_Cy_renew_44 rfl rfl rfl ?_
    refine zr_aload_n (i := 1) (x := 7) (n := 46) d_Cy_renew_45 rfl rfl rfl ?_
    refine zr_iload_n (i := 2) (x := a2) (n := 47) d_Cy_renew_46 rfl rfl rfl ?_
    refine zr_iload (i := 4) (x := a4) (n := 49) d_Cy_renew_47 rfl rfl ?_
    refine zr_callV (M' := M_Cy_addBlock) (mc' := 0) (ms' := 0) (av := [.ref 7, .int a2, .int a4]) (rest := []) (n := 52) d_Cy_renew_49 rfl w_Cy_41 w_Cy_41k gg_16 rfl rfl rfl rfl rfl rfl (Nat.le_refl _) (Nat.le_refl _) ?_
    exact (l2 h1)
theorem s_Cy_renew_52 {d : Nat} {Q : zm_Q} {S : zm_S} {a2 a3 a4 : Int32}
    (l1 : zw M_Cy_renew (d + 4) Q 38 [some (.ref 16), some (.ref 7), some (.int a2), some (.int a3), some (.int (a4 + 1))] [] S) :
    zw M_Cy_renew (d + 4) Q 52 [some (.ref 16), some (.ref 7), some (.int a2), some (.int a3), some (.int a4)] [] S := by
  refine zr_iinc (i := 4) (w := 1) (x := a4) (L' := [some (.ref 16), some (.ref 7), some (.int a2), some (.int a3), some (.int (a4 + 1))]) (n := 55) d_Cy_renew_52 rfl (by decide) rfl rfl ?_
  refine zr_goto (tgt := 38) d_Cy_renew_55 (by decide) ?_
  exact l1
theorem e_Cy_renew {d : Nat} {Q : zm_Q} {S : zm_S} (h : zw M_Cy_renew (d + 4) Q 0 [some (.ref 16), some (.ref 7), none, none, none] [] S) : zc M_Cy_renew (d + 4) [.ref 16, .ref 7] S Q := zm_CC_intro (by decide) rfl rfl h
theorem s_Cy_startFrom_0 {d : Nat} {Q : zm_Q} {S : zm_S} {a1 : Int32}
    (l1 : zw M_Cy_startFrom d Q 2 [some (.ref 16), some (.int a1), some (.int 0)] [] S) :
    zw M_Cy_startFrom d Q 0 [some (.ref 16), some (.int a1), none] [] S := by
  refine zr_iconst (v := 0) (n := 1) d_Cy_startFrom_0 rfl (by decide) ?_
  refine zr_istore_n (i := 2) (L' := [some (.ref 16), some (.int a1), some (.int 0)]) (n := 2) d_Cy_startFrom_1 rfl rfl rfl rfl ?_
  exact l1
theorem s_Cy_startFrom_2 {d : Nat} {Q : zm_Q} {S : zm_S} {a1 a2 : Int32} (j1 : Nat) (o1 : ¬ (S 16 3) ≤ a2 → zm_ix a2 j1 73)
    (l1 : (S 16 3) ≤ a2 → Q (some (S 16 1)) GG S)
    (l2 : ¬ (S 16 3) ≤ a2 → (S 18 j1) < a1 → zw M_Cy_startFrom d Q 2 [some (.ref 16), some (.int a1), some (.int (a2 + 1))] [] S)
    (l3 : ¬ (S 16 3) ≤ a2 → ¬ (S 18 j1) < a1 → Q (some (S 18 j1)) GG S) :
    zw M_Cy_startFrom d Q 2 [some (.ref 16), some (.int a1), some (.int a2)] [] S := by
  refine zr_iload_n (i := 2) (x := a2) (n := 3) d_Cy_startFrom_2 rfl rfl rfl ?_
  refine zr_aload_n (i := 0) (x := 16) (n := 4) d_Cy_startFrom_3 rfl rfl rfl ?_
  refine zr_geti (n := 7) d_Cy_startFrom_4 rfl f_Cy_22 gg_16 rfl ?_
  refine zr_icmp_ge (tgt := 33) (n := 10) d_Cy_startFrom_7 rfl (by decide) (fun h1 => ?_) (fun h1 => ?_)
  · refine zr_aload_n (i := 0) (x := 16) (n := 34) d_Cy_startFrom_33 rfl rfl rfl ?_
    refine zr_geti (n := 37) d_Cy_startFrom_34 rfl f_Cy_15 gg_16 rfl ?_
    exact zr_ireturn d_Cy_startFrom_37 rfl rfl (Nat.le_refl _) (Nat.le_refl _) (l1 h1)
  · refine zr_aload_n (i := 0) (x := 16) (n := 11) d_Cy_startFrom_10 rfl rfl rfl ?_
    refine zr_getr (n := 14) d_Cy_startFrom_11 rfl f_Cy_19 gg_16 rfl ?_
    refine zr_iload_n (i := 2) (x := a2) (n := 15) d_Cy_startFrom_14 rfl rfl rfl ?_
    refine zr_iaload j1 (n := 16) d_Cy_startFrom_15 rfl gg_18 (o1 h1) ?_
    refine zr_iload_n (i := 1) (x := a1) (n := 17) d_Cy_startFrom_16 rfl rfl rfl ?_
    refine zr_icmp_lt (tgt := 27) (n := 20) d_Cy_startFrom_17 rfl (by decide) (fun h2 => ?_) (fun h2 => ?_)
    · refine zr_iinc (i := 2) (w := 1) (x := a2) (L' := [some (.ref 16), some (.int a1), some (.int (a2 + 1))]) (n := 30) d_Cy_startFrom_27 rfl (by decide) rfl rfl ?_
      refine zr_goto (tgt := 2) d_Cy_startFrom_30 (by decide) ?_
      exact (l2 h1 h2)
    · refine zr_aload_n (i := 0) (x := 16) (n := 21) d_Cy_startFrom_20 rfl rfl rfl ?_
      refine zr_getr (n := 24) d_Cy_startFrom_21 rfl f_Cy_19 gg_16 rfl ?_
      refine zr_iload_n (i := 2) (x := a2) (n := 25) d_Cy_startFrom_24 rfl rfl rfl ?_
      refine zr_iaload j1 (n := 26) d_Cy_startFrom_25 rfl gg_18 (o1 h1) ?_
      exact zr_ireturn d_Cy_startFrom_26 rfl rfl (Nat.le_refl _) (Nat.le_refl _) (l3 h1 h2)
theorem e_Cy_startFrom {d : Nat} {Q : zm_Q} {S : zm_S} {a1 : Int32} (h : zw M_Cy_startFrom d Q 0 [some (.ref 16), some (.int a1), none] [] S) : zc M_Cy_startFrom d [.ref 16, .int a1] S Q := zm_CC_intro (by decide) rfl rfl h
theorem s_Cy_addList_0 {d : Nat} {Q : zm_Q} {S : zm_S}
    (l1 : zc M_Cy_begin (d + 2) [.ref 16, .int 59, .int (5 + (3 * (S 7 1)))] S (fun v G' S' => zm_WP M_Cy_addList none (d + 3) 0 0 Q 14 [some (.ref 16), some (.ref 7), none] (zm_ps v []) G' S' 0 0)) :
    zw M_Cy_addList (d + 3) Q 0 [some (.ref 16), some (.ref 7), none] [] S := by
  refine zr_aload_n (i := 0) (x := 16) (n := 1) d_Cy_addList_0 rfl rfl rfl ?_
  refine zr_bipush (v := 59) (n := 3) d_Cy_addList_1 rfl (by decide) ?_
  refine zr_iconst (v := 5) (n := 4) d_Cy_addList_3 rfl (by decide) ?_
  refine zr_iconst (v := 3) (n := 5) d_Cy_addList_4 rfl (by decide) ?_
  refine zr_aload_n (i := 1) (x := 7) (n := 6) d_Cy_addList_5 rfl rfl rfl ?_
  refine zr_geti (n := 9) d_Cy_addList_6 rfl f_Cy_29 gg_7 rfl ?_
  refine zr_imul (n := 10) d_Cy_addList_9 rfl ?_
  refine zr_iadd (n := 11) d_Cy_addList_10 rfl ?_
  refine zr_callV (M' := M_Cy_begin) (mc' := 0) (ms' := 0) (av := [.int 59, .int (5 + (3 * (S 7 1)))]) (rest := []) (n := 14) d_Cy_addList_11 rfl w_Cy_45 w_Cy_45k gg_16 rfl rfl rfl rfl rfl rfl (Nat.le_refl _) (Nat.le_refl _) ?_
  exact l1
theorem s_Cy_addList_14 {d : Nat} {Q : zm_Q} {S : zm_S}
    (l1 : zc M_Cy_writePair (d + 2) [.ref 16, .int (S 7 0)] S (fun v G' S' => zm_WP M_Cy_addList none (d + 3) 0 0 Q 22 [some (.ref 16), some (.ref 7), none] (zm_ps v []) G' S' 0 0)) :
    zw M_Cy_addList (d + 3) Q 14 [some (.ref 16), some (.ref 7), none] [] S := by
  refine zr_aload_n (i := 0) (x := 16) (n := 15) d_Cy_addList_14 rfl rfl rfl ?_
  refine zr_aload_n (i := 1) (x := 7) (n := 16) d_Cy_addList_15 rfl rfl rfl ?_
  refine zr_geti (n := 19) d_Cy_addList_16 rfl f_Cy_49 gg_7 rfl ?_
  refine zr_callV (M' := M_Cy_writePair) (mc' := 0) (ms' := 0) (av := [.int (S 7 0)]) (rest := []) (n := 22) d_Cy_addList_19 rfl w_Cy_52 w_Cy_52k gg_16 rfl rfl rfl rfl rfl rfl (Nat.le_refl _) (Nat.le_refl _) ?_
  exact l1
theorem s_Cy_addList_22 {d : Nat} {Q : zm_Q} {S : zm_S}
    (l1 : zc M_Cy_write (d + 2) [.ref 16, .int (S 7 1)] S (fun v G' S' => zm_WP M_Cy_addList none (d + 3) 0 0 Q 30 [some (.ref 16), some (.ref 7), none] (zm_ps v []) G' S' 0 0)) :
    zw M_Cy_addList (d + 3) Q 22 [some (.ref 16), some (.ref 7), none] [] S := by
  refine zr_aload_n (i := 0) (x := 16) (n := 23) d_Cy_addList_22 rfl rfl rfl ?_
  refine zr_aload_n (i := 1) (x := 7) (n := 24) d_Cy_addList_23 rfl rfl rfl ?_
  refine zr_geti (n := 27) d_Cy_addList_24 rfl f_Cy_29 gg_7 rfl ?_
  refine zr_callV (M' := M_Cy_write) (mc' := 0) (ms' := 0) (av := [.int (S 7 1)]) (rest := []) (n := 30) d_Cy_addList_27 rfl w_Cy_56 w_Cy_56k gg_16 rfl rfl rfl rfl rfl rfl (Nat.le_refl _) (Nat.le_refl _) ?_
  exact l1
theorem s_Cy_addList_30 {d : Nat} {Q : zm_Q} {S : zm_S}
    (l1 : zw M_Cy_addList (d + 3) Q 32 [some (.ref 16), some (.ref 7), some (.int 0)] [] S) :
    zw M_Cy_addList (d + 3) Q 30 [some (.ref 16), some (.ref 7), none] [] S := by
  refine zr_iconst (v := 0) (n := 31) d_Cy_addList_30 rfl (by decide) ?_
  refine zr_istore_n (i := 2) (L' := [some (.ref 16), some (.ref 7), some (.int 0)]) (n := 32) d_Cy_addList_31 rfl rfl rfl rfl ?_
  exact l1
theorem s_Cy_addList_32 {d : Nat} {Q : zm_Q} {S : zm_S} {a2 : Int32} (j1 : Nat) (o1 : ¬ (S 7 1) ≤ a2 → zm_ix a2 j1 12)
    (l1 : (S 7 1) ≤ a2 → zc M_Cy_writeCheck (d + 2) [.ref 16] S (fun v G' S' => zm_WP M_Cy_addList none (d + 3) 0 0 Q 70 [none, none, none] (zm_ps v []) G' S' 0 0))
    (l2 : ¬ (S 7 1) ≤ a2 → zc M_Cy_write (d + 2) [.ref 16, .int (S 8 j1)] S (fun v G' S' => zm_WP M_Cy_addList none (d + 3) 0 0 Q 50 [some (.ref 16), some (.ref 7), some (.int a2)] (zm_ps v []) G' S' 0 0)) :
    zw M_Cy_addList (d + 3) Q 32 [some (.ref 16), some (.ref 7), some (.int a2)] [] S := by
  refine zr_iload_n (i := 2) (x := a2) (n := 33) d_Cy_addList_32 rfl rfl rfl ?_
  refine zr_aload_n (i := 1) (x := 7) (n := 34) d_Cy_addList_33 rfl rfl rfl ?_
  refine zr_geti (n := 37) d_Cy_addList_34 rfl f_Cy_29 gg_7 rfl ?_
  refine zr_icmp_ge (tgt := 66) (n := 40) d_Cy_addList_37 rfl (by decide) (fun h1 => ?_) (fun h1 => ?_)
  · refine zr_aload_n (i := 0) (x := 16) (n := 67) d_Cy_addList_66 rfl rfl rfl ?_
    refine zr_weak (zm_LE.skip (zm_LE.skip (zm_LE.skip zm_LE.nil))) ?_
    refine zr_callV (M' := M_Cy_writeCheck) (mc' := 0) (ms' := 0) (av := []) (rest := []) (n := 70) d_Cy_addList_67 rfl w_Cy_62 w_Cy_62k gg_16 rfl rfl rfl rfl rfl rfl (Nat.le_refl _) (Nat.le_refl _) ?_
    exact (l1 h1)
  · refine zr_aload_n (i := 0) (x := 16) (n := 41) d_Cy_addList_40 rfl rfl rfl ?_
    refine zr_aload_n (i := 1) (x := 7) (n := 42) d_Cy_addList_41 rfl rfl rfl ?_
    refine zr_getr (n := 45) d_Cy_addList_42 rfl f_Cy_34 gg_7 rfl ?_
    refine zr_iload_n (i := 2) (x := a2) (n := 46) d_Cy_addList_45 rfl rfl rfl ?_
    refine zr_iaload j1 (n := 47) d_Cy_addList_46 rfl gg_8 (o1 h1) ?_
    refine zr_callV (M' := M_Cy_write) (mc' := 0) (ms' := 0) (av := [.int (S 8 j1)]) (rest := []) (n := 50) d_Cy_addList_47 rfl w_Cy_56 w_Cy_56k gg_16 rfl rfl rfl rfl rfl rfl (Nat.le_refl _) (Nat.le_refl _) ?_
    exact (l2 h1)
theorem s_Cy_addList_70 {d : Nat} {Q : zm_Q} {S : zm_S}
    (l1 : Q none GG S) :
    zw M_Cy_addList (d + 3) Q 70 [none, none, none] [] S := by
  exact zr_return d_Cy_addList_70 rfl (Nat.le_refl _) (Nat.le_refl _) l1
theorem s_Cy_addList_50 {d : Nat} {Q : zm_Q} {S : zm_S} {a2 : Int32} (j1 : Nat) (o1 : zm_ix a2 j1 12)
    (l1 : zc M_Cy_writePair (d + 2) [.ref 16, .int (S 9 j1)] S (fun v G' S' => zm_WP M_Cy_addList none (d + 3) 0 0 Q 60 [some (.ref 16), some (.ref 7), some (.int a2)] (zm_ps v []) G' S' 0 0)) :
    zw M_Cy_addList (d + 3) Q 50 [some (.ref 16), some (.ref 7), some (.int a2)] [] S := by
  refine zr_aload_n (i := 0) (x := 16) (n := 51) d_Cy_addList_50 rfl rfl rfl ?_
  refine zr_aload_n (i := 1) (x := 7) (n := 52) d_Cy_addList_51 rfl rfl rfl ?_
  refine zr_getr (n := 55) d_Cy_addList_52 rfl f_Cy_59 gg_7 rfl ?_
  refine zr_iload_n (i := 2) (x := a2) (n := 56) d_Cy_addList_55 rfl rfl rfl ?_
  refine zr_iaload j1 (n := 57) d_Cy_addList_56 rfl gg_9 o1 ?_
  refine zr_callV (M' := M_Cy_writePair) (mc' := 0) (ms' := 0) (av := [.int (S 9 j1)]) (rest := []) (n := 60) d_Cy_addList_57 rfl w_Cy_52 w_Cy_52k gg_16 rfl rfl rfl rfl rfl rfl (Nat.le_refl _) (Nat.le_refl _) ?_
  exact l1
theorem s_Cy_addList_60 {d : Nat} {Q : zm_Q} {S : zm_S} {a2 : Int32}
    (l1 : zw M_Cy_addList (d + 3) Q 32 [some (.ref 16), some (.ref 7), some (.int (a2 + 1))] [] S) :
    zw M_Cy_addList (d + 3) Q 60 [some (.ref 16), some (.ref 7), some (.int a2)] [] S := by
  refine zr_iinc (i := 2) (w := 1) (x := a2) (L' := [some (.ref 16), some (.ref 7), some (.int (a2 + 1))]) (n := 63) d_Cy_addList_60 rfl (by decide) rfl rfl ?_
  refine zr_goto (tgt := 32) d_Cy_addList_63 (by decide) ?_
  exact l1
theorem e_Cy_addList {d : Nat} {Q : zm_Q} {S : zm_S} (h : zw M_Cy_addList (d + 3) Q 0 [some (.ref 16), some (.ref 7), none] [] S) : zc M_Cy_addList (d + 3) [.ref 16, .ref 7] S Q := zm_CC_intro (by decide) rfl rfl h
theorem s_Cy_addBlock_0 {d : Nat} {Q : zm_Q} {S : zm_S} {a2 a3 : Int32} (j1 : Nat) (o1 : zm_ix a2 j1 12)
    (l1 : 8 ≤ ((S 8 j1) - (a3 * 8)) → zc M_Cy_begin (d + 2) [.ref 16, .int 60, .int (6 + 8)] S (fun v G' S' => zm_WP M_Cy_addBlock none (d + 3) 0 0 Q 23 [some (.ref 16), some (.ref 7), some (.int a2), some (.int a3), some (.int 8), none] (zm_ps v []) G' S' 0 0))
    (l2 : ¬ 8 ≤ ((S 8 j1) - (a3 * 8)) → zc M_Cy_begin (d + 2) [.ref 16, .int 60, .int (6 + ((S 8 j1) - (a3 * 8)))] S (fun v G' S' => zm_WP M_Cy_addBlock none (d + 3) 0 0 Q 23 [some (.ref 16), some (.ref 7), some (.int a2), some (.int a3), some (.int ((S 8 j1) - (a3 * 8))), none] (zm_ps v []) G' S' 0 0)) :
    zw M_Cy_addBlock (d + 3) Q 0 [some (.ref 16), some (.ref 7), some (.int a2), some (.int a3), none, none] [] S := by
  refine zr_aload_n (i := 1) (x := 7) (n := 1) d_Cy_addBlock_0 rfl rfl rfl ?_
  refine zr_getr (n := 4) d_Cy_addBlock_1 rfl f_Cy_34 gg_7 rfl ?_
  refine zr_iload_n (i := 2) (x := a2) (n := 5) d_Cy_addBlock_4 rfl rfl rfl ?_
  refine zr_iaload j1 (n := 6) d_Cy_addBlock_5 rfl gg_8 o1 ?_
  refine zr_iload_n (i := 3) (x := a3) (n := 7) d_Cy_addBlock_6 rfl rfl rfl ?_
  refine zr_callS (M' := M_CM_blockLength) (mc' := 0) (ms' := 0) (av := [.int (S 8 j1), .int a3]) (rest := []) (n := 10) d_Cy_addBlock_7 rfl w_Cy_65 w_Cy_65k rfl rfl rfl rfl rfl (Nat.le_refl _) (Nat.le_refl _) ?_
  refine c_CM_blockLength (a0 := (S 8 j1)) (a1 := a3) (fun h1 => ?_) (fun h2 => ?_)
  · refine zr_istore (i := 4) (L' := [some (.ref 16), some (.ref 7), some (.int a2), some (.int a3), some (.int 8), none]) (n := 12) d_Cy_addBlock_10 rfl rfl rfl ?_
    refine zr_aload_n (i := 0) (x := 16) (n := 13) d_Cy_addBlock_12 rfl rfl rfl ?_
    refine zr_bipush (v := 60) (n := 15) d_Cy_addBlock_13 rfl (by decide) ?_
    refine zr_bipush (v := 6) (n := 17) d_Cy_addBlock_15 rfl (by decide) ?_
    refine zr_iload (i := 4) (x := 8) (n := 19) d_Cy_addBlock_17 rfl rfl ?_
    refine zr_iadd (n := 20) d_Cy_addBlock_19 rfl ?_
    refine zr_callV (M' := M_Cy_begin) (mc' := 0) (ms' := 0) (av := [.int 60, .int (6 + 8)]) (rest := []) (n := 23) d_Cy_addBlock_20 rfl w_Cy_45 w_Cy_45k gg_16 rfl rfl rfl rfl rfl rfl (Nat.le_refl _) (Nat.le_refl _) ?_
    exact (l1 h1)
  · refine zr_istore (i := 4) (L' := [some (.ref 16), some (.ref 7), some (.int a2), some (.int a3), some (.int ((S 8 j1) - (a3 * 8))), none]) (n := 12) d_Cy_addBlock_10 rfl rfl rfl ?_
    refine zr_aload_n (i := 0) (x := 16) (n := 13) d_Cy_addBlock_12 rfl rfl rfl ?_
    refine zr_bipush (v := 60) (n := 15) d_Cy_addBlock_13 rfl (by decide) ?_
    refine zr_bipush (v := 6) (n := 17) d_Cy_addBlock_15 rfl (by decide) ?_
    refine zr_iload (i := 4) (x := ((S 8 j1) - (a3 * 8))) (n := 19) d_Cy_addBlock_17 rfl rfl ?_
    refine zr_iadd (n := 20) d_Cy_addBlock_19 rfl ?_
    refine zr_callV (M' := M_Cy_begin) (mc' := 0) (ms' := 0) (av := [.int 60, .int (6 + ((S 8 j1) - (a3 * 8)))]) (rest := []) (n := 23) d_Cy_addBlock_20 rfl w_Cy_45 w_Cy_45k gg_16 rfl rfl rfl rfl rfl rfl (Nat.le_refl _) (Nat.le_refl _) ?_
    exact (l2 h2)
theorem s_Cy_addBlock_23 {d : Nat} {Q : zm_Q} {S : zm_S} {a2 a3 a4 : Int32}
    (l1 : zc M_Cy_write (d + 2) [.ref 16, .int a2] S (fun v G' S' => zm_WP M_Cy_addBlock none (d + 3) 0 0 Q 28 [some (.ref 16), some (.ref 7), some (.int a2), some (.int a3), some (.int a4), none] (zm_ps v []) G' S' 0 0)) :
    zw M_Cy_addBlock (d + 3) Q 23 [some (.ref 16), some (.ref 7), some (.int a2), some (.int a3), some (.int a4), none] [] S := by
  refine zr_aload_n (i := 0) (x := 16) (n := 24) d_Cy_addBlock_23 rfl rfl rfl ?_
  refine zr_iload_n (i := 2) (x := a2) (n := 25) d_Cy_addBlock_24 rfl rfl rfl ?_
  refine zr_callV (M' := M_Cy_write) (mc' := 0) (ms' := 0) (av := [.int a2]) (rest := []) (n := 28) d_Cy_addBlock_25 rfl w_Cy_56 w_Cy_56k gg_16 rfl rfl rfl rfl rfl rfl (Nat.le_refl _) (Nat.le_refl _) ?_
  exact l1
theorem s_Cy_addBlock_28 {d : Nat} {Q : zm_Q} {S : zm_S} {a2 a3 a4 : Int32} (j1 : Nat) (o1 : zm_ix a2 j1 12)
    (l1 : zc M_Cy_writePair (d + 2) [.ref 16, .int (S 9 j1)] S (fun v G' S' => zm_WP M_Cy_addBlock none (d + 3) 0 0 Q 38 [some (.ref 16), some (.ref 7), some (.int a2), some (.int a3), some (.int a4), none] (zm_ps v []) G' S' 0 0)) :
    zw M_Cy_addBlock (d + 3) Q 28 [some (.ref 16), some (.ref 7), some (.int a2), some (.int a3), some (.int a4), none] [] S := by
  refine zr_aload_n (i := 0) (x := 16) (n := 29) d_Cy_addBlock_28 rfl rfl rfl ?_
  refine zr_aload_n (i := 1) (x := 7) (n := 30) d_Cy_addBlock_29 rfl rfl rfl ?_
  refine zr_getr (n := 33) d_Cy_addBlock_30 rfl f_Cy_59 gg_7 rfl ?_
  refine zr_iload_n (i := 2) (x := a2) (n := 34) d_Cy_addBlock_33 rfl rfl rfl ?_
  refine zr_iaload j1 (n := 35) d_Cy_addBlock_34 rfl gg_9 o1 ?_
  refine zr_callV (M' := M_Cy_writePair) (mc' := 0) (ms' := 0) (av := [.int (S 9 j1)]) (rest := []) (n := 38) d_Cy_addBlock_35 rfl w_Cy_52 w_Cy_52k gg_16 rfl rfl rfl rfl rfl rfl (Nat.le_refl _) (Nat.le_refl _) ?_
  exact l1
theorem s_Cy_addBlock_38 {d : Nat} {Q : zm_Q} {S : zm_S} {a2 a3 a4 : Int32}
    (l1 : zc M_Cy_write (d + 2) [.ref 16, .int a3] S (fun v G' S' => zm_WP M_Cy_addBlock none (d + 3) 0 0 Q 43 [some (.ref 16), some (.ref 7), some (.int a2), some (.int a3), some (.int a4), none] (zm_ps v []) G' S' 0 0)) :
    zw M_Cy_addBlock (d + 3) Q 38 [some (.ref 16), some (.ref 7), some (.int a2), some (.int a3), some (.int a4), none] [] S := by
  refine zr_aload_n (i := 0) (x := 16) (n := 39) d_Cy_addBlock_38 rfl rfl rfl ?_
  refine zr_iload_n (i := 3) (x := a3) (n := 40) d_Cy_addBlock_39 rfl rfl rfl ?_
  refine zr_callV (M' := M_Cy_write) (mc' := 0) (ms' := 0) (av := [.int a3]) (rest := []) (n := 43) d_Cy_addBlock_40 rfl w_Cy_56 w_Cy_56k gg_16 rfl rfl rfl rfl rfl rfl (Nat.le_refl _) (Nat.le_refl _) ?_
  exact l1
theorem s_Cy_addBlock_43 {d : Nat} {Q : zm_Q} {S : zm_S} {a2 a3 a4 : Int32}
    (l1 : zw M_Cy_addBlock (d + 3) Q 46 [some (.ref 16), some (.ref 7), some (.int a2), some (.int a3), some (.int a4), some (.int 0)] [] S) :
    zw M_Cy_addBlock (d + 3) Q 43 [some (.ref 16), some (.ref 7), some (.int a2), some (.int a3), some (.int a4), none] [] S := by
  refine zr_iconst (v := 0) (n := 44) d_Cy_addBlock_43 rfl (by decide) ?_
  refine zr_istore (i := 5) (L' := [some (.ref 16), some (.ref 7), some (.int a2), some (.int a3), some (.int a4), some (.int 0)]) (n := 46) d_Cy_addBlock_44 rfl rfl rfl ?_
  exact l1
theorem s_Cy_addBlock_46 {d : Nat} {Q : zm_Q} {S : zm_S} {a2 a3 a4 a5 : Int32} (j1 : Nat) (o1 : ¬ a4 ≤ a5 → zm_ix ((a2 * 48) + ((a3 * 8) + a5)) j1 576)
    (l1 : a4 ≤ a5 → zc M_Cy_writeCheck (d + 2) [.ref 16] S (fun v G' S' => zm_WP M_Cy_addBlock none (d + 3) 0 0 Q 79 [none, none, none, none, none, none] (zm_ps v []) G' S' 0 0))
    (l2 : ¬ a4 ≤ a5 → zc M_Cy_write (d + 2) [.ref 16, .int (S 10 j1)] S (fun v G' S' => zm_WP M_Cy_addBlock none (d + 3) 0 0 Q 69 [some (.ref 16), some (.ref 7), some (.int a2), some (.int a3), some (.int a4), some (.int a5)] (zm_ps v []) G' S' 0 0)) :
    zw M_Cy_addBlock (d + 3) Q 46 [some (.ref 16), some (.ref 7), some (.int a2), some (.int a3), some (.int a4), some (.int a5)] [] S := by
  refine zr_iload (i := 5) (x := a5) (n := 48) d_Cy_addBlock_46 rfl rfl ?_
  refine zr_iload (i := 4) (x := a4) (n := 50) d_Cy_addBlock_48 rfl rfl ?_
  refine zr_icmp_ge (tgt := 75) (n := 53) d_Cy_addBlock_50 rfl (by decide) (fun h1 => ?_) (fun h1 => ?_)
  · refine zr_aload_n (i := 0) (x := 16) (n := 76) d_Cy_addBlock_75 rfl rfl rfl ?_
    refine zr_weak (zm_LE.skip (zm_LE.skip (zm_LE.skip (zm_LE.skip (zm_LE.skip (zm_LE.skip zm_LE.nil)))))) ?_
    refine zr_callV (M' := M_Cy_writeCheck) (mc' := 0) (ms' := 0) (av := []) (rest := []) (n := 79) d_Cy_addBlock_76 rfl w_Cy_62 w_Cy_62k gg_16 rfl rfl rfl rfl rfl rfl (Nat.le_refl _) (Nat.le_refl _) ?_
    exact (l1 h1)
  · refine zr_aload_n (i := 0) (x := 16) (n := 54) d_Cy_addBlock_53 rfl rfl rfl ?_
    refine zr_aload_n (i := 1) (x := 7) (n := 55) d_Cy_addBlock_54 rfl rfl rfl ?_
    refine zr_iload_n (i := 2) (x := a2) (n := 56) d_Cy_addBlock_55 rfl rfl rfl ?_
    refine zr_iload_n (i := 3) (x := a3) (n := 57) d_Cy_addBlock_56 rfl rfl rfl ?_
    refine zr_bipush (v := 8) (n := 59) d_Cy_addBlock_57 rfl (by decide) ?_
    refine zr_imul (n := 60) d_Cy_addBlock_59 rfl ?_
    refine zr_iload (i := 5) (x := a5) (n := 62) d_Cy_addBlock_60 rfl rfl ?_
    refine zr_iadd (n := 63) d_Cy_addBlock_62 rfl ?_
    refine zr_callV (M' := M_Ed_byteAt) (mc' := 0) (ms' := 0) (av := [.int a2, .int ((a3 * 8) + a5)]) (rest := [.ref 16]) (n := 66) d_Cy_addBlock_63 rfl w_Cy_69 w_Cy_69k gg_7 rfl rfl rfl rfl rfl rfl (Nat.le_refl _) (Nat.le_refl _) ?_
    refine c_Ed_byteAt (a1 := a2) (a2 := ((a3 * 8) + a5)) j1 (o1 h1) ?_
    refine zr_callV (M' := M_Cy_write) (mc' := 0) (ms' := 0) (av := [.int (S 10 j1)]) (rest := []) (n := 69) d_Cy_addBlock_66 rfl w_Cy_56 w_Cy_56k gg_16 rfl rfl rfl rfl rfl rfl (Nat.le_refl _) (Nat.le_refl _) ?_
    exact (l2 h1)
theorem s_Cy_addBlock_79 {d : Nat} {Q : zm_Q} {S : zm_S}
    (l1 : Q none GG S) :
    zw M_Cy_addBlock (d + 3) Q 79 [none, none, none, none, none, none] [] S := by
  exact zr_return d_Cy_addBlock_79 rfl (Nat.le_refl _) (Nat.le_refl _) l1
theorem s_Cy_addBlock_69 {d : Nat} {Q : zm_Q} {S : zm_S} {a2 a3 a4 a5 : Int32}
    (l1 : zw M_Cy_addBlock (d + 3) Q 46 [some (.ref 16), some (.ref 7), some (.int a2), some (.int a3), some (.int a4), some (.int (a5 + 1))] [] S) :
    zw M_Cy_addBlock (d + 3) Q 69 [some (.ref 16), some (.ref 7), some (.int a2), some (.int a3), some (.int a4), some (.int a5)] [] S := by
  refine zr_iinc (i := 5) (w := 1) (x := a5) (L' := [some (.ref 16), some (.ref 7), some (.int a2), some (.int a3), some (.int a4), some (.int (a5 + 1))]) (n := 72) d_Cy_addBlock_69 rfl (by decide) rfl rfl ?_
  refine zr_goto (tgt := 46) d_Cy_addBlock_72 (by decide) ?_
  exact l1
theorem e_Cy_addBlock {d : Nat} {Q : zm_Q} {S : zm_S} {a2 a3 : Int32} (h : zw M_Cy_addBlock (d + 3) Q 0 [some (.ref 16), some (.ref 7), some (.int a2), some (.int a3), none, none] [] S) : zc M_Cy_addBlock (d + 3) [.ref 16, .ref 7, .int a2, .int a3] S Q := zm_CC_intro (by decide) rfl rfl h
theorem s_Cy_begin_0 {d : Nat} {Q : zm_Q} {S : zm_S} {a1 a2 : Int32} (j1 : Nat) (o1 : ¬ 73 ≤ (S 16 3) → zm_ix (S 16 3) j1 73)
    (l1 : 73 ≤ (S 16 3) → zc M_Cy_write d [.ref 16, .int a1] S (fun v G' S' => zm_WP M_Cy_begin none (d + 1) 0 0 Q 40 [some (.ref 16), none, some (.int a2)] (zm_ps v []) G' S' 0 0))
    (l2 : ¬ 73 ≤ (S 16 3) → zc M_Cy_write d [.ref 16, .int a1] (zm_up (zm_up S 18 j1 (S 16 1)) 16 3 ((S 16 3) + 1)) (fun v G' S' => zm_WP M_Cy_begin none (d + 1) 0 0 Q 40 [some (.ref 16), none, some (.int a2)] (zm_ps v []) G' S' 0 0)) :
    zw M_Cy_begin (d + 1) Q 0 [some (.ref 16), some (.int a1), some (.int a2)] [] S := by
  refine zr_aload_n (i := 0) (x := 16) (n := 1) d_Cy_begin_0 rfl rfl rfl ?_
  refine zr_geti (n := 4) d_Cy_begin_1 rfl f_Cy_22 gg_16 rfl ?_
  refine zr_aload_n (i := 0) (x := 16) (n := 5) d_Cy_begin_4 rfl rfl rfl ?_
  refine zr_getr (n := 8) d_Cy_begin_5 rfl f_Cy_19 gg_16 rfl ?_
  refine zr_alen (v := 73) (n := 9) d_Cy_begin_8 rfl gg_18 (by decide) ?_
  refine zr_icmp_ge (tgt := 35) (n := 12) d_Cy_begin_9 rfl (by decide) (fun h1 => ?_) (fun h1 => ?_)
  · refine zr_aload_n (i := 0) (x := 16) (n := 36) d_Cy_begin_35 rfl rfl rfl ?_
    refine zr_iload_n (i := 1) (x := a1) (n := 37) d_Cy_begin_36 rfl rfl rfl ?_
    refine zr_weak (zm_LE.cons (zm_LE.skip (zm_LE.cons zm_LE.nil))) ?_
    refine zr_callV (M' := M_Cy_write) (mc' := 0) (ms' := 0) (av := [.int a1]) (rest := []) (n := 40) d_Cy_begin_37 rfl w_Cy_56 w_Cy_56k gg_16 rfl rfl rfl rfl rfl rfl (Nat.le_refl _) (Nat.le_refl _) ?_
    exact (l1 h1)
  · refine zr_aload_n (i := 0) (x := 16) (n := 13) d_Cy_begin_12 rfl rfl rfl ?_
    refine zr_getr (n := 16) d_Cy_begin_13 rfl f_Cy_19 gg_16 rfl ?_
    refine zr_aload_n (i := 0) (x := 16) (n := 17) d_Cy_begin_16 rfl rfl rfl ?_
    refine zr_geti (n := 20) d_Cy_begin_17 rfl f_Cy_22 gg_16 rfl ?_
    refine zr_aload_n (i := 0) (x := 16) (n := 21) d_Cy_begin_20 rfl rfl rfl ?_
    refine zr_geti (n := 24) d_Cy_begin_21 rfl f_Cy_15 gg_16 rfl ?_
    refine zr_iastore j1 (n := 25) d_Cy_begin_24 rfl gg_18 (o1 h1) ?_
    refine zr_aload_n (i := 0) (x := 16) (n := 26) d_Cy_begin_25 rfl rfl rfl ?_
    refine zr_dup (n := 27) d_Cy_begin_26 rfl rfl ?_
    refine zr_geti (n := 30) d_Cy_begin_27 rfl f_Cy_22 gg_16 rfl ?_
    refine zr_iconst (v := 1) (n := 31) d_Cy_begin_30 rfl (by decide) ?_
    refine zr_iadd (n := 32) d_Cy_begin_31 rfl ?_
    refine zr_puti (n := 35) d_Cy_begin_32 rfl f_Cy_22 tw_Cy rfl rfl rfl rfl gg_16 rfl ?_
    refine zr_aload_n (i := 0) (x := 16) (n := 36) d_Cy_begin_35 rfl rfl rfl ?_
    refine zr_iload_n (i := 1) (x := a1) (n := 37) d_Cy_begin_36 rfl rfl rfl ?_
    refine zr_weak (zm_LE.cons (zm_LE.skip (zm_LE.cons zm_LE.nil))) ?_
    refine zr_callV (M' := M_Cy_write) (mc' := 0) (ms' := 0) (av := [.int a1]) (rest := []) (n := 40) d_Cy_begin_37 rfl w_Cy_56 w_Cy_56k gg_16 rfl rfl rfl rfl rfl rfl (Nat.le_refl _) (Nat.le_refl _) ?_
    exact (l2 h1)
theorem s_Cy_begin_40 {d : Nat} {Q : zm_Q} {S : zm_S} {a2 : Int32}
    (l1 : zc M_Cy_write d [.ref 16, .int ((a2 - 2) + 4)] S (fun v G' S' => zm_WP M_Cy_begin none (d + 1) 0 0 Q 49 [none, none, none] (zm_ps v []) G' S' 0 0)) :
    zw M_Cy_begin (d + 1) Q 40 [some (.ref 16), none, some (.int a2)] [] S := by
  refine zr_aload_n (i := 0) (x := 16) (n := 41) d_Cy_begin_40 rfl rfl rfl ?_
  refine zr_iload_n (i := 2) (x := a2) (n := 42) d_Cy_begin_41 rfl rfl rfl ?_
  refine zr_iconst (v := 2) (n := 43) d_Cy_begin_42 rfl (by decide) ?_
  refine zr_isub (n := 44) d_Cy_begin_43 rfl ?_
  refine zr_iconst (v := 4) (n := 45) d_Cy_begin_44 rfl (by decide) ?_
  refine zr_iadd (n := 46) d_Cy_begin_45 rfl ?_
  refine zr_weak (zm_LE.skip (zm_LE.cons (zm_LE.skip zm_LE.nil))) ?_
  refine zr_callV (M' := M_Cy_write) (mc' := 0) (ms' := 0) (av := [.int ((a2 - 2) + 4)]) (rest := []) (n := 49) d_Cy_begin_46 rfl w_Cy_56 w_Cy_56k gg_16 rfl rfl rfl rfl rfl rfl (Nat.le_refl _) (Nat.le_refl _) ?_
  exact l1
theorem s_Cy_begin_49 {d : Nat} {Q : zm_Q} {S : zm_S}
    (l1 : Q none GG S) :
    zw M_Cy_begin (d + 1) Q 49 [none, none, none] [] S := by
  exact zr_return d_Cy_begin_49 rfl (Nat.le_refl _) (Nat.le_refl _) l1
theorem e_Cy_begin {d : Nat} {Q : zm_Q} {S : zm_S} {a1 a2 : Int32} (h : zw M_Cy_begin (d + 1) Q 0 [some (.ref 16), some (.int a1), some (.int a2)] [] S) : zc M_Cy_begin (d + 1) [.ref 16, .int a1, .int a2] S Q := zm_CC_intro (by decide) rfl rfl h
theorem s_Cy_writeCheck_0 {d : Nat} {Q : zm_Q} {S : zm_S} (j1 : Nat) (o1 : zm_ix ((S 16 3) - 1) j1 73)
    (l1 : zc M_CM_checkOf (d + 1) [.ref 17, .int (S 18 j1), .int (S 16 1)] S (fun v G' S' => zm_WP M_Cy_writeCheck none (d + 2) 0 0 Q 22 [some (.ref 16), none] (zm_ps v []) G' S' 0 0)) :
    zw M_Cy_writeCheck (d + 2) Q 0 [some (.ref 16), none] [] S := by
  refine zr_aload_n (i := 0) (x := 16) (n := 1) d_Cy_writeCheck_0 rfl rfl rfl ?_
  refine zr_getr (n := 4) d_Cy_writeCheck_1 rfl f_Cy_11 gg_16 rfl ?_
  refine zr_aload_n (i := 0) (x := 16) (n := 5) d_Cy_writeCheck_4 rfl rfl rfl ?_
  refine zr_getr (n := 8) d_Cy_writeCheck_5 rfl f_Cy_19 gg_16 rfl ?_
  refine zr_aload_n (i := 0) (x := 16) (n := 9) d_Cy_writeCheck_8 rfl rfl rfl ?_
  refine zr_geti (n := 12) d_Cy_writeCheck_9 rfl f_Cy_22 gg_16 rfl ?_
  refine zr_iconst (v := 1) (n := 13) d_Cy_writeCheck_12 rfl (by decide) ?_
  refine zr_isub (n := 14) d_Cy_writeCheck_13 rfl ?_
  refine zr_iaload j1 (n := 15) d_Cy_writeCheck_14 rfl gg_18 o1 ?_
  refine zr_aload_n (i := 0) (x := 16) (n := 16) d_Cy_writeCheck_15 rfl rfl rfl ?_
  refine zr_geti (n := 19) d_Cy_writeCheck_16 rfl f_Cy_15 gg_16 rfl ?_
  refine zr_callS (M' := M_CM_checkOf) (mc' := 0) (ms' := 0) (av := [.ref 17, .int (S 18 j1), .int (S 16 1)]) (rest := []) (n := 22) d_Cy_writeCheck_19 rfl w_Cy_72 w_Cy_72k rfl rfl rfl rfl rfl (Nat.le_refl _) (Nat.le_refl _) ?_
  exact l1
theorem s_Cy_writeCheck_22 {d : Nat} {Q : zm_Q} {S : zm_S} {r : Int32}
    (l1 : zc M_Cy_writePair (d + 1) [.ref 16, .int ((Int32.toUInt32 r >>> (Int32.toUInt32 16 &&& Int32.toUInt32 31)).toInt32)] S (fun v G' S' => zm_WP M_Cy_writeCheck none (d + 2) 0 0 Q 31 [some (.ref 16), some (.int r)] (zm_ps v []) G' S' 0 0)) :
    zw M_Cy_writeCheck (d + 2) Q 22 [some (.ref 16), none] [.int r] S := by
  refine zr_istore_n (i := 1) (L' := [some (.ref 16), some (.int r)]) (n := 23) d_Cy_writeCheck_22 rfl rfl rfl rfl ?_
  refine zr_aload_n (i := 0) (x := 16) (n := 24) d_Cy_writeCheck_23 rfl rfl rfl ?_
  refine zr_iload_n (i := 1) (x := r) (n := 25) d_Cy_writeCheck_24 rfl rfl rfl ?_
  refine zr_bipush (v := 16) (n := 27) d_Cy_writeCheck_25 rfl (by decide) ?_
  refine zr_iushr (n := 28) d_Cy_writeCheck_27 rfl ?_
  refine zr_callV (M' := M_Cy_writePair) (mc' := 0) (ms' := 0) (av := [.int ((Int32.toUInt32 r >>> (Int32.toUInt32 16 &&& Int32.toUInt32 31)).toInt32)]) (rest := []) (n := 31) d_Cy_writeCheck_28 rfl w_Cy_52 w_Cy_52k gg_16 rfl rfl rfl rfl rfl rfl (Nat.le_refl _) (Nat.le_refl _) ?_
  exact l1
theorem s_Cy_writeCheck_31 {d : Nat} {Q : zm_Q} {S : zm_S} {a1 : Int32}
    (l1 : zc M_Cy_writePair (d + 1) [.ref 16, .int a1] S (fun v G' S' => zm_WP M_Cy_writeCheck none (d + 2) 0 0 Q 36 [none, none] (zm_ps v []) G' S' 0 0)) :
    zw M_Cy_writeCheck (d + 2) Q 31 [some (.ref 16), some (.int a1)] [] S := by
  refine zr_aload_n (i := 0) (x := 16) (n := 32) d_Cy_writeCheck_31 rfl rfl rfl ?_
  refine zr_iload_n (i := 1) (x := a1) (n := 33) d_Cy_writeCheck_32 rfl rfl rfl ?_
  refine zr_weak (zm_LE.skip (zm_LE.skip zm_LE.nil)) ?_
  refine zr_callV (M' := M_Cy_writePair) (mc' := 0) (ms' := 0) (av := [.int a1]) (rest := []) (n := 36) d_Cy_writeCheck_33 rfl w_Cy_52 w_Cy_52k gg_16 rfl rfl rfl rfl rfl rfl (Nat.le_refl _) (Nat.le_refl _) ?_
  exact l1
theorem s_Cy_writeCheck_36 {d : Nat} {Q : zm_Q} {S : zm_S}
    (l1 : Q none GG S) :
    zw M_Cy_writeCheck (d + 2) Q 36 [none, none] [] S := by
  exact zr_return d_Cy_writeCheck_36 rfl (Nat.le_refl _) (Nat.le_refl _) l1
theorem e_Cy_writeCheck {d : Nat} {Q : zm_Q} {S : zm_S} (h : zw M_Cy_writeCheck (d + 2) Q 0 [some (.ref 16), none] [] S) : zc M_Cy_writeCheck (d + 2) [.ref 16] S Q := zm_CC_intro (by decide) rfl rfl h
theorem s_Cy_writePair_0 {d : Nat} {Q : zm_Q} {S : zm_S} {a1 : Int32}
    (l1 : zc M_Cy_write d [.ref 16, .int (a1 >>> (8 &&& 31))] S (fun v G' S' => zm_WP M_Cy_writePair none (d + 1) 0 0 Q 8 [some (.ref 16), some (.int a1)] (zm_ps v []) G' S' 0 0)) :
    zw M_Cy_writePair (d + 1) Q 0 [some (.ref 16), some (.int a1)] [] S := by
  refine zr_aload_n (i := 0) (x := 16) (n := 1) d_Cy_writePair_0 rfl rfl rfl ?_
  refine zr_iload_n (i := 1) (x := a1) (n := 2) d_Cy_writePair_1 rfl rfl rfl ?_
  refine zr_bipush (v := 8) (n := 4) d_Cy_writePair_2 rfl (by decide) ?_
  refine zr_ishr (n := 5) d_Cy_writePair_4 rfl ?_
  refine zr_callV (M' := M_Cy_write) (mc' := 0) (ms' := 0) (av := [.int (a1 >>> (8 &&& 31))]) (rest := []) (n := 8) d_Cy_writePair_5 rfl w_Cy_56 w_Cy_56k gg_16 rfl rfl rfl rfl rfl rfl (Nat.le_refl _) (Nat.le_refl _) ?_
  exact l1
theorem s_Cy_writePair_8 {d : Nat} {Q : zm_Q} {S : zm_S} {a1 : Int32}
    (l1 : zc M_Cy_write d [.ref 16, .int a1] S (fun v G' S' => zm_WP M_Cy_writePair none (d + 1) 0 0 Q 13 [none, none] (zm_ps v []) G' S' 0 0)) :
    zw M_Cy_writePair (d + 1) Q 8 [some (.ref 16), some (.int a1)] [] S := by
  refine zr_aload_n (i := 0) (x := 16) (n := 9) d_Cy_writePair_8 rfl rfl rfl ?_
  refine zr_iload_n (i := 1) (x := a1) (n := 10) d_Cy_writePair_9 rfl rfl rfl ?_
  refine zr_weak (zm_LE.skip (zm_LE.skip zm_LE.nil)) ?_
  refine zr_callV (M' := M_Cy_write) (mc' := 0) (ms' := 0) (av := [.int a1]) (rest := []) (n := 13) d_Cy_writePair_10 rfl w_Cy_56 w_Cy_56k gg_16 rfl rfl rfl rfl rfl rfl (Nat.le_refl _) (Nat.le_refl _) ?_
  exact l1
theorem s_Cy_writePair_13 {d : Nat} {Q : zm_Q} {S : zm_S}
    (l1 : Q none GG S) :
    zw M_Cy_writePair (d + 1) Q 13 [none, none] [] S := by
  exact zr_return d_Cy_writePair_13 rfl (Nat.le_refl _) (Nat.le_refl _) l1
theorem e_Cy_writePair {d : Nat} {Q : zm_Q} {S : zm_S} {a1 : Int32} (h : zw M_Cy_writePair (d + 1) Q 0 [some (.ref 16), some (.int a1)] [] S) : zc M_Cy_writePair (d + 1) [.ref 16, .int a1] S Q := zm_CC_intro (by decide) rfl rfl h
theorem s_Cy_write_0 {d : Nat} {Q : zm_Q} {S : zm_S} {a1 : Int32} (j1 : Nat) (o1 : ¬ 1341 ≤ (S 16 1) → zm_ix (S 16 1) j1 1341)
    (l1 : 1341 ≤ (S 16 1) → Q none GG S)
    (l2 : ¬ 1341 ≤ (S 16 1) → Q none GG (zm_up (zm_up S 17 j1 (a1 &&& 255)) 16 1 ((S 16 1) + 1))) :
    zw M_Cy_write d Q 0 [some (.ref 16), some (.int a1)] [] S := by
  refine zr_aload_n (i := 0) (x := 16) (n := 1) d_Cy_write_0 rfl rfl rfl ?_
  refine zr_geti (n := 4) d_Cy_write_1 rfl f_Cy_15 gg_16 rfl ?_
  refine zr_aload_n (i := 0) (x := 16) (n := 5) d_Cy_write_4 rfl rfl rfl ?_
  refine zr_getr (n := 8) d_Cy_write_5 rfl f_Cy_11 gg_16 rfl ?_
  refine zr_alen (v := 1341) (n := 9) d_Cy_write_8 rfl gg_17 (by decide) ?_
  refine zr_icmp_ge (tgt := 36) (n := 12) d_Cy_write_9 rfl (by decide) (fun h1 => ?_) (fun h1 => ?_)
  · exact zr_return d_Cy_write_36 rfl (Nat.le_refl _) (Nat.le_refl _) (l1 h1)
  · refine zr_aload_n (i := 0) (x := 16) (n := 13) d_Cy_write_12 rfl rfl rfl ?_
    refine zr_getr (n := 16) d_Cy_write_13 rfl f_Cy_11 gg_16 rfl ?_
    refine zr_aload_n (i := 0) (x := 16) (n := 17) d_Cy_write_16 rfl rfl rfl ?_
    refine zr_geti (n := 20) d_Cy_write_17 rfl f_Cy_15 gg_16 rfl ?_
    refine zr_iload_n (i := 1) (x := a1) (n := 21) d_Cy_write_20 rfl rfl rfl ?_
    refine zr_sipush (v := 255) (n := 24) d_Cy_write_21 rfl (by decide) ?_
    refine zr_iand (n := 25) d_Cy_write_24 rfl ?_
    refine zr_iastore j1 (n := 26) d_Cy_write_25 rfl gg_17 (o1 h1) ?_
    refine zr_aload_n (i := 0) (x := 16) (n := 27) d_Cy_write_26 rfl rfl rfl ?_
    refine zr_dup (n := 28) d_Cy_write_27 rfl rfl ?_
    refine zr_geti (n := 31) d_Cy_write_28 rfl f_Cy_15 gg_16 rfl ?_
    refine zr_iconst (v := 1) (n := 32) d_Cy_write_31 rfl (by decide) ?_
    refine zr_iadd (n := 33) d_Cy_write_32 rfl ?_
    refine zr_puti (n := 36) d_Cy_write_33 rfl f_Cy_15 tw_Cy rfl rfl rfl rfl gg_16 rfl ?_
    exact zr_return d_Cy_write_36 rfl (Nat.le_refl _) (Nat.le_refl _) (l2 h1)
theorem e_Cy_write {d : Nat} {Q : zm_Q} {S : zm_S} {a1 : Int32} (h : zw M_Cy_write d Q 0 [some (.ref 16), some (.int a1)] [] S) : zc M_Cy_write d [.ref 16, .int a1] S Q := zm_CC_intro (by decide) rfl rfl h
theorem s_Mt_reset_0 {d : Nat} {Q : zm_Q} {S : zm_S}
    (l1 : zw M_Mt_reset (d + 1) Q 12 [some (.ref 20), some (.int 0)] [] (zm_up (zm_up S 20 0 0) 20 1 0)) :
    zw M_Mt_reset (d + 1) Q 0 [some (.ref 20), none] [] S := by
  refine zr_aload_n (i := 0) (x := 20) (n := 1) d_Mt_reset_0 rfl rfl rfl ?_
  refine zr_iconst (v := 0) (n := 2) d_Mt_reset_1 rfl (by decide) ?_
  refine zr_puti (n := 5) d_Mt_reset_2 rfl f_Mt_9 tw_Mt rfl rfl (by decide) (by decide) gg_20 rfl ?_
  refine zr_aload_n (i := 0) (x := 20) (n := 6) d_Mt_reset_5 rfl rfl rfl ?_
  refine zr_iconst (v := 0) (n := 7) d_Mt_reset_6 rfl (by decide) ?_
  refine zr_puti (n := 10) d_Mt_reset_7 rfl f_Mt_15 tw_Mt rfl rfl rfl rfl gg_20 rfl ?_
  refine zr_iconst (v := 0) (n := 11) d_Mt_reset_10 rfl (by decide) ?_
  refine zr_istore_n (i := 1) (L' := [some (.ref 20), some (.int 0)]) (n := 12) d_Mt_reset_11 rfl rfl rfl rfl ?_
  exact l1
theorem s_Mt_reset_12 {d : Nat} {Q : zm_Q} {S : zm_S} {a1 : Int32} (j1 : Nat) (o1 : ¬ 12 ≤ a1 → zm_ix a1 j1 12)
    (l1 : 12 ≤ a1 → Q none GG S)
    (l2 : ¬ 12 ≤ a1 → zw M_Mt_reset (d + 1) Q 12 [some (.ref 20), some (.int (a1 + 1))] [] (zm_up (zm_up (zm_up S 21 j1 0) 22 j1 0) 23 j1 0)) :
    zw M_Mt_reset (d + 1) Q 12 [some (.ref 20), some (.int a1)] [] S := by
  refine zr_iload_n (i := 1) (x := a1) (n := 13) d_Mt_reset_12 rfl rfl rfl ?_
  refine zr_bipush (v := 12) (n := 15) d_Mt_reset_13 rfl (by decide) ?_
  refine zr_icmp_ge (tgt := 31) (n := 18) d_Mt_reset_15 rfl (by decide) (fun h1 => ?_) (fun h1 => ?_)
  · exact zr_return d_Mt_reset_31 rfl (Nat.le_refl _) (Nat.le_refl _) (l1 h1)
  · refine zr_aload_n (i := 0) (x := 20) (n := 19) d_Mt_reset_18 rfl rfl rfl ?_
    refine zr_iload_n (i := 1) (x := a1) (n := 20) d_Mt_reset_19 rfl rfl rfl ?_
    refine zr_iconst (v := 0) (n := 21) d_Mt_reset_20 rfl (by decide) ?_
    refine zr_iconst (v := 0) (n := 22) d_Mt_reset_21 rfl (by decide) ?_
    refine zr_callV (M' := M_Mt_relist) (mc' := 0) (ms' := 0) (av := [.int a1, .int 0, .int 0]) (rest := []) (n := 25) d_Mt_reset_22 rfl w_Mt_32 w_Mt_32k gg_20 rfl rfl rfl rfl rfl rfl (Nat.le_refl _) (Nat.le_refl _) ?_
    refine c_Mt_relist (a1 := a1) (a2 := 0) (a3 := 0) j1 (o1 h1) ?_
    refine zr_iinc (i := 1) (w := 1) (x := a1) (L' := [some (.ref 20), some (.int (a1 + 1))]) (n := 28) d_Mt_reset_25 rfl (by decide) rfl rfl ?_
    refine zr_goto (tgt := 12) d_Mt_reset_28 (by decide) ?_
    exact (l2 h1)
theorem e_Mt_reset {d : Nat} {Q : zm_Q} {S : zm_S} (h : zw M_Mt_reset (d + 1) Q 0 [some (.ref 20), none] [] S) : zc M_Mt_reset (d + 1) [.ref 20] S Q := zm_CC_intro (by decide) rfl rfl h
theorem s_Mt_takeList_0 {d : Nat} {Q : zm_Q} {S : zm_S} (j1 : Nat) (o1 : zm_ix (2 + 1) j1 257)
    (l1 : zw M_Mt_takeList (d + 1) Q 20 [some (.ref 20), some (.ref 26), some (.int (S 26 4)), some (.int 0), none, none, none] [] (zm_up (zm_up S 20 0 1) 20 1 ((((zm_up S 20 0 1) 26 2) * 256) + ((zm_up S 20 0 1) 26 j1)))) :
    zw M_Mt_takeList (d + 1) Q 0 [some (.ref 20), some (.ref 26), none, none, none, none, none] [] S := by
  refine zr_aload_n (i := 0) (x := 20) (n := 1) d_Mt_takeList_0 rfl rfl rfl ?_
  refine zr_iconst (v := 1) (n := 2) d_Mt_takeList_1 rfl (by decide) ?_
  refine zr_puti (n := 5) d_Mt_takeList_2 rfl f_Mt_9 tw_Mt rfl rfl (by decide) (by decide) gg_20 rfl ?_
  refine zr_aload_n (i := 0) (x := 20) (n := 6) d_Mt_takeList_5 rfl rfl rfl ?_
  refine zr_aload_n (i := 1) (x := 26) (n := 7) d_Mt_takeList_6 rfl rfl rfl ?_
  refine zr_iconst (v := 2) (n := 8) d_Mt_takeList_7 rfl (by decide) ?_
  refine zr_callS (M' := M_CM_pairAt) (mc' := 0) (ms' := 0) (av := [.ref 26, .int 2]) (rest := [.ref 20]) (n := 11) d_Mt_takeList_8 rfl w_Mt_36 w_Mt_36k rfl rfl rfl rfl rfl (Nat.le_refl _) (Nat.le_refl _) ?_
  refine c_CM_pairAt (a1 := 2) 2 j1 (zm_ixN (Nat.le_of_ble_eq_true rfl) (Nat.le_of_ble_eq_true rfl)) o1 ?_
  refine zr_puti (n := 14) d_Mt_takeList_11 rfl f_Mt_15 tw_Mt rfl rfl rfl rfl gg_20 rfl ?_
  refine zr_aload_n (i := 1) (x := 26) (n := 15) d_Mt_takeList_14 rfl rfl rfl ?_
  refine zr_iconst (v := 4) (n := 16) d_Mt_takeList_15 rfl (by decide) ?_
  refine zr_iaload 4 (n := 17) d_Mt_takeList_16 rfl gg_26 (zm_ixN (Nat.le_of_ble_eq_true rfl) (Nat.le_of_ble_eq_true rfl)) ?_
  refine zr_istore_n (i := 2) (L' := [some (.ref 20), some (.ref 26), some (.int (S 26 4)), none, none, none, none]) (n := 18) d_Mt_takeList_17 rfl rfl rfl rfl ?_
  refine zr_iconst (v := 0) (n := 19) d_Mt_takeList_18 rfl (by decide) ?_
  refine zr_istore_n (i := 3) (L' := [some (.ref 20), some (.ref 26), some (.int (S 26 4)), some (.int 0), none, none, none]) (n := 20) d_Mt_takeList_19 rfl rfl rfl rfl ?_
  exact l1
theorem s_Mt_takeList_20 {d : Nat} {Q : zm_Q} {S : zm_S} {a2 a3 : Int32} (j1 : Nat) (j2 : Nat) (j3 : Nat) (j4 : Nat) (o1 : ¬ 12 ≤ a3 → a2 ≤ a3 → zm_ix a3 j1 12) (o2 : ¬ 12 ≤ a3 → a2 ≤ a3 → ¬ (S 21 j1) = 0 → zm_ix a3 j1 12) (o3 : ¬ 12 ≤ a3 → a2 ≤ a3 → (S 21 j1) = 0 → ¬ (S 22 j1) = 0 → zm_ix a3 j1 12) (o4 : ¬ 12 ≤ a3 → ¬ a2 ≤ a3 → zm_ix (5 + (3 * a3)) j2 257) (o5 : ¬ 12 ≤ a3 → ¬ a2 ≤ a3 → zm_ix ((5 + (3 * a3)) + 1) j3 257) (o6 : ¬ 12 ≤ a3 → ¬ a2 ≤ a3 → zm_ix (((5 + (3 * a3)) + 1) + 1) j4 257) (o7 : ¬ 12 ≤ a3 → ¬ a2 ≤ a3 → zm_ix a3 j1 12) (o8 : ¬ 12 ≤ a3 → ¬ a2 ≤ a3 → ¬ (S 21 j1) = (S 26 j2) → zm_ix a3 j1 12) (o9 : ¬ 12 ≤ a3 → ¬ a2 ≤ a3 → (S 21 j1) = (S 26 j2) → ¬ (S 22 j1) = (((S 26 j3) * 256) + (S 26 j4)) → zm_ix a3 j1 12)
    (l1 : 12 ≤ a3 → Q none GG S)
    (l2 : ((¬ 12 ≤ a3 ∧ a2 ≤ a3 ∧ ¬ (S 21 j1) = 0) ∨ (¬ 12 ≤ a3 ∧ a2 ≤ a3 ∧ (S 21 j1) = 0 ∧ ¬ (S 22 j1) = 0)) → zw M_Mt_takeList (d + 1) Q 20 [some (.ref 20), some (.ref 26), some (.int a2), some (.int (a3 + 1)), none, none, none] [] (zm_up (zm_up (zm_up S 21 j1 0) 22 j1 0) 23 j1 0))
    (l3 : ((¬ 12 ≤ a3 ∧ a2 ≤ a3 ∧ (S 21 j1) = 0 ∧ (S 22 j1) = 0) ∨ (¬ 12 ≤ a3 ∧ ¬ a2 ≤ a3 ∧ (S 21 j1) = (S 26 j2) ∧ (S 22 j1) = (((S 26 j3) * 256) + (S 26 j4)))) → zw M_Mt_takeList (d + 1) Q 20 [some (.ref 20), some (.ref 26), some (.int a2), some (.int (a3 + 1)), none, none, none] [] S)
    (l4 : ((¬ 12 ≤ a3 ∧ ¬ a2 ≤ a3 ∧ ¬ (S 21 j1) = (S 26 j2)) ∨ (¬ 12 ≤ a3 ∧ ¬ a2 ≤ a3 ∧ (S 21 j1) = (S 26 j2) ∧ ¬ (S 22 j1) = (((S 26 j3) * 256) + (S 26 j4)))) → zw M_Mt_takeList (d + 1) Q 20 [some (.ref 20), some (.ref 26), some (.int a2), some (.int (a3 + 1)), none, none, none] [] (zm_up (zm_up (zm_up S 21 j1 (S 26 j2)) 22 j1 (((S 26 j3) * 256) + (S 26 j4))) 23 j1 0)) :
    zw M_Mt_takeList (d + 1) Q 20 [some (.ref 20), some (.ref 26), some (.int a2), some (.int a3), none, none, none] [] S := by
  refine zr_iload_n (i := 3) (x := a3) (n := 21) d_Mt_takeList_20 rfl rfl rfl ?_
  refine zr_bipush (v := 12) (n := 23) d_Mt_takeList_21 rfl (by decide) ?_
  refine zr_icmp_ge (tgt := 104) (n := 26) d_Mt_takeList_23 rfl (by decide) (fun h1 => ?_) (fun h1 => ?_)
  · exact zr_return d_Mt_takeList_104 rfl (Nat.le_refl _) (Nat.le_refl _) (l1 h1)
  · refine zr_iconst (v := 5) (n := 27) d_Mt_takeList_26 rfl (by decide) ?_
    refine zr_iconst (v := 3) (n := 28) d_Mt_takeList_27 rfl (by decide) ?_
    refine zr_iload_n (i := 3) (x := a3) (n := 29) d_Mt_takeList_28 rfl rfl rfl ?_
    refine zr_imul (n := 30) d_Mt_takeList_29 rfl ?_
    refine zr_iadd (n := 31) d_Mt_takeList_30 rfl ?_
    refine zr_istore (i := 4) (L' := [some (.ref 20), some (.ref 26), some (.int a2), some (.int a3), some (.int (5 + (3 * a3))), none, none]) (n := 33) d_Mt_takeList_31 rfl rfl rfl ?_
    refine zr_iload_n (i := 3) (x := a3) (n := 34) d_Mt_takeList_33 rfl rfl rfl ?_
    refine zr_iload_n (i := 2) (x := a2) (n := 35) d_Mt_takeList_34 rfl rfl rfl ?_
    refine zr_icmp_ge (tgt := 45) (n := 38) d_Mt_takeList_35 rfl (by decide) (fun h2 => ?_) (fun h2 => ?_)
    · refine zr_iconst (v := 0) (n := 46) d_Mt_takeList_45 rfl (by decide) ?_
      refine zr_istore (i := 5) (L' := [some (.ref 20), some (.ref 26), some (.int a2), some (.int a3), some (.int (5 + (3 * a3))), some (.int 0), none]) (n := 48) d_Mt_takeList_46 rfl rfl rfl ?_
      refine zr_iload_n (i := 3) (x := a3) (n := 49) d_Mt_takeList_48 rfl rfl rfl ?_
      refine zr_iload_n (i := 2) (x := a2) (n := 50) d_Mt_takeList_49 rfl rfl rfl ?_
      refine zr_icmp_ge (tgt := 64) (n := 53) d_Mt_takeList_50 rfl (by decide) (fun _ => ?_) (fun h => absurd h2 h)
      refine zr_iconst (v := 0) (n := 65) d_Mt_takeList_64 rfl (by decide) ?_
      refine zr_istore (i := 6) (L' := [some (.ref 20), some (.ref 26), some (.int a2), some (.int a3), some (.int (5 + (3 * a3))), some (.int 0), some (.int 0)]) (n := 67) d_Mt_takeList_65 rfl rfl rfl ?_
      refine zr_aload_n (i := 0) (x := 20) (n := 68) d_Mt_takeList_67 rfl rfl rfl ?_
      refine zr_getr (n := 71) d_Mt_takeList_68 rfl f_Mt_19 gg_20 rfl ?_
      refine zr_iload_n (i := 3) (x := a3) (n := 72) d_Mt_takeList_71 rfl rfl rfl ?_
      refine zr_iaload j1 (n := 73) d_Mt_takeList_72 rfl gg_21 (o1 h1 h2) ?_
      refine zr_iload (i := 5) (x := 0) (n := 75) d_Mt_takeList_73 rfl rfl ?_
      refine zr_icmp_ne (tgt := 89) (n := 78) d_Mt_takeList_75 rfl (by decide) (fun h3 => ?_) (fun h3 => ?_)
      · refine zr_aload_n (i := 0) (x := 20) (n := 90) d_Mt_takeList_89 rfl rfl rfl ?_
        refine zr_iload_n (i := 3) (x := a3) (n := 91) d_Mt_takeList_90 rfl rfl rfl ?_
        refine zr_iload (i := 5) (x := 0) (n := 93) d_Mt_takeList_91 rfl rfl ?_
        refine zr_iload (i := 6) (x := 0) (n := 95) d_Mt_takeList_93 rfl rfl ?_
        refine zr_weak (zm_LE.cons (zm_LE.cons (zm_LE.cons (zm_LE.cons (zm_LE.skip (zm_LE.skip (zm_LE.skip zm_LE.nil))))))) ?_
        refine zr_callV (M' := M_Mt_relist) (mc' := 0) (ms' := 0) (av := [.int a3, .int 0, .int 0]) (rest := []) (n := 98) d_Mt_takeList_95 rfl w_Mt_32 w_Mt_32k gg_20 rfl rfl rfl rfl rfl rfl (Nat.le_refl _) (Nat.le_refl _) ?_
        refine c_Mt_relist (a1 := a3) (a2 := 0) (a3 := 0) j1 (o2 h1 h2 h3) ?_
        refine zr_iinc (i := 3) (w := 1) (x := a3) (L' := [some (.ref 20), some (.ref 26), some (.int a2), some (.int (a3 + 1)), none, none, none]) (n := 101) d_Mt_takeList_98 rfl (by decide) rfl rfl ?_
        refine zr_goto (tgt := 20) d_Mt_takeList_101 (by decide) ?_
        exact (l2 (Or.inl ⟨h1, h2, h3⟩))
      · refine zr_aload_n (i := 0) (x := 20) (n := 79) d_Mt_takeList_78 rfl rfl rfl ?_
        refine zr_getr (n := 82) d_Mt_takeList_79 rfl f_Mt_23 gg_20 rfl ?_
        refine zr_iload_n (i := 3) (x := a3) (n := 83) d_Mt_takeList_82 rfl rfl rfl ?_
        refine zr_iaload j1 (n := 84) d_Mt_takeList_83 rfl gg_22 (o1 h1 h2) ?_
        refine zr_iload (i := 6) (x := 0) (n := 86) d_Mt_takeList_84 rfl rfl ?_
        refine zr_icmp_eq (tgt := 98) (n := 89) d_Mt_takeList_86 rfl (by decide) (fun h4 => ?_) (fun h4 => ?_)
        · refine zr_iinc (i := 3) (w := 1) (x := a3) (L' := [some (.ref 20), some (.ref 26), some (.int a2), some (.int (a3 + 1)), some (.int (5 + (3 * a3))), some (.int 0), some (.int 0)]) (n := 101) d_Mt_takeList_98 rfl (by decide) rfl rfl ?_
          refine zr_goto (tgt := 20) d_Mt_takeList_101 (by decide) ?_
          exact zr_weak (zm_LE.cons (zm_LE.cons (zm_LE.cons (zm_LE.cons (zm_LE.skip (zm_LE.skip (zm_LE.skip zm_LE.nil))))))) (l3 (Or.inl ⟨h1, h2, h3, h4⟩))
        · refine zr_aload_n (i := 0) (x := 20) (n := 90) d_Mt_takeList_89 rfl rfl rfl ?_
          refine zr_iload_n (i := 3) (x := a3) (n := 91) d_Mt_takeList_90 rfl rfl rfl ?_
          refine zr_iload (i := 5) (x := 0) (n := 93) d_Mt_takeList_91 rfl rfl ?_
          refine zr_iload (i := 6) (x := 0) (n := 95) d_Mt_takeList_93 rfl rfl ?_
          refine zr_weak (zm_LE.cons (zm_LE.cons (zm_LE.cons (zm_LE.cons (zm_LE.skip (zm_LE.skip (zm_LE.skip zm_LE.nil))))))) ?_
          refine zr_callV (M' := M_Mt_relist) (mc' := 0) (ms' := 0) (av := [.int a3, .int 0, .int 0]) (rest := []) (n := 98) d_Mt_takeList_95 rfl w_Mt_32 w_Mt_32k gg_20 rfl rfl rfl rfl rfl rfl (Nat.le_refl _) (Nat.le_refl _) ?_
          refine c_Mt_relist (a1 := a3) (a2 := 0) (a3 := 0) j1 (o3 h1 h2 h3 h4) ?_
          refine zr_iinc (i := 3) (w := 1) (x := a3) (L' := [some (.ref 20), some (.ref 26), some (.int a2), some (.int (a3 + 1)), none, none, none]) (n := 101) d_Mt_takeList_98 rfl (by decide) rfl rfl ?_
          refine zr_goto (tgt := 20) d_Mt_takeList_101 (by decide) ?_
          exact (l2 (Or.inr ⟨h1, h2, h3, h4⟩))
    · refine zr_aload_n (i := 1) (x := 26) (n := 39) d_Mt_takeList_38 rfl rfl rfl ?_
      refine zr_iload (i := 4) (x := (5 + (3 * a3))) (n := 41) d_Mt_takeList_39 rfl rfl ?_
      refine zr_iaload j2 (n := 42) d_Mt_takeList_41 rfl gg_26 (o4 h1 h2) ?_
      refine zr_goto (tgt := 46) d_Mt_takeList_42 (by decide) ?_
      refine zr_istore (i := 5) (L' := [some (.ref 20), some (.ref 26), some (.int a2), some (.int a3), some (.int (5 + (3 * a3))), some (.int (S 26 j2)), none]) (n := 48) d_Mt_takeList_46 rfl rfl rfl ?_
      refine zr_iload_n (i := 3) (x := a3) (n := 49) d_Mt_takeList_48 rfl rfl rfl ?_
      refine zr_iload_n (i := 2) (x := a2) (n := 50) d_Mt_takeList_49 rfl rfl rfl ?_
      refine zr_icmp_ge (tgt := 64) (n := 53) d_Mt_takeList_50 rfl (by decide) (fun h => absurd h h2) (fun _ => ?_)
      refine zr_aload_n (i := 1) (x := 26) (n := 54) d_Mt_takeList_53 rfl rfl rfl ?_
      refine zr_iload (i := 4) (x := (5 + (3 * a3))) (n := 56) d_Mt_takeList_54 rfl rfl ?_
      refine zr_iconst (v := 1) (n := 57) d_Mt_takeList_56 rfl (by decide) ?_
      refine zr_iadd (n := 58) d_Mt_takeList_57 rfl ?_
      refine zr_weak (zm_LE.cons (zm_LE.cons (zm_LE.cons (zm_LE.cons (zm_LE.skip (zm_LE.cons (zm_LE.cons zm_LE.nil))))))) ?_
      refine zr_callS (M' := M_CM_pairAt) (mc' := 0) (ms' := 0) (av := [.ref 26, .int ((5 + (3 * a3)) + 1)]) (rest := []) (n := 61) d_Mt_takeList_58 rfl w_Mt_36 w_Mt_36k rfl rfl rfl rfl rfl (Nat.le_refl _) (Nat.le_refl _) ?_
      refine c_CM_pairAt (a1 := ((5 + (3 * a3)) + 1)) j3 j4 (o5 h1 h2) (o6 h1 h2) ?_
      refine zr_goto (tgt := 65) d_Mt_takeList_61 (by decide) ?_
      refine zr_istore (i := 6) (L' := [some (.ref 20), some (.ref 26), some (.int a2), some (.int a3), none, some (.int (S 26 j2)), some (.int (((S 26 j3) * 256) + (S 26 j4)))]) (n := 67) d_Mt_takeList_65 rfl rfl rfl ?_
      refine zr_aload_n (i := 0) (x := 20) (n := 68) d_Mt_takeList_67 rfl rfl rfl ?_
      refine zr_getr (n := 71) d_Mt_takeList_68 rfl f_Mt_19 gg_20 rfl ?_
      refine zr_iload_n (i := 3) (x := a3) (n := 72) d_Mt_takeList_71 rfl rfl rfl ?_
      refine zr_iaload j1 (n := 73) d_Mt_takeList_72 rfl gg_21 (o7 h1 h2) ?_
      refine zr_iload (i := 5) (x := (S 26 j2)) (n := 75) d_Mt_takeList_73 rfl rfl ?_
      refine zr_icmp_ne (tgt := 89) (n := 78) d_Mt_takeList_75 rfl (by decide) (fun h5 => ?_) (fun h5 => ?_)
      · refine zr_aload_n (i := 0) (x := 20) (n := 90) d_Mt_takeList_89 rfl rfl rfl ?_
        refine zr_iload_n (i := 3) (x := a3) (n := 91) d_Mt_takeList_90 rfl rfl rfl ?_
        refine zr_iload (i := 5) (x := (S 26 j2)) (n := 93) d_Mt_takeList_91 rfl rfl ?_
        refine zr_iload (i := 6) (x := (((S 26 j3) * 256) + (S 26 j4))) (n := 95) d_Mt_takeList_93 rfl rfl ?_
        refine zr_weak (zm_LE.cons (zm_LE.cons (zm_LE.cons (zm_LE.cons (zm_LE.cons (zm_LE.skip (zm_LE.skip zm_LE.nil))))))) ?_
        refine zr_callV (M' := M_Mt_relist) (mc' := 0) (ms' := 0) (av := [.int a3, .int (S 26 j2), .int (((S 26 j3) * 256) + (S 26 j4))]) (rest := []) (n := 98) d_Mt_takeList_95 rfl w_Mt_32 w_Mt_32k gg_20 rfl rfl rfl rfl rfl rfl (Nat.le_refl _) (Nat.le_refl _) ?_
        refine c_Mt_relist (a1 := a3) (a2 := (S 26 j2)) (a3 := (((S 26 j3) * 256) + (S 26 j4))) j1 (o8 h1 h2 h5) ?_
        refine zr_iinc (i := 3) (w := 1) (x := a3) (L' := [some (.ref 20), some (.ref 26), some (.int a2), some (.int (a3 + 1)), none, none, none]) (n := 101) d_Mt_takeList_98 rfl (by decide) rfl rfl ?_
        refine zr_goto (tgt := 20) d_Mt_takeList_101 (by decide) ?_
        exact (l4 (Or.inl ⟨h1, h2, h5⟩))
      · refine zr_aload_n (i := 0) (x := 20) (n := 79) d_Mt_takeList_78 rfl rfl rfl ?_
        refine zr_getr (n := 82) d_Mt_takeList_79 rfl f_Mt_23 gg_20 rfl ?_
        refine zr_iload_n (i := 3) (x := a3) (n := 83) d_Mt_takeList_82 rfl rfl rfl ?_
        refine zr_iaload j1 (n := 84) d_Mt_takeList_83 rfl gg_22 (o7 h1 h2) ?_
        refine zr_iload (i := 6) (x := (((S 26 j3) * 256) + (S 26 j4))) (n := 86) d_Mt_takeList_84 rfl rfl ?_
        refine zr_icmp_eq (tgt := 98) (n := 89) d_Mt_takeList_86 rfl (by decide) (fun h6 => ?_) (fun h6 => ?_)
        · refine zr_iinc (i := 3) (w := 1) (x := a3) (L' := [some (.ref 20), some (.ref 26), some (.int a2), some (.int (a3 + 1)), none, some (.int (S 26 j2)), some (.int (((S 26 j3) * 256) + (S 26 j4)))]) (n := 101) d_Mt_takeList_98 rfl (by decide) rfl rfl ?_
          refine zr_goto (tgt := 20) d_Mt_takeList_101 (by decide) ?_
          exact zr_weak (zm_LE.cons (zm_LE.cons (zm_LE.cons (zm_LE.cons (zm_LE.cons (zm_LE.skip (zm_LE.skip zm_LE.nil))))))) (l3 (Or.inr ⟨h1, h2, h5, h6⟩))
        · refine zr_aload_n (i := 0) (x := 20) (n := 90) d_Mt_takeList_89 rfl rfl rfl ?_
          refine zr_iload_n (i := 3) (x := a3) (n := 91) d_Mt_takeList_90 rfl rfl rfl ?_
          refine zr_iload (i := 5) (x := (S 26 j2)) (n := 93) d_Mt_takeList_91 rfl rfl ?_
          refine zr_iload (i := 6) (x := (((S 26 j3) * 256) + (S 26 j4))) (n := 95) d_Mt_takeList_93 rfl rfl ?_
          refine zr_weak (zm_LE.cons (zm_LE.cons (zm_LE.cons (zm_LE.cons (zm_LE.cons (zm_LE.skip (zm_LE.skip zm_LE.nil))))))) ?_
          refine zr_callV (M' := M_Mt_relist) (mc' := 0) (ms' := 0) (av := [.int a3, .int (S 26 j2), .int (((S 26 j3) * 256) + (S 26 j4))]) (rest := []) (n := 98) d_Mt_takeList_95 rfl w_Mt_32 w_Mt_32k gg_20 rfl rfl rfl rfl rfl rfl (Nat.le_refl _) (Nat.le_refl _) ?_
          refine c_Mt_relist (a1 := a3) (a2 := (S 26 j2)) (a3 := (((S 26 j3) * 256) + (S 26 j4))) j1 (o9 h1 h2 h5 h6) ?_
          refine zr_iinc (i := 3) (w := 1) (x := a3) (L' := [some (.ref 20), some (.ref 26), some (.int a2), some (.int (a3 + 1)), none, none, none]) (n := 101) d_Mt_takeList_98 rfl (by decide) rfl rfl ?_
          refine zr_goto (tgt := 20) d_Mt_takeList_101 (by decide) ?_
          exact (l4 (Or.inr ⟨h1, h2, h5, h6⟩))
theorem e_Mt_takeList {d : Nat} {Q : zm_Q} {S : zm_S} (h : zw M_Mt_takeList (d + 1) Q 0 [some (.ref 20), some (.ref 26), none, none, none, none, none] [] S) : zc M_Mt_takeList (d + 1) [.ref 20, .ref 26] S Q := zm_CC_intro (by decide) rfl rfl h
theorem s_Mt_takeBlock_0 {d : Nat} {Q : zm_Q} {S : zm_S} {a2 : Int32} (j1 : Nat) (j2 : Nat) (j3 : Nat) (j4 : Nat) (o1 : ¬ (S 26 2) < 0 → ¬ 12 ≤ (S 26 2) → zm_ix (S 26 2) j1 12) (o2 : ¬ (S 26 2) < 0 → ¬ 12 ≤ (S 26 2) → ¬ (S 21 j1) ≤ 0 → zm_ix (S 26 2) j1 12) (o3 : ¬ (S 26 2) < 0 → ¬ 12 ≤ (S 26 2) → ¬ (S 21 j1) ≤ 0 → zm_ix (3 + 1) j2 257) (o4 : ¬ (S 26 2) < 0 → ¬ 12 ≤ (S 26 2) → ¬ (S 21 j1) ≤ 0 → (S 22 j1) = (((S 26 3) * 256) + (S 26 j2)) → ¬ ((((S 21 j1) + 8) - 1) / 8) ≤ (S 26 5) → 8 ≤ ((S 21 j1) - ((S 26 5) * 8)) → a2 = 8 → ¬ (((S 26 2) * 48) + ((S 26 5) * 8)) < 0 ∧ ((((S 26 2) * 48) + ((S 26 5) * 8))).toNatClampNeg = j3) (o5 : ¬ (S 26 2) < 0 → ¬ 12 ≤ (S 26 2) → ¬ (S 21 j1) ≤ 0 → (S 22 j1) = (((S 26 3) * 256) + (S 26 j2)) → ¬ ((((S 21 j1) + 8) - 1) / 8) ≤ (S 26 5) → 8 ≤ ((S 21 j1) - ((S 26 5) * 8)) → a2 = 8 → ¬ a2 < 0 ∧ (a2).toNatClampNeg = j4) (o6 : ¬ (S 26 2) < 0 → ¬ 12 ≤ (S 26 2) → ¬ (S 21 j1) ≤ 0 → (S 22 j1) = (((S 26 3) * 256) + (S 26 j2)) → ¬ ((((S 21 j1) + 8) - 1) / 8) ≤ (S 26 5) → 8 ≤ ((S 21 j1) - ((S 26 5) * 8)) → a2 = 8 → 6 + j4 ≤ 257) (o7 : ¬ (S 26 2) < 0 → ¬ 12 ≤ (S 26 2) → ¬ (S 21 j1) ≤ 0 → (S 22 j1) = (((S 26 3) * 256) + (S 26 j2)) → ¬ ((((S 21 j1) + 8) - 1) / 8) ≤ (S 26 5) → 8 ≤ ((S 21 j1) - ((S 26 5) * 8)) → a2 = 8 → j3 + j4 ≤ 576) (o8 : ¬ (S 26 2) < 0 → ¬ 12 ≤ (S 26 2) → ¬ (S 21 j1) ≤ 0 → (S 22 j1) = (((S 26 3) * 256) + (S 26 j2)) → ¬ ((((S 21 j1) + 8) - 1) / 8) ≤ (S 26 5) → ¬ 8 ≤ ((S 21 j1) - ((S 26 5) * 8)) → a2 = ((S 21 j1) - ((S 26 5) * 8)) → ¬ (((S 26 2) * 48) + ((S 26 5) * 8)) < 0 ∧ ((((S 26 2) * 48) + ((S 26 5) * 8))).toNatClampNeg = j3) (o9 : ¬ (S 26 2) < 0 → ¬ 12 ≤ (S 26 2) → ¬ (S 21 j1) ≤ 0 → (S 22 j1) = (((S 26 3) * 256) + (S 26 j2)) → ¬ ((((S 21 j1) + 8) - 1) / 8) ≤ (S 26 5) → ¬ 8 ≤ ((S 21 j1) - ((S 26 5) * 8)) → a2 = ((S 21 j1) - ((S 26 5) * 8)) → ¬ a2 < 0 ∧ (a2).toNatClampNeg = j4) (o10 : ¬ (S 26 2) < 0 → ¬ 12 ≤ (S 26 2) → ¬ (S 21 j1) ≤ 0 → (S 22 j1) = (((S 26 3) * 256) + (S 26 j2)) → ¬ ((((S 21 j1) + 8) - 1) / 8) ≤ (S 26 5) → ¬ 8 ≤ ((S 21 j1) - ((S 26 5) * 8)) → a2 = ((S 21 j1) - ((S 26 5) * 8)) → 6 + j4 ≤ 257) (o11 : ¬ (S 26 2) < 0 → ¬ 12 ≤ (S 26 2) → ¬ (S 21 j1) ≤ 0 → (S 22 j1) = (((S 26 3) * 256) + (S 26 j2)) → ¬ ((((S 21 j1) + 8) - 1) / 8) ≤ (S 26 5) → ¬ 8 ≤ ((S 21 j1) - ((S 26 5) * 8)) → a2 = ((S 21 j1) - ((S 26 5) * 8)) → j3 + j4 ≤ 576)
    (l1 : (((((S 26 2) < 0) ∨ (¬ (S 26 2) < 0 ∧ 12 ≤ (S 26 2)) ∨ (¬ (S 26 2) < 0 ∧ ¬ 12 ≤ (S 26 2) ∧ (S 21 j1) ≤ 0))) ∨ (¬ (S 26 2) < 0 ∧ ¬ 12 ≤ (S 26 2) ∧ ¬ (S 21 j1) ≤ 0 ∧ (S 22 j1) = (((S 26 3) * 256) + (S 26 j2)) ∧ ((((S 21 j1) + 8) - 1) / 8) ≤ (S 26 5)) ∨ (¬ (S 26 2) < 0 ∧ ¬ 12 ≤ (S 26 2) ∧ ¬ (S 21 j1) ≤ 0 ∧ (S 22 j1) = (((S 26 3) * 256) + (S 26 j2)) ∧ ¬ ((((S 21 j1) + 8) - 1) / 8) ≤ (S 26 5) ∧ 8 ≤ ((S 21 j1) - ((S 26 5) * 8)) ∧ ¬ a2 = 8) ∨ (¬ (S 26 2) < 0 ∧ ¬ 12 ≤ (S 26 2) ∧ ¬ (S 21 j1) ≤ 0 ∧ (S 22 j1) = (((S 26 3) * 256) + (S 26 j2)) ∧ ¬ ((((S 21 j1) + 8) - 1) / 8) ≤ (S 26 5) ∧ ¬ 8 ≤ ((S 21 j1) - ((S 26 5) * 8)) ∧ ¬ a2 = ((S 21 j1) - ((S 26 5) * 8))) ∨ (¬ (S 26 2) < 0 ∧ ¬ 12 ≤ (S 26 2) ∧ ¬ (S 21 j1) ≤ 0 ∧ ¬ (S 22 j1) = (((S 26 3) * 256) + (S 26 j2)))) → Q (some 0) GG S)
    (l2 : ((¬ (S 26 2) < 0 ∧ ¬ 12 ≤ (S 26 2) ∧ ¬ (S 21 j1) ≤ 0 ∧ (S 22 j1) = (((S 26 3) * 256) + (S 26 j2)) ∧ ¬ ((((S 21 j1) + 8) - 1) / 8) ≤ (S 26 5) ∧ 8 ≤ ((S 21 j1) - ((S 26 5) * 8)) ∧ a2 = 8) ∨ (¬ (S 26 2) < 0 ∧ ¬ 12 ≤ (S 26 2) ∧ ¬ (S 21 j1) ≤ 0 ∧ (S 22 j1) = (((S 26 3) * 256) + (S 26 j2)) ∧ ¬ ((((S 21 j1) + 8) - 1) / 8) ≤ (S 26 5) ∧ ¬ 8 ≤ ((S 21 j1) - ((S 26 5) * 8)) ∧ a2 = ((S 21 j1) - ((S 26 5) * 8)))) → Q (some 1) GG (zm_up (zm_upA S 24 (va_cpy (S 26) (S 24) 6 j3 j4)) 23 j1 ((S 23 j1) ||| (1 <<< ((S 26 5) &&& 31))))) :
    zw M_Mt_takeBlock (d + 1) Q 0 [some (.ref 20), some (.ref 26), some (.int a2), none, none, none] [] S := by
  refine zr_aload_n (i := 1) (x := 26) (n := 1) d_Mt_takeBlock_0 rfl rfl rfl ?_
  refine zr_iconst (v := 2) (n := 2) d_Mt_takeBlock_1 rfl (by decide) ?_
  refine zr_iaload 2 (n := 3) d_Mt_takeBlock_2 rfl gg_26 (zm_ixN (Nat.le_of_ble_eq_true rfl) (Nat.le_of_ble_eq_true rfl)) ?_
  refine zr_istore_n (i := 3) (L' := [some (.ref 20), some (.ref 26), some (.int a2), some (.int (S 26 2)), none, none]) (n := 4) d_Mt_takeBlock_3 rfl rfl rfl rfl ?_
  refine zr_aload_n (i := 1) (x := 26) (n := 5) d_Mt_takeBlock_4 rfl rfl rfl ?_
  refine zr_iconst (v := 5) (n := 6) d_Mt_takeBlock_5 rfl (by decide) ?_
  refine zr_iaload 5 (n := 7) d_Mt_takeBlock_6 rfl gg_26 (zm_ixN (Nat.le_of_ble_eq_true rfl) (Nat.le_of_ble_eq_true rfl)) ?_
  refine zr_istore (i := 4) (L' := [some (.ref 20), some (.ref 26), some (.int a2), some (.int (S 26 2)), some (.int (S 26 5)), none]) (n := 9) d_Mt_takeBlock_7 rfl rfl rfl ?_
  refine zr_aload_n (i := 0) (x := 20) (n := 10) d_Mt_takeBlock_9 rfl rfl rfl ?_
  refine zr_iload_n (i := 3) (x := (S 26 2)) (n := 11) d_Mt_takeBlock_10 rfl rfl rfl ?_
  refine zr_callV (M' := M_Mt_isListed) (mc' := 0) (ms' := 0) (av := [.int (S 26 2)]) (rest := []) (n := 14) d_Mt_takeBlock_11 rfl w_Mt_40 w_Mt_40k gg_20 rfl rfl rfl rfl rfl rfl (Nat.le_refl _) (Nat.le_refl _) ?_
  refine c_Mt_isListed (a1 := (S 26 2)) j1 o1 (fun h1 => ?_) (fun h2 h3 h4 => ?_)
  · refine zr_if_eq (tgt := 31) (n := 17) d_Mt_takeBlock_14 rfl (by decide) (fun _ => ?_) (fun h => absurd h (by decide))
    refine zr_iconst (v := 0) (n := 32) d_Mt_takeBlock_31 rfl (by decide) ?_
    exact zr_ireturn d_Mt_takeBlock_32 rfl (by decide) (Nat.le_refl _) (Nat.le_refl _) (l1 (Or.inl h1))
  · refine zr_if_eq (tgt := 31) (n := 17) d_Mt_takeBlock_14 rfl (by decide) (fun h => absurd h (by decide)) (fun _ => ?_)
    refine zr_aload_n (i := 0) (x := 20) (n := 18) d_Mt_takeBlock_17 rfl rfl rfl ?_
    refine zr_getr (n := 21) d_Mt_takeBlock_18 rfl f_Mt_23 gg_20 rfl ?_
    refine zr_iload_n (i := 3) (x := (S 26 2)) (n := 22) d_Mt_takeBlock_21 rfl rfl rfl ?_
    refine zr_iaload j1 (n := 23) d_Mt_takeBlock_22 rfl gg_22 (o2 h2 h3 h4) ?_
    refine zr_aload_n (i := 1) (x := 26) (n := 24) d_Mt_takeBlock_23 rfl rfl rfl ?_
    refine zr_iconst (v := 3) (n := 25) d_Mt_takeBlock_24 rfl (by decide) ?_
    refine zr_callS (M' := M_CM_pairAt) (mc' := 0) (ms' := 0) (av := [.ref 26, .int 3]) (rest := [.int (S 22 j1)]) (n := 28) d_Mt_takeBlock_25 rfl w_Mt_36 w_Mt_36k rfl rfl rfl rfl rfl (Nat.le_refl _) (Nat.le_refl _) ?_
    refine c_CM_pairAt (a1 := 3) 3 j2 (zm_ixN (Nat.le_of_ble_eq_true rfl) (Nat.le_of_ble_eq_true rfl)) (o3 h2 h3 h4) ?_
    refine zr_icmp_eq (tgt := 33) (n := 31) d_Mt_takeBlock_28 rfl (by decide) (fun h5 => ?_) (fun h5 => ?_)
    · refine zr_iload (i := 4) (x := (S 26 5)) (n := 35) d_Mt_takeBlock_33 rfl rfl ?_
      refine zr_aload_n (i := 0) (x := 20) (n := 36) d_Mt_takeBlock_35 rfl rfl rfl ?_
      refine zr_getr (n := 39) d_Mt_takeBlock_36 rfl f_Mt_19 gg_20 rfl ?_
      refine zr_iload_n (i := 3) (x := (S 26 2)) (n := 40) d_Mt_takeBlock_39 rfl rfl rfl ?_
      refine zr_iaload j1 (n := 41) d_Mt_takeBlock_40 rfl gg_21 (o2 h2 h3 h4) ?_
      refine zr_callS (M' := M_CM_blocksIn) (mc' := 0) (ms' := 0) (av := [.int (S 21 j1)]) (rest := [.int (S 26 5)]) (n := 44) d_Mt_takeBlock_41 rfl w_Mt_44 w_Mt_44k rfl rfl rfl rfl rfl (Nat.le_refl _) (Nat.le_refl _) ?_
      refine c_CM_blocksIn (a0 := (S 21 j1)) ?_
      refine zr_icmp_ge (tgt := 62) (n := 47) d_Mt_takeBlock_44 rfl (by decide) (fun h6 => ?_) (fun h6 => ?_)
      · refine zr_iconst (v := 0) (n := 63) d_Mt_takeBlock_62 rfl (by decide) ?_
        exact zr_ireturn d_Mt_takeBlock_63 rfl (by decide) (Nat.le_refl _) (Nat.le_refl _) (l1 (Or.inr (Or.inl ⟨h2, h3, h4, h5, h6⟩)))
      · refine zr_iload_n (i := 2) (x := a2) (n := 48) d_Mt_takeBlock_47 rfl rfl rfl ?_
        refine zr_aload_n (i := 0) (x := 20) (n := 49) d_Mt_takeBlock_48 rfl rfl rfl ?_
        refine zr_getr (n := 52) d_Mt_takeBlock_49 rfl f_Mt_19 gg_20 rfl ?_
        refine zr_iload_n (i := 3) (x := (S 26 2)) (n := 53) d_Mt_takeBlock_52 rfl rfl rfl ?_
        refine zr_iaload j1 (n := 54) d_Mt_takeBlock_53 rfl gg_21 (o2 h2 h3 h4) ?_
        refine zr_iload (i := 4) (x := (S 26 5)) (n := 56) d_Mt_takeBlock_54 rfl rfl ?_
        refine zr_callS (M' := M_CM_blockLength) (mc' := 0) (ms' := 0) (av := [.int (S 21 j1), .int (S 26 5)]) (rest := [.int a2]) (n := 59) d_Mt_takeBlock_56 rfl w_Mt_48 w_Mt_48k rfl rfl rfl rfl rfl (Nat.le_refl _) (Nat.le_refl _) ?_
        refine c_CM_blockLength (a0 := (S 21 j1)) (a1 := (S 26 5)) (fun h7 => ?_) (fun h8 => ?_)
        · refine zr_icmp_eq (tgt := 64) (n := 62) d_Mt_takeBlock_59 rfl (by decide) (fun h9 => ?_) (fun h9 => ?_)
          · refine zr_iload_n (i := 3) (x := (S 26 2)) (n := 65) d_Mt_takeBlock_64 rfl rfl rfl ?_
            refine zr_bipush (v := 48) (n := 67) d_Mt_takeBlock_65 rfl (by decide) ?_
            refine zr_imul (n := 68) d_Mt_takeBlock_67 rfl ?_
            refine zr_iload (i := 4) (x := (S 26 5)) (n := 70) d_Mt_takeBlock_68 rfl rfl ?_
            refine zr_bipush (v := 8) (n := 72) d_Mt_takeBlock_70 rfl (by decide) ?_
            refine zr_imul (n := 73) d_Mt_takeBlock_72 rfl ?_
            refine zr_iadd (n := 74) d_Mt_takeBlock_73 rfl ?_
            refine zr_istore (i := 5) (L' := [some (.ref 20), some (.ref 26), some (.int a2), some (.int (S 26 2)), some (.int (S 26 5)), some (.int (((S 26 2) * 48) + ((S 26 5) * 8)))]) (n := 76) d_Mt_takeBlock_74 rfl rfl rfl ?_
            refine zr_aload_n (i := 1) (x := 26) (n := 77) d_Mt_takeBlock_76 rfl rfl rfl ?_
            refine zr_bipush (v := 6) (n := 79) d_Mt_takeBlock_77 rfl (by decide) ?_
            refine zr_aload_n (i := 0) (x := 20) (n := 80) d_Mt_takeBlock_79 rfl rfl rfl ?_
            refine zr_getr (n := 83) d_Mt_takeBlock_80 rfl f_Mt_29 gg_20 rfl ?_
            refine zr_iload (i := 5) (x := (((S 26 2) * 48) + ((S 26 5) * 8))) (n := 85) d_Mt_takeBlock_83 rfl rfl ?_
            refine zr_iload_n (i := 2) (x := a2) (n := 86) d_Mt_takeBlock_85 rfl rfl rfl ?_
            refine zr_copy (n := 89) 6 j3 j4 d_Mt_takeBlock_86 rfl acw_Mt gg_26 gg_24 ⟨(by decide), (by decide)⟩ (o4 h2 h3 h4 h5 h6 h7 h9) (o5 h2 h3 h4 h5 h6 h7 h9) (o6 h2 h3 h4 h5 h6 h7 h9) (o7 h2 h3 h4 h5 h6 h7 h9) rfl ?_
            refine zr_aload_n (i := 0) (x := 20) (n := 90) d_Mt_takeBlock_89 rfl rfl rfl ?_
            refine zr_getr (n := 93) d_Mt_takeBlock_90 rfl f_Mt_26 gg_20 rfl ?_
            refine zr_iload_n (i := 3) (x := (S 26 2)) (n := 94) d_Mt_takeBlock_93 rfl rfl rfl ?_
            refine zr_dup2 (n := 95) d_Mt_takeBlock_94 rfl rfl rfl ?_
            refine zr_iaload j1 (n := 96) d_Mt_takeBlock_95 rfl gg_23 (o2 h2 h3 h4) ?_
            refine zr_iconst (v := 1) (n := 97) d_Mt_takeBlock_96 rfl (by decide) ?_
            refine zr_iload (i := 4) (x := (S 26 5)) (n := 99) d_Mt_takeBlock_97 rfl rfl ?_
            refine zr_ishl (n := 100) d_Mt_takeBlock_99 rfl ?_
            refine zr_ior (n := 101) d_Mt_takeBlock_100 rfl ?_
            refine zr_iastore j1 (n := 102) d_Mt_takeBlock_101 rfl gg_23 (o2 h2 h3 h4) ?_
            refine zr_iconst (v := 1) (n := 103) d_Mt_takeBlock_102 rfl (by decide) ?_
            exact zr_ireturn d_Mt_takeBlock_103 rfl (by decide) (Nat.le_refl _) (Nat.le_refl _) (l2 (Or.inl ⟨h2, h3, h4, h5, h6, h7, h9⟩))
          · refine zr_iconst (v := 0) (n := 63) d_Mt_takeBlock_62 rfl (by decide) ?_
            exact zr_ireturn d_Mt_takeBlock_63 rfl (by decide) (Nat.le_refl _) (Nat.le_refl _) (l1 (Or.inr (Or.inr (Or.inl ⟨h2, h3, h4, h5, h6, h7, h9⟩))))
        · refine zr_icmp_eq (tgt := 64) (n := 62) d_Mt_takeBlock_59 rfl (by decide) (fun h10 => ?_) (fun h10 => ?_)
          · refine zr_iload_n (i := 3) (x := (S 26 2)) (n := 65) d_Mt_takeBlock_64 rfl rfl rfl ?_
            refine zr_bipush (v := 48) (n := 67) d_Mt_takeBlock_65 rfl (by decide) ?_
            refine zr_imul (n := 68) d_Mt_takeBlock_67 rfl ?_
            refine zr_iload (i := 4) (x := (S 26 5)) (n := 70) d_Mt_takeBlock_68 rfl rfl ?_
            refine zr_bipush (v := 8) (n := 72) d_Mt_takeBlock_70 rfl (by decide) ?_
            refine zr_imul (n := 73) d_Mt_takeBlock_72 rfl ?_
            refine zr_iadd (n := 74) d_Mt_takeBlock_73 rfl ?_
            refine zr_istore (i := 5) (L' := [some (.ref 20), some (.ref 26), some (.int a2), some (.int (S 26 2)), some (.int (S 26 5)), some (.int (((S 26 2) * 48) + ((S 26 5) * 8)))]) (n := 76) d_Mt_takeBlock_74 rfl rfl rfl ?_
            refine zr_aload_n (i := 1) (x := 26) (n := 77) d_Mt_takeBlock_76 rfl rfl rfl ?_
            refine zr_bipush (v := 6) (n := 79) d_Mt_takeBlock_77 rfl (by decide) ?_
            refine zr_aload_n (i := 0) (x := 20) (n := 80) d_Mt_takeBlock_79 rfl rfl rfl ?_
            refine zr_getr (n := 83) d_Mt_takeBlock_80 rfl f_Mt_29 gg_20 rfl ?_
            refine zr_iload (i := 5) (x := (((S 26 2) * 48) + ((S 26 5) * 8))) (n := 85) d_Mt_takeBlock_83 rfl rfl ?_
            refine zr_iload_n (i := 2) (x := a2) (n := 86) d_Mt_takeBlock_85 rfl rfl rfl ?_
            refine zr_copy (n := 89) 6 j3 j4 d_Mt_takeBlock_86 rfl acw_Mt gg_26 gg_24 ⟨(by decide), (by decide)⟩ (o8 h2 h3 h4 h5 h6 h8 h10) (o9 h2 h3 h4 h5 h6 h8 h10) (o10 h2 h3 h4 h5 h6 h8 h10) (o11 h2 h3 h4 h5 h6 h8 h10) rfl ?_
            refine zr_aload_n (i := 0) (x := 20) (n := 90) d_Mt_takeBlock_89 rfl rfl rfl ?_
            refine zr_getr (n := 93) d_Mt_takeBlock_90 rfl f_Mt_26 gg_20 rfl ?_
            refine zr_iload_n (i := 3) (x := (S 26 2)) (n := 94) d_Mt_takeBlock_93 rfl rfl rfl ?_
            refine zr_dup2 (n := 95) d_Mt_takeBlock_94 rfl rfl rfl ?_
            refine zr_iaload j1 (n := 96) d_Mt_takeBlock_95 rfl gg_23 (o2 h2 h3 h4) ?_
            refine zr_iconst (v := 1) (n := 97) d_Mt_takeBlock_96 rfl (by decide) ?_
            refine zr_iload (i := 4) (x := (S 26 5)) (n := 99) d_Mt_takeBlock_97 rfl rfl ?_
            refine zr_ishl (n := 100) d_Mt_takeBlock_99 rfl ?_
            refine zr_ior (n := 101) d_Mt_takeBlock_100 rfl ?_
            refine zr_iastore j1 (n := 102) d_Mt_takeBlock_101 rfl gg_23 (o2 h2 h3 h4) ?_
            refine zr_iconst (v := 1) (n := 103) d_Mt_takeBlock_102 rfl (by decide) ?_
            exact zr_ireturn d_Mt_takeBlock_103 rfl (by decide) (Nat.le_refl _) (Nat.le_refl _) (l2 (Or.inr ⟨h2, h3, h4, h5, h6, h8, h10⟩))
          · refine zr_iconst (v := 0) (n := 63) d_Mt_takeBlock_62 rfl (by decide) ?_
            exact zr_ireturn d_Mt_takeBlock_63 rfl (by decide) (Nat.le_refl _) (Nat.le_refl _) (l1 (Or.inr (Or.inr (Or.inr (Or.inl ⟨h2, h3, h4, h5, h6, h8, h10⟩)))))
    · refine zr_iconst (v := 0) (n := 32) d_Mt_takeBlock_31 rfl (by decide) ?_
      exact zr_ireturn d_Mt_takeBlock_32 rfl (by decide) (Nat.le_refl _) (Nat.le_refl _) (l1 (Or.inr (Or.inr (Or.inr (Or.inr ⟨h2, h3, h4, h5⟩)))))
theorem e_Mt_takeBlock {d : Nat} {Q : zm_Q} {S : zm_S} {a2 : Int32} (h : zw M_Mt_takeBlock (d + 1) Q 0 [some (.ref 20), some (.ref 26), some (.int a2), none, none, none] [] S) : zc M_Mt_takeBlock (d + 1) [.ref 20, .ref 26, .int a2] S Q := zm_CC_intro (by decide) rfl rfl h
theorem s_Mt_blocksHeld_0 {d : Nat} {Q : zm_Q} {S : zm_S} {a1 : Int32} (j1 : Nat) (o1 : zm_ix a1 j1 12)
    (l1 : zc M_Int_bitCount d [.int (S 23 j1)] S (fun v G' S' => zm_WP M_Mt_blocksHeld none (d + 1) 0 0 Q 9 [none, none] (zm_ps v []) G' S' 0 0)) :
    zw M_Mt_blocksHeld (d + 1) Q 0 [some (.ref 20), some (.int a1)] [] S := by
  refine zr_aload_n (i := 0) (x := 20) (n := 1) d_Mt_blocksHeld_0 rfl rfl rfl ?_
  refine zr_getr (n := 4) d_Mt_blocksHeld_1 rfl f_Mt_26 gg_20 rfl ?_
  refine zr_iload_n (i := 1) (x := a1) (n := 5) d_Mt_blocksHeld_4 rfl rfl rfl ?_
  refine zr_iaload j1 (n := 6) d_Mt_blocksHeld_5 rfl gg_23 o1 ?_
  refine zr_weak (zm_LE.skip (zm_LE.skip zm_LE.nil)) ?_
  refine zr_callS (M' := M_Int_bitCount) (mc' := 0) (ms' := 0) (av := [.int (S 23 j1)]) (rest := []) (n := 9) d_Mt_blocksHeld_6 rfl w_Mt_58 w_Mt_58k rfl rfl rfl rfl rfl (Nat.le_refl _) (Nat.le_refl _) ?_
  exact l1
theorem s_Mt_blocksHeld_9 {d : Nat} {Q : zm_Q} {S : zm_S} {r : Int32}
    (l1 : Q (some r) GG S) :
    zw M_Mt_blocksHeld (d + 1) Q 9 [none, none] [.int r] S := by
  exact zr_ireturn d_Mt_blocksHeld_9 rfl rfl (Nat.le_refl _) (Nat.le_refl _) l1
theorem e_Mt_blocksHeld {d : Nat} {Q : zm_Q} {S : zm_S} {a1 : Int32} (h : zw M_Mt_blocksHeld (d + 1) Q 0 [some (.ref 20), some (.int a1)] [] S) : zc M_Mt_blocksHeld (d + 1) [.ref 20, .int a1] S Q := zm_CC_intro (by decide) rfl rfl h
theorem s_Mt_obstacle_0 {d : Nat} {Q : zm_Q} {S : zm_S} {a1 : Int32} (j1 : Nat) (o1 : ¬ (S 20 0) = 0 → ¬ a1 < 0 → ¬ 12 ≤ a1 → zm_ix a1 j1 12)
    (l1 : ¬ (S 20 0) = 0 → ((a1 < 0) ∨ (¬ a1 < 0 ∧ 12 ≤ a1) ∨ (¬ a1 < 0 ∧ ¬ 12 ≤ a1 ∧ (S 21 j1) ≤ 0)) → Q (some (-2)) GG S)
    (l2 : ¬ (S 20 0) = 0 → ¬ a1 < 0 → ¬ 12 ≤ a1 → ¬ (S 21 j1) ≤ 0 → zc M_Mt_blocksHeld (d + 1) [.ref 20, .int a1] S (fun v G' S' => zm_WP M_Mt_obstacle none (d + 2) 0 0 Q 26 [some (.ref 20), some (.int a1)] (zm_ps v []) G' S' 0 0))
    (l3 : (S 20 0) = 0 → Q (some (-6)) GG S) :
    zw M_Mt_obstacle (d + 2) Q 0 [some (.ref 20), some (.int a1)] [] S := by
  refine zr_aload_n (i := 0) (x := 20) (n := 1) d_Mt_obstacle_0 rfl rfl rfl ?_
  refine zr_geti (n := 4) d_Mt_obstacle_1 rfl f_Mt_9 gg_20 rfl ?_
  refine zr_if_ne (tgt := 10) (n := 7) d_Mt_obstacle_4 rfl (by decide) (fun h1 => ?_) (fun h1 => ?_)
  · refine zr_aload_n (i := 0) (x := 20) (n := 11) d_Mt_obstacle_10 rfl rfl rfl ?_
    refine zr_iload_n (i := 1) (x := a1) (n := 12) d_Mt_obstacle_11 rfl rfl rfl ?_
    refine zr_callV (M' := M_Mt_isListed) (mc' := 0) (ms' := 0) (av := [.int a1]) (rest := []) (n := 15) d_Mt_obstacle_12 rfl w_Mt_40 w_Mt_40k gg_20 rfl rfl rfl rfl rfl rfl (Nat.le_refl _) (Nat.le_refl _) ?_
    refine c_Mt_isListed (a1 := a1) j1 (o1 h1) (fun h2 => ?_) (fun h3 h4 h5 => ?_)
    · refine zr_if_ne (tgt := 21) (n := 18) d_Mt_obstacle_15 rfl (by decide) (fun h => absurd h (by decide)) (fun _ => ?_)
      refine zr_bipush (v := (-2)) (n := 20) d_Mt_obstacle_18 rfl (by decide) ?_
      exact zr_ireturn d_Mt_obstacle_20 rfl rfl (Nat.le_refl _) (Nat.le_refl _) (l1 h1 h2)
    · refine zr_if_ne (tgt := 21) (n := 18) d_Mt_obstacle_15 rfl (by decide) (fun _ => ?_) (fun h => absurd h (by decide))
      refine zr_aload_n (i := 0) (x := 20) (n := 22) d_Mt_obstacle_21 rfl rfl rfl ?_
      refine zr_iload_n (i := 1) (x := a1) (n := 23) d_Mt_obstacle_22 rfl rfl rfl ?_
      refine zr_callV (M' := M_Mt_blocksHeld) (mc' := 0) (ms' := 0) (av := [.int a1]) (rest := []) (n := 26) d_Mt_obstacle_23 rfl w_Mt_63 w_Mt_63k gg_20 rfl rfl rfl rfl rfl rfl (Nat.le_refl _) (Nat.le_refl _) ?_
      exact (l2 h1 h3 h4 h5)
  · refine zr_bipush (v := (-6)) (n := 9) d_Mt_obstacle_7 rfl (by decide) ?_
    exact zr_ireturn d_Mt_obstacle_9 rfl rfl (Nat.le_refl _) (Nat.le_refl _) (l3 h1)
theorem s_Mt_obstacle_26 {d : Nat} {Q : zm_Q} {S : zm_S} {a1 r : Int32} (j1 : Nat) (o1 : zm_ix a1 j1 12)
    (l1 : ¬ r = ((((S 21 j1) + 8) - 1) / 8) → Q (some (-6)) GG S)
    (l2 : r = ((((S 21 j1) + 8) - 1) / 8) → Q (some 0) GG S) :
    zw M_Mt_obstacle (d + 2) Q 26 [some (.ref 20), some (.int a1)] [.int r] S := by
  refine zr_aload_n (i := 0) (x := 20) (n := 27) d_Mt_obstacle_26 rfl rfl rfl ?_
  refine zr_getr (n := 30) d_Mt_obstacle_27 rfl f_Mt_19 gg_20 rfl ?_
  refine zr_iload_n (i := 1) (x := a1) (n := 31) d_Mt_obstacle_30 rfl rfl rfl ?_
  refine zr_iaload j1 (n := 32) d_Mt_obstacle_31 rfl gg_21 o1 ?_
  refine zr_weak (zm_LE.skip (zm_LE.skip zm_LE.nil)) ?_
  refine zr_callS (M' := M_CM_blocksIn) (mc' := 0) (ms' := 0) (av := [.int (S 21 j1)]) (rest := [.int r]) (n := 35) d_Mt_obstacle_32 rfl w_Mt_44 w_Mt_44k rfl rfl rfl rfl rfl (Nat.le_refl _) (Nat.le_refl _) ?_
  refine c_CM_blocksIn (a0 := (S 21 j1)) ?_
  refine zr_icmp_ne (tgt := 42) (n := 38) d_Mt_obstacle_35 rfl (by decide) (fun h1 => ?_) (fun h1 => ?_)
  · refine zr_bipush (v := (-6)) (n := 44) d_Mt_obstacle_42 rfl (by decide) ?_
    exact zr_ireturn d_Mt_obstacle_44 rfl rfl (Nat.le_refl _) (Nat.le_refl _) (l1 h1)
  · refine zr_iconst (v := 0) (n := 39) d_Mt_obstacle_38 rfl (by decide) ?_
    refine zr_goto (tgt := 44) d_Mt_obstacle_39 (by decide) ?_
    exact zr_ireturn d_Mt_obstacle_44 rfl rfl (Nat.le_refl _) (Nat.le_refl _) (l2 h1)
theorem e_Mt_obstacle {d : Nat} {Q : zm_Q} {S : zm_S} {a1 : Int32} (h : zw M_Mt_obstacle (d + 2) Q 0 [some (.ref 20), some (.int a1)] [] S) : zc M_Mt_obstacle (d + 2) [.ref 20, .int a1] S Q := zm_CC_intro (by decide) rfl rfl h
theorem s_Mt_gateway_0 {d : Nat} {Q : zm_Q} {S : zm_S}
    (l1 : zc M_Mt_obstacle (d + 2) [.ref 20, .int 0] S (fun v G' S' => zm_WP M_Mt_gateway none (d + 3) 0 0 Q 5 [some (.ref 20), none] (zm_ps v []) G' S' 0 0)) :
    zw M_Mt_gateway (d + 3) Q 0 [some (.ref 20), none] [] S := by
  refine zr_aload_n (i := 0) (x := 20) (n := 1) d_Mt_gateway_0 rfl rfl rfl ?_
  refine zr_iconst (v := 0) (n := 2) d_Mt_gateway_1 rfl (by decide) ?_
  refine zr_callV (M' := M_Mt_obstacle) (mc' := 0) (ms' := 0) (av := [.int 0]) (rest := []) (n := 5) d_Mt_gateway_2 rfl w_Mt_66 w_Mt_66k gg_20 rfl rfl rfl rfl rfl rfl (Nat.le_refl _) (Nat.le_refl _) ?_
  exact l1
theorem s_Mt_gateway_5 {d : Nat} {Q : zm_Q} {S : zm_S} {r : Int32} (j1 : Nat) (o1 : 0 ≤ r → ¬ (S 21 0) < (0 + 3) → zm_ix (0 + 2) j1 576)
    (l1 : ((0 ≤ r ∧ (((S 21 0) < (0 + 3)) ∨ (¬ (S 21 0) < (0 + 3) ∧ (S 21 0) < ((0 + 3) + (S 24 j1))))) ∨ (0 ≤ r ∧ ¬ (S 21 0) < (0 + 3) ∧ ¬ (S 21 0) < ((0 + 3) + (S 24 j1)) ∧ ¬ (S 24 0) = 1)) → Q (some (-2)) GG S)
    (l2 : 0 ≤ r → ¬ (S 21 0) < (0 + 3) → ¬ (S 21 0) < ((0 + 3) + (S 24 j1)) → (S 24 0) = 1 → Q (some 0) GG S)
    (l3 : ¬ 0 ≤ r → Q (some r) GG S) :
    zw M_Mt_gateway (d + 3) Q 5 [some (.ref 20), none] [.int r] S := by
  refine zr_istore_n (i := 1) (L' := [some (.ref 20), some (.int r)]) (n := 6) d_Mt_gateway_5 rfl rfl rfl rfl ?_
  refine zr_iload_n (i := 1) (x := r) (n := 7) d_Mt_gateway_6 rfl rfl rfl ?_
  refine zr_if_ge (tgt := 12) (n := 10) d_Mt_gateway_7 rfl (by decide) (fun h1 => ?_) (fun h1 => ?_)
  · refine zr_aload_n (i := 0) (x := 20) (n := 13) d_Mt_gateway_12 rfl rfl rfl ?_
    refine zr_iconst (v := 0) (n := 14) d_Mt_gateway_13 rfl (by decide) ?_
    refine zr_aload_n (i := 0) (x := 20) (n := 15) d_Mt_gateway_14 rfl rfl rfl ?_
    refine zr_getr (n := 18) d_Mt_gateway_15 rfl f_Mt_19 gg_20 rfl ?_
    refine zr_iconst (v := 0) (n := 19) d_Mt_gateway_18 rfl (by decide) ?_
    refine zr_iaload 0 (n := 20) d_Mt_gateway_19 rfl gg_21 (zm_ixN (Nat.le_of_ble_eq_true rfl) (Nat.le_of_ble_eq_true rfl)) ?_
    refine zr_weak (zm_LE.cons (zm_LE.skip zm_LE.nil)) ?_
    refine zr_callV (M' := M_Mt_fits) (mc' := 0) (ms' := 0) (av := [.int 0, .int (S 21 0)]) (rest := []) (n := 23) d_Mt_gateway_20 rfl w_Mt_69 w_Mt_69k gg_20 rfl rfl rfl rfl rfl rfl (Nat.le_refl _) (Nat.le_refl _) ?_
    refine c_Mt_fits (a1 := 0) (a2 := (S 21 0)) j1 (o1 h1) (fun h2 => ?_) (fun h3 h4 => ?_)
    · refine zr_if_eq (tgt := 39) (n := 26) d_Mt_gateway_23 rfl (by decide) (fun _ => ?_) (fun h => absurd h (by decide))
      refine zr_bipush (v := (-2)) (n := 41) d_Mt_gateway_39 rfl (by decide) ?_
      exact zr_ireturn d_Mt_gateway_41 rfl rfl (Nat.le_refl _) (Nat.le_refl _) (l1 (Or.inl ⟨h1, h2⟩))
    · refine zr_if_eq (tgt := 39) (n := 26) d_Mt_gateway_23 rfl (by decide) (fun h => absurd h (by decide)) (fun _ => ?_)
      refine zr_aload_n (i := 0) (x := 20) (n := 27) d_Mt_gateway_26 rfl rfl rfl ?_
      refine zr_iconst (v := 0) (n := 28) d_Mt_gateway_27 rfl (by decide) ?_
      refine zr_weak (zm_LE.skip (zm_LE.cons zm_LE.nil)) ?_
      refine zr_callV (M' := M_Mt_kindAt) (mc' := 0) (ms' := 0) (av := [.int 0]) (rest := []) (n := 31) d_Mt_gateway_28 rfl w_Mt_73 w_Mt_73k gg_20 rfl rfl rfl rfl rfl rfl (Nat.le_refl _) (Nat.le_refl _) ?_
      refine c_Mt_kindAt (a1 := 0) 0 (zm_ixN (Nat.le_of_ble_eq_true rfl) (Nat.le_of_ble_eq_true rfl)) ?_
      refine zr_iconst (v := 1) (n := 32) d_Mt_gateway_31 rfl (by decide) ?_
      refine zr_icmp_ne (tgt := 39) (n := 35) d_Mt_gateway_32 rfl (by decide) (fun h5 => ?_) (fun h5 => ?_)
      · refine zr_bipush (v := (-2)) (n := 41) d_Mt_gateway_39 rfl (by decide) ?_
        exact zr_ireturn d_Mt_gateway_41 rfl rfl (Nat.le_refl _) (Nat.le_refl _) (l1 (Or.inr ⟨h1, h3, h4, h5⟩))
      · refine zr_iconst (v := 0) (n := 36) d_Mt_gateway_35 rfl (by decide) ?_
        refine zr_goto (tgt := 41) d_Mt_gateway_36 (by decide) ?_
        exact zr_ireturn d_Mt_gateway_41 rfl rfl (Nat.le_refl _) (Nat.le_refl _) (l2 h1 h3 h4 h5)
  · refine zr_iload_n (i := 1) (x := r) (n := 11) d_Mt_gateway_10 rfl rfl rfl ?_
    exact zr_ireturn d_Mt_gateway_11 rfl rfl (Nat.le_refl _) (Nat.le_refl _) (l3 h1)
theorem e_Mt_gateway {d : Nat} {Q : zm_Q} {S : zm_S} (h : zw M_Mt_gateway (d + 3) Q 0 [some (.ref 20), none] [] S) : zc M_Mt_gateway (d + 3) [.ref 20] S Q := zm_CC_intro (by decide) rfl rfl h
theorem s_Mt_enter_0 {d : Nat} {Q : zm_Q} {S : zm_S} {a1 a2 : Int32} (j1 : Nat) (j2 : Nat) (o1 : zm_ix a1 j1 576) (o2 : (((S 24 j1) = 1) ∨ (¬ (S 24 j1) = 1 ∧ (S 24 j1) = 2)) → zm_ix (a1 + 2) j2 576)
    (l1 : (((S 24 j1) = 1) ∨ (¬ (S 24 j1) = 1 ∧ (S 24 j1) = 2)) → zw M_Mt_enter (d + 4) Q 22 [some (.ref 20), some (.int a1), some (.int a2), some (.int ((S 24 j2) / 4)), some (.int 0), none] [] S)
    (l2 : ¬ (S 24 j1) = 1 → ¬ (S 24 j1) = 2 → Q (some (-2)) GG S) :
    zw M_Mt_enter (d + 4) Q 0 [some (.ref 20), some (.int a1), some (.int a2), none, none, none] [] S := by
  refine zr_aload_n (i := 0) (x := 20) (n := 1) d_Mt_enter_0 rfl rfl rfl ?_
  refine zr_iload_n (i := 1) (x := a1) (n := 2) d_Mt_enter_1 rfl rfl rfl ?_
  refine zr_callV (M' := M_Mt_isDirectoryAt) (mc' := 0) (ms' := 0) (av := [.int a1]) (rest := []) (n := 5) d_Mt_enter_2 rfl w_Mt_76 w_Mt_76k gg_20 rfl rfl rfl rfl rfl rfl (Nat.le_refl _) (Nat.le_refl _) ?_
  refine c_Mt_isDirectoryAt (a1 := a1) j1 o1 (fun h1 => ?_) (fun h2 h3 => ?_)
  · refine zr_if_ne (tgt := 11) (n := 8) d_Mt_enter_5 rfl (by decide) (fun _ => ?_) (fun h => absurd h (by decide))
    refine zr_aload_n (i := 0) (x := 20) (n := 12) d_Mt_enter_11 rfl rfl rfl ?_
    refine zr_iload_n (i := 1) (x := a1) (n := 13) d_Mt_enter_12 rfl rfl rfl ?_
    refine zr_callV (M' := M_Mt_lengthAt) (mc' := 0) (ms' := 0) (av := [.int a1]) (rest := []) (n := 16) d_Mt_enter_13 rfl w_Mt_79 w_Mt_79k gg_20 rfl rfl rfl rfl rfl rfl (Nat.le_refl _) (Nat.le_refl _) ?_
    refine c_Mt_lengthAt (a1 := a1) j2 (o2 h1) ?_
    refine zr_iconst (v := 4) (n := 17) d_Mt_enter_16 rfl (by decide) ?_
    refine zr_idiv (n := 18) d_Mt_enter_17 rfl (by decide) ?_
    refine zr_istore_n (i := 3) (L' := [some (.ref 20), some (.int a1), some (.int a2), some (.int ((S 24 j2) / 4)), none, none]) (n := 19) d_Mt_enter_18 rfl rfl rfl rfl ?_
    refine zr_iconst (v := 0) (n := 20) d_Mt_enter_19 rfl (by decide) ?_
    refine zr_istore (i := 4) (L' := [some (.ref 20), some (.int a1), some (.int a2), some (.int ((S 24 j2) / 4)), some (.int 0), none]) (n := 22) d_Mt_enter_20 rfl rfl rfl ?_
    exact (l1 h1)
  · refine zr_if_ne (tgt := 11) (n := 8) d_Mt_enter_5 rfl (by decide) (fun h => absurd h (by decide)) (fun _ => ?_)
    refine zr_bipush (v := (-2)) (n := 10) d_Mt_enter_8 rfl (by decide) ?_
    exact zr_ireturn d_Mt_enter_10 rfl rfl (Nat.le_refl _) (Nat.le_refl _) (l2 h2 h3)
theorem s_Mt_enter_22 {d : Nat} {Q : zm_Q} {S : zm_S} {a1 a2 a3 a4 : Int32} (j1 : Nat) (j2 : Nat) (j3 : Nat) (o1 : ¬ a3 ≤ a4 → zm_ix ((a1 + 3) + (4 * a4)) j1 576) (o2 : ¬ a3 ≤ a4 → (S 24 j1) = a2 → zm_ix (((a1 + 3) + (4 * a4)) + 2) j2 576) (o3 : ¬ a3 ≤ a4 → (S 24 j1) = a2 → zm_ix (((a1 + 3) + (4 * a4)) + 3) j3 576)
    (l1 : a3 ≤ a4 → Q (some (-2)) GG S)
    (l2 : ¬ a3 ≤ a4 → ¬ (S 24 j1) = a2 → zw M_Mt_enter (d + 4) Q 22 [some (.ref 20), some (.int a1), some (.int a2), some (.int a3), some (.int (a4 + 1)), none] [] S)
    (l3 : ¬ a3 ≤ a4 → (S 24 j1) = a2 → zc M_Mt_messageWithKey (d + 3) [.ref 20, .int (S 24 j2), .int (S 24 j3)] S (fun v G' S' => zm_WP M_Mt_enter none (d + 4) 0 0 Q 71 [none, none, none, none, none, none] (zm_ps v []) G' S' 0 0)) :
    zw M_Mt_enter (d + 4) Q 22 [some (.ref 20), some (.int a1), some (.int a2), some (.int a3), some (.int a4), none] [] S := by
  refine zr_iload (i := 4) (x := a4) (n := 24) d_Mt_enter_22 rfl rfl ?_
  refine zr_iload_n (i := 3) (x := a3) (n := 25) d_Mt_enter_24 rfl rfl rfl ?_
  refine zr_icmp_ge (tgt := 78) (n := 28) d_Mt_enter_25 rfl (by decide) (fun h1 => ?_) (fun h1 => ?_)
  · refine zr_bipush (v := (-2)) (n := 80) d_Mt_enter_78 rfl (by decide) ?_
    exact zr_ireturn d_Mt_enter_80 rfl rfl (Nat.le_refl _) (Nat.le_refl _) (l1 h1)
  · refine zr_iload_n (i := 1) (x := a1) (n := 29) d_Mt_enter_28 rfl rfl rfl ?_
    refine zr_iconst (v := 3) (n := 30) d_Mt_enter_29 rfl (by decide) ?_
    refine zr_iadd (n := 31) d_Mt_enter_30 rfl ?_
    refine zr_iconst (v := 4) (n := 32) d_Mt_enter_31 rfl (by decide) ?_
    refine zr_iload (i := 4) (x := a4) (n := 34) d_Mt_enter_32 rfl rfl ?_
    refine zr_imul (n := 35) d_Mt_enter_34 rfl ?_
    refine zr_iadd (n := 36) d_Mt_enter_35 rfl ?_
    refine zr_istore (i := 5) (L' := [some (.ref 20), some (.int a1), some (.int a2), some (.int a3), some (.int a4), some (.int ((a1 + 3) + (4 * a4)))]) (n := 38) d_Mt_enter_36 rfl rfl rfl ?_
    refine zr_aload_n (i := 0) (x := 20) (n := 39) d_Mt_enter_38 rfl rfl rfl ?_
    refine zr_getr (n := 42) d_Mt_enter_39 rfl f_Mt_29 gg_20 rfl ?_
    refine zr_iload (i := 5) (x := ((a1 + 3) + (4 * a4))) (n := 44) d_Mt_enter_42 rfl rfl ?_
    refine zr_iaload j1 (n := 45) d_Mt_enter_44 rfl gg_24 (o1 h1) ?_
    refine zr_iload_n (i := 2) (x := a2) (n := 46) d_Mt_enter_45 rfl rfl rfl ?_
    refine zr_icmp_ne (tgt := 72) (n := 49) d_Mt_enter_46 rfl (by decide) (fun h2 => ?_) (fun h2 => ?_)
    · refine zr_iinc (i := 4) (w := 1) (x := a4) (L' := [some (.ref 20), some (.int a1), some (.int a2), some (.int a3), some (.int (a4 + 1)), some (.int ((a1 + 3) + (4 * a4)))]) (n := 75) d_Mt_enter_72 rfl (by decide) rfl rfl ?_
      refine zr_goto (tgt := 22) d_Mt_enter_75 (by decide) ?_
      exact zr_weak (zm_LE.cons (zm_LE.cons (zm_LE.cons (zm_LE.cons (zm_LE.cons (zm_LE.skip zm_LE.nil)))))) (l2 h1 h2)
    · refine zr_aload_n (i := 0) (x := 20) (n := 50) d_Mt_enter_49 rfl rfl rfl ?_
      refine zr_aload_n (i := 0) (x := 20) (n := 51) d_Mt_enter_50 rfl rfl rfl ?_
      refine zr_getr (n := 54) d_Mt_enter_51 rfl f_Mt_29 gg_20 rfl ?_
      refine zr_iload (i := 5) (x := ((a1 + 3) + (4 * a4))) (n := 56) d_Mt_enter_54 rfl rfl ?_
      refine zr_iconst (v := 2) (n := 57) d_Mt_enter_56 rfl (by decide) ?_
      refine zr_iadd (n := 58) d_Mt_enter_57 rfl ?_
      refine zr_iaload j2 (n := 59) d_Mt_enter_58 rfl gg_24 (o2 h1 h2) ?_
      refine zr_aload_n (i := 0) (x := 20) (n := 60) d_Mt_enter_59 rfl rfl rfl ?_
      refine zr_getr (n := 63) d_Mt_enter_60 rfl f_Mt_29 gg_20 rfl ?_
      refine zr_iload (i := 5) (x := ((a1 + 3) + (4 * a4))) (n := 65) d_Mt_enter_63 rfl rfl ?_
      refine zr_iconst (v := 3) (n := 66) d_Mt_enter_65 rfl (by decide) ?_
      refine zr_iadd (n := 67) d_Mt_enter_66 rfl ?_
      refine zr_iaload j3 (n := 68) d_Mt_enter_67 rfl gg_24 (o3 h1 h2) ?_
      refine zr_weak (zm_LE.skip (zm_LE.skip (zm_LE.skip (zm_LE.skip (zm_LE.skip (zm_LE.skip zm_LE.nil)))))) ?_
      refine zr_callV (M' := M_Mt_messageWithKey) (mc' := 0) (ms' := 0) (av := [.int (S 24 j2), .int (S 24 j3)]) (rest := []) (n := 71) d_Mt_enter_68 rfl w_Mt_82 w_Mt_82k gg_20 rfl rfl rfl rfl rfl rfl (Nat.le_refl _) (Nat.le_refl _) ?_
      exact (l3 h1 h2)
theorem s_Mt_enter_71 {d : Nat} {Q : zm_Q} {S : zm_S} {r : Int32}
    (l1 : Q (some r) GG S) :
    zw M_Mt_enter (d + 4) Q 71 [none, none, none, none, none, none] [.int r] S := by
  exact zr_ireturn d_Mt_enter_71 rfl rfl (Nat.le_refl _) (Nat.le_refl _) l1
theorem e_Mt_enter {d : Nat} {Q : zm_Q} {S : zm_S} {a1 a2 : Int32} (h : zw M_Mt_enter (d + 4) Q 0 [some (.ref 20), some (.int a1), some (.int a2), none, none, none] [] S) : zc M_Mt_enter (d + 4) [.ref 20, .int a1, .int a2] S Q := zm_CC_intro (by decide) rfl rfl h
theorem s_Mt_messageWithKey_0 {d : Nat} {Q : zm_Q} {S : zm_S} {a1 a2 : Int32}
    (l1 : zc M_Mt_obstacle (d + 2) [.ref 20, .int a1] S (fun v G' S' => zm_WP M_Mt_messageWithKey none (d + 3) 0 0 Q 5 [some (.ref 20), some (.int a1), some (.int a2), none, none, none, none] (zm_ps v []) G' S' 0 0)) :
    zw M_Mt_messageWithKey (d + 3) Q 0 [some (.ref 20), some (.int a1), some (.int a2), none, none, none, none] [] S := by
  refine zr_aload_n (i := 0) (x := 20) (n := 1) d_Mt_messageWithKey_0 rfl rfl rfl ?_
  refine zr_iload_n (i := 1) (x := a1) (n := 2) d_Mt_messageWithKey_1 rfl rfl rfl ?_
  refine zr_callV (M' := M_Mt_obstacle) (mc' := 0) (ms' := 0) (av := [.int a1]) (rest := []) (n := 5) d_Mt_messageWithKey_2 rfl w_Mt_66 w_Mt_66k gg_20 rfl rfl rfl rfl rfl rfl (Nat.le_refl _) (Nat.le_refl _) ?_
  exact l1
theorem s_Mt_messageWithKey_5 {d : Nat} {Q : zm_Q} {S : zm_S} {a1 a2 r : Int32} (j1 : Nat) (o1 : 0 ≤ r → zm_ix a1 j1 12)
    (l1 : 0 ≤ r → zw M_Mt_messageWithKey (d + 3) Q 32 [some (.ref 20), none, some (.int a2), none, some (.int (a1 * 48)), some (.int ((a1 * 48) + (S 21 j1))), some (.int 0)] [] S)
    (l2 : ¬ 0 ≤ r → Q (some r) GG S) :
    zw M_Mt_messageWithKey (d + 3) Q 5 [some (.ref 20), some (.int a1), some (.int a2), none, none, none, none] [.int r] S := by
  refine zr_istore_n (i := 3) (L' := [some (.ref 20), some (.int a1), some (.int a2), some (.int r), none, none, none]) (n := 6) d_Mt_messageWithKey_5 rfl rfl rfl rfl ?_
  refine zr_iload_n (i := 3) (x := r) (n := 7) d_Mt_messageWithKey_6 rfl rfl rfl ?_
  refine zr_if_ge (tgt := 12) (n := 10) d_Mt_messageWithKey_7 rfl (by decide) (fun h1 => ?_) (fun h1 => ?_)
  · refine zr_iload_n (i := 1) (x := a1) (n := 13) d_Mt_messageWithKey_12 rfl rfl rfl ?_
    refine zr_bipush (v := 48) (n := 15) d_Mt_messageWithKey_13 rfl (by decide) ?_
    refine zr_imul (n := 16) d_Mt_messageWithKey_15 rfl ?_
    refine zr_istore (i := 4) (L' := [some (.ref 20), some (.int a1), some (.int a2), some (.int r), some (.int (a1 * 48)), none, none]) (n := 18) d_Mt_messageWithKey_16 rfl rfl rfl ?_
    refine zr_iload (i := 4) (x := (a1 * 48)) (n := 20) d_Mt_messageWithKey_18 rfl rfl ?_
    refine zr_aload_n (i := 0) (x := 20) (n := 21) d_Mt_messageWithKey_20 rfl rfl rfl ?_
    refine zr_getr (n := 24) d_Mt_messageWithKey_21 rfl f_Mt_19 gg_20 rfl ?_
    refine zr_iload_n (i := 1) (x := a1) (n := 25) d_Mt_messageWithKey_24 rfl rfl rfl ?_
    refine zr_iaload j1 (n := 26) d_Mt_messageWithKey_25 rfl gg_21 (o1 h1) ?_
    refine zr_iadd (n := 27) d_Mt_messageWithKey_26 rfl ?_
    refine zr_istore (i := 5) (L' := [some (.ref 20), some (.int a1), some (.int a2), some (.int r), some (.int (a1 * 48)), some (.int ((a1 * 48) + (S 21 j1))), none]) (n := 29) d_Mt_messageWithKey_27 rfl rfl rfl ?_
    refine zr_iconst (v := 0) (n := 30) d_Mt_messageWithKey_29 rfl (by decide) ?_
    refine zr_istore (i := 6) (L' := [some (.ref 20), some (.int a1), some (.int a2), some (.int r), some (.int (a1 * 48)), some (.int ((a1 * 48) + (S 21 j1))), some (.int 0)]) (n := 32) d_Mt_messageWithKey_30 rfl rfl rfl ?_
    exact zr_weak (zm_LE.cons (zm_LE.skip (zm_LE.cons (zm_LE.skip (zm_LE.cons (zm_LE.cons (zm_LE.cons zm_LE.nil))))))) (l1 h1)
  · refine zr_iload_n (i := 3) (x := r) (n := 11) d_Mt_messageWithKey_10 rfl rfl rfl ?_
    exact zr_ireturn d_Mt_messageWithKey_11 rfl rfl (Nat.le_refl _) (Nat.le_refl _) (l2 h1)
theorem s_Mt_messageWithKey_32 {d : Nat} {Q : zm_Q} {S : zm_S} {a2 a4 a5 a6 : Int32} (j1 : Nat) (j2 : Nat) (o1 : ¬ 48 ≤ a6 → ¬ a5 < (a4 + 3) → zm_ix (a4 + 2) j1 576) (o2 : ¬ 48 ≤ a6 → ¬ a5 < (a4 + 3) → ¬ a5 < ((a4 + 3) + (S 24 j1)) → zm_ix (a4 + 1) j2 576) (o3 : ¬ 48 ≤ a6 → ¬ a5 < (a4 + 3) → ¬ a5 < ((a4 + 3) + (S 24 j1)) → ¬ (S 24 j2) = a2 → zm_ix (a4 + 2) j1 576)
    (l1 : ((48 ≤ a6) ∨ (¬ 48 ≤ a6 ∧ ((a5 < (a4 + 3)) ∨ (¬ a5 < (a4 + 3) ∧ a5 < ((a4 + 3) + (S 24 j1)))))) → Q (some (-2)) GG S)
    (l2 : ¬ 48 ≤ a6 → ¬ a5 < (a4 + 3) → ¬ a5 < ((a4 + 3) + (S 24 j1)) → ¬ (S 24 j2) = a2 → zw M_Mt_messageWithKey (d + 3) Q 32 [some (.ref 20), none, some (.int a2), none, some (.int (a4 + (3 + (S 24 j1)))), some (.int a5), some (.int (a6 + 1))] [] S)
    (l3 : ¬ 48 ≤ a6 → ¬ a5 < (a4 + 3) → ¬ a5 < ((a4 + 3) + (S 24 j1)) → (S 24 j2) = a2 → Q (some a4) GG S) :
    zw M_Mt_messageWithKey (d + 3) Q 32 [some (.ref 20), none, some (.int a2), none, some (.int a4), some (.int a5), some (.int a6)] [] S := by
  refine zr_iload (i := 6) (x := a6) (n := 34) d_Mt_messageWithKey_32 rfl rfl ?_
  refine zr_bipush (v := 48) (n := 36) d_Mt_messageWithKey_34 rfl (by decide) ?_
  refine zr_icmp_ge (tgt := 85) (n := 39) d_Mt_messageWithKey_36 rfl (by decide) (fun h1 => ?_) (fun h1 => ?_)
  · refine zr_bipush (v := (-2)) (n := 87) d_Mt_messageWithKey_85 rfl (by decide) ?_
    exact zr_ireturn d_Mt_messageWithKey_87 rfl rfl (Nat.le_refl _) (Nat.le_refl _) (l1 (Or.inl h1))
  · refine zr_aload_n (i := 0) (x := 20) (n := 40) d_Mt_messageWithKey_39 rfl rfl rfl ?_
    refine zr_iload (i := 4) (x := a4) (n := 42) d_Mt_messageWithKey_40 rfl rfl ?_
    refine zr_iload (i := 5) (x := a5) (n := 44) d_Mt_messageWithKey_42 rfl rfl ?_
    refine zr_callV (M' := M_Mt_fits) (mc' := 0) (ms' := 0) (av := [.int a4, .int a5]) (rest := []) (n := 47) d_Mt_messageWithKey_44 rfl w_Mt_69 w_Mt_69k gg_20 rfl rfl rfl rfl rfl rfl (Nat.le_refl _) (Nat.le_refl _) ?_
    refine c_Mt_fits (a1 := a4) (a2 := a5) j1 (o1 h1) (fun h2 => ?_) (fun h3 h4 => ?_)
    · refine zr_if_eq (tgt := 85) (n := 50) d_Mt_messageWithKey_47 rfl (by decide) (fun _ => ?_) (fun h => absurd h (by decide))
      refine zr_bipush (v := (-2)) (n := 87) d_Mt_messageWithKey_85 rfl (by decide) ?_
      exact zr_ireturn d_Mt_messageWithKey_87 rfl rfl (Nat.le_refl _) (Nat.le_refl _) (l1 (Or.inr ⟨h1, h2⟩))
    · refine zr_if_eq (tgt := 85) (n := 50) d_Mt_messageWithKey_47 rfl (by decide) (fun h => absurd h (by decide)) (fun _ => ?_)
      refine zr_aload_n (i := 0) (x := 20) (n := 51) d_Mt_messageWithKey_50 rfl rfl rfl ?_
      refine zr_getr (n := 54) d_Mt_messageWithKey_51 rfl f_Mt_29 gg_20 rfl ?_
      refine zr_iload (i := 4) (x := a4) (n := 56) d_Mt_messageWithKey_54 rfl rfl ?_
      refine zr_iconst (v := 1) (n := 57) d_Mt_messageWithKey_56 rfl (by decide) ?_
      refine zr_iadd (n := 58) d_Mt_messageWithKey_57 rfl ?_
      refine zr_iaload j2 (n := 59) d_Mt_messageWithKey_58 rfl gg_24 (o2 h1 h3 h4) ?_
      refine zr_iload_n (i := 2) (x := a2) (n := 60) d_Mt_messageWithKey_59 rfl rfl rfl ?_
      refine zr_icmp_ne (tgt := 66) (n := 63) d_Mt_messageWithKey_60 rfl (by decide) (fun h5 => ?_) (fun h5 => ?_)
      · refine zr_iload (i := 4) (x := a4) (n := 68) d_Mt_messageWithKey_66 rfl rfl ?_
        refine zr_iconst (v := 3) (n := 69) d_Mt_messageWithKey_68 rfl (by decide) ?_
        refine zr_aload_n (i := 0) (x := 20) (n := 70) d_Mt_messageWithKey_69 rfl rfl rfl ?_
        refine zr_iload (i := 4) (x := a4) (n := 72) d_Mt_messageWithKey_70 rfl rfl ?_
        refine zr_weak (zm_LE.cons (zm_LE.cons (zm_LE.cons (zm_LE.cons (zm_LE.skip (zm_LE.cons (zm_LE.cons zm_LE.nil))))))) ?_
        refine zr_callV (M' := M_Mt_lengthAt) (mc' := 0) (ms' := 0) (av := [.int a4]) (rest := [.int 3, .int a4]) (n := 75) d_Mt_messageWithKey_72 rfl w_Mt_79 w_Mt_79k gg_20 rfl rfl rfl rfl rfl rfl (Nat.le_refl _) (Nat.le_refl _) ?_
        refine c_Mt_lengthAt (a1 := a4) j1 (o3 h1 h3 h4 h5) ?_
        refine zr_iadd (n := 76) d_Mt_messageWithKey_75 rfl ?_
        refine zr_iadd (n := 77) d_Mt_messageWithKey_76 rfl ?_
        refine zr_istore (i := 4) (L' := [some (.ref 20), none, some (.int a2), none, some (.int (a4 + (3 + (S 24 j1)))), some (.int a5), some (.int a6)]) (n := 79) d_Mt_messageWithKey_77 rfl rfl rfl ?_
        refine zr_iinc (i := 6) (w := 1) (x := a6) (L' := [some (.ref 20), none, some (.int a2), none, some (.int (a4 + (3 + (S 24 j1)))), some (.int a5), some (.int (a6 + 1))]) (n := 82) d_Mt_messageWithKey_79 rfl (by decide) rfl rfl ?_
        refine zr_goto (tgt := 32) d_Mt_messageWithKey_82 (by decide) ?_
        exact (l2 h1 h3 h4 h5)
      · refine zr_iload (i := 4) (x := a4) (n := 65) d_Mt_messageWithKey_63 rfl rfl ?_
        exact zr_ireturn d_Mt_messageWithKey_65 rfl rfl (Nat.le_refl _) (Nat.le_refl _) (l3 h1 h3 h4 h5)
theorem e_Mt_messageWithKey {d : Nat} {Q : zm_Q} {S : zm_S} {a1 a2 : Int32} (h : zw M_Mt_messageWithKey (d + 3) Q 0 [some (.ref 20), some (.int a1), some (.int a2), none, none, none, none] [] S) : zc M_Mt_messageWithKey (d + 3) [.ref 20, .int a1, .int a2] S Q := zm_CC_intro (by decide) rfl rfl h
theorem s_Rc_reset_0 {d : Nat} {Q : zm_Q} {S : zm_S}
    (l1 : zc M_Mt_reset (d + 1) [.ref 20] S (fun v G' S' => zm_WP M_Rc_reset none (d + 2) 0 0 Q 7 [some (.ref 19)] (zm_ps v []) G' S' 0 0)) :
    zw M_Rc_reset (d + 2) Q 0 [some (.ref 19)] [] S := by
  refine zr_aload_n (i := 0) (x := 19) (n := 1) d_Rc_reset_0 rfl rfl rfl ?_
  refine zr_getr (n := 4) d_Rc_reset_1 rfl f_Rc_12 gg_19 rfl ?_
  refine zr_callV (M' := M_Mt_reset) (mc' := 0) (ms' := 0) (av := []) (rest := []) (n := 7) d_Rc_reset_4 rfl w_Rc_32 w_Rc_32k gg_20 rfl rfl rfl rfl rfl rfl (Nat.le_refl _) (Nat.le_refl _) ?_
  exact l1
theorem s_Rc_reset_7 {d : Nat} {Q : zm_Q} {S : zm_S}
    (l1 : zc M_Arr_fill (d + 1) [.ref 25, .int 0] S (fun v G' S' => zm_WP M_Rc_reset none (d + 2) 0 0 Q 15 [some (.ref 19)] (zm_ps v []) G' S' 0 0)) :
    zw M_Rc_reset (d + 2) Q 7 [some (.ref 19)] [] S := by
  refine zr_aload_n (i := 0) (x := 19) (n := 8) d_Rc_reset_7 rfl rfl rfl ?_
  refine zr_getr (n := 11) d_Rc_reset_8 rfl f_Rc_18 gg_19 rfl ?_
  refine zr_iconst (v := 0) (n := 12) d_Rc_reset_11 rfl (by decide) ?_
  refine zr_callS (M' := M_Arr_fill) (mc' := 0) (ms' := 0) (av := [.ref 25, .int 0]) (rest := []) (n := 15) d_Rc_reset_12 rfl w_Rc_35 w_Rc_35k rfl rfl rfl rfl rfl (Nat.le_refl _) (Nat.le_refl _) ?_
  exact l1
theorem s_Rc_reset_15 {d : Nat} {Q : zm_Q} {S : zm_S}
    (l1 : Q none GG (zm_up (zm_up S 19 3 0) 19 4 (-1))) :
    zw M_Rc_reset (d + 2) Q 15 [some (.ref 19)] [] S := by
  refine zr_aload_n (i := 0) (x := 19) (n := 16) d_Rc_reset_15 rfl rfl rfl ?_
  refine zr_iconst (v := 0) (n := 17) d_Rc_reset_16 rfl (by decide) ?_
  refine zr_puti (n := 20) d_Rc_reset_17 rfl f_Rc_25 tw_Rc rfl rfl rfl rfl gg_19 rfl ?_
  refine zr_aload_n (i := 0) (x := 19) (n := 21) d_Rc_reset_20 rfl rfl rfl ?_
  refine zr_iconst (v := (-1)) (n := 22) d_Rc_reset_21 rfl (by decide) ?_
  refine zr_puti (n := 25) d_Rc_reset_22 rfl f_Rc_29 tw_Rc rfl rfl rfl rfl gg_19 rfl ?_
  exact zr_return d_Rc_reset_25 rfl (Nat.le_refl _) (Nat.le_refl _) l1
theorem e_Rc_reset {d : Nat} {Q : zm_Q} {S : zm_S} (h : zw M_Rc_reset (d + 2) Q 0 [some (.ref 19)] [] S) : zc M_Rc_reset (d + 2) [.ref 19] S Q := zm_CC_intro (by decide) rfl rfl h
theorem s_Rc_takePacket_0 {d : Nat} {Q : zm_Q} {S : zm_S}
    (l1 : ((¬ (S 15 0) = 71) ∨ ((S 15 0) = 71 ∧ ¬ ((S 15 1) &&& 176) = 0)) → Q none GG (zm_up S 25 5 ((S 25 5) + 1)))
    (l2 : (((S 15 0) = 71 ∧ ((S 15 1) &&& 176) = 0 ∧ (S 19 4) = (-1) ∧ ¬ ((S 15 1) &&& 64) = 0 ∧ (S 15 2) ≤ 13) ∨ ((S 15 0) = 71 ∧ ((S 15 1) &&& 176) = 0 ∧ ¬ (S 19 4) = (-1) ∧ ((S 15 1) &&& 15) = (((S 19 4) + 1) &&& 15) ∧ ¬ ((S 15 1) &&& 64) = 0 ∧ (S 15 2) ≤ 13)) → zc M_Rc_continueSection (d + 4) [.ref 19, .ref 15, .int 3, .int (3 + (S 15 2))] (zm_up S 19 4 ((S 15 1) &&& 15)) (fun v G' S' => zm_WP M_Rc_takePacket none (d + 5) 0 0 Q 117 [some (.ref 19), some (.ref 15), none, none, none, some (.int (3 + (S 15 2)))] (zm_ps v []) G' S' 0 0))
    (l3 : (((S 15 0) = 71 ∧ ((S 15 1) &&& 176) = 0 ∧ (S 19 4) = (-1) ∧ ¬ ((S 15 1) &&& 64) = 0 ∧ ¬ (S 15 2) ≤ 13) ∨ ((S 15 0) = 71 ∧ ((S 15 1) &&& 176) = 0 ∧ ¬ (S 19 4) = (-1) ∧ ((S 15 1) &&& 15) = (((S 19 4) + 1) &&& 15) ∧ ¬ ((S 15 1) &&& 64) = 0 ∧ ¬ (S 15 2) ≤ 13)) → zc M_Rc_throwAway (d + 4) [.ref 19] (zm_up S 19 4 ((S 15 1) &&& 15)) (fun v G' S' => zm_WP M_Rc_takePacket none (d + 5) 0 0 Q 100 [none, none, none, none, none, none] (zm_ps v []) G' S' 0 0))
    (l4 : (((S 15 0) = 71 ∧ ((S 15 1) &&& 176) = 0 ∧ (S 19 4) = (-1) ∧ ((S 15 1) &&& 64) = 0) ∨ ((S 15 0) = 71 ∧ ((S 15 1) &&& 176) = 0 ∧ ¬ (S 19 4) = (-1) ∧ ((S 15 1) &&& 15) = (((S 19 4) + 1) &&& 15) ∧ ((S 15 1) &&& 64) = 0)) → zc M_Rc_continueSection (d + 4) [.ref 19, .ref 15, .int 2, .int 16] (zm_up S 19 4 ((S 15 1) &&& 15)) (fun v G' S' => zm_WP M_Rc_takePacket none (d + 5) 0 0 Q 86 [none, none, none, none, none, none] (zm_ps v []) G' S' 0 0))
    (l5 : (S 15 0) = 71 → ((S 15 1) &&& 176) = 0 → ¬ (S 19 4) = (-1) → ¬ ((S 15 1) &&& 15) = (((S 19 4) + 1) &&& 15) → zc M_Rc_throwAway (d + 4) [.ref 19] S (fun v G' S' => zm_WP M_Rc_takePacket none (d + 5) 0 0 Q 61 [some (.ref 19), some (.ref 15), some (.int (S 15 1)), some (.int ((S 15 1) &&& 15)), none, none] (zm_ps v []) G' S' 0 0)) :
    zw M_Rc_takePacket (d + 5) Q 0 [some (.ref 19), some (.ref 15), none, none, none, none] [] S := by
  refine zr_aload_n (i := 1) (x := 15) (n := 1) d_Rc_takePacket_0 rfl rfl rfl ?_
  refine zr_iconst (v := 1) (n := 2) d_Rc_takePacket_1 rfl (by decide) ?_
  refine zr_iaload 1 (n := 3) d_Rc_takePacket_2 rfl gg_15 (zm_ixN (Nat.le_of_ble_eq_true rfl) (Nat.le_of_ble_eq_true rfl)) ?_
  refine zr_istore_n (i := 2) (L' := [some (.ref 19), some (.ref 15), some (.int (S 15 1)), none, none, none]) (n := 4) d_Rc_takePacket_3 rfl rfl rfl rfl ?_
  refine zr_aload_n (i := 1) (x := 15) (n := 5) d_Rc_takePacket_4 rfl rfl rfl ?_
  refine zr_iconst (v := 0) (n := 6) d_Rc_takePacket_5 rfl (by decide) ?_
  refine zr_iaload 0 (n := 7) d_Rc_takePacket_6 rfl gg_15 (zm_ixN (Nat.le_of_ble_eq_true rfl) (Nat.le_of_ble_eq_true rfl)) ?_
  refine zr_bipush (v := 71) (n := 9) d_Rc_takePacket_7 rfl (by decide) ?_
  refine zr_icmp_ne (tgt := 20) (n := 12) d_Rc_takePacket_9 rfl (by decide) (fun h1 => ?_) (fun h1 => ?_)
  · refine zr_aload_n (i := 0) (x := 19) (n := 21) d_Rc_takePacket_20 rfl rfl rfl ?_
    refine zr_getr (n := 24) d_Rc_takePacket_21 rfl f_Rc_18 gg_19 rfl ?_
    refine zr_iconst (v := 5) (n := 25) d_Rc_takePacket_24 rfl (by decide) ?_
    refine zr_dup2 (n := 26) d_Rc_takePacket_25 rfl rfl rfl ?_
    refine zr_iaload 5 (n := 27) d_Rc_takePacket_26 rfl gg_25 (zm_ixN (Nat.le_of_ble_eq_true rfl) (Nat.le_of_ble_eq_true rfl)) ?_
    refine zr_iconst (v := 1) (n := 28) d_Rc_takePacket_27 rfl (by decide) ?_
    refine zr_iadd (n := 29) d_Rc_takePacket_28 rfl ?_
    refine zr_iastore 5 (n := 30) d_Rc_takePacket_29 rfl gg_25 (zm_ixN (Nat.le_of_ble_eq_true rfl) (Nat.le_of_ble_eq_true rfl)) ?_
    exact zr_return d_Rc_takePacket_30 rfl (Nat.le_refl _) (Nat.le_refl _) (l1 (Or.inl h1))
  · refine zr_iload_n (i := 2) (x := (S 15 1)) (n := 13) d_Rc_takePacket_12 rfl rfl rfl ?_
    refine zr_sipush (v := 176) (n := 16) d_Rc_takePacket_13 rfl (by decide) ?_
    refine zr_iand (n := 17) d_Rc_takePacket_16 rfl ?_
    refine zr_if_eq (tgt := 31) (n := 20) d_Rc_takePacket_17 rfl (by decide) (fun h2 => ?_) (fun h2 => ?_)
    · refine zr_iload_n (i := 2) (x := (S 15 1)) (n := 32) d_Rc_takePacket_31 rfl rfl rfl ?_
      refine zr_bipush (v := 15) (n := 34) d_Rc_takePacket_32 rfl (by decide) ?_
      refine zr_iand (n := 35) d_Rc_takePacket_34 rfl ?_
      refine zr_istore_n (i := 3) (L' := [some (.ref 19), some (.ref 15), some (.int (S 15 1)), some (.int ((S 15 1) &&& 15)), none, none]) (n := 36) d_Rc_takePacket_35 rfl rfl rfl rfl ?_
      refine zr_aload_n (i := 0) (x := 19) (n := 37) d_Rc_takePacket_36 rfl rfl rfl ?_
      refine zr_geti (n := 40) d_Rc_takePacket_37 rfl f_Rc_29 gg_19 rfl ?_
      refine zr_iconst (v := (-1)) (n := 41) d_Rc_takePacket_40 rfl (by decide) ?_
      refine zr_icmp_eq (tgt := 61) (n := 44) d_Rc_takePacket_41 rfl (by decide) (fun h3 => ?_) (fun h3 => ?_)
      · refine zr_aload_n (i := 0) (x := 19) (n := 62) d_Rc_takePacket_61 rfl rfl rfl ?_
        refine zr_iload_n (i := 3) (x := ((S 15 1) &&& 15)) (n := 63) d_Rc_takePacket_62 rfl rfl rfl ?_
        refine zr_puti (n := 66) d_Rc_takePacket_63 rfl f_Rc_29 tw_Rc rfl rfl rfl rfl gg_19 rfl ?_
        refine zr_aload_n (i := 1) (x := 15) (n := 67) d_Rc_takePacket_66 rfl rfl rfl ?_
        refine zr_iconst (v := 2) (n := 68) d_Rc_takePacket_67 rfl (by decide) ?_
        refine zr_iaload 2 (n := 69) d_Rc_takePacket_68 rfl gg_15 (zm_ixN (Nat.le_of_ble_eq_true rfl) (Nat.le_of_ble_eq_true rfl)) ?_
        refine zr_istore (i := 4) (L' := [some (.ref 19), some (.ref 15), some (.int (S 15 1)), some (.int ((S 15 1) &&& 15)), some (.int (S 15 2)), none]) (n := 71) d_Rc_takePacket_69 rfl rfl rfl ?_
        refine zr_iload_n (i := 2) (x := (S 15 1)) (n := 72) d_Rc_takePacket_71 rfl rfl rfl ?_
        refine zr_bipush (v := 64) (n := 74) d_Rc_takePacket_72 rfl (by decide) ?_
        refine zr_iand (n := 75) d_Rc_takePacket_74 rfl ?_
        refine zr_if_ne (tgt := 89) (n := 78) d_Rc_takePacket_75 rfl (by decide) (fun h4 => ?_) (fun h4 => ?_)
        · refine zr_iload (i := 4) (x := (S 15 2)) (n := 91) d_Rc_takePacket_89 rfl rfl ?_
          refine zr_bipush (v := 13) (n := 93) d_Rc_takePacket_91 rfl (by decide) ?_
          refine zr_icmp_le (tgt := 103) (n := 96) d_Rc_takePacket_93 rfl (by decide) (fun h5 => ?_) (fun h5 => ?_)
          · refine zr_iconst (v := 3) (n := 104) d_Rc_takePacket_103 rfl (by decide) ?_
            refine zr_iload (i := 4) (x := (S 15 2)) (n := 106) d_Rc_takePacket_104 rfl rfl ?_
            refine zr_iadd (n := 107) d_Rc_takePacket_106 rfl ?_
            refine zr_istore (i := 5) (L' := [some (.ref 19), some (.ref 15), some (.int (S 15 1)), some (.int ((S 15 1) &&& 15)), some (.int (S 15 2)), some (.int (3 + (S 15 2)))]) (n := 109) d_Rc_takePacket_107 rfl rfl rfl ?_
            refine zr_aload_n (i := 0) (x := 19) (n := 110) d_Rc_takePacket_109 rfl rfl rfl ?_
            refine zr_aload_n (i := 1) (x := 15) (n := 111) d_Rc_takePacket_110 rfl rfl rfl ?_
            refine zr_iconst (v := 3) (n := 112) d_Rc_takePacket_111 rfl (by decide) ?_
            refine zr_iload (i := 5) (x := (3 + (S 15 2))) (n := 114) d_Rc_takePacket_112 rfl rfl ?_
            refine zr_weak (zm_LE.cons (zm_LE.cons (zm_LE.skip (zm_LE.skip (zm_LE.skip (zm_LE.cons zm_LE.nil)))))) ?_
            refine zr_callV (M' := M_Rc_continueSection) (mc' := 0) (ms' := 0) (av := [.ref 15, .int 3, .int (3 + (S 15 2))]) (rest := []) (n := 117) d_Rc_takePacket_114 rfl w_Rc_44 w_Rc_44k gg_19 rfl rfl rfl rfl rfl rfl (Nat.le_refl _) (Nat.le_refl _) ?_
            exact (l2 (Or.inl ⟨h1, h2, h3, h4, h5⟩))
          · refine zr_aload_n (i := 0) (x := 19) (n := 97) d_Rc_takePacket_96 rfl rfl rfl ?_
            refine zr_weak (zm_LE.skip (zm_LE.skip (zm_LE.skip (zm_LE.skip (zm_LE.skip (zm_LE.cons zm_LE.nil)))))) ?_
            refine zr_callV (M' := M_Rc_throwAway) (mc' := 0) (ms' := 0) (av := []) (rest := []) (n := 100) d_Rc_takePacket_97 rfl w_Rc_41 w_Rc_41k gg_19 rfl rfl rfl rfl rfl rfl (Nat.le_refl _) (Nat.le_refl _) ?_
            exact (l3 (Or.inl ⟨h1, h2, h3, h4, h5⟩))
        · refine zr_aload_n (i := 0) (x := 19) (n := 79) d_Rc_takePacket_78 rfl rfl rfl ?_
          refine zr_aload_n (i := 1) (x := 15) (n := 80) d_Rc_takePacket_79 rfl rfl rfl ?_
          refine zr_iconst (v := 2) (n := 81) d_Rc_takePacket_80 rfl (by decide) ?_
          refine zr_bipush (v := 16) (n := 83) d_Rc_takePacket_81 rfl (by decide) ?_
          refine zr_weak (zm_LE.skip (zm_LE.skip (zm_LE.skip (zm_LE.skip (zm_LE.skip (zm_LE.cons zm_LE.nil)))))) ?_
          refine zr_callV (M' := M_Rc_continueSection) (mc' := 0) (ms' := 0) (av := [.ref 15, .int 2, .int 16]) (rest := []) (n := 86) d_Rc_takePacket_83 rfl w_Rc_44 w_Rc_44k gg_19 rfl rfl rfl rfl rfl rfl (Nat.le_refl _) (Nat.le_refl _) ?_
          exact (l4 (Or.inl ⟨h1, h2, h3, h4⟩))
      · refine zr_iload_n (i := 3) (x := ((S 15 1) &&& 15)) (n := 45) d_Rc_takePacket_44 rfl rfl rfl ?_
        refine zr_aload_n (i := 0) (x := 19) (n := 46) d_Rc_takePacket_45 rfl rfl rfl ?_
        refine zr_geti (n := 49) d_Rc_takePacket_46 rfl f_Rc_29 gg_19 rfl ?_
        refine zr_iconst (v := 1) (n := 50) d_Rc_takePacket_49 rfl (by decide) ?_
        refine zr_iadd (n := 51) d_Rc_takePacket_50 rfl ?_
        refine zr_bipush (v := 15) (n := 53) d_Rc_takePacket_51 rfl (by decide) ?_
        refine zr_iand (n := 54) d_Rc_takePacket_53 rfl ?_
        refine zr_icmp_eq (tgt := 61) (n := 57) d_Rc_takePacket_54 rfl (by decide) (fun h6 => ?_) (fun h6 => ?_)
        · refine zr_aload_n (i := 0) (x := 19) (n := 62) d_Rc_takePacket_61 rfl rfl rfl ?_
          refine zr_iload_n (i := 3) (x := ((S 15 1) &&& 15)) (n := 63) d_Rc_takePacket_62 rfl rfl rfl ?_
          refine zr_puti (n := 66) d_Rc_takePacket_63 rfl f_Rc_29 tw_Rc rfl rfl rfl rfl gg_19 rfl ?_
          refine zr_aload_n (i := 1) (x := 15) (n := 67) d_Rc_takePacket_66 rfl rfl rfl ?_
          refine zr_iconst (v := 2) (n := 68) d_Rc_takePacket_67 rfl (by decide) ?_
          refine zr_iaload 2 (n := 69) d_Rc_takePacket_68 rfl gg_15 (zm_ixN (Nat.le_of_ble_eq_true rfl) (Nat.le_of_ble_eq_true rfl)) ?_
          refine zr_istore (i := 4) (L' := [some (.ref 19), some (.ref 15), some (.int (S 15 1)), some (.int ((S 15 1) &&& 15)), some (.int (S 15 2)), none]) (n := 71) d_Rc_takePacket_69 rfl rfl rfl ?_
          refine zr_iload_n (i := 2) (x := (S 15 1)) (n := 72) d_Rc_takePacket_71 rfl rfl rfl ?_
          refine zr_bipush (v := 64) (n := 74) d_Rc_takePacket_72 rfl (by decide) ?_
          refine zr_iand (n := 75) d_Rc_takePacket_74 rfl ?_
          refine zr_if_ne (tgt := 89) (n := 78) d_Rc_takePacket_75 rfl (by decide) (fun h7 => ?_) (fun h7 => ?_)
          · refine zr_iload (i := 4) (x := (S 15 2)) (n := 91) d_Rc_takePacket_89 rfl rfl ?_
            refine zr_bipush (v := 13) (n := 93) d_Rc_takePacket_91 rfl (by decide) ?_
            refine zr_icmp_le (tgt := 103) (n := 96) d_Rc_takePacket_93 rfl (by decide) (fun h8 => ?_) (fun h8 => ?_)
            · refine zr_iconst (v := 3) (n := 104) d_Rc_takePacket_103 rfl (by decide) ?_
              refine zr_iload (i := 4) (x := (S 15 2)) (n := 106) d_Rc_takePacket_104 rfl rfl ?_
              refine zr_iadd (n := 107) d_Rc_takePacket_106 rfl ?_
              refine zr_istore (i := 5) (L' := [some (.ref 19), some (.ref 15), some (.int (S 15 1)), some (.int ((S 15 1) &&& 15)), some (.int (S 15 2)), some (.int (3 + (S 15 2)))]) (n := 109) d_Rc_takePacket_107 rfl rfl rfl ?_
              refine zr_aload_n (i := 0) (x := 19) (n := 110) d_Rc_takePacket_109 rfl rfl rfl ?_
              refine zr_aload_n (i := 1) (x := 15) (n := 111) d_Rc_takePacket_110 rfl rfl rfl ?_
              refine zr_iconst (v := 3) (n := 112) d_Rc_takePacket_111 rfl (by decide) ?_
              refine zr_iload (i := 5) (x := (3 + (S 15 2))) (n := 114) d_Rc_takePacket_112 rfl rfl ?_
              refine zr_weak (zm_LE.cons (zm_LE.cons (zm_LE.skip (zm_LE.skip (zm_LE.skip (zm_LE.cons zm_LE.nil)))))) ?_
              refine zr_callV (M' := M_Rc_continueSection) (mc' := 0) (ms' := 0) (av := [.ref 15, .int 3, .int (3 + (S 15 2))]) (rest := []) (n := 117) d_Rc_takePacket_114 rfl w_Rc_44 w_Rc_44k gg_19 rfl rfl rfl rfl rfl rfl (Nat.le_refl _) (Nat.le_refl _) ?_
              exact (l2 (Or.inr ⟨h1, h2, h3, h6, h7, h8⟩))
            · refine zr_aload_n (i := 0) (x := 19) (n := 97) d_Rc_takePacket_96 rfl rfl rfl ?_
              refine zr_weak (zm_LE.skip (zm_LE.skip (zm_LE.skip (zm_LE.skip (zm_LE.skip (zm_LE.cons zm_LE.nil)))))) ?_
              refine zr_callV (M' := M_Rc_throwAway) (mc' := 0) (ms' := 0) (av := []) (rest := []) (n := 100) d_Rc_takePacket_97 rfl w_Rc_41 w_Rc_41k gg_19 rfl rfl rfl rfl rfl rfl (Nat.le_refl _) (Nat.le_refl _) ?_
              exact (l3 (Or.inr ⟨h1, h2, h3, h6, h7, h8⟩))
          · refine zr_aload_n (i := 0) (x := 19) (n := 79) d_Rc_takePacket_78 rfl rfl rfl ?_
            refine zr_aload_n (i := 1) (x := 15) (n := 80) d_Rc_takePacket_79 rfl rfl rfl ?_
            refine zr_iconst (v := 2) (n := 81) d_Rc_takePacket_80 rfl (by decide) ?_
            refine zr_bipush (v := 16) (n := 83) d_Rc_takePacket_81 rfl (by decide) ?_
            refine zr_weak (zm_LE.skip (zm_LE.skip (zm_LE.skip (zm_LE.skip (zm_LE.skip (zm_LE.cons zm_LE.nil)))))) ?_
            refine zr_callV (M' := M_Rc_continueSection) (mc' := 0) (ms' := 0) (av := [.ref 15, .int 2, .int 16]) (rest := []) (n := 86) d_Rc_takePacket_83 rfl w_Rc_44 w_Rc_44k gg_19 rfl rfl rfl rfl rfl rfl (Nat.le_refl _) (Nat.le_refl _) ?_
            exact (l4 (Or.inr ⟨h1, h2, h3, h6, h7⟩))
        · refine zr_aload_n (i := 0) (x := 19) (n := 58) d_Rc_takePacket_57 rfl rfl rfl ?_
          refine zr_callV (M' := M_Rc_throwAway) (mc' := 0) (ms' := 0) (av := []) (rest := []) (n := 61) d_Rc_takePacket_58 rfl w_Rc_41 w_Rc_41k gg_19 rfl rfl rfl rfl rfl rfl (Nat.le_refl _) (Nat.le_refl _) ?_
          exact (l5 h1 h2 h3 h6)
    · refine zr_aload_n (i := 0) (x := 19) (n := 21) d_Rc_takePacket_20 rfl rfl rfl ?_
      refine zr_getr (n := 24) d_Rc_takePacket_21 rfl f_Rc_18 gg_19 rfl ?_
      refine zr_iconst (v := 5) (n := 25) d_Rc_takePacket_24 rfl (by decide) ?_
      refine zr_dup2 (n := 26) d_Rc_takePacket_25 rfl rfl rfl ?_
      refine zr_iaload 5 (n := 27) d_Rc_takePacket_26 rfl gg_25 (zm_ixN (Nat.le_of_ble_eq_true rfl) (Nat.le_of_ble_eq_true rfl)) ?_
      refine zr_iconst (v := 1) (n := 28) d_Rc_takePacket_27 rfl (by decide) ?_
      refine zr_iadd (n := 29) d_Rc_takePacket_28 rfl ?_
      refine zr_iastore 5 (n := 30) d_Rc_takePacket_29 rfl gg_25 (zm_ixN (Nat.le_of_ble_eq_true rfl) (Nat.le_of_ble_eq_true rfl)) ?_
      exact zr_return d_Rc_takePacket_30 rfl (Nat.le_refl _) (Nat.le_refl _) (l1 (Or.inr ⟨h1, h2⟩))
theorem s_Rc_takePacket_117 {d : Nat} {Q : zm_Q} {S : zm_S} {a5 : Int32}
    (l1 : zc M_Rc_throwAway (d + 4) [.ref 19] S (fun v G' S' => zm_WP M_Rc_takePacket none (d + 5) 0 0 Q 121 [some (.ref 19), some (.ref 15), none, none, none, some (.int a5)] (zm_ps v []) G' S' 0 0)) :
    zw M_Rc_takePacket (d + 5) Q 117 [some (.ref 19), some (.ref 15), none, none, none, some (.int a5)] [] S := by
  refine zr_aload_n (i := 0) (x := 19) (n := 118) d_Rc_takePacket_117 rfl rfl rfl ?_
  refine zr_callV (M' := M_Rc_throwAway) (mc' := 0) (ms' := 0) (av := []) (rest := []) (n := 121) d_Rc_takePacket_118 rfl w_Rc_41 w_Rc_41k gg_19 rfl rfl rfl rfl rfl rfl (Nat.le_refl _) (Nat.le_refl _) ?_
  exact l1
theorem s_Rc_takePacket_100 {d : Nat} {Q : zm_Q} {S : zm_S}
    (l1 : Q none GG S) :
    zw M_Rc_takePacket (d + 5) Q 100 [none, none, none, none, none, none] [] S := by
  refine zr_goto (tgt := 128) d_Rc_takePacket_100 (by decide) ?_
  exact zr_return d_Rc_takePacket_128 rfl (Nat.le_refl _) (Nat.le_refl _) l1
theorem s_Rc_takePacket_86 {d : Nat} {Q : zm_Q} {S : zm_S}
    (l1 : Q none GG S) :
    zw M_Rc_takePacket (d + 5) Q 86 [none, none, none, none, none, none] [] S := by
  refine zr_goto (tgt := 128) d_Rc_takePacket_86 (by decide) ?_
  exact zr_return d_Rc_takePacket_128 rfl (Nat.le_refl _) (Nat.le_refl _) l1
theorem s_Rc_takePacket_61 {d : Nat} {Q : zm_Q} {S : zm_S} {a2 a3 : Int32}
    (l1 : ¬ (a2 &&& 64) = 0 → (S 15 2) ≤ 13 → zc M_Rc_continueSection (d + 4) [.ref 19, .ref 15, .int 3, .int (3 + (S 15 2))] (zm_up S 19 4 a3) (fun v G' S' => zm_WP M_Rc_takePacket none (d + 5) 0 0 Q 117 [some (.ref 19), some (.ref 15), none, none, none, some (.int (3 + (S 15 2)))] (zm_ps v []) G' S' 0 0))
    (l2 : ¬ (a2 &&& 64) = 0 → ¬ (S 15 2) ≤ 13 → zc M_Rc_throwAway (d + 4) [.ref 19] (zm_up S 19 4 a3) (fun v G' S' => zm_WP M_Rc_takePacket none (d + 5) 0 0 Q 100 [none, none, none, none, none, none] (zm_ps v []) G' S' 0 0))
    (l3 : (a2 &&& 64) = 0 → zc M_Rc_continueSection (d + 4) [.ref 19, .ref 15, .int 2, .int 16] (zm_up S 19 4 a3) (fun v G' S' => zm_WP M_Rc_takePacket none (d + 5) 0 0 Q 86 [none, none, none, none, none, none] (zm_ps v []) G' S' 0 0)) :
    zw M_Rc_takePacket (d + 5) Q 61 [some (.ref 19), some (.ref 15), some (.int a2), some (.int a3), none, none] [] S := by
  refine zr_aload_n (i := 0) (x := 19) (n := 62) d_Rc_takePacket_61 rfl rfl rfl ?_
  refine zr_iload_n (i := 3) (x := a3) (n := 63) d_Rc_takePacket_62 rfl rfl rfl ?_
  refine zr_puti (n := 66) d_Rc_takePacket_63 rfl f_Rc_29 tw_Rc rfl rfl rfl rfl gg_19 rfl ?_
  refine zr_aload_n (i := 1) (x := 15) (n := 67) d_Rc_takePacket_66 rfl rfl rfl ?_
  refine zr_iconst (v := 2) (n := 68) d_Rc_takePacket_67 rfl (by decide) ?_
  refine zr_iaload 2 (n := 69) d_Rc_takePacket_68 rfl gg_15 (zm_ixN (Nat.le_of_ble_eq_true rfl) (Nat.le_of_ble_eq_true rfl)) ?_
  refine zr_istore (i := 4) (L' := [some (.ref 19), some (.ref 15), some (.int a2), some (.int a3), some (.int (S 15 2)), none]) (n := 71) d_Rc_takePacket_69 rfl rfl rfl ?_
  refine zr_iload_n (i := 2) (x := a2) (n := 72) d_Rc_takePacket_71 rfl rfl rfl ?_
  refine zr_bipush (v := 64) (n := 74) d_Rc_takePacket_72 rfl (by decide) ?_
  refine zr_iand (n := 75) d_Rc_takePacket_74 rfl ?_
  refine zr_if_ne (tgt := 89) (n := 78) d_Rc_takePacket_75 rfl (by decide) (fun h1 => ?_) (fun h1 => ?_)
  · refine zr_iload (i := 4) (x := (S 15 2)) (n := 91) d_Rc_takePacket_89 rfl rfl ?_
    refine zr_bipush (v := 13) (n := 93) d_Rc_takePacket_91 rfl (by decide) ?_
    refine zr_icmp_le (tgt := 103) (n := 96) d_Rc_takePacket_93 rfl (by decide) (fun h2 => ?_) (fun h2 => ?_)
    · refine zr_iconst (v := 3) (n := 104) d_Rc_takePacket_103 rfl (by decide) ?_
      refine zr_iload (i := 4) (x := (S 15 2)) (n := 106) d_Rc_takePacket_104 rfl rfl ?_
      refine zr_iadd (n := 107) d_Rc_takePacket_106 rfl ?_
      refine zr_istore (i := 5) (L' := [some (.ref 19), some (.ref 15), some (.int a2), some (.int a3), some (.int (S 15 2)), some (.int (3 + (S 15 2)))]) (n := 109) d_Rc_takePacket_107 rfl rfl rfl ?_
      refine zr_aload_n (i := 0) (x := 19) (n := 110) d_Rc_takePacket_109 rfl rfl rfl ?_
      refine zr_aload_n (i := 1) (x := 15) (n := 111) d_Rc_takePacket_110 rfl rfl rfl ?_
      refine zr_iconst (v := 3) (n := 112) d_Rc_takePacket_111 rfl (by decide) ?_
      refine zr_iload (i := 5) (x := (3 + (S 15 2))) (n := 114) d_Rc_takePacket_112 rfl rfl ?_
      refine zr_weak (zm_LE.cons (zm_LE.cons (zm_LE.skip (zm_LE.skip (zm_LE.skip (zm_LE.cons zm_LE.nil)))))) ?_
      refine zr_callV (M' := M_Rc_continueSection) (mc' := 0) (ms' := 0) (av := [.ref 15, .int 3, .int (3 + (S 15 2))]) (rest := []) (n := 117) d_Rc_takePacket_114 rfl w_Rc_44 w_Rc_44k gg_19 rfl rfl rfl rfl rfl rfl (Nat.le_refl _) (Nat.le_refl _) ?_
      exact (l1 h1 h2)
    · refine zr_aload_n (i := 0) (x := 19) (n := 97) d_Rc_takePacket_96 rfl rfl rfl ?_
      refine zr_weak (zm_LE.skip (zm_LE.skip (zm_LE.skip (zm_LE.skip (zm_LE.skip (zm_LE.cons zm_LE.nil)))))) ?_
      refine zr_callV (M' := M_Rc_throwAway) (mc' := 0) (ms' := 0) (av := []) (rest := []) (n := 100) d_Rc_takePacket_97 rfl w_Rc_41 w_Rc_41k gg_19 rfl rfl rfl rfl rfl rfl (Nat.le_refl _) (Nat.le_refl _) ?_
      exact (l2 h1 h2)
  · refine zr_aload_n (i := 0) (x := 19) (n := 79) d_Rc_takePacket_78 rfl rfl rfl ?_
    refine zr_aload_n (i := 1) (x := 15) (n := 80) d_Rc_takePacket_79 rfl rfl rfl ?_
    refine zr_iconst (v := 2) (n := 81) d_Rc_takePacket_80 rfl (by decide) ?_
    refine zr_bipush (v := 16) (n := 83) d_Rc_takePacket_81 rfl (by decide) ?_
    refine zr_weak (zm_LE.skip (zm_LE.skip (zm_LE.skip (zm_LE.skip (zm_LE.skip (zm_LE.cons zm_LE.nil)))))) ?_
    refine zr_callV (M' := M_Rc_continueSection) (mc' := 0) (ms' := 0) (av := [.ref 15, .int 2, .int 16]) (rest := []) (n := 86) d_Rc_takePacket_83 rfl w_Rc_44 w_Rc_44k gg_19 rfl rfl rfl rfl rfl rfl (Nat.le_refl _) (Nat.le_refl _) ?_
    exact (l3 h1)
theorem s_Rc_takePacket_121 {d : Nat} {Q : zm_Q} {S : zm_S} {a5 : Int32}
    (l1 : zc M_Rc_beginSections (d + 4) [.ref 19, .ref 15, .int a5] S (fun v G' S' => zm_WP M_Rc_takePacket none (d + 5) 0 0 Q 128 [none, none, none, none, none, none] (zm_ps v []) G' S' 0 0)) :
    zw M_Rc_takePacket (d + 5) Q 121 [some (.ref 19), some (.ref 15), none, none, none, some (.int a5)] [] S := by
  refine zr_aload_n (i := 0) (x := 19) (n := 122) d_Rc_takePacket_121 rfl rfl rfl ?_
  refine zr_aload_n (i := 1) (x := 15) (n := 123) d_Rc_takePacket_122 rfl rfl rfl ?_
  refine zr_iload (i := 5) (x := a5) (n := 125) d_Rc_takePacket_123 rfl rfl ?_
  refine zr_weak (zm_LE.skip (zm_LE.skip (zm_LE.cons (zm_LE.cons (zm_LE.cons (zm_LE.skip zm_LE.nil)))))) ?_
  refine zr_callV (M' := M_Rc_beginSections) (mc' := 0) (ms' := 0) (av := [.ref 15, .int a5]) (rest := []) (n := 128) d_Rc_takePacket_125 rfl w_Rc_48 w_Rc_48k gg_19 rfl rfl rfl rfl rfl rfl (Nat.le_refl _) (Nat.le_refl _) ?_
  exact l1
theorem s_Rc_takePacket_128 {d : Nat} {Q : zm_Q} {S : zm_S}
    (l1 : Q none GG S) :
    zw M_Rc_takePacket (d + 5) Q 128 [none, none, none, none, none, none] [] S := by
  exact zr_return d_Rc_takePacket_128 rfl (Nat.le_refl _) (Nat.le_refl _) l1
theorem e_Rc_takePacket {d : Nat} {Q : zm_Q} {S : zm_S} (h : zw M_Rc_takePacket (d + 5) Q 0 [some (.ref 19), some (.ref 15), none, none, none, none] [] S) : zc M_Rc_takePacket (d + 5) [.ref 19, .ref 15] S Q := zm_CC_intro (by decide) rfl rfl h
theorem s_Rc_continueSection_0 {d : Nat} {Q : zm_Q} {S : zm_S} {a2 a3 : Int32}
    (l1 : zw M_Rc_continueSection (d + 4) Q 3 [some (.ref 19), some (.ref 15), none, some (.int a3), some (.int a2)] [] S) :
    zw M_Rc_continueSection (d + 4) Q 0 [some (.ref 19), some (.ref 15), some (.int a2), some (.int a3), none] [] S := by
  refine zr_iload_n (i := 2) (x := a2) (n := 1) d_Rc_continueSection_0 rfl rfl rfl ?_
  refine zr_istore (i := 4) (L' := [some (.ref 19), some (.ref 15), some (.int a2), some (.int a3), some (.int a2)]) (n := 3) d_Rc_continueSection_1 rfl rfl rfl ?_
  exact zr_weak (zm_LE.cons (zm_LE.cons (zm_LE.skip (zm_LE.cons (zm_LE.cons zm_LE.nil))))) l1
theorem s_Rc_continueSection_3 {d : Nat} {Q : zm_Q} {S : zm_S} {a3 a4 : Int32} (j1 : Nat) (o1 : ¬ a3 ≤ a4 → ¬ (S 19 3) ≤ 0 → zm_ix a4 j1 16)
    (l1 : ((a3 ≤ a4) ∨ (¬ a3 ≤ a4 ∧ (S 19 3) ≤ 0)) → Q none GG S)
    (l2 : ¬ a3 ≤ a4 → ¬ (S 19 3) ≤ 0 → zc M_Rc_collect (d + 3) [.ref 19, .int (S 15 j1)] S (fun v G' S' => zm_WP M_Rc_continueSection none (d + 4) 0 0 Q 24 [some (.ref 19), some (.ref 15), none, some (.int a3), some (.int a4)] (zm_ps v []) G' S' 0 0)) :
    zw M_Rc_continueSection (d + 4) Q 3 [some (.ref 19), some (.ref 15), none, some (.int a3), some (.int a4)] [] S := by
  refine zr_iload (i := 4) (x := a4) (n := 5) d_Rc_continueSection_3 rfl rfl ?_
  refine zr_iload_n (i := 3) (x := a3) (n := 6) d_Rc_continueSection_5 rfl rfl rfl ?_
  refine zr_icmp_ge (tgt := 30) (n := 9) d_Rc_continueSection_6 rfl (by decide) (fun h1 => ?_) (fun h1 => ?_)
  · exact zr_return d_Rc_continueSection_30 rfl (Nat.le_refl _) (Nat.le_refl _) (l1 (Or.inl h1))
  · refine zr_aload_n (i := 0) (x := 19) (n := 10) d_Rc_continueSection_9 rfl rfl rfl ?_
    refine zr_geti (n := 13) d_Rc_continueSection_10 rfl f_Rc_25 gg_19 rfl ?_
    refine zr_if_le (tgt := 30) (n := 16) d_Rc_continueSection_13 rfl (by decide) (fun h2 => ?_) (fun h2 => ?_)
    · exact zr_return d_Rc_continueSection_30 rfl (Nat.le_refl _) (Nat.le_refl _) (l1 (Or.inr ⟨h1, h2⟩))
    · refine zr_aload_n (i := 0) (x := 19) (n := 17) d_Rc_continueSection_16 rfl rfl rfl ?_
      refine zr_aload_n (i := 1) (x := 15) (n := 18) d_Rc_continueSection_17 rfl rfl rfl ?_
      refine zr_iload (i := 4) (x := a4) (n := 20) d_Rc_continueSection_18 rfl rfl ?_
      refine zr_iaload j1 (n := 21) d_Rc_continueSection_20 rfl gg_15 (o1 h1 h2) ?_
      refine zr_callV (M' := M_Rc_collect) (mc' := 0) (ms' := 0) (av := [.int (S 15 j1)]) (rest := []) (n := 24) d_Rc_continueSection_21 rfl w_Rc_51 w_Rc_51k gg_19 rfl rfl rfl rfl rfl rfl (Nat.le_refl _) (Nat.le_refl _) ?_
      exact (l2 h1 h2)
theorem s_Rc_continueSection_24 {d : Nat} {Q : zm_Q} {S : zm_S} {a3 a4 : Int32}
    (l1 : zw M_Rc_continueSection (d + 4) Q 3 [some (.ref 19), some (.ref 15), none, some (.int a3), some (.int (a4 + 1))] [] S) :
    zw M_Rc_continueSection (d + 4) Q 24 [some (.ref 19), some (.ref 15), none, some (.int a3), some (.int a4)] [] S := by
  refine zr_iinc (i := 4) (w := 1) (x := a4) (L' := [some (.ref 19), some (.ref 15), none, some (.int a3), some (.int (a4 + 1))]) (n := 27) d_Rc_continueSection_24 rfl (by decide) rfl rfl ?_
  refine zr_goto (tgt := 3) d_Rc_continueSection_27 (by decide) ?_
  exact l1
theorem e_Rc_continueSection {d : Nat} {Q : zm_Q} {S : zm_S} {a2 a3 : Int32} (h : zw M_Rc_continueSection (d + 4) Q 0 [some (.ref 19), some (.ref 15), some (.int a2), some (.int a3), none] [] S) : zc M_Rc_continueSection (d + 4) [.ref 19, .ref 15, .int a2, .int a3] S Q := zm_CC_intro (by decide) rfl rfl h
theorem s_Rc_beginSections_0 {d : Nat} {Q : zm_Q} {S : zm_S} {a2 : Int32}
    (l1 : zw M_Rc_beginSections (d + 4) Q 2 [some (.ref 19), some (.ref 15), none, some (.int a2)] [] S) :
    zw M_Rc_beginSections (d + 4) Q 0 [some (.ref 19), some (.ref 15), some (.int a2), none] [] S := by
  refine zr_iload_n (i := 2) (x := a2) (n := 1) d_Rc_beginSections_0 rfl rfl rfl ?_
  refine zr_istore_n (i := 3) (L' := [some (.ref 19), some (.ref 15), some (.int a2), some (.int a2)]) (n := 2) d_Rc_beginSections_1 rfl rfl rfl rfl ?_
  exact zr_weak (zm_LE.cons (zm_LE.cons (zm_LE.skip (zm_LE.cons zm_LE.nil)))) l1
theorem s_Rc_beginSections_2 {d : Nat} {Q : zm_Q} {S : zm_S} {a3 : Int32} (j1 : Nat) (o1 : ¬ 16 ≤ a3 → ¬ (S 19 3) = 0 → zm_ix a3 j1 16) (o2 : ¬ 16 ≤ a3 → (S 19 3) = 0 → zm_ix a3 j1 16)
    (l1 : ((16 ≤ a3) ∨ (¬ 16 ≤ a3 ∧ (S 19 3) = 0 ∧ (S 15 j1) = 255)) → Q none GG S)
    (l2 : ((¬ 16 ≤ a3 ∧ ¬ (S 19 3) = 0) ∨ (¬ 16 ≤ a3 ∧ (S 19 3) = 0 ∧ ¬ (S 15 j1) = 255)) → zc M_Rc_collect (d + 3) [.ref 19, .int (S 15 j1)] S (fun v G' S' => zm_WP M_Rc_beginSections none (d + 4) 0 0 Q 32 [some (.ref 19), some (.ref 15), none, some (.int a3)] (zm_ps v []) G' S' 0 0)) :
    zw M_Rc_beginSections (d + 4) Q 2 [some (.ref 19), some (.ref 15), none, some (.int a3)] [] S := by
  refine zr_iload_n (i := 3) (x := a3) (n := 3) d_Rc_beginSections_2 rfl rfl rfl ?_
  refine zr_bipush (v := 16) (n := 5) d_Rc_beginSections_3 rfl (by decide) ?_
  refine zr_icmp_ge (tgt := 38) (n := 8) d_Rc_beginSections_5 rfl (by decide) (fun h1 => ?_) (fun h1 => ?_)
  · exact zr_return d_Rc_beginSections_38 rfl (Nat.le_refl _) (Nat.le_refl _) (l1 (Or.inl h1))
  · refine zr_aload_n (i := 0) (x := 19) (n := 9) d_Rc_beginSections_8 rfl rfl rfl ?_
    refine zr_geti (n := 12) d_Rc_beginSections_9 rfl f_Rc_25 gg_19 rfl ?_
    refine zr_if_ne (tgt := 25) (n := 15) d_Rc_beginSections_12 rfl (by decide) (fun h2 => ?_) (fun h2 => ?_)
    · refine zr_aload_n (i := 0) (x := 19) (n := 26) d_Rc_beginSections_25 rfl rfl rfl ?_
      refine zr_aload_n (i := 1) (x := 15) (n := 27) d_Rc_beginSections_26 rfl rfl rfl ?_
      refine zr_iload_n (i := 3) (x := a3) (n := 28) d_Rc_beginSections_27 rfl rfl rfl ?_
      refine zr_iaload j1 (n := 29) d_Rc_beginSections_28 rfl gg_15 (o1 h1 h2) ?_
      refine zr_callV (M' := M_Rc_collect) (mc' := 0) (ms' := 0) (av := [.int (S 15 j1)]) (rest := []) (n := 32) d_Rc_beginSections_29 rfl w_Rc_51 w_Rc_51k gg_19 rfl rfl rfl rfl rfl rfl (Nat.le_refl _) (Nat.le_refl _) ?_
      exact (l2 (Or.inl ⟨h1, h2⟩))
    · refine zr_aload_n (i := 1) (x := 15) (n := 16) d_Rc_beginSections_15 rfl rfl rfl ?_
      refine zr_iload_n (i := 3) (x := a3) (n := 17) d_Rc_beginSections_16 rfl rfl rfl ?_
      refine zr_iaload j1 (n := 18) d_Rc_beginSections_17 rfl gg_15 (o2 h1 h2) ?_
      refine zr_sipush (v := 255) (n := 21) d_Rc_beginSections_18 rfl (by decide) ?_
      refine zr_icmp_ne (tgt := 25) (n := 24) d_Rc_beginSections_21 rfl (by decide) (fun h3 => ?_) (fun h3 => ?_)
      · refine zr_aload_n (i := 0) (x := 19) (n := 26) d_Rc_beginSections_25 rfl rfl rfl ?_
        refine zr_aload_n (i := 1) (x := 15) (n := 27) d_Rc_beginSections_26 rfl rfl rfl ?_
        refine zr_iload_n (i := 3) (x := a3) (n := 28) d_Rc_beginSections_27 rfl rfl rfl ?_
        refine zr_iaload j1 (n := 29) d_Rc_beginSections_28 rfl gg_15 (o2 h1 h2) ?_
        refine zr_callV (M' := M_Rc_collect) (mc' := 0) (ms' := 0) (av := [.int (S 15 j1)]) (rest := []) (n := 32) d_Rc_beginSections_29 rfl w_Rc_51 w_Rc_51k gg_19 rfl rfl rfl rfl rfl rfl (Nat.le_refl _) (Nat.le_refl _) ?_
        exact (l2 (Or.inr ⟨h1, h2, h3⟩))
      · exact zr_return d_Rc_beginSections_24 rfl (Nat.le_refl _) (Nat.le_refl _) (l1 (Or.inr ⟨h1, h2, h3⟩))
theorem s_Rc_beginSections_32 {d : Nat} {Q : zm_Q} {S : zm_S} {a3 : Int32}
    (l1 : zw M_Rc_beginSections (d + 4) Q 2 [some (.ref 19), some (.ref 15), none, some (.int (a3 + 1))] [] S) :
    zw M_Rc_beginSections (d + 4) Q 32 [some (.ref 19), some (.ref 15), none, some (.int a3)] [] S := by
  refine zr_iinc (i := 3) (w := 1) (x := a3) (L' := [some (.ref 19), some (.ref 15), none, some (.int (a3 + 1))]) (n := 35) d_Rc_beginSections_32 rfl (by decide) rfl rfl ?_
  refine zr_goto (tgt := 2) d_Rc_beginSections_35 (by decide) ?_
  exact l1
theorem e_Rc_beginSections {d : Nat} {Q : zm_Q} {S : zm_S} {a2 : Int32} (h : zw M_Rc_beginSections (d + 4) Q 0 [some (.ref 19), some (.ref 15), some (.int a2), none] [] S) : zc M_Rc_beginSections (d + 4) [.ref 19, .ref 15, .int a2] S Q := zm_CC_intro (by decide) rfl rfl h
theorem s_Rc_throwAway_0 {d : Nat} {Q : zm_Q} {S : zm_S}
    (l1 : (S 19 3) ≤ 0 → Q none GG S)
    (l2 : ¬ (S 19 3) ≤ 0 → Q none GG (zm_up (zm_up S 25 4 ((S 25 4) + 1)) 19 3 0)) :
    zw M_Rc_throwAway d Q 0 [some (.ref 19)] [] S := by
  refine zr_aload_n (i := 0) (x := 19) (n := 1) d_Rc_throwAway_0 rfl rfl rfl ?_
  refine zr_geti (n := 4) d_Rc_throwAway_1 rfl f_Rc_25 gg_19 rfl ?_
  refine zr_if_le (tgt := 22) (n := 7) d_Rc_throwAway_4 rfl (by decide) (fun h1 => ?_) (fun h1 => ?_)
  · exact zr_return d_Rc_throwAway_22 rfl (Nat.le_refl _) (Nat.le_refl _) (l1 h1)
  · refine zr_aload_n (i := 0) (x := 19) (n := 8) d_Rc_throwAway_7 rfl rfl rfl ?_
    refine zr_getr (n := 11) d_Rc_throwAway_8 rfl f_Rc_18 gg_19 rfl ?_
    refine zr_iconst (v := 4) (n := 12) d_Rc_throwAway_11 rfl (by decide) ?_
    refine zr_dup2 (n := 13) d_Rc_throwAway_12 rfl rfl rfl ?_
    refine zr_iaload 4 (n := 14) d_Rc_throwAway_13 rfl gg_25 (zm_ixN (Nat.le_of_ble_eq_true rfl) (Nat.le_of_ble_eq_true rfl)) ?_
    refine zr_iconst (v := 1) (n := 15) d_Rc_throwAway_14 rfl (by decide) ?_
    refine zr_iadd (n := 16) d_Rc_throwAway_15 rfl ?_
    refine zr_iastore 4 (n := 17) d_Rc_throwAway_16 rfl gg_25 (zm_ixN (Nat.le_of_ble_eq_true rfl) (Nat.le_of_ble_eq_true rfl)) ?_
    refine zr_aload_n (i := 0) (x := 19) (n := 18) d_Rc_throwAway_17 rfl rfl rfl ?_
    refine zr_iconst (v := 0) (n := 19) d_Rc_throwAway_18 rfl (by decide) ?_
    refine zr_puti (n := 22) d_Rc_throwAway_19 rfl f_Rc_25 tw_Rc rfl rfl rfl rfl gg_19 rfl ?_
    exact zr_return d_Rc_throwAway_22 rfl (Nat.le_refl _) (Nat.le_refl _) (l2 h1)
theorem e_Rc_throwAway {d : Nat} {Q : zm_Q} {S : zm_S} (h : zw M_Rc_throwAway d Q 0 [some (.ref 19)] [] S) : zc M_Rc_throwAway d [.ref 19] S Q := zm_CC_intro (by decide) rfl rfl h
theorem s_Rc_collect_0 {d : Nat} {Q : zm_Q} {S : zm_S} {a1 : Int32} (j1 : Nat) (o1 : zm_ix (S 19 3) j1 257)
    (l1 : ((((S 19 3) + 1) < 2) ∨ (¬ ((S 19 3) + 1) < 2 ∧ ¬ ((S 19 3) + 1) = (2 + ((zm_up S 26 j1 a1) 26 1)))) → Q none GG (zm_up (zm_up S 26 j1 a1) 19 3 ((S 19 3) + 1)))
    (l2 : ¬ ((S 19 3) + 1) < 2 → ((S 19 3) + 1) = (2 + ((zm_up S 26 j1 a1) 26 1)) → zc M_Rc_judge (d + 2) [.ref 19, .int ((S 19 3) + 1)] (zm_up (zm_up (zm_up S 26 j1 a1) 19 3 ((S 19 3) + 1)) 19 3 0) (fun v G' S' => zm_WP M_Rc_collect none (d + 3) 0 0 Q 62 [none, none, none] (zm_ps v [.ref 25]) G' S' 0 0)) :
    zw M_Rc_collect (d + 3) Q 0 [some (.ref 19), some (.int a1), none] [] S := by
  refine zr_aload_n (i := 0) (x := 19) (n := 1) d_Rc_collect_0 rfl rfl rfl ?_
  refine zr_getr (n := 4) d_Rc_collect_1 rfl f_Rc_22 gg_19 rfl ?_
  refine zr_aload_n (i := 0) (x := 19) (n := 5) d_Rc_collect_4 rfl rfl rfl ?_
  refine zr_geti (n := 8) d_Rc_collect_5 rfl f_Rc_25 gg_19 rfl ?_
  refine zr_iload_n (i := 1) (x := a1) (n := 9) d_Rc_collect_8 rfl rfl rfl ?_
  refine zr_iastore j1 (n := 10) d_Rc_collect_9 rfl gg_26 o1 ?_
  refine zr_aload_n (i := 0) (x := 19) (n := 11) d_Rc_collect_10 rfl rfl rfl ?_
  refine zr_dup (n := 12) d_Rc_collect_11 rfl rfl ?_
  refine zr_geti (n := 15) d_Rc_collect_12 rfl f_Rc_25 gg_19 rfl ?_
  refine zr_iconst (v := 1) (n := 16) d_Rc_collect_15 rfl (by decide) ?_
  refine zr_iadd (n := 17) d_Rc_collect_16 rfl ?_
  refine zr_puti (n := 20) d_Rc_collect_17 rfl f_Rc_25 tw_Rc rfl rfl rfl rfl gg_19 rfl ?_
  refine zr_aload_n (i := 0) (x := 19) (n := 21) d_Rc_collect_20 rfl rfl rfl ?_
  refine zr_geti (n := 24) d_Rc_collect_21 rfl f_Rc_25 gg_19 rfl ?_
  refine zr_top (v := ((S 19 3) + 1)) rfl ?_
  refine zr_iconst (v := 2) (n := 25) d_Rc_collect_24 rfl (by decide) ?_
  refine zr_icmp_lt (tgt := 67) (n := 28) d_Rc_collect_25 rfl (by decide) (fun h1 => ?_) (fun h1 => ?_)
  · exact zr_return d_Rc_collect_67 rfl (Nat.le_refl _) (Nat.le_refl _) (l1 (Or.inl h1))
  · refine zr_aload_n (i := 0) (x := 19) (n := 29) d_Rc_collect_28 rfl rfl rfl ?_
    refine zr_geti (n := 32) d_Rc_collect_29 rfl f_Rc_25 gg_19 rfl ?_
    refine zr_top (v := ((S 19 3) + 1)) rfl ?_
    refine zr_iconst (v := 2) (n := 33) d_Rc_collect_32 rfl (by decide) ?_
    refine zr_aload_n (i := 0) (x := 19) (n := 34) d_Rc_collect_33 rfl rfl rfl ?_
    refine zr_getr (n := 37) d_Rc_collect_34 rfl f_Rc_22 gg_19 rfl ?_
    refine zr_iconst (v := 1) (n := 38) d_Rc_collect_37 rfl (by decide) ?_
    refine zr_iaload 1 (n := 39) d_Rc_collect_38 rfl gg_26 (zm_ixN (Nat.le_of_ble_eq_true rfl) (Nat.le_of_ble_eq_true rfl)) ?_
    refine zr_top (v := ((zm_up S 26 j1 a1) 26 1)) rfl ?_
    refine zr_iadd (n := 40) d_Rc_collect_39 rfl ?_
    refine zr_icmp_ne (tgt := 67) (n := 43) d_Rc_collect_40 rfl (by decide) (fun h2 => ?_) (fun h2 => ?_)
    · exact zr_return d_Rc_collect_67 rfl (Nat.le_refl _) (Nat.le_refl _) (l1 (Or.inr ⟨h1, h2⟩))
    · refine zr_aload_n (i := 0) (x := 19) (n := 44) d_Rc_collect_43 rfl rfl rfl ?_
      refine zr_geti (n := 47) d_Rc_collect_44 rfl f_Rc_25 gg_19 rfl ?_
      refine zr_top (v := ((S 19 3) + 1)) rfl ?_
      refine zr_istore_n (i := 2) (L' := [some (.ref 19), some (.int a1), some (.int ((S 19 3) + 1))]) (n := 48) d_Rc_collect_47 rfl rfl rfl rfl ?_
      refine zr_aload_n (i := 0) (x := 19) (n := 49) d_Rc_collect_48 rfl rfl rfl ?_
      refine zr_iconst (v := 0) (n := 50) d_Rc_collect_49 rfl (by decide) ?_
      refine zr_puti (n := 53) d_Rc_collect_50 rfl f_Rc_25 tw_Rc rfl rfl rfl rfl gg_19 rfl ?_
      refine zr_aload_n (i := 0) (x := 19) (n := 54) d_Rc_collect_53 rfl rfl rfl ?_
      refine zr_getr (n := 57) d_Rc_collect_54 rfl f_Rc_18 gg_19 rfl ?_
      refine zr_aload_n (i := 0) (x := 19) (n := 58) d_Rc_collect_57 rfl rfl rfl ?_
      refine zr_iload_n (i := 2) (x := ((S 19 3) + 1)) (n := 59) d_Rc_collect_58 rfl rfl rfl ?_
      refine zr_weak (zm_LE.skip (zm_LE.skip (zm_LE.skip zm_LE.nil))) ?_
      refine zr_callV (M' := M_Rc_judge) (mc' := 0) (ms' := 0) (av := [.int ((S 19 3) + 1)]) (rest := [.ref 25]) (n := 62) d_Rc_collect_59 rfl w_Rc_55 w_Rc_55k gg_19 rfl rfl rfl rfl rfl rfl (Nat.le_refl _) (Nat.le_refl _) ?_
      exact (l2 h1 h2)
theorem s_Rc_collect_62 {d : Nat} {Q : zm_Q} {S : zm_S} {r : Int32} (j1 : Nat) (o1 : zm_ix r j1 6)
    (l1 : Q none GG (zm_up S 25 j1 ((S 25 j1) + 1))) :
    zw M_Rc_collect (d + 3) Q 62 [none, none, none] [.int r, .ref 25] S := by
  refine zr_dup2 (n := 63) d_Rc_collect_62 rfl rfl rfl ?_
  refine zr_iaload j1 (n := 64) d_Rc_collect_63 rfl gg_25 o1 ?_
  refine zr_iconst (v := 1) (n := 65) d_Rc_collect_64 rfl (by decide) ?_
  refine zr_iadd (n := 66) d_Rc_collect_65 rfl ?_
  refine zr_iastore j1 (n := 67) d_Rc_collect_66 rfl gg_25 o1 ?_
  exact zr_return d_Rc_collect_67 rfl (Nat.le_refl _) (Nat.le_refl _) l1
theorem e_Rc_collect {d : Nat} {Q : zm_Q} {S : zm_S} {a1 : Int32} (h : zw M_Rc_collect (d + 3) Q 0 [some (.ref 19), some (.int a1), none] [] S) : zc M_Rc_collect (d + 3) [.ref 19, .int a1] S Q := zm_CC_intro (by decide) rfl rfl h
theorem s_Rc_judge_0 {d : Nat} {Q : zm_Q} {S : zm_S} {a1 : Int32}
    (l1 : a1 < 6 → Q (some 2) GG S)
    (l2 : ¬ a1 < 6 → zc M_Rc_hasCheckDue (d + 1) [.ref 19, .int a1] S (fun v G' S' => zm_WP M_Rc_judge none (d + 2) 0 0 Q 11 [some (.ref 19), some (.int a1)] (zm_ps v []) G' S' 0 0)) :
    zw M_Rc_judge (d + 2) Q 0 [some (.ref 19), some (.int a1)] [] S := by
  refine zr_iload_n (i := 1) (x := a1) (n := 1) d_Rc_judge_0 rfl rfl rfl ?_
  refine zr_bipush (v := 6) (n := 3) d_Rc_judge_1 rfl (by decide) ?_
  refine zr_icmp_lt (tgt := 14) (n := 6) d_Rc_judge_3 rfl (by decide) (fun h1 => ?_) (fun h1 => ?_)
  · refine zr_iconst (v := 2) (n := 15) d_Rc_judge_14 rfl (by decide) ?_
    exact zr_ireturn d_Rc_judge_15 rfl rfl (Nat.le_refl _) (Nat.le_refl _) (l1 h1)
  · refine zr_aload_n (i := 0) (x := 19) (n := 7) d_Rc_judge_6 rfl rfl rfl ?_
    refine zr_iload_n (i := 1) (x := a1) (n := 8) d_Rc_judge_7 rfl rfl rfl ?_
    refine zr_callV (M' := M_Rc_hasCheckDue) (mc' := 0) (ms' := 0) (av := [.int a1]) (rest := []) (n := 11) d_Rc_judge_8 rfl w_Rc_59 w_Rc_59k gg_19 rfl rfl rfl rfl rfl rfl (Nat.le_refl _) (Nat.le_refl _) ?_
    exact (l2 h1)
theorem s_Rc_judge_11 {d : Nat} {Q : zm_Q} {S : zm_S} {a1 r : Int32}
    (l1 : ¬ r = 0 → zc M_Rc_isList (d + 1) [.ref 19, .int a1] S (fun v G' S' => zm_WP M_Rc_judge none (d + 2) 0 0 Q 21 [some (.ref 19), some (.int a1)] (zm_ps v []) G' S' 0 0))
    (l2 : r = 0 → Q (some 2) GG S) :
    zw M_Rc_judge (d + 2) Q 11 [some (.ref 19), some (.int a1)] [.int r] S := by
  refine zr_if_ne (tgt := 16) (n := 14) d_Rc_judge_11 rfl (by decide) (fun h1 => ?_) (fun h1 => ?_)
  · refine zr_aload_n (i := 0) (x := 19) (n := 17) d_Rc_judge_16 rfl rfl rfl ?_
    refine zr_iload_n (i := 1) (x := a1) (n := 18) d_Rc_judge_17 rfl rfl rfl ?_
    refine zr_callV (M' := M_Rc_isList) (mc' := 0) (ms' := 0) (av := [.int a1]) (rest := []) (n := 21) d_Rc_judge_18 rfl w_Rc_63 w_Rc_63k gg_19 rfl rfl rfl rfl rfl rfl (Nat.le_refl _) (Nat.le_refl _) ?_
    exact (l1 h1)
  · refine zr_iconst (v := 2) (n := 15) d_Rc_judge_14 rfl (by decide) ?_
    exact zr_ireturn d_Rc_judge_15 rfl rfl (Nat.le_refl _) (Nat.le_refl _) (l2 h1)
theorem s_Rc_judge_21 {d : Nat} {Q : zm_Q} {S : zm_S} {a1 r : Int32}
    (l1 : r = 0 → ((¬ (S 26 0) = 60) ∨ ((S 26 0) = 60 ∧ ((a1 - 6) - 4) < 1) ∨ ((S 26 0) = 60 ∧ ¬ ((a1 - 6) - 4) < 1 ∧ 8 < ((a1 - 6) - 4))) → Q (some 3) GG S)
    (l2 : r = 0 → (S 26 0) = 60 → ¬ ((a1 - 6) - 4) < 1 → ¬ 8 < ((a1 - 6) - 4) → zc M_Mt_takeBlock (d + 1) [.ref 20, .ref 26, .int ((a1 - 6) - 4)] S (fun v G' S' => zm_WP M_Rc_judge none (d + 2) 0 0 Q 62 [none, none] (zm_ps v []) G' S' 0 0))
    (l3 : ¬ r = 0 → zc M_Mt_takeList (d + 1) [.ref 20, .ref 26] S (fun v G' S' => zm_WP M_Rc_judge none (d + 2) 0 0 Q 35 [none, none] (zm_ps v []) G' S' 0 0)) :
    zw M_Rc_judge (d + 2) Q 21 [some (.ref 19), some (.int a1)] [.int r] S := by
  refine zr_if_eq (tgt := 37) (n := 24) d_Rc_judge_21 rfl (by decide) (fun h1 => ?_) (fun h1 => ?_)
  · refine zr_aload_n (i := 0) (x := 19) (n := 38) d_Rc_judge_37 rfl rfl rfl ?_
    refine zr_iload_n (i := 1) (x := a1) (n := 39) d_Rc_judge_38 rfl rfl rfl ?_
    refine zr_callV (M' := M_Rc_isBlock) (mc' := 0) (ms' := 0) (av := [.int a1]) (rest := []) (n := 42) d_Rc_judge_39 rfl w_Rc_70 w_Rc_70k gg_19 rfl rfl rfl rfl rfl rfl (Nat.le_refl _) (Nat.le_refl _) ?_
    refine c_Rc_isBlock (a1 := a1) (fun h2 => ?_) (fun h3 h4 h5 => ?_)
    · refine zr_if_eq (tgt := 67) (n := 45) d_Rc_judge_42 rfl (by decide) (fun _ => ?_) (fun h => absurd h (by decide))
      refine zr_iconst (v := 3) (n := 68) d_Rc_judge_67 rfl (by decide) ?_
      exact zr_ireturn d_Rc_judge_68 rfl rfl (Nat.le_refl _) (Nat.le_refl _) (l1 h1 h2)
    · refine zr_if_eq (tgt := 67) (n := 45) d_Rc_judge_42 rfl (by decide) (fun h => absurd h (by decide)) (fun _ => ?_)
      refine zr_aload_n (i := 0) (x := 19) (n := 46) d_Rc_judge_45 rfl rfl rfl ?_
      refine zr_getr (n := 49) d_Rc_judge_46 rfl f_Rc_12 gg_19 rfl ?_
      refine zr_aload_n (i := 0) (x := 19) (n := 50) d_Rc_judge_49 rfl rfl rfl ?_
      refine zr_getr (n := 53) d_Rc_judge_50 rfl f_Rc_22 gg_19 rfl ?_
      refine zr_iload_n (i := 1) (x := a1) (n := 54) d_Rc_judge_53 rfl rfl rfl ?_
      refine zr_bipush (v := 6) (n := 56) d_Rc_judge_54 rfl (by decide) ?_
      refine zr_isub (n := 57) d_Rc_judge_56 rfl ?_
      refine zr_iconst (v := 4) (n := 58) d_Rc_judge_57 rfl (by decide) ?_
      refine zr_isub (n := 59) d_Rc_judge_58 rfl ?_
      refine zr_weak (zm_LE.skip (zm_LE.skip zm_LE.nil)) ?_
      refine zr_callV (M' := M_Mt_takeBlock) (mc' := 0) (ms' := 0) (av := [.ref 26, .int ((a1 - 6) - 4)]) (rest := []) (n := 62) d_Rc_judge_59 rfl w_Rc_73 w_Rc_73k gg_20 rfl rfl rfl rfl rfl rfl (Nat.le_refl _) (Nat.le_refl _) ?_
      exact (l2 h1 h3 h4 h5)
  · refine zr_aload_n (i := 0) (x := 19) (n := 25) d_Rc_judge_24 rfl rfl rfl ?_
    refine zr_getr (n := 28) d_Rc_judge_25 rfl f_Rc_12 gg_19 rfl ?_
    refine zr_aload_n (i := 0) (x := 19) (n := 29) d_Rc_judge_28 rfl rfl rfl ?_
    refine zr_getr (n := 32) d_Rc_judge_29 rfl f_Rc_22 gg_19 rfl ?_
    refine zr_weak (zm_LE.skip (zm_LE.skip zm_LE.nil)) ?_
    refine zr_callV (M' := M_Mt_takeList) (mc' := 0) (ms' := 0) (av := [.ref 26]) (rest := []) (n := 35) d_Rc_judge_32 rfl w_Rc_66 w_Rc_66k gg_20 rfl rfl rfl rfl rfl rfl (Nat.le_refl _) (Nat.le_refl _) ?_
    exact (l3 h1)
theorem s_Rc_judge_62 {d : Nat} {Q : zm_Q} {S : zm_S} {r : Int32}
    (l1 : r = 0 → Q (some 3) GG S)
    (l2 : ¬ r = 0 → Q (some 1) GG S) :
    zw M_Rc_judge (d + 2) Q 62 [none, none] [.int r] S := by
  refine zr_if_eq (tgt := 67) (n := 65) d_Rc_judge_62 rfl (by decide) (fun h1 => ?_) (fun h1 => ?_)
  · refine zr_iconst (v := 3) (n := 68) d_Rc_judge_67 rfl (by decide) ?_
    exact zr_ireturn d_Rc_judge_68 rfl rfl (Nat.le_refl _) (Nat.le_refl _) (l1 h1)
  · refine zr_iconst (v := 1) (n := 66) d_Rc_judge_65 rfl (by decide) ?_
    exact zr_ireturn d_Rc_judge_66 rfl rfl (Nat.le_refl _) (Nat.le_refl _) (l2 h1)
theorem s_Rc_judge_35 {d : Nat} {Q : zm_Q} {S : zm_S}
    (l1 : Q (some 0) GG S) :
    zw M_Rc_judge (d + 2) Q 35 [none, none] [] S := by
  refine zr_iconst (v := 0) (n := 36) d_Rc_judge_35 rfl (by decide) ?_
  exact zr_ireturn d_Rc_judge_36 rfl rfl (Nat.le_refl _) (Nat.le_refl _) l1
theorem e_Rc_judge {d : Nat} {Q : zm_Q} {S : zm_S} {a1 : Int32} (h : zw M_Rc_judge (d + 2) Q 0 [some (.ref 19), some (.int a1)] [] S) : zc M_Rc_judge (d + 2) [.ref 19, .int a1] S Q := zm_CC_intro (by decide) rfl rfl h
theorem s_Rc_hasCheckDue_0 {d : Nat} {Q : zm_Q} {S : zm_S} {a1 : Int32} (j1 : Nat) (j2 : Nat) (j3 : Nat) (j4 : Nat) (o1 : zm_ix (a1 - 4) j1 257) (o2 : zm_ix ((a1 - 4) + 1) j2 257) (o3 : zm_ix ((a1 - 4) + 2) j3 257) (o4 : zm_ix (((a1 - 4) + 2) + 1) j4 257)
    (l1 : zc M_CM_checkOf d [.ref 26, .int 0, .int (a1 - 4)] S (fun v G' S' => zm_WP M_Rc_hasCheckDue none (d + 1) 0 0 Q 37 [none, none, none, none] (zm_ps v [.int (((((S 26 j1) * 256) + (S 26 j2)) <<< (16 &&& 31)) ||| (((S 26 j3) * 256) + (S 26 j4)))]) G' S' 0 0)) :
    zw M_Rc_hasCheckDue (d + 1) Q 0 [some (.ref 19), some (.int a1), none, none] [] S := by
  refine zr_iload_n (i := 1) (x := a1) (n := 1) d_Rc_hasCheckDue_0 rfl rfl rfl ?_
  refine zr_iconst (v := 4) (n := 2) d_Rc_hasCheckDue_1 rfl (by decide) ?_
  refine zr_isub (n := 3) d_Rc_hasCheckDue_2 rfl ?_
  refine zr_istore_n (i := 2) (L' := [some (.ref 19), some (.int a1), some (.int (a1 - 4)), none]) (n := 4) d_Rc_hasCheckDue_3 rfl rfl rfl rfl ?_
  refine zr_aload_n (i := 0) (x := 19) (n := 5) d_Rc_hasCheckDue_4 rfl rfl rfl ?_
  refine zr_getr (n := 8) d_Rc_hasCheckDue_5 rfl f_Rc_22 gg_19 rfl ?_
  refine zr_iload_n (i := 2) (x := (a1 - 4)) (n := 9) d_Rc_hasCheckDue_8 rfl rfl rfl ?_
  refine zr_weak (zm_LE.cons (zm_LE.skip (zm_LE.cons (zm_LE.cons zm_LE.nil)))) ?_
  refine zr_callS (M' := M_CM_pairAt) (mc' := 0) (ms' := 0) (av := [.ref 26, .int (a1 - 4)]) (rest := []) (n := 12) d_Rc_hasCheckDue_9 rfl w_Rc_77 w_Rc_77k rfl rfl rfl rfl rfl (Nat.le_refl _) (Nat.le_refl _) ?_
  refine c_CM_pairAt (a1 := (a1 - 4)) j1 j2 o1 o2 ?_
  refine zr_bipush (v := 16) (n := 14) d_Rc_hasCheckDue_12 rfl (by decide) ?_
  refine zr_ishl (n := 15) d_Rc_hasCheckDue_14 rfl ?_
  refine zr_aload_n (i := 0) (x := 19) (n := 16) d_Rc_hasCheckDue_15 rfl rfl rfl ?_
  refine zr_getr (n := 19) d_Rc_hasCheckDue_16 rfl f_Rc_22 gg_19 rfl ?_
  refine zr_iload_n (i := 2) (x := (a1 - 4)) (n := 20) d_Rc_hasCheckDue_19 rfl rfl rfl ?_
  refine zr_iconst (v := 2) (n := 21) d_Rc_hasCheckDue_20 rfl (by decide) ?_
  refine zr_iadd (n := 22) d_Rc_hasCheckDue_21 rfl ?_
  refine zr_callS (M' := M_CM_pairAt) (mc' := 0) (ms' := 0) (av := [.ref 26, .int ((a1 - 4) + 2)]) (rest := [.int ((((S 26 j1) * 256) + (S 26 j2)) <<< (16 &&& 31))]) (n := 25) d_Rc_hasCheckDue_22 rfl w_Rc_77 w_Rc_77k rfl rfl rfl rfl rfl (Nat.le_refl _) (Nat.le_refl _) ?_
  refine c_CM_pairAt (a1 := ((a1 - 4) + 2)) j3 j4 o3 o4 ?_
  refine zr_ior (n := 26) d_Rc_hasCheckDue_25 rfl ?_
  refine zr_istore_n (i := 3) (L' := [some (.ref 19), none, some (.int (a1 - 4)), some (.int (((((S 26 j1) * 256) + (S 26 j2)) <<< (16 &&& 31)) ||| (((S 26 j3) * 256) + (S 26 j4))))]) (n := 27) d_Rc_hasCheckDue_26 rfl rfl rfl rfl ?_
  refine zr_iload_n (i := 3) (x := (((((S 26 j1) * 256) + (S 26 j2)) <<< (16 &&& 31)) ||| (((S 26 j3) * 256) + (S 26 j4)))) (n := 28) d_Rc_hasCheckDue_27 rfl rfl rfl ?_
  refine zr_aload_n (i := 0) (x := 19) (n := 29) d_Rc_hasCheckDue_28 rfl rfl rfl ?_
  refine zr_getr (n := 32) d_Rc_hasCheckDue_29 rfl f_Rc_22 gg_19 rfl ?_
  refine zr_iconst (v := 0) (n := 33) d_Rc_hasCheckDue_32 rfl (by decide) ?_
  refine zr_iload_n (i := 2) (x := (a1 - 4)) (n := 34) d_Rc_hasCheckDue_33 rfl rfl rfl ?_
  refine zr_weak (zm_LE.skip (zm_LE.cons (zm_LE.skip (zm_LE.skip zm_LE.nil)))) ?_
  refine zr_callS (M' := M_CM_checkOf) (mc' := 0) (ms' := 0) (av := [.ref 26, .int 0, .int (a1 - 4)]) (rest := [.int (((((S 26 j1) * 256) + (S 26 j2)) <<< (16 &&& 31)) ||| (((S 26 j3) * 256) + (S 26 j4)))]) (n := 37) d_Rc_hasCheckDue_34 rfl w_Rc_81 w_Rc_81k rfl rfl rfl rfl rfl (Nat.le_refl _) (Nat.le_refl _) ?_
  exact l1
theorem s_Rc_hasCheckDue_37 {d : Nat} {Q : zm_Q} {S : zm_S} {b0 r : Int32}
    (l1 : ¬ b0 = r → Q (some 0) GG S)
    (l2 : b0 = r → Q (some 1) GG S) :
    zw M_Rc_hasCheckDue (d + 1) Q 37 [none, none, none, none] [.int r, .int b0] S := by
  refine zr_icmp_ne (tgt := 44) (n := 40) d_Rc_hasCheckDue_37 rfl (by decide) (fun h1 => ?_) (fun h1 => ?_)
  · refine zr_iconst (v := 0) (n := 45) d_Rc_hasCheckDue_44 rfl (by decide) ?_
    exact zr_ireturn d_Rc_hasCheckDue_45 rfl (by decide) (Nat.le_refl _) (Nat.le_refl _) (l1 h1)
  · refine zr_iconst (v := 1) (n := 41) d_Rc_hasCheckDue_40 rfl (by decide) ?_
    refine zr_goto (tgt := 45) d_Rc_hasCheckDue_41 (by decide) ?_
    exact zr_ireturn d_Rc_hasCheckDue_45 rfl (by decide) (Nat.le_refl _) (Nat.le_refl _) (l2 h1)
theorem e_Rc_hasCheckDue {d : Nat} {Q : zm_Q} {S : zm_S} {a1 : Int32} (h : zw M_Rc_hasCheckDue (d + 1) Q 0 [some (.ref 19), some (.int a1), none, none] [] S) : zc M_Rc_hasCheckDue (d + 1) [.ref 19, .int a1] S Q := zm_CC_intro (by decide) rfl rfl h
theorem s_Rc_isList_0 {d : Nat} {Q : zm_Q} {S : zm_S} {a1 : Int32}
    (l1 : ((¬ (S 26 0) = 59) ∨ ((S 26 0) = 59 ∧ 9 ≤ a1 ∧ (S 26 4) < 1) ∨ ((S 26 0) = 59 ∧ 9 ≤ a1 ∧ ¬ (S 26 4) < 1 ∧ (S 26 4) ≤ 12 ∧ ¬ a1 = ((5 + (3 * (S 26 4))) + 4)) ∨ ((S 26 0) = 59 ∧ 9 ≤ a1 ∧ ¬ (S 26 4) < 1 ∧ ¬ (S 26 4) ≤ 12) ∨ ((S 26 0) = 59 ∧ ¬ 9 ≤ a1)) → Q (some 0) GG S)
    (l2 : (S 26 0) = 59 → 9 ≤ a1 → ¬ (S 26 4) < 1 → (S 26 4) ≤ 12 → a1 = ((5 + (3 * (S 26 4))) + 4) → zw M_Rc_isList d Q 54 [some (.ref 19), none, some (.int (S 26 4)), some (.int 0), none] [] S) :
    zw M_Rc_isList d Q 0 [some (.ref 19), some (.int a1), none, none, none] [] S := by
  refine zr_aload_n (i := 0) (x := 19) (n := 1) d_Rc_isList_0 rfl rfl rfl ?_
  refine zr_getr (n := 4) d_Rc_isList_1 rfl f_Rc_22 gg_19 rfl ?_
  refine zr_iconst (v := 0) (n := 5) d_Rc_isList_4 rfl (by decide) ?_
  refine zr_iaload 0 (n := 6) d_Rc_isList_5 rfl gg_26 (zm_ixN (Nat.le_of_ble_eq_true rfl) (Nat.le_of_ble_eq_true rfl)) ?_
  refine zr_bipush (v := 59) (n := 8) d_Rc_isList_6 rfl (by decide) ?_
  refine zr_icmp_ne (tgt := 17) (n := 11) d_Rc_isList_8 rfl (by decide) (fun h1 => ?_) (fun h1 => ?_)
  · refine zr_iconst (v := 0) (n := 18) d_Rc_isList_17 rfl (by decide) ?_
    exact zr_ireturn d_Rc_isList_18 rfl (by decide) (Nat.le_refl _) (Nat.le_refl _) (l1 (Or.inl h1))
  · refine zr_iload_n (i := 1) (x := a1) (n := 12) d_Rc_isList_11 rfl rfl rfl ?_
    refine zr_bipush (v := 9) (n := 14) d_Rc_isList_12 rfl (by decide) ?_
    refine zr_icmp_ge (tgt := 19) (n := 17) d_Rc_isList_14 rfl (by decide) (fun h2 => ?_) (fun h2 => ?_)
    · refine zr_aload_n (i := 0) (x := 19) (n := 20) d_Rc_isList_19 rfl rfl rfl ?_
      refine zr_getr (n := 23) d_Rc_isList_20 rfl f_Rc_22 gg_19 rfl ?_
      refine zr_iconst (v := 4) (n := 24) d_Rc_isList_23 rfl (by decide) ?_
      refine zr_iaload 4 (n := 25) d_Rc_isList_24 rfl gg_26 (zm_ixN (Nat.le_of_ble_eq_true rfl) (Nat.le_of_ble_eq_true rfl)) ?_
      refine zr_istore_n (i := 2) (L' := [some (.ref 19), some (.int a1), some (.int (S 26 4)), none, none]) (n := 26) d_Rc_isList_25 rfl rfl rfl rfl ?_
      refine zr_iload_n (i := 2) (x := (S 26 4)) (n := 27) d_Rc_isList_26 rfl rfl rfl ?_
      refine zr_iconst (v := 1) (n := 28) d_Rc_isList_27 rfl (by decide) ?_
      refine zr_icmp_lt (tgt := 37) (n := 31) d_Rc_isList_28 rfl (by decide) (fun h3 => ?_) (fun h3 => ?_)
      · refine zr_iconst (v := 0) (n := 38) d_Rc_isList_37 rfl (by decide) ?_
        exact zr_ireturn d_Rc_isList_38 rfl (by decide) (Nat.le_refl _) (Nat.le_refl _) (l1 (Or.inr (Or.inl ⟨h1, h2, h3⟩)))
      · refine zr_iload_n (i := 2) (x := (S 26 4)) (n := 32) d_Rc_isList_31 rfl rfl rfl ?_
        refine zr_bipush (v := 12) (n := 34) d_Rc_isList_32 rfl (by decide) ?_
        refine zr_icmp_le (tgt := 39) (n := 37) d_Rc_isList_34 rfl (by decide) (fun h4 => ?_) (fun h4 => ?_)
        · refine zr_iload_n (i := 1) (x := a1) (n := 40) d_Rc_isList_39 rfl rfl rfl ?_
          refine zr_iconst (v := 5) (n := 41) d_Rc_isList_40 rfl (by decide) ?_
          refine zr_iconst (v := 3) (n := 42) d_Rc_isList_41 rfl (by decide) ?_
          refine zr_iload_n (i := 2) (x := (S 26 4)) (n := 43) d_Rc_isList_42 rfl rfl rfl ?_
          refine zr_imul (n := 44) d_Rc_isList_43 rfl ?_
          refine zr_iadd (n := 45) d_Rc_isList_44 rfl ?_
          refine zr_iconst (v := 4) (n := 46) d_Rc_isList_45 rfl (by decide) ?_
          refine zr_iadd (n := 47) d_Rc_isList_46 rfl ?_
          refine zr_icmp_eq (tgt := 52) (n := 50) d_Rc_isList_47 rfl (by decide) (fun h5 => ?_) (fun h5 => ?_)
          · refine zr_iconst (v := 0) (n := 53) d_Rc_isList_52 rfl (by decide) ?_
            refine zr_istore_n (i := 3) (L' := [some (.ref 19), some (.int a1), some (.int (S 26 4)), some (.int 0), none]) (n := 54) d_Rc_isList_53 rfl rfl rfl rfl ?_
            exact zr_weak (zm_LE.cons (zm_LE.skip (zm_LE.cons (zm_LE.cons (zm_LE.cons zm_LE.nil))))) (l2 h1 h2 h3 h4 h5)
          · refine zr_iconst (v := 0) (n := 51) d_Rc_isList_50 rfl (by decide) ?_
            exact zr_ireturn d_Rc_isList_51 rfl (by decide) (Nat.le_refl _) (Nat.le_refl _) (l1 (Or.inr (Or.inr (Or.inl ⟨h1, h2, h3, h4, h5⟩))))
        · refine zr_iconst (v := 0) (n := 38) d_Rc_isList_37 rfl (by decide) ?_
          exact zr_ireturn d_Rc_isList_38 rfl (by decide) (Nat.le_refl _) (Nat.le_refl _) (l1 (Or.inr (Or.inr (Or.inr (Or.inl ⟨h1, h2, h3, h4⟩)))))
    · refine zr_iconst (v := 0) (n := 18) d_Rc_isList_17 rfl (by decide) ?_
      exact zr_ireturn d_Rc_isList_18 rfl (by decide) (Nat.le_refl _) (Nat.le_refl _) (l1 (Or.inr (Or.inr (Or.inr (Or.inr ⟨h1, h2⟩)))))
theorem s_Rc_isList_54 {d : Nat} {Q : zm_Q} {S : zm_S} {a2 a3 : Int32} (j1 : Nat) (o1 : ¬ a2 ≤ a3 → zm_ix (5 + (3 * a3)) j1 257)
    (l1 : a2 ≤ a3 → Q (some 1) GG S)
    (l2 : ((¬ a2 ≤ a3 ∧ (S 26 j1) < 1) ∨ (¬ a2 ≤ a3 ∧ ¬ (S 26 j1) < 1 ∧ ¬ (S 26 j1) ≤ 48)) → Q (some 0) GG S)
    (l3 : ¬ a2 ≤ a3 → ¬ (S 26 j1) < 1 → (S 26 j1) ≤ 48 → zw M_Rc_isList d Q 54 [some (.ref 19), none, some (.int a2), some (.int (a3 + 1)), none] [] S) :
    zw M_Rc_isList d Q 54 [some (.ref 19), none, some (.int a2), some (.int a3), none] [] S := by
  refine zr_iload_n (i := 3) (x := a3) (n := 55) d_Rc_isList_54 rfl rfl rfl ?_
  refine zr_iload_n (i := 2) (x := a2) (n := 56) d_Rc_isList_55 rfl rfl rfl ?_
  refine zr_icmp_ge (tgt := 92) (n := 59) d_Rc_isList_56 rfl (by decide) (fun h1 => ?_) (fun h1 => ?_)
  · refine zr_iconst (v := 1) (n := 93) d_Rc_isList_92 rfl (by decide) ?_
    exact zr_ireturn d_Rc_isList_93 rfl (by decide) (Nat.le_refl _) (Nat.le_refl _) (l1 h1)
  · refine zr_aload_n (i := 0) (x := 19) (n := 60) d_Rc_isList_59 rfl rfl rfl ?_
    refine zr_getr (n := 63) d_Rc_isList_60 rfl f_Rc_22 gg_19 rfl ?_
    refine zr_iconst (v := 5) (n := 64) d_Rc_isList_63 rfl (by decide) ?_
    refine zr_iconst (v := 3) (n := 65) d_Rc_isList_64 rfl (by decide) ?_
    refine zr_iload_n (i := 3) (x := a3) (n := 66) d_Rc_isList_65 rfl rfl rfl ?_
    refine zr_imul (n := 67) d_Rc_isList_66 rfl ?_
    refine zr_iadd (n := 68) d_Rc_isList_67 rfl ?_
    refine zr_iaload j1 (n := 69) d_Rc_isList_68 rfl gg_26 (o1 h1) ?_
    refine zr_istore (i := 4) (L' := [some (.ref 19), none, some (.int a2), some (.int a3), some (.int (S 26 j1))]) (n := 71) d_Rc_isList_69 rfl rfl rfl ?_
    refine zr_iload (i := 4) (x := (S 26 j1)) (n := 73) d_Rc_isList_71 rfl rfl ?_
    refine zr_iconst (v := 1) (n := 74) d_Rc_isList_73 rfl (by decide) ?_
    refine zr_icmp_lt (tgt := 84) (n := 77) d_Rc_isList_74 rfl (by decide) (fun h2 => ?_) (fun h2 => ?_)
    · refine zr_iconst (v := 0) (n := 85) d_Rc_isList_84 rfl (by decide) ?_
      exact zr_ireturn d_Rc_isList_85 rfl (by decide) (Nat.le_refl _) (Nat.le_refl _) (l2 (Or.inl ⟨h1, h2⟩))
    · refine zr_iload (i := 4) (x := (S 26 j1)) (n := 79) d_Rc_isList_77 rfl rfl ?_
      refine zr_bipush (v := 48) (n := 81) d_Rc_isList_79 rfl (by decide) ?_
      refine zr_icmp_le (tgt := 86) (n := 84) d_Rc_isList_81 rfl (by decide) (fun h3 => ?_) (fun h3 => ?_)
      · refine zr_iinc (i := 3) (w := 1) (x := a3) (L' := [some (.ref 19), none, some (.int a2), some (.int (a3 + 1)), some (.int (S 26 j1))]) (n := 89) d_Rc_isList_86 rfl (by decide) rfl rfl ?_
        refine zr_goto (tgt := 54) d_Rc_isList_89 (by decide) ?_
        exact zr_weak (zm_LE.cons (zm_LE.cons (zm_LE.cons (zm_LE.cons (zm_LE.skip zm_LE.nil))))) (l3 h1 h2 h3)
      · refine zr_iconst (v := 0) (n := 85) d_Rc_isList_84 rfl (by decide) ?_
        exact zr_ireturn d_Rc_isList_85 rfl (by decide) (Nat.le_refl _) (Nat.le_refl _) (l2 (Or.inr ⟨h1, h2, h3⟩))
theorem e_Rc_isList {d : Nat} {Q : zm_Q} {S : zm_S} {a1 : Int32} (h : zw M_Rc_isList d Q 0 [some (.ref 19), some (.int a1), none, none, none] [] S) : zc M_Rc_isList d [.ref 19, .int a1] S Q := zm_CC_intro (by decide) rfl rfl h
theorem s_Sn_beginCycleOf_0 {d : Nat} {Q : zm_Q} {S : zm_S}
    (l1 : zc M_Cy_renew (d + 4) [.ref 16, .ref 7] S (fun v G' S' => zm_WP M_Sn_beginCycleOf none (d + 5) 0 0 Q 8 [some (.ref 14), none] (zm_ps v []) G' S' 0 0)) :
    zw M_Sn_beginCycleOf (d + 5) Q 0 [some (.ref 14), some (.ref 7)] [] S := by
  refine zr_aload_n (i := 0) (x := 14) (n := 1) d_Sn_beginCycleOf_0 rfl rfl rfl ?_
  refine zr_getr (n := 4) d_Sn_beginCycleOf_1 rfl f_Sn_18 gg_14 rfl ?_
  refine zr_aload_n (i := 1) (x := 7) (n := 5) d_Sn_beginCycleOf_4 rfl rfl rfl ?_
  refine zr_weak (zm_LE.cons (zm_LE.skip zm_LE.nil)) ?_
  refine zr_callV (M' := M_Cy_renew) (mc' := 0) (ms' := 0) (av := [.ref 7]) (rest := []) (n := 8) d_Sn_beginCycleOf_5 rfl w_Sn_35 w_Sn_35k gg_16 rfl rfl rfl rfl rfl rfl (Nat.le_refl _) (Nat.le_refl _) ?_
  exact l1
theorem s_Sn_beginCycleOf_8 {d : Nat} {Q : zm_Q} {S : zm_S}
    (l1 : zc M_Sn_prepare (d + 4) [.ref 14] (zm_up S 14 3 0) (fun v G' S' => zm_WP M_Sn_beginCycleOf none (d + 5) 0 0 Q 17 [none, none] (zm_ps v []) G' S' 0 0)) :
    zw M_Sn_beginCycleOf (d + 5) Q 8 [some (.ref 14), none] [] S := by
  refine zr_aload_n (i := 0) (x := 14) (n := 9) d_Sn_beginCycleOf_8 rfl rfl rfl ?_
  refine zr_iconst (v := 0) (n := 10) d_Sn_beginCycleOf_9 rfl (by decide) ?_
  refine zr_puti (n := 13) d_Sn_beginCycleOf_10 rfl f_Sn_26 tw_Sn rfl rfl rfl rfl gg_14 rfl ?_
  refine zr_aload_n (i := 0) (x := 14) (n := 14) d_Sn_beginCycleOf_13 rfl rfl rfl ?_
  refine zr_weak (zm_LE.skip (zm_LE.cons zm_LE.nil)) ?_
  refine zr_callV (M' := M_Sn_prepare) (mc' := 0) (ms' := 0) (av := []) (rest := []) (n := 17) d_Sn_beginCycleOf_14 rfl w_Sn_39 w_Sn_39k gg_14 rfl rfl rfl rfl rfl rfl (Nat.le_refl _) (Nat.le_refl _) ?_
  exact l1
theorem s_Sn_beginCycleOf_17 {d : Nat} {Q : zm_Q} {S : zm_S}
    (l1 : Q none GG S) :
    zw M_Sn_beginCycleOf (d + 5) Q 17 [none, none] [] S := by
  exact zr_return d_Sn_beginCycleOf_17 rfl (Nat.le_refl _) (Nat.le_refl _) l1
theorem e_Sn_beginCycleOf {d : Nat} {Q : zm_Q} {S : zm_S} (h : zw M_Sn_beginCycleOf (d + 5) Q 0 [some (.ref 14), some (.ref 7)] [] S) : zc M_Sn_beginCycleOf (d + 5) [.ref 14, .ref 7] S Q := zm_CC_intro (by decide) rfl rfl h
theorem s_Sn_advance_0 {d : Nat} {Q : zm_Q} {S : zm_S}
    (l1 : (S 16 1) ≤ (S 14 4) → zc M_Sn_prepare (d + 1) [.ref 14] (zm_up (zm_up S 14 2 (((S 14 2) + 1) &&& 15)) 14 3 0) (fun v G' S' => zm_WP M_Sn_advance none (d + 2) 0 0 Q 43 [none] (zm_ps v []) G' S' 0 0))
    (l2 : ¬ (S 16 1) ≤ (S 14 4) → zc M_Sn_prepare (d + 1) [.ref 14] (zm_up (zm_up S 14 2 (((S 14 2) + 1) &&& 15)) 14 3 (S 14 4)) (fun v G' S' => zm_WP M_Sn_advance none (d + 2) 0 0 Q 43 [none] (zm_ps v []) G' S' 0 0)) :
    zw M_Sn_advance (d + 2) Q 0 [some (.ref 14)] [] S := by
  refine zr_aload_n (i := 0) (x := 14) (n := 1) d_Sn_advance_0 rfl rfl rfl ?_
  refine zr_aload_n (i := 0) (x := 14) (n := 2) d_Sn_advance_1 rfl rfl rfl ?_
  refine zr_geti (n := 5) d_Sn_advance_2 rfl f_Sn_22 gg_14 rfl ?_
  refine zr_iconst (v := 1) (n := 6) d_Sn_advance_5 rfl (by decide) ?_
  refine zr_iadd (n := 7) d_Sn_advance_6 rfl ?_
  refine zr_bipush (v := 15) (n := 9) d_Sn_advance_7 rfl (by decide) ?_
  refine zr_iand (n := 10) d_Sn_advance_9 rfl ?_
  refine zr_puti (n := 13) d_Sn_advance_10 rfl f_Sn_22 tw_Sn rfl rfl rfl rfl gg_14 rfl ?_
  refine zr_aload_n (i := 0) (x := 14) (n := 14) d_Sn_advance_13 rfl rfl rfl ?_
  refine zr_aload_n (i := 0) (x := 14) (n := 15) d_Sn_advance_14 rfl rfl rfl ?_
  refine zr_geti (n := 18) d_Sn_advance_15 rfl f_Sn_29 gg_14 rfl ?_
  refine zr_aload_n (i := 0) (x := 14) (n := 19) d_Sn_advance_18 rfl rfl rfl ?_
  refine zr_getr (n := 22) d_Sn_advance_19 rfl f_Sn_18 gg_14 rfl ?_
  refine zr_geti (n := 25) d_Sn_advance_22 rfl f_Sn_32 gg_16 rfl ?_
  refine zr_icmp_ge (tgt := 35) (n := 28) d_Sn_advance_25 rfl (by decide) (fun h1 => ?_) (fun h1 => ?_)
  · refine zr_iconst (v := 0) (n := 36) d_Sn_advance_35 rfl (by decide) ?_
    refine zr_puti (n := 39) d_Sn_advance_36 rfl f_Sn_26 tw_Sn rfl rfl rfl rfl gg_14 rfl ?_
    refine zr_aload_n (i := 0) (x := 14) (n := 40) d_Sn_advance_39 rfl rfl rfl ?_
    refine zr_weak (zm_LE.skip zm_LE.nil) ?_
    refine zr_callV (M' := M_Sn_prepare) (mc' := 0) (ms' := 0) (av := []) (rest := []) (n := 43) d_Sn_advance_40 rfl w_Sn_39 w_Sn_39k gg_14 rfl rfl rfl rfl rfl rfl (Nat.le_refl _) (Nat.le_refl _) ?_
    exact (l1 h1)
  · refine zr_aload_n (i := 0) (x := 14) (n := 29) d_Sn_advance_28 rfl rfl rfl ?_
    refine zr_geti (n := 32) d_Sn_advance_29 rfl f_Sn_29 gg_14 rfl ?_
    refine zr_goto (tgt := 36) d_Sn_advance_32 (by decide) ?_
    refine zr_puti (n := 39) d_Sn_advance_36 rfl f_Sn_26 tw_Sn rfl rfl rfl rfl gg_14 rfl ?_
    refine zr_aload_n (i := 0) (x := 14) (n := 40) d_Sn_advance_39 rfl rfl rfl ?_
    refine zr_weak (zm_LE.skip zm_LE.nil) ?_
    refine zr_callV (M' := M_Sn_prepare) (mc' := 0) (ms' := 0) (av := []) (rest := []) (n := 43) d_Sn_advance_40 rfl w_Sn_39 w_Sn_39k gg_14 rfl rfl rfl rfl rfl rfl (Nat.le_refl _) (Nat.le_refl _) ?_
    exact (l2 h1)
theorem s_Sn_advance_43 {d : Nat} {Q : zm_Q} {S : zm_S}
    (l1 : Q none GG S) :
    zw M_Sn_advance (d + 2) Q 43 [none] [] S := by
  exact zr_return d_Sn_advance_43 rfl (Nat.le_refl _) (Nat.le_refl _) l1
theorem e_Sn_advance {d : Nat} {Q : zm_Q} {S : zm_S} (h : zw M_Sn_advance (d + 2) Q 0 [some (.ref 14)] [] S) : zc M_Sn_advance (d + 2) [.ref 14] S Q := zm_CC_intro (by decide) rfl rfl h
theorem s_Sn_prepare_0 {d : Nat} {Q : zm_Q} {S : zm_S}
    (l1 : zc M_Cy_startFrom d [.ref 16, .int (S 14 3)] S (fun v G' S' => zm_WP M_Sn_prepare none (d + 1) 0 0 Q 11 [some (.ref 14), none, none, none] (zm_ps v []) G' S' 0 0)) :
    zw M_Sn_prepare (d + 1) Q 0 [some (.ref 14), none, none, none] [] S := by
  refine zr_aload_n (i := 0) (x := 14) (n := 1) d_Sn_prepare_0 rfl rfl rfl ?_
  refine zr_getr (n := 4) d_Sn_prepare_1 rfl f_Sn_18 gg_14 rfl ?_
  refine zr_aload_n (i := 0) (x := 14) (n := 5) d_Sn_prepare_4 rfl rfl rfl ?_
  refine zr_geti (n := 8) d_Sn_prepare_5 rfl f_Sn_26 gg_14 rfl ?_
  refine zr_callV (M' := M_Cy_startFrom) (mc' := 0) (ms' := 0) (av := [.int (S 14 3)]) (rest := []) (n := 11) d_Sn_prepare_8 rfl w_Sn_42 w_Sn_42k gg_16 rfl rfl rfl rfl rfl rfl (Nat.le_refl _) (Nat.le_refl _) ?_
  exact l1
theorem s_Sn_prepare_11 {d : Nat} {Q : zm_Q} {S : zm_S} {r : Int32}
    (l1 : ((12 < (r - (S 14 3))) ∨ (¬ 12 < (r - (S 14 3)) ∧ (S 16 1) ≤ r)) → zc M_Sn_load d [.ref 14, .int 2, .int r] (zm_up (zm_up S 15 0 71) 15 1 (S 14 2)) (fun v G' S' => zm_WP M_Sn_prepare none (d + 1) 0 0 Q 106 [none, none, none, none] (zm_ps v []) G' S' 0 0))
    (l2 : ¬ 12 < (r - (S 14 3)) → ¬ (S 16 1) ≤ r → zc M_Sn_load d [.ref 14, .int 3, .int (S 16 1)] (zm_up (zm_up (zm_up S 15 0 71) 15 1 (64 ||| (S 14 2))) 15 2 (r - (S 14 3))) (fun v G' S' => zm_WP M_Sn_prepare none (d + 1) 0 0 Q 97 [none, none, none, none] (zm_ps v []) G' S' 0 0)) :
    zw M_Sn_prepare (d + 1) Q 11 [some (.ref 14), none, none, none] [.int r] S := by
  refine zr_istore_n (i := 1) (L' := [some (.ref 14), some (.int r), none, none]) (n := 12) d_Sn_prepare_11 rfl rfl rfl rfl ?_
  refine zr_iload_n (i := 1) (x := r) (n := 13) d_Sn_prepare_12 rfl rfl rfl ?_
  refine zr_aload_n (i := 0) (x := 14) (n := 14) d_Sn_prepare_13 rfl rfl rfl ?_
  refine zr_geti (n := 17) d_Sn_prepare_14 rfl f_Sn_26 gg_14 rfl ?_
  refine zr_isub (n := 18) d_Sn_prepare_17 rfl ?_
  refine zr_istore_n (i := 2) (L' := [some (.ref 14), some (.int r), some (.int (r - (S 14 3))), none]) (n := 19) d_Sn_prepare_18 rfl rfl rfl rfl ?_
  refine zr_iload_n (i := 2) (x := (r - (S 14 3))) (n := 20) d_Sn_prepare_19 rfl rfl rfl ?_
  refine zr_bipush (v := 12) (n := 22) d_Sn_prepare_20 rfl (by decide) ?_
  refine zr_icmp_gt (tgt := 40) (n := 25) d_Sn_prepare_22 rfl (by decide) (fun h1 => ?_) (fun h1 => ?_)
  · refine zr_iconst (v := 0) (n := 41) d_Sn_prepare_40 rfl (by decide) ?_
    refine zr_istore_n (i := 3) (L' := [some (.ref 14), some (.int r), some (.int (r - (S 14 3))), some (.int 0)]) (n := 42) d_Sn_prepare_41 rfl rfl rfl rfl ?_
    refine zr_aload_n (i := 0) (x := 14) (n := 43) d_Sn_prepare_42 rfl rfl rfl ?_
    refine zr_getr (n := 46) d_Sn_prepare_43 rfl f_Sn_9 gg_14 rfl ?_
    refine zr_iconst (v := 0) (n := 47) d_Sn_prepare_46 rfl (by decide) ?_
    refine zr_bipush (v := 71) (n := 49) d_Sn_prepare_47 rfl (by decide) ?_
    refine zr_iastore 0 (n := 50) d_Sn_prepare_49 rfl gg_15 (zm_ixN (Nat.le_of_ble_eq_true rfl) (Nat.le_of_ble_eq_true rfl)) ?_
    refine zr_aload_n (i := 0) (x := 14) (n := 51) d_Sn_prepare_50 rfl rfl rfl ?_
    refine zr_getr (n := 54) d_Sn_prepare_51 rfl f_Sn_9 gg_14 rfl ?_
    refine zr_iconst (v := 1) (n := 55) d_Sn_prepare_54 rfl (by decide) ?_
    refine zr_iload_n (i := 3) (x := 0) (n := 56) d_Sn_prepare_55 rfl rfl rfl ?_
    refine zr_if_eq (tgt := 69) (n := 59) d_Sn_prepare_56 rfl (by decide) (fun _ => ?_) (fun h => absurd h (by decide))
    refine zr_aload_n (i := 0) (x := 14) (n := 70) d_Sn_prepare_69 rfl rfl rfl ?_
    refine zr_geti (n := 73) d_Sn_prepare_70 rfl f_Sn_22 gg_14 rfl ?_
    refine zr_iastore 1 (n := 74) d_Sn_prepare_73 rfl gg_15 (zm_ixN (Nat.le_of_ble_eq_true rfl) (Nat.le_of_ble_eq_true rfl)) ?_
    refine zr_iload_n (i := 3) (x := 0) (n := 75) d_Sn_prepare_74 rfl rfl rfl ?_
    refine zr_if_eq (tgt := 100) (n := 78) d_Sn_prepare_75 rfl (by decide) (fun _ => ?_) (fun h => absurd h (by decide))
    refine zr_aload_n (i := 0) (x := 14) (n := 101) d_Sn_prepare_100 rfl rfl rfl ?_
    refine zr_iconst (v := 2) (n := 102) d_Sn_prepare_101 rfl (by decide) ?_
    refine zr_iload_n (i := 1) (x := r) (n := 103) d_Sn_prepare_102 rfl rfl rfl ?_
    refine zr_weak (zm_LE.skip (zm_LE.skip (zm_LE.skip (zm_LE.skip zm_LE.nil)))) ?_
    refine zr_callV (M' := M_Sn_load) (mc' := 0) (ms' := 0) (av := [.int 2, .int r]) (rest := []) (n := 106) d_Sn_prepare_103 rfl w_Sn_46 w_Sn_46k gg_14 rfl rfl rfl rfl rfl rfl (Nat.le_refl _) (Nat.le_refl _) ?_
    exact (l1 (Or.inl h1))
  · refine zr_iload_n (i := 1) (x := r) (n := 26) d_Sn_prepare_25 rfl rfl rfl ?_
    refine zr_aload_n (i := 0) (x := 14) (n := 27) d_Sn_prepare_26 rfl rfl rfl ?_
    refine zr_getr (n := 30) d_Sn_prepare_27 rfl f_Sn_18 gg_14 rfl ?_
    refine zr_geti (n := 33) d_Sn_prepare_30 rfl f_Sn_32 gg_16 rfl ?_
    refine zr_icmp_ge (tgt := 40) (n := 36) d_Sn_prepare_33 rfl (by decide) (fun h2 => ?_) (fun h2 => ?_)
    · refine zr_iconst (v := 0) (n := 41) d_Sn_prepare_40 rfl (by decide) ?_
      refine zr_istore_n (i := 3) (L' := [some (.ref 14), some (.int r), some (.int (r - (S 14 3))), some (.int 0)]) (n := 42) d_Sn_prepare_41 rfl rfl rfl rfl ?_
      refine zr_aload_n (i := 0) (x := 14) (n := 43) d_Sn_prepare_42 rfl rfl rfl ?_
      refine zr_getr (n := 46) d_Sn_prepare_43 rfl f_Sn_9 gg_14 rfl ?_
      refine zr_iconst (v := 0) (n := 47) d_Sn_prepare_46 rfl (by decide) ?_
      refine zr_bipush (v := 71) (n := 49) d_Sn_prepare_47 rfl (by decide) ?_
      refine zr_iastore 0 (n := 50) d_Sn_prepare_49 rfl gg_15 (zm_ixN (Nat.le_of_ble_eq_true rfl) (Nat.le_of_ble_eq_true rfl)) ?_
      refine zr_aload_n (i := 0) (x := 14) (n := 51) d_Sn_prepare_50 rfl rfl rfl ?_
      refine zr_getr (n := 54) d_Sn_prepare_51 rfl f_Sn_9 gg_14 rfl ?_
      refine zr_iconst (v := 1) (n := 55) d_Sn_prepare_54 rfl (by decide) ?_
      refine zr_iload_n (i := 3) (x := 0) (n := 56) d_Sn_prepare_55 rfl rfl rfl ?_
      refine zr_if_eq (tgt := 69) (n := 59) d_Sn_prepare_56 rfl (by decide) (fun _ => ?_) (fun h => absurd h (by decide))
      refine zr_aload_n (i := 0) (x := 14) (n := 70) d_Sn_prepare_69 rfl rfl rfl ?_
      refine zr_geti (n := 73) d_Sn_prepare_70 rfl f_Sn_22 gg_14 rfl ?_
      refine zr_iastore 1 (n := 74) d_Sn_prepare_73 rfl gg_15 (zm_ixN (Nat.le_of_ble_eq_true rfl) (Nat.le_of_ble_eq_true rfl)) ?_
      refine zr_iload_n (i := 3) (x := 0) (n := 75) d_Sn_prepare_74 rfl rfl rfl ?_
      refine zr_if_eq (tgt := 100) (n := 78) d_Sn_prepare_75 rfl (by decide) (fun _ => ?_) (fun h => absurd h (by decide))
      refine zr_aload_n (i := 0) (x := 14) (n := 101) d_Sn_prepare_100 rfl rfl rfl ?_
      refine zr_iconst (v := 2) (n := 102) d_Sn_prepare_101 rfl (by decide) ?_
      refine zr_iload_n (i := 1) (x := r) (n := 103) d_Sn_prepare_102 rfl rfl rfl ?_
      refine zr_weak (zm_LE.skip (zm_LE.skip (zm_LE.skip (zm_LE.skip zm_LE.nil)))) ?_
      refine zr_callV (M' := M_Sn_load) (mc' := 0) (ms' := 0) (av := [.int 2, .int r]) (rest := []) (n := 106) d_Sn_prepare_103 rfl w_Sn_46 w_Sn_46k gg_14 rfl rfl rfl rfl rfl rfl (Nat.le_refl _) (Nat.le_refl _) ?_
      exact (l1 (Or.inr ⟨h1, h2⟩))
    · refine zr_iconst (v := 1) (n := 37) d_Sn_prepare_36 rfl (by decide) ?_
      refine zr_goto (tgt := 41) d_Sn_prepare_37 (by decide) ?_
      refine zr_istore_n (i := 3) (L' := [some (.ref 14), some (.int r), some (.int (r - (S 14 3))), some (.int 1)]) (n := 42) d_Sn_prepare_41 rfl rfl rfl rfl ?_
      refine zr_aload_n (i := 0) (x := 14) (n := 43) d_Sn_prepare_42 rfl rfl rfl ?_
      refine zr_getr (n := 46) d_Sn_prepare_43 rfl f_Sn_9 gg_14 rfl ?_
      refine zr_iconst (v := 0) (n := 47) d_Sn_prepare_46 rfl (by decide) ?_
      refine zr_bipush (v := 71) (n := 49) d_Sn_prepare_47 rfl (by decide) ?_
      refine zr_iastore 0 (n := 50) d_Sn_prepare_49 rfl gg_15 (zm_ixN (Nat.le_of_ble_eq_true rfl) (Nat.le_of_ble_eq_true rfl)) ?_
      refine zr_aload_n (i := 0) (x := 14) (n := 51) d_Sn_prepare_50 rfl rfl rfl ?_
      refine zr_getr (n := 54) d_Sn_prepare_51 rfl f_Sn_9 gg_14 rfl ?_
      refine zr_iconst (v := 1) (n := 55) d_Sn_prepare_54 rfl (by decide) ?_
      refine zr_iload_n (i := 3) (x := 1) (n := 56) d_Sn_prepare_55 rfl rfl rfl ?_
      refine zr_if_eq (tgt := 69) (n := 59) d_Sn_prepare_56 rfl (by decide) (fun h => absurd h (by decide)) (fun _ => ?_)
      refine zr_bipush (v := 64) (n := 61) d_Sn_prepare_59 rfl (by decide) ?_
      refine zr_aload_n (i := 0) (x := 14) (n := 62) d_Sn_prepare_61 rfl rfl rfl ?_
      refine zr_geti (n := 65) d_Sn_prepare_62 rfl f_Sn_22 gg_14 rfl ?_
      refine zr_ior (n := 66) d_Sn_prepare_65 rfl ?_
      refine zr_goto (tgt := 73) d_Sn_prepare_66 (by decide) ?_
      refine zr_iastore 1 (n := 74) d_Sn_prepare_73 rfl gg_15 (zm_ixN (Nat.le_of_ble_eq_true rfl) (Nat.le_of_ble_eq_true rfl)) ?_
      refine zr_iload_n (i := 3) (x := 1) (n := 75) d_Sn_prepare_74 rfl rfl rfl ?_
      refine zr_if_eq (tgt := 100) (n := 78) d_Sn_prepare_75 rfl (by decide) (fun h => absurd h (by decide)) (fun _ => ?_)
      refine zr_aload_n (i := 0) (x := 14) (n := 79) d_Sn_prepare_78 rfl rfl rfl ?_
      refine zr_getr (n := 82) d_Sn_prepare_79 rfl f_Sn_9 gg_14 rfl ?_
      refine zr_iconst (v := 2) (n := 83) d_Sn_prepare_82 rfl (by decide) ?_
      refine zr_iload_n (i := 2) (x := (r - (S 14 3))) (n := 84) d_Sn_prepare_83 rfl rfl rfl ?_
      refine zr_iastore 2 (n := 85) d_Sn_prepare_84 rfl gg_15 (zm_ixN (Nat.le_of_ble_eq_true rfl) (Nat.le_of_ble_eq_true rfl)) ?_
      refine zr_aload_n (i := 0) (x := 14) (n := 86) d_Sn_prepare_85 rfl rfl rfl ?_
      refine zr_iconst (v := 3) (n := 87) d_Sn_prepare_86 rfl (by decide) ?_
      refine zr_aload_n (i := 0) (x := 14) (n := 88) d_Sn_prepare_87 rfl rfl rfl ?_
      refine zr_getr (n := 91) d_Sn_prepare_88 rfl f_Sn_18 gg_14 rfl ?_
      refine zr_geti (n := 94) d_Sn_prepare_91 rfl f_Sn_32 gg_16 rfl ?_
      refine zr_weak (zm_LE.skip (zm_LE.skip (zm_LE.skip (zm_LE.skip zm_LE.nil)))) ?_
      refine zr_callV (M' := M_Sn_load) (mc' := 0) (ms' := 0) (av := [.int 3, .int (S 16 1)]) (rest := []) (n := 97) d_Sn_prepare_94 rfl w_Sn_46 w_Sn_46k gg_14 rfl rfl rfl rfl rfl rfl (Nat.le_refl _) (Nat.le_refl _) ?_
      exact (l2 h1 h2)
theorem s_Sn_prepare_106 {d : Nat} {Q : zm_Q} {S : zm_S}
    (l1 : Q none GG S) :
    zw M_Sn_prepare (d + 1) Q 106 [none, none, none, none] [] S := by
  exact zr_return d_Sn_prepare_106 rfl (Nat.le_refl _) (Nat.le_refl _) l1
theorem s_Sn_prepare_97 {d : Nat} {Q : zm_Q} {S : zm_S}
    (l1 : Q none GG S) :
    zw M_Sn_prepare (d + 1) Q 97 [none, none, none, none] [] S := by
  refine zr_goto (tgt := 106) d_Sn_prepare_97 (by decide) ?_
  exact zr_return d_Sn_prepare_106 rfl (Nat.le_refl _) (Nat.le_refl _) l1
theorem e_Sn_prepare {d : Nat} {Q : zm_Q} {S : zm_S} (h : zw M_Sn_prepare (d + 1) Q 0 [some (.ref 14), none, none, none] [] S) : zc M_Sn_prepare (d + 1) [.ref 14] S Q := zm_CC_intro (by decide) rfl rfl h
theorem s_Sn_load_0 {d : Nat} {Q : zm_Q} {S : zm_S} {a1 a2 : Int32}
    (l1 : zw M_Sn_load d Q 8 [some (.ref 14), none, some (.int a2), some (.int (S 14 3)), some (.int a1)] [] S) :
    zw M_Sn_load d Q 0 [some (.ref 14), some (.int a1), some (.int a2), none, none] [] S := by
  refine zr_aload_n (i := 0) (x := 14) (n := 1) d_Sn_load_0 rfl rfl rfl ?_
  refine zr_geti (n := 4) d_Sn_load_1 rfl f_Sn_26 gg_14 rfl ?_
  refine zr_istore_n (i := 3) (L' := [some (.ref 14), some (.int a1), some (.int a2), some (.int (S 14 3)), none]) (n := 5) d_Sn_load_4 rfl rfl rfl rfl ?_
  refine zr_iload_n (i := 1) (x := a1) (n := 6) d_Sn_load_5 rfl rfl rfl ?_
  refine zr_istore (i := 4) (L' := [some (.ref 14), some (.int a1), some (.int a2), some (.int (S 14 3)), some (.int a1)]) (n := 8) d_Sn_load_6 rfl rfl rfl ?_
  exact zr_weak (zm_LE.cons (zm_LE.skip (zm_LE.cons (zm_LE.cons (zm_LE.cons zm_LE.nil))))) l1
theorem s_Sn_load_8 {d : Nat} {Q : zm_Q} {S : zm_S} {a2 a3 a4 : Int32} (j1 : Nat) (j2 : Nat) (o1 : ¬ 16 ≤ a4 → a2 ≤ a3 → zm_ix a4 j1 16) (o2 : ¬ 16 ≤ a4 → ¬ a2 ≤ a3 → zm_ix a3 j2 1341) (o3 : ¬ 16 ≤ a4 → ¬ a2 ≤ a3 → zm_ix a4 j1 16)
    (l1 : 16 ≤ a4 → Q none GG (zm_up S 14 4 a3))
    (l2 : ¬ 16 ≤ a4 → a2 ≤ a3 → zw M_Sn_load d Q 8 [some (.ref 14), none, some (.int a2), some (.int a3), some (.int (a4 + 1))] [] (zm_up S 15 j1 255))
    (l3 : ¬ 16 ≤ a4 → ¬ a2 ≤ a3 → zw M_Sn_load d Q 8 [some (.ref 14), none, some (.int a2), some (.int (a3 + 1)), some (.int (a4 + 1))] [] (zm_up S 15 j1 (S 17 j2))) :
    zw M_Sn_load d Q 8 [some (.ref 14), none, some (.int a2), some (.int a3), some (.int a4)] [] S := by
  refine zr_iload (i := 4) (x := a4) (n := 10) d_Sn_load_8 rfl rfl ?_
  refine zr_bipush (v := 16) (n := 12) d_Sn_load_10 rfl (by decide) ?_
  refine zr_icmp_ge (tgt := 58) (n := 15) d_Sn_load_12 rfl (by decide) (fun h1 => ?_) (fun h1 => ?_)
  · refine zr_aload_n (i := 0) (x := 14) (n := 59) d_Sn_load_58 rfl rfl rfl ?_
    refine zr_iload_n (i := 3) (x := a3) (n := 60) d_Sn_load_59 rfl rfl rfl ?_
    refine zr_puti (n := 63) d_Sn_load_60 rfl f_Sn_29 tw_Sn rfl rfl rfl rfl gg_14 rfl ?_
    exact zr_return d_Sn_load_63 rfl (Nat.le_refl _) (Nat.le_refl _) (l1 h1)
  · refine zr_iload_n (i := 3) (x := a3) (n := 16) d_Sn_load_15 rfl rfl rfl ?_
    refine zr_iload_n (i := 2) (x := a2) (n := 17) d_Sn_load_16 rfl rfl rfl ?_
    refine zr_icmp_ge (tgt := 42) (n := 20) d_Sn_load_17 rfl (by decide) (fun h2 => ?_) (fun h2 => ?_)
    · refine zr_aload_n (i := 0) (x := 14) (n := 43) d_Sn_load_42 rfl rfl rfl ?_
      refine zr_getr (n := 46) d_Sn_load_43 rfl f_Sn_9 gg_14 rfl ?_
      refine zr_iload (i := 4) (x := a4) (n := 48) d_Sn_load_46 rfl rfl ?_
      refine zr_sipush (v := 255) (n := 51) d_Sn_load_48 rfl (by decide) ?_
      refine zr_iastore j1 (n := 52) d_Sn_load_51 rfl gg_15 (o1 h1 h2) ?_
      refine zr_iinc (i := 4) (w := 1) (x := a4) (L' := [some (.ref 14), none, some (.int a2), some (.int a3), some (.int (a4 + 1))]) (n := 55) d_Sn_load_52 rfl (by decide) rfl rfl ?_
      refine zr_goto (tgt := 8) d_Sn_load_55 (by decide) ?_
      exact (l2 h1 h2)
    · refine zr_aload_n (i := 0) (x := 14) (n := 21) d_Sn_load_20 rfl rfl rfl ?_
      refine zr_getr (n := 24) d_Sn_load_21 rfl f_Sn_9 gg_14 rfl ?_
      refine zr_iload (i := 4) (x := a4) (n := 26) d_Sn_load_24 rfl rfl ?_
      refine zr_aload_n (i := 0) (x := 14) (n := 27) d_Sn_load_26 rfl rfl rfl ?_
      refine zr_getr (n := 30) d_Sn_load_27 rfl f_Sn_18 gg_14 rfl ?_
      refine zr_getr (n := 33) d_Sn_load_30 rfl f_Sn_50 gg_16 rfl ?_
      refine zr_iload_n (i := 3) (x := a3) (n := 34) d_Sn_load_33 rfl rfl rfl ?_
      refine zr_iaload j2 (n := 35) d_Sn_load_34 rfl gg_17 (o2 h1 h2) ?_
      refine zr_iastore j1 (n := 36) d_Sn_load_35 rfl gg_15 (o3 h1 h2) ?_
      refine zr_iinc (i := 3) (w := 1) (x := a3) (L' := [some (.ref 14), none, some (.int a2), some (.int (a3 + 1)), some (.int a4)]) (n := 39) d_Sn_load_36 rfl (by decide) rfl rfl ?_
      refine zr_goto (tgt := 52) d_Sn_load_39 (by decide) ?_
      refine zr_iinc (i := 4) (w := 1) (x := a4) (L' := [some (.ref 14), none, some (.int a2), some (.int (a3 + 1)), some (.int (a4 + 1))]) (n := 55) d_Sn_load_52 rfl (by decide) rfl rfl ?_
      refine zr_goto (tgt := 8) d_Sn_load_55 (by decide) ?_
      exact (l3 h1 h2)
theorem e_Sn_load {d : Nat} {Q : zm_Q} {S : zm_S} {a1 a2 : Int32} (h : zw M_Sn_load d Q 0 [some (.ref 14), some (.int a1), some (.int a2), none, none] [] S) : zc M_Sn_load d [.ref 14, .int a1, .int a2] S Q := zm_CC_intro (by decide) rfl rfl h
