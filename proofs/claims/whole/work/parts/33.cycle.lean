-- the sections of a cycle
def lbody (num M : Nat) (Z V : Nat → Nat) : List Int32 := [nI 59, nI (7 + 3 * M)] ++ prl num ++ [nI M] ++ (List.range' 0 M).flatMap (fun m => nI (Z m) :: prl (V m))
def sec (b : List Int32) : List Int32 := b ++ chk (crc (-1) b)
def cnt (Z : Nat → Nat) (m b : Nat) : Nat := min 8 (Z m - 8 * b)
def bbody (Z V : Nat → Nat) (C : Nat → Int32) (m b : Nat) : List Int32 := [nI 60, nI (8 + cnt Z m b), nI m] ++ prl (V m) ++ [nI b] ++ (List.range' 0 (cnt Z m b)).map (fun i => C (m * 48 + (b * 8 + i)))
def blk (Z : Nat → Nat) (m : Nat) : Nat := (Z m + 7) / 8
def msecs (Z V : Nat → Nat) (C : Nat → Int32) (m b n : Nat) : List (List Int32) := (List.range' b n).map (fun b => sec (bbody Z V C m b))
def asecs (Z V : Nat → Nat) (C : Nat → Int32) (m n : Nat) : List (List Int32) := (List.range' m n).flatMap (fun m => msecs Z V C m 0 (blk Z m))
def secs (num M : Nat) (Z V : Nat → Nat) (C : Nat → Int32) : List (List Int32) := sec (lbody num M Z V) :: asecs Z V C 0 M
def sts (xs : List (List Int32)) : List Nat := (List.range' 0 xs.length).map (fun i => ((xs.take i).flatten).length)
theorem sts_snoc (xs : List (List Int32)) (y : List Int32) : sts (xs ++ [y]) = sts xs ++ [xs.flatten.length] := by
  unfold sts
  rw [List.length_append, List.length_singleton, List.range'_concat, List.map_append]
  congr 1
  · apply List.map_congr_left
    intro i hi
    have := List.mem_range'.mp hi
    rw [List.take_append_of_le_length (by omega)]
  · simp
theorem flat_snoc (xs : List (List Int32)) (y : List Int32) : (xs ++ [y]).flatten = xs.flatten ++ y := by simp
theorem flat_le {xs ys : List (List Int32)} : xs.flatten.length ≤ (xs ++ ys).flatten.length := by simp
-- what is to be sent
def ED (S : zm_S) (num M : Nat) (Z V : Nat → Nat) (C : Nat → Int32) : Prop :=
  S 7 0 = nI num ∧ num < 65536 ∧ S 7 1 = nI M ∧ 1 ≤ M ∧ M ≤ 12 ∧ S 10 = C ∧ ∀ m, m < M → S 8 m = nI (Z m) ∧ S 9 m = nI (V m) ∧ 0 ≤ Z m ∧ Z m ≤ 48 ∧ V m < 65536 ∧ ∀ i, i < Z m → ∃ b, b ≤ 255 ∧ C (m * 48 + i) = nI b
theorem ED.cy {S : zm_S} {num M : Nat} {Z V : Nat → Nat} {C : Nat → Int32} {l : List Int32} {ss : List Nat} (h : ED S num M Z V C) : ED (st_cy S l ss) num M Z V C := h
theorem l_Cy_addList {d : Nat} {Q : zm_Q} {S0 : zm_S} {num M : Nat} {Z V : Nat → Nat} {C : Nat → Int32} {xs : List (List Int32)} (hE : ED S0 num M Z V C) (hs : (sts xs).length < 73) : ∀ (n m : Nat) (p : List Int32), m + n = M → xs.flatten.length + p.length + 3 * n + 4 ≤ 1341 → Q none GG (st_cy S0 (xs.flatten ++ sec (p ++ (List.range' m n).flatMap (fun m => nI (Z m) :: prl (V m)))) (sts xs ++ [xs.flatten.length])) →
    zw M_Cy_addList (d + 3) Q 32 [some (.ref 16), some (.ref 7), some (.int (nI m))] [] (st_cy S0 (xs.flatten ++ p) (sts xs ++ [xs.flatten.length])) := by
  intro n
  have hM := hE.2.2.2.2.1
  induction n with
  | zero =>
    intro m p hm hl hq
    have hle : st_cy S0 (xs.flatten ++ p) (sts xs ++ [xs.flatten.length]) 7 1 ≤ nI m := by show S0 7 1 ≤ nI m; rw [hE.2.2.1]; exact nI_le (by omega) (by omega)
    refine s_Cy_addList_32 0 (fun h => absurd hle h) (fun _ => ?_) (fun h => absurd hle h)
    refine c_Cy_writeCheck hs (by simp only [List.length_append, List.length_cons, List.length_nil]; omega) ?_
    refine s_Cy_addList_70 ?_
    simpa [sec] using hq
  | succ n ih =>
    intro m p hm hl hq
    have hlt : ¬ st_cy S0 (xs.flatten ++ p) (sts xs ++ [xs.flatten.length]) 7 1 ≤ nI m := by show ¬ S0 7 1 ≤ nI m; rw [hE.2.2.1]; exact nI_ge (by omega) (by omega)
    obtain ⟨e8, e9, hz1, hz2, hv, _⟩ := hE.2.2.2.2.2.2 m (by omega)
    have hix : zm_ix (nI m) m 12 := zm_ixN (by omega) (by decide)
    refine s_Cy_addList_32 m (fun _ => hix) (fun h => absurd h hlt) (fun _ => ?_)
    rw [show st_cy S0 (xs.flatten ++ p) (sts xs ++ [xs.flatten.length]) 8 m = nI (Z m) from e8]
    refine c_Cy_write (y := nI (Z m)) (by rw [nIand (by omega)]; congr 1; omega) (by simp only [List.length_append, List.length_cons, List.length_nil]; omega) ?_
    refine s_Cy_addList_50 m hix ?_
    rw [show st_cy S0 (xs.flatten ++ p ++ [nI (Z m)]) (sts xs ++ [xs.flatten.length]) 9 m = nI (V m) from e9]
    refine c_Cy_writePr (by omega) (by simp only [List.length_append, List.length_cons, List.length_nil]; omega) ?_
    refine s_Cy_addList_60 ?_
    rw [nI_1]
    have e : xs.flatten ++ p ++ [nI (Z m)] ++ prl (V m) = xs.flatten ++ (p ++ nI (Z m) :: prl (V m)) := by simp
    rw [e]
    refine ih (m + 1) _ (by omega) (by simp only [prl, List.length_append, List.length_cons, List.length_nil]; omega) ?_
    rw [List.range'_succ, List.flatMap_cons] at hq
    simpa using hq
theorem c_Cy_addList {d : Nat} {Q : zm_Q} {S0 : zm_S} {num M : Nat} {Z V : Nat → Nat} {C : Nat → Int32} {xs : List (List Int32)} (hE : ED S0 num M Z V C) (hs : (sts xs).length < 73) (hl : xs.flatten.length ≤ 700) (hq : Q none GG (st_cy S0 ((xs ++ [sec (lbody num M Z V)]).flatten) (sts (xs ++ [sec (lbody num M Z V)])))) : zc M_Cy_addList (d + 3) [.ref 16, .ref 7] (st_cy S0 xs.flatten (sts xs)) Q := by
  have hM := hE.2.2.2.2.1
  have hnum := hE.2.1
  refine e_Cy_addList (s_Cy_addList_0 ?_)
  rw [show st_cy S0 xs.flatten (sts xs) 7 1 = nI M from hE.2.2.1]
  rw [show (5 : Int32) + 3 * nI M = nI (5 + 3 * M) by rw [show (3 : Int32) * nI M = nI (3 * M) from pk_mul 3 M, show (5 : Int32) + nI (3 * M) = nI (5 + 3 * M) from nI_add 5 _]]
  refine c_Cy_begin (t := 59) (b := 5 + 3 * M) (by omega) (by omega) (by omega) hs (by omega) ?_
  refine s_Cy_addList_14 ?_
  rw [show st_cy S0 (xs.flatten ++ [nI 59, nI (5 + 3 * M + 2)]) (sts xs ++ [xs.flatten.length]) 7 0 = nI num from hE.1]
  refine c_Cy_writePr (by omega) (by simp only [List.length_append, List.length_cons, List.length_nil]; omega) ?_
  refine s_Cy_addList_22 ?_
  rw [show st_cy S0 (xs.flatten ++ [nI 59, nI (5 + 3 * M + 2)] ++ prl num) (sts xs ++ [xs.flatten.length]) 7 1 = nI M from hE.2.2.1]
  refine c_Cy_write (y := nI M) (by rw [nIand (by omega)]; congr 1; omega) (by simp only [prl, List.length_append, List.length_cons, List.length_nil]; omega) ?_
  refine s_Cy_addList_30 ?_
  have e : xs.flatten ++ [nI 59, nI (5 + 3 * M + 2)] ++ prl num ++ [nI M] = xs.flatten ++ ([nI 59, nI (7 + 3 * M)] ++ prl num ++ [nI M]) := by
    rw [show 5 + 3 * M + 2 = 7 + 3 * M by omega]; simp
  rw [e]
  refine l_Cy_addList hE hs M 0 _ (by omega) (by simp only [prl, List.length_append, List.length_cons, List.length_nil]; omega) ?_
  rw [flat_snoc, sts_snoc] at hq
  exact hq
theorem l_Cy_addBlock {d : Nat} {Q : zm_Q} {S0 : zm_S} {num M m b : Nat} {Z V : Nat → Nat} {C : Nat → Int32} {xs : List (List Int32)} (hE : ED S0 num M Z V C) (hm : m < M) (hb : 8 * b < Z m) (hs : (sts xs).length < 73) : ∀ (n i : Nat) (p : List Int32), i + n = cnt Z m b → xs.flatten.length + p.length + n + 4 ≤ 1341 → Q none GG (st_cy S0 (xs.flatten ++ sec (p ++ (List.range' i n).map (fun i => C (m * 48 + (b * 8 + i))))) (sts xs ++ [xs.flatten.length])) →
    zw M_Cy_addBlock (d + 3) Q 46 [some (.ref 16), some (.ref 7), some (.int (nI m)), some (.int (nI b)), some (.int (nI (cnt Z m b))), some (.int (nI i))] [] (st_cy S0 (xs.flatten ++ p) (sts xs ++ [xs.flatten.length])) := by
  intro n
  have hM := hE.2.2.2.2.1
  obtain ⟨e8, e9, hz1, hz2, hv, hC⟩ := hE.2.2.2.2.2.2 m hm
  have hc8 : cnt Z m b ≤ 8 := by unfold cnt; omega
  have hcz : 8 * b + cnt Z m b ≤ Z m := by unfold cnt; omega
  induction n with
  | zero =>
    intro i p hi hl hq
    have hle : nI (cnt Z m b) ≤ nI i := nI_le (by omega) (by omega)
    refine s_Cy_addBlock_46 0 (fun h => absurd hle h) (fun _ => ?_) (fun h => absurd hle h)
    refine c_Cy_writeCheck hs (by simp only [List.length_append, List.length_cons, List.length_nil]; omega) ?_
    refine s_Cy_addBlock_79 ?_
    simpa [sec] using hq
  | succ n ih =>
    intro i p hi hl hq
    have hlt : ¬ nI (cnt Z m b) ≤ nI i := nI_ge (by omega) (by omega)
    have eix : nI m * 48 + (nI b * 8 + nI i) = nI (m * 48 + (b * 8 + i)) := by
      rw [show nI m * 48 = nI (m * 48) from pk_mul m 48, show nI b * 8 = nI (b * 8) from pk_mul b 8, nI_add, nI_add]
    refine s_Cy_addBlock_46 (m * 48 + (b * 8 + i)) (fun _ => ?_) (fun h => absurd h hlt) (fun _ => ?_)
    · rw [eix]; exact zm_ixN (by omega) (by decide)
    · obtain ⟨x, hx, hCx⟩ := hC (b * 8 + i) (by omega)
      rw [show st_cy S0 (xs.flatten ++ p) (sts xs ++ [xs.flatten.length]) 10 (m * 48 + (b * 8 + i)) = C (m * 48 + (b * 8 + i)) from congrFun hE.2.2.2.2.2.1 _]
      refine c_Cy_write (y := C (m * 48 + (b * 8 + i))) (by rw [hCx, nIand (by omega)]; congr 1; omega) (by simp only [List.length_append, List.length_cons, List.length_nil]; omega) ?_
      refine s_Cy_addBlock_69 ?_
      rw [nI_1]
      have e : xs.flatten ++ p ++ [C (m * 48 + (b * 8 + i))] = xs.flatten ++ (p ++ [C (m * 48 + (b * 8 + i))]) := by simp
      rw [e]
      refine ih (i + 1) _ (by omega) (by simp only [List.length_append, List.length_cons, List.length_nil]; omega) ?_
      rw [List.range'_succ, List.map_cons] at hq
      simpa using hq
theorem c_Cy_addBlock {d : Nat} {Q : zm_Q} {S0 : zm_S} {num M m b : Nat} {Z V : Nat → Nat} {C : Nat → Int32} {xs : List (List Int32)} (hE : ED S0 num M Z V C) (hm : m < M) (hb : 8 * b < Z m) (hs : (sts xs).length < 73) (hl : xs.flatten.length ≤ 700) (hq : Q none GG (st_cy S0 ((xs ++ [sec (bbody Z V C m b)]).flatten) (sts (xs ++ [sec (bbody Z V C m b)])))) : zc M_Cy_addBlock (d + 3) [.ref 16, .ref 7, .int (nI m), .int (nI b)] (st_cy S0 xs.flatten (sts xs)) Q := by
  have hM := hE.2.2.2.2.1
  obtain ⟨e8, e9, hz1, hz2, hv, hC⟩ := hE.2.2.2.2.2.2 m hm
  have hix : zm_ix (nI m) m 12 := zm_ixN (by omega) (by decide)
  have hc8 : cnt Z m b ≤ 8 := by unfold cnt; omega
  have eL : st_cy S0 xs.flatten (sts xs) 8 m - nI b * 8 = nI (Z m - 8 * b) := by
    rw [show st_cy S0 xs.flatten (sts xs) 8 m = nI (Z m) from e8, show nI b * 8 = nI (b * 8) from pk_mul b 8, pk_sub (by omega)]
    congr 1; omega
  have go : zc M_Cy_begin (d + 2) [.ref 16, .int 60, .int (nI (6 + cnt Z m b))] (st_cy S0 xs.flatten (sts xs)) (fun v G' S' => zm_WP M_Cy_addBlock none (d + 3) 0 0 Q 23 [some (.ref 16), some (.ref 7), some (.int (nI m)), some (.int (nI b)), some (.int (nI (cnt Z m b))), none] (zm_ps v []) G' S' 0 0) := by
    refine c_Cy_begin (t := 60) (b := 6 + cnt Z m b) (by omega) (by omega) (by omega) hs (by omega) ?_
    refine s_Cy_addBlock_23 ?_
    refine c_Cy_write (y := nI m) (by rw [nIand (by omega)]; congr 1; omega) (by simp only [List.length_append, List.length_cons, List.length_nil]; omega) ?_
    refine s_Cy_addBlock_28 m hix ?_
    rw [show st_cy S0 (xs.flatten ++ [nI 60, nI (6 + cnt Z m b + 2)] ++ [nI m]) (sts xs ++ [xs.flatten.length]) 9 m = nI (V m) from e9]
    refine c_Cy_writePr (by omega) (by simp only [List.length_append, List.length_cons, List.length_nil]; omega) ?_
    refine s_Cy_addBlock_38 ?_
    refine c_Cy_write (y := nI b) (by rw [nIand (by omega)]; congr 1; omega) (by simp only [prl, List.length_append, List.length_cons, List.length_nil]; omega) ?_
    refine s_Cy_addBlock_43 ?_
    have e : xs.flatten ++ [nI 60, nI (6 + cnt Z m b + 2)] ++ [nI m] ++ prl (V m) ++ [nI b] = xs.flatten ++ ([nI 60, nI (8 + cnt Z m b), nI m] ++ prl (V m) ++ [nI b]) := by
      rw [show 6 + cnt Z m b + 2 = 8 + cnt Z m b by omega]; simp
    rw [e]
    refine l_Cy_addBlock hE hm hb hs (cnt Z m b) 0 _ (by omega) (by simp only [prl, List.length_append, List.length_cons, List.length_nil]; omega) ?_
    rw [flat_snoc, sts_snoc] at hq
    exact hq
  refine e_Cy_addBlock (s_Cy_addBlock_0 m hix (fun h => ?_) (fun h => ?_))
  · rw [eL] at h
    have h' : 8 ≤ Z m - 8 * b := (nI_leI (a := 8) (by decide) (by omega)).mp h
    have hc : cnt Z m b = 8 := by unfold cnt; omega
    rw [hc] at go
    exact go
  · rw [eL] at h ⊢
    have h' : ¬ 8 ≤ Z m - 8 * b := fun x => h ((nI_leI (a := 8) (by decide) (by omega)).mpr x)
    have hc : cnt Z m b = Z m - 8 * b := by unfold cnt; omega
    rw [hc] at go
    rw [show (6 : Int32) + nI (Z m - 8 * b) = nI (6 + (Z m - 8 * b)) from nI_add 6 _]
    exact go
-- all sections
theorem sts_len (xs : List (List Int32)) : (sts xs).length = xs.length := by simp [sts]
theorem st_cy_zero (S : zm_S) : zm_up (zm_up S 16 1 0) 16 3 0 = st_cy S [] [] := by
  funext a
  by_cases h : a = 16
  · subst h; rw [zm_up_self, zm_up_self]; rfl
  · rw [zm_up_ne _ _ _ h, zm_up_ne _ _ _ h]
    unfold st_cy
    by_cases h2 : a = 17
    · subst h2; rw [if_pos rfl]; exact (dr_nil _).symm
    · by_cases h3 : a = 18
      · subst h3; rw [if_neg h2, if_pos rfl]; exact (dr_nil _).symm
      · rw [if_neg h2, if_neg h3, if_neg h]
theorem l_Cy_blocks {d : Nat} {Q : zm_Q} {S0 : zm_S} {num M m : Nat} {Z V : Nat → Nat} {C : Nat → Int32} (hE : ED S0 num M Z V C) (hm : m < M) {ys : List (List Int32)} : ∀ (n b : Nat) (xs : List (List Int32)), b + n = blk Z m → (xs ++ (msecs Z V C m b n ++ ys)).length ≤ 73 → (xs ++ (msecs Z V C m b n ++ ys)).flatten.length ≤ 700 →
    zw M_Cy_renew (d + 4) Q 17 [some (.ref 16), some (.ref 7), some (.int (nI (m + 1))), none, none] [] (st_cy S0 (xs ++ msecs Z V C m b n).flatten (sts (xs ++ msecs Z V C m b n))) →
    zw M_Cy_renew (d + 4) Q 38 [some (.ref 16), some (.ref 7), some (.int (nI m)), some (.int (nI (blk Z m))), some (.int (nI b))] [] (st_cy S0 xs.flatten (sts xs)) := by
  intro n
  have hM := hE.2.2.2.2.1
  obtain ⟨e8, e9, hz1, hz2, hv, hC⟩ := hE.2.2.2.2.2.2 m hm
  have hbk : blk Z m ≤ 6 := by unfold blk; omega
  induction n with
  | zero =>
    intro b xs hb _ _ hq
    have hle : nI (blk Z m) ≤ nI b := nI_le (by omega) (by omega)
    refine s_Cy_renew_38 (fun _ => ?_) (fun h => absurd hle h)
    rw [nI_1]
    simpa [msecs] using hq
  | succ n ih =>
    intro b xs hb h73 h700 hq
    have hlt : ¬ nI (blk Z m) ≤ nI b := nI_ge (by omega) (by omega)
    have hcons : msecs Z V C m b (n + 1) = sec (bbody Z V C m b) :: msecs Z V C m (b + 1) n := by simp [msecs, List.range'_succ]
    rw [hcons] at h73 h700 hq
    have h73' : xs.length + 1 ≤ 73 := by simp at h73; omega
    have h700' : xs.flatten.length ≤ 700 := Nat.le_trans flat_le h700
    refine s_Cy_renew_38 (fun h => absurd h hlt) (fun _ => ?_)
    refine c_Cy_addBlock hE hm (by unfold blk at hb; omega) (by rw [sts_len]; omega) h700' ?_
    refine s_Cy_renew_52 ?_
    rw [nI_1]
    refine ih (b + 1) _ (by omega) ?_ ?_ ?_
    · simpa using h73
    · simpa using h700
    · simpa using hq
theorem l_Cy_renew {d : Nat} {Q : zm_Q} {S0 : zm_S} {num M : Nat} {Z V : Nat → Nat} {C : Nat → Int32} (hE : ED S0 num M Z V C) : ∀ (n m : Nat) (xs : List (List Int32)), m + n = M → (xs ++ asecs Z V C m n).length ≤ 73 → (xs ++ asecs Z V C m n).flatten.length ≤ 700 →
    Q none GG (st_cy S0 (xs ++ asecs Z V C m n).flatten (sts (xs ++ asecs Z V C m n))) →
    zw M_Cy_renew (d + 4) Q 17 [some (.ref 16), some (.ref 7), some (.int (nI m)), none, none] [] (st_cy S0 xs.flatten (sts xs)) := by
  intro n
  have hM := hE.2.2.2.2.1
  induction n with
  | zero =>
    intro m xs hm _ _ hq
    have hle : st_cy S0 xs.flatten (sts xs) 7 1 ≤ nI m := by show S0 7 1 ≤ nI m; rw [hE.2.2.1]; exact nI_le (by omega) (by omega)
    refine s_Cy_renew_17 0 (fun h => absurd hle h) (fun _ => ?_) (fun h => absurd hle h)
    simpa [asecs] using hq
  | succ n ih =>
    intro m xs hm h73 h700 hq
    have hlt : ¬ st_cy S0 xs.flatten (sts xs) 7 1 ≤ nI m := by show ¬ S0 7 1 ≤ nI m; rw [hE.2.2.1]; exact nI_ge (by omega) (by omega)
    obtain ⟨e8, _, hz1, hz2, _⟩ := hE.2.2.2.2.2.2 m (by omega)
    have hcons : asecs Z V C m (n + 1) = msecs Z V C m 0 (blk Z m) ++ asecs Z V C (m + 1) n := by simp [asecs, List.range'_succ]
    rw [hcons] at h73 h700 hq
    refine s_Cy_renew_17 m (fun _ => zm_ixN (by omega) (by decide)) (fun h => absurd h hlt) (fun _ => ?_)
    have eb : (st_cy S0 xs.flatten (sts xs) 8 m + 8 - 1) / 8 = nI (blk Z m) := by
      rw [show st_cy S0 xs.flatten (sts xs) 8 m = nI (Z m) from e8, show nI (Z m) + 8 = nI (Z m + 8) from nI_add _ 8, show nI (Z m + 8) - 1 = nI (Z m + 7) from nI_pred _]
      exact pk_div (d := 8) (by omega) (by decide) (by decide)
    rw [eb]
    refine l_Cy_blocks (b := 0) hE (by omega) (blk Z m) xs (by omega) h73 h700 ?_
    refine ih (m + 1) _ (by omega) ?_ ?_ ?_
    · simpa using h73
    · simpa using h700
    · simpa using hq
theorem c_Cy_renew {d : Nat} {Q : zm_Q} {S : zm_S} {num M : Nat} {Z V : Nat → Nat} {C : Nat → Int32} (hE : ED S num M Z V C) (h73 : (secs num M Z V C).length ≤ 73) (h700 : (secs num M Z V C).flatten.length ≤ 700) (hq : Q none GG (st_cy S (secs num M Z V C).flatten (sts (secs num M Z V C)))) : zc M_Cy_renew (d + 4) [.ref 16, .ref 7] S Q := by
  refine e_Cy_renew (s_Cy_renew_0 ?_)
  rw [st_cy_zero]
  refine c_Cy_addList (xs := []) hE (by simp [sts]) (by simp) ?_
  refine s_Cy_renew_15 ?_
  refine l_Cy_renew hE M 0 [sec (lbody num M Z V)] (by omega) ?_ ?_ ?_
  · exact h73
  · exact h700
  · exact hq
