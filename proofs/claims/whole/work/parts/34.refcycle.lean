-- the reference writes its cycle
def en1 (y : List Int32) : List Int32 := (List.range' 0 y.length).map (fun i => if i + 1 = y.length then 1 else 0)
def ens (xs : List (List Int32)) : List Int32 := xs.flatMap en1
theorem en1_len (y : List Int32) : (en1 y).length = y.length := by simp [en1]
theorem ens_len : ∀ xs : List (List Int32), (ens xs).length = xs.flatten.length
  | [] => rfl
  | y :: xs => by
    have := ens_len xs
    unfold ens at this ⊢
    rw [List.flatMap_cons, List.flatten_cons, List.length_append, List.length_append, this, en1_len]
theorem ens_snoc (xs : List (List Int32)) (y : List Int32) : ens (xs ++ [y]) = ens xs ++ en1 y := by simp [ens]
def st_ep (S0 : zm_S) (xs : List (List Int32)) (p : List Int32) : zm_S := fun a => if a = 40 then dr (S0 40) (xs.flatten ++ p) else if a = 41 then dr (S0 41) (ens xs ++ List.replicate p.length 0) else if a = 27 then upd (upd (S0 27) 17 (nI (xs.flatten ++ p).length)) 18 (crc (-1) p) else S0 a
theorem crc_snoc (c : Int32) (p : List Int32) (x : Int32) : crc c (p ++ [x]) = mix (crc c p) x := by simp only [crc, List.foldl_append, List.foldl_cons, List.foldl_nil]
theorem st_ep_push (S0 : zm_S) (xs : List (List Int32)) (p : List Int32) (x : Int32) : zm_up (zm_up (zm_up (zm_up (st_ep S0 xs p) 40 (xs.flatten ++ p).length x) 41 (xs.flatten ++ p).length 0) 27 17 (nI (xs.flatten ++ p).length + 1)) 27 18 (mix (crc (-1) p) x) = st_ep S0 xs (p ++ [x]) := by
  funext a
  by_cases h : a = 27
  · subst h
    rw [zm_up_self, zm_up_self]
    show upd (upd (upd (upd (S0 27) 17 (nI (xs.flatten ++ p).length)) 18 (crc (-1) p)) 17 (nI (xs.flatten ++ p).length + 1)) 18 (mix (crc (-1) p) x) = upd (upd (S0 27) 17 (nI (xs.flatten ++ (p ++ [x])).length)) 18 (crc (-1) (p ++ [x]))
    rw [upd_comm (upd (S0 27) 17 (nI (xs.flatten ++ p).length)) (crc (-1) p) (nI (xs.flatten ++ p).length + 1) (by decide : (18 : Nat) ≠ 17), upd_upd, upd_upd, nI_1, crc_snoc]
    congr 3
    simp only [List.length_append, List.length_cons, List.length_nil]
    omega
  · rw [zm_up_ne _ _ _ h, zm_up_ne _ _ _ h]
    by_cases h2 : a = 41
    · subst h2
      rw [zm_up_self]
      show upd (dr (S0 41) (ens xs ++ List.replicate p.length 0)) (xs.flatten ++ p).length 0 = dr (S0 41) (ens xs ++ List.replicate (p ++ [x]).length 0)
      have hl : (xs.flatten ++ p).length = (ens xs ++ List.replicate p.length (0 : Int32)).length := by rw [List.length_append, List.length_append, ens_len, List.length_replicate]
      rw [hl, dr_push]
      congr 1
      rw [List.append_assoc]
      congr 1
      rw [List.length_append, List.length_singleton, List.replicate_succ']
    · rw [zm_up_ne _ _ _ h2]
      by_cases h3 : a = 40
      · subst h3
        rw [zm_up_self]
        show upd (dr (S0 40) (xs.flatten ++ p)) (xs.flatten ++ p).length x = dr (S0 40) (xs.flatten ++ (p ++ [x]))
        rw [dr_push, List.append_assoc]
      · rw [zm_up_ne _ _ _ h3]
        unfold st_ep
        rw [if_neg h3, if_neg h2, if_neg h, if_neg h3, if_neg h2, if_neg h]
theorem c_Md_emit {d : Nat} {Q : zm_Q} {S0 : zm_S} {xs : List (List Int32)} {p : List Int32} {x : Int32} (hl : xs.flatten.length + p.length < 700) (hq : Q none GG (st_ep S0 xs (p ++ [x]))) : zc M_Md_emit (d + 1) [.ref 27, .int x] (st_ep S0 xs p) Q := by
  have h17 : st_ep S0 xs p 27 17 = nI (xs.flatten ++ p).length := rfl
  have h18 : st_ep S0 xs p 27 18 = crc (-1) p := rfl
  have hL : (xs.flatten ++ p).length < 700 := by rw [List.length_append]; exact hl
  refine e_Md_emit (s_Md_emit_0 (xs.flatten ++ p).length (by rw [h17]; exact zm_ixN hL (by decide)) ?_)
  rw [h17, h18]
  refine c_Md_mixed ?_
  refine s_Md_emit_39 ?_
  rw [st_ep_push]
  exact hq
theorem c_Md_emitPair {d : Nat} {Q : zm_Q} {S0 : zm_S} {xs : List (List Int32)} {p : List Int32} {n : Nat} (hn : n < 2147483648) (hl : xs.flatten.length + p.length + 2 ≤ 700) (hq : Q none GG (st_ep S0 xs (p ++ prl n))) : zc M_Md_emitPair (d + 2) [.ref 27, .int (nI n)] (st_ep S0 xs p) Q := by
  refine e_Md_emitPair (s_Md_emitPair_0 ?_)
  rw [prl_hi hn]
  refine c_Md_emit (by omega) ?_
  refine s_Md_emitPair_13 ?_
  rw [prl_lo hn]
  refine c_Md_emit (by simp only [List.length_append, List.length_cons, List.length_nil]; omega) ?_
  refine s_Md_emitPair_22 ?_
  simpa [prl] using hq
theorem st_ep_close (S0 : zm_S) (xs : List (List Int32)) (p q : List Int32) (h4 : q.length = 4) (k : Nat) (hk : k = (xs.flatten ++ p).length + 3) : zm_up (zm_up (st_ep S0 xs (p ++ q)) 41 k 1) 27 18 (-1) = st_ep S0 (xs ++ [p ++ q]) [] := by
  subst hk
  funext a
  by_cases h : a = 27
  · subst h
    rw [zm_up_self]
    show upd (upd (upd (S0 27) 17 (nI (xs.flatten ++ (p ++ q)).length)) 18 (crc (-1) (p ++ q))) 18 (-1) = upd (upd (S0 27) 17 (nI ((xs ++ [p ++ q]).flatten ++ []).length)) 18 (crc (-1) [])
    rw [upd_upd, flat_snoc, List.append_nil]
    rfl
  · rw [zm_up_ne _ _ _ h]
    by_cases h2 : a = 41
    · subst h2
      rw [zm_up_self]
      show upd (dr (S0 41) (ens xs ++ List.replicate (p ++ q).length 0)) ((xs.flatten ++ p).length + 3) 1 = dr (S0 41) (ens (xs ++ [p ++ q]) ++ List.replicate ([] : List Int32).length 0)
      rw [ens_snoc]
      have hens := ens_len xs
      have hpq : (p ++ q).length = p.length + 4 := by rw [List.length_append, h4]
      have hL : (xs.flatten ++ p).length + 3 = (ens xs).length + (p.length + 3) := by rw [List.length_append, hens]; omega
      rw [hL]
      funext i
      have hlenA : (ens xs ++ List.replicate (p ++ q).length (0 : Int32)).length = (ens xs).length + (p.length + 4) := by rw [List.length_append, List.length_replicate, hpq]
      have hlenB : (ens xs ++ en1 (p ++ q) ++ List.replicate ([] : List Int32).length (0 : Int32)).length = (ens xs).length + (p.length + 4) := by
        rw [List.length_append, List.length_append, en1_len, hpq]; rfl
      by_cases hi : i = (ens xs).length + (p.length + 3)
      · subst hi
        rw [upd_self, dr_at (by rw [hlenB]; omega)]
        rw [show List.replicate ([] : List Int32).length (0 : Int32) = [] from rfl, List.append_nil]
        simp only [List.getD]
        rw [List.getElem?_append_right (by omega)]
        rw [show (ens xs).length + (p.length + 3) - (ens xs).length = p.length + 3 by omega]
        unfold en1
        rw [List.getElem?_map, hpq, List.getElem?_range' (by omega)]
        simp
      · rw [upd_ne _ _ hi]
        unfold dr
        rw [hlenA, hlenB]
        by_cases hlt : i < (ens xs).length + (p.length + 4)
        · rw [if_pos hlt, if_pos hlt]
          rw [show List.replicate ([] : List Int32).length (0 : Int32) = [] from rfl, List.append_nil]
          simp only [List.getD]
          by_cases hin : i < (ens xs).length
          · rw [List.getElem?_append_left hin, List.getElem?_append_left hin]
          · rw [List.getElem?_append_right (by omega), List.getElem?_append_right (by omega)]
            unfold en1
            rw [List.getElem?_map, hpq, List.getElem?_range' (by omega), List.getElem?_replicate]
            rw [if_pos (by omega)]
            simp only [Option.map_some, Option.getD_some, Nat.zero_add, Nat.one_mul]
            rw [if_neg (by omega)]
        · rw [if_neg hlt, if_neg hlt]
    · rw [zm_up_ne _ _ _ h2]
      unfold st_ep
      by_cases h3 : a = 40
      · rw [if_pos h3, if_pos h3, flat_snoc, List.append_nil]
      · rw [if_neg h3, if_neg h3, if_neg h2, if_neg h2, if_neg h, if_neg h]
theorem c_Md_emitCheck {d : Nat} {Q : zm_Q} {S0 : zm_S} {xs : List (List Int32)} {p : List Int32} (hl : xs.flatten.length + p.length + 4 ≤ 700) (hq : Q none GG (st_ep S0 (xs ++ [sec p]) [])) : zc M_Md_emitCheck (d + 2) [.ref 27] (st_ep S0 xs p) Q := by
  have h18 : st_ep S0 xs p 27 18 = crc (-1) p := rfl
  have hn := tn_lt (crc (-1) p)
  refine e_Md_emitCheck (s_Md_emitCheck_0 ?_)
  rw [h18, us24]
  refine c_Md_emit (by omega) ?_
  refine s_Md_emitCheck_13 ?_
  rw [us16, nIand (by omega), show nI ((crc (-1) p).toBitVec.toNat / 2 ^ 16 % 256) = byt (crc (-1) p) 16 from rfl]
  refine c_Md_emit (by simp only [List.length_append, List.length_cons, List.length_nil]; omega) ?_
  refine s_Md_emitCheck_25 ?_
  rw [us8, nIand (by omega), show nI ((crc (-1) p).toBitVec.toNat / 2 ^ 8 % 256) = byt (crc (-1) p) 8 from rfl]
  refine c_Md_emit (by simp only [List.length_append, List.length_cons, List.length_nil]; omega) ?_
  refine s_Md_emitCheck_37 ?_
  rw [and0]
  refine c_Md_emit (by simp only [List.length_append, List.length_cons, List.length_nil]; omega) ?_
  have e : p ++ [byt (crc (-1) p) 24] ++ [byt (crc (-1) p) 16] ++ [byt (crc (-1) p) 8] ++ [byt (crc (-1) p) 0] = p ++ chk (crc (-1) p) := by simp [chk]
  rw [e]
  have h17 : st_ep S0 xs (p ++ chk (crc (-1) p)) 27 17 = nI ((xs.flatten ++ p).length + 3 + 1) := by
    show nI (xs.flatten ++ (p ++ chk (crc (-1) p))).length = _
    congr 1
    simp only [List.length_append, chk, List.length_cons, List.length_nil]; omega
  refine s_Md_emitCheck_46 ((xs.flatten ++ p).length + 3) ?_ ?_
  · rw [h17, nI_pred]
    refine zm_ixN ?_ (by decide)
    rw [List.length_append]; omega
  · rw [st_ep_close S0 xs p (chk (crc (-1) p)) rfl _ rfl]
    exact hq
-- what the reference sends
def EDr (S : zm_S) (num M : Nat) (Z V : Nat → Nat) (C : Nat → Int32) : Prop :=
  S 27 5 = nI num ∧ num < 65536 ∧ S 27 6 = nI M ∧ 1 ≤ M ∧ M ≤ 12 ∧ S 35 = C ∧ ∀ m, m < M → S 33 m = nI (Z m) ∧ S 34 m = nI (V m) ∧ 0 ≤ Z m ∧ Z m ≤ 48 ∧ V m < 65536
theorem l_Md_wList {d : Nat} {Q : zm_Q} {S0 : zm_S} {num M : Nat} {Z V : Nat → Nat} {C : Nat → Int32} {xs : List (List Int32)} (hE : EDr S0 num M Z V C) : ∀ (n m : Nat) (p : List Int32), m + n = M → xs.flatten.length + p.length + 3 * n + 4 ≤ 700 →
    zw M_Md_writeCycle (d + 3) Q 87 [some (.ref 27), some (.int 0), none, none, none] [] (st_ep S0 (xs ++ [sec (p ++ (List.range' m n).flatMap (fun m => nI (Z m) :: prl (V m)))]) []) →
    zw M_Md_writeCycle (d + 3) Q 47 [some (.ref 27), some (.int (nI m)), none, none, none] [] (st_ep S0 xs p) := by
  intro n
  have hM := hE.2.2.2.2.1
  induction n with
  | zero =>
    intro m p hm hl hq
    have hle : st_ep S0 xs p 27 6 ≤ nI m := by show S0 27 6 ≤ nI m; rw [hE.2.2.1]; exact nI_le (by omega) (by omega)
    refine s_Md_writeCycle_47 0 (fun h => absurd hle h) (fun _ => ?_) (fun h => absurd hle h)
    refine c_Md_emitCheck (by omega) ?_
    refine s_Md_writeCycle_85 ?_
    simpa using hq
  | succ n ih =>
    intro m p hm hl hq
    have hlt : ¬ st_ep S0 xs p 27 6 ≤ nI m := by show ¬ S0 27 6 ≤ nI m; rw [hE.2.2.1]; exact nI_ge (by omega) (by omega)
    obtain ⟨e33, e34, hz1, hz2, hv⟩ := hE.2.2.2.2.2.2 m (by omega)
    have hix : zm_ix (nI m) m 12 := zm_ixN (by omega) (by decide)
    refine s_Md_writeCycle_47 m (fun _ => hix) (fun h => absurd h hlt) (fun _ => ?_)
    rw [show st_ep S0 xs p 33 m = nI (Z m) from e33]
    refine c_Md_emit (by omega) ?_
    refine s_Md_writeCycle_65 m hix ?_
    rw [show st_ep S0 xs (p ++ [nI (Z m)]) 34 m = nI (V m) from e34]
    refine c_Md_emitPair (by omega) (by simp only [List.length_append, List.length_cons, List.length_nil]; omega) ?_
    refine s_Md_writeCycle_75 ?_
    rw [nI_1]
    refine ih (m + 1) _ (by omega) (by simp only [prl, List.length_append, List.length_cons, List.length_nil]; omega) ?_
    rw [List.range'_succ, List.flatMap_cons] at hq
    simpa using hq
theorem l_Md_wBytes {d : Nat} {Q : zm_Q} {S0 : zm_S} {num M m b : Nat} {Z V : Nat → Nat} {C : Nat → Int32} {xs : List (List Int32)} (hE : EDr S0 num M Z V C) (hm : m < M) (hb : 8 * b < Z m) : ∀ (n i : Nat) (p : List Int32), i + n = cnt Z m b → xs.flatten.length + p.length + n + 4 ≤ 700 →
    zw M_Md_writeCycle (d + 3) Q 97 [some (.ref 27), some (.int (nI m)), some (.int (nI (8 * (b + 1)))), none, none] [] (st_ep S0 (xs ++ [sec (p ++ (List.range' i n).map (fun i => C (m * 48 + (b * 8 + i))))]) []) →
    zw M_Md_writeCycle (d + 3) Q 174 [some (.ref 27), some (.int (nI m)), some (.int (nI (8 * b))), some (.int (nI (cnt Z m b))), some (.int (nI i))] [] (st_ep S0 xs p) := by
  intro n
  have hM := hE.2.2.2.2.1
  obtain ⟨e33, e34, hz1, hz2, hv⟩ := hE.2.2.2.2.2.2 m hm
  have hc8 : cnt Z m b ≤ 8 := by unfold cnt; omega
  have hcz : 8 * b + cnt Z m b ≤ Z m := by unfold cnt; omega
  induction n with
  | zero =>
    intro i p hi hl hq
    have hle : nI (cnt Z m b) ≤ nI i := nI_le (by omega) (by omega)
    refine s_Md_writeCycle_174 0 (fun h => absurd hle h) (fun _ => ?_) (fun h => absurd hle h)
    refine c_Md_emitCheck (by omega) ?_
    refine s_Md_writeCycle_208 ?_
    rw [show nI (8 * b) + 8 = nI (8 * (b + 1)) by rw [show nI (8 * b) + 8 = nI (8 * b + 8) from nI_add _ 8]; rfl]
    simpa using hq
  | succ n ih =>
    intro i p hi hl hq
    have hlt : ¬ nI (cnt Z m b) ≤ nI i := nI_ge (by omega) (by omega)
    have eix : 48 * nI m + nI (8 * b) + nI i = nI (m * 48 + (b * 8 + i)) := by
      rw [show (48 : Int32) * nI m = nI (48 * m) from pk_mul 48 m, nI_add, nI_add]; congr 1; omega
    refine s_Md_writeCycle_174 (m * 48 + (b * 8 + i)) (fun _ => ?_) (fun h => absurd h hlt) (fun _ => ?_)
    · rw [eix]; exact zm_ixN (by omega) (by decide)
    · rw [show st_ep S0 xs p 35 (m * 48 + (b * 8 + i)) = C (m * 48 + (b * 8 + i)) from congrFun hE.2.2.2.2.2.1 _]
      refine c_Md_emit (by omega) ?_
      refine s_Md_writeCycle_198 ?_
      rw [nI_1]
      refine ih (i + 1) _ (by omega) (by simp only [List.length_append, List.length_cons, List.length_nil]; omega) ?_
      rw [List.range'_succ, List.map_cons] at hq
      simpa using hq
theorem l_Md_wBlocks {d : Nat} {Q : zm_Q} {S0 : zm_S} {num M m : Nat} {Z V : Nat → Nat} {C : Nat → Int32} (hE : EDr S0 num M Z V C) (hm : m < M) {ys : List (List Int32)} : ∀ (n b : Nat) (xs : List (List Int32)), b + n = blk Z m → (xs ++ (msecs Z V C m b n ++ ys)).flatten.length ≤ 700 →
    zw M_Md_writeCycle (d + 3) Q 87 [some (.ref 27), some (.int (nI (m + 1))), none, none, none] [] (st_ep S0 (xs ++ msecs Z V C m b n) []) →
    zw M_Md_writeCycle (d + 3) Q 97 [some (.ref 27), some (.int (nI m)), some (.int (nI (8 * b))), none, none] [] (st_ep S0 xs []) := by
  intro n
  have hM := hE.2.2.2.2.1
  obtain ⟨e33, e34, hz1, hz2, hv⟩ := hE.2.2.2.2.2.2 m hm
  have hix : zm_ix (nI m) m 12 := zm_ixN (by omega) (by decide)
  have hbk : blk Z m ≤ 6 := by unfold blk; omega
  induction n with
  | zero =>
    intro b xs hb _ hq
    have hle : st_ep S0 xs [] 33 m ≤ nI (8 * b) := by show S0 33 m ≤ _; rw [e33]; exact nI_le (by unfold blk at hb; omega) (by omega)
    refine s_Md_writeCycle_97 m hix (fun _ => ?_) (fun h => absurd hle h) (fun h => absurd hle h)
    rw [nI_1]
    simpa [msecs] using hq
  | succ n ih =>
    intro b xs hb h700 hq
    have hbz : 8 * b < Z m := by unfold blk at hb; omega
    have hlt : ¬ st_ep S0 xs [] 33 m ≤ nI (8 * b) := by show ¬ S0 33 m ≤ _; rw [e33]; exact nI_ge hbz (by omega)
    have hcons : msecs Z V C m b (n + 1) = sec (bbody Z V C m b) :: msecs Z V C m (b + 1) n := by simp [msecs, List.range'_succ]
    rw [hcons] at h700 hq
    have hc8 : cnt Z m b ≤ 8 := by unfold cnt; omega
    have h700' : xs.flatten.length + (10 + cnt Z m b) ≤ 700 := by
      have e : (xs ++ (sec (bbody Z V C m b) :: msecs Z V C m (b + 1) n ++ ys)).flatten.length = xs.flatten.length + ((sec (bbody Z V C m b)).length + (msecs Z V C m (b + 1) n ++ ys).flatten.length) := by
        rw [List.flatten_append, List.length_append, List.cons_append, List.flatten_cons, List.length_append]
      have e2 : (sec (bbody Z V C m b)).length = 10 + cnt Z m b := by
        simp only [sec, bbody, chk, prl, List.length_append, List.length_cons, List.length_nil, List.length_map, List.length_range']; omega
      omega
    have eL : st_ep S0 xs [] 33 m - nI (8 * b) = nI (Z m - 8 * b) := by
      rw [show st_ep S0 xs [] 33 m = nI (Z m) from e33, pk_sub (by omega)]
    have go : zw M_Md_writeCycle (d + 3) Q 140 [some (.ref 27), some (.int (nI m)), some (.int (nI (8 * b))), some (.int (nI (cnt Z m b))), none] [] (st_ep S0 xs ([] ++ [60])) := by
      refine s_Md_writeCycle_140 ?_
      rw [show (8 : Int32) + nI (cnt Z m b) = nI (8 + cnt Z m b) from nI_add 8 _]
      refine c_Md_emit (by simp only [List.length_append, List.length_cons, List.length_nil]; omega) ?_
      refine s_Md_writeCycle_148 ?_
      refine c_Md_emit (by simp only [List.length_append, List.length_cons, List.length_nil]; omega) ?_
      refine s_Md_writeCycle_153 m hix ?_
      rw [show ∀ q, st_ep S0 xs q 34 m = nI (V m) from fun _ => e34]
      refine c_Md_emitPair (by omega) (by simp only [List.length_append, List.length_cons, List.length_nil]; omega) ?_
      refine s_Md_writeCycle_163 ?_
      rw [show nI (8 * b) / 8 = nI b by
        have : nI (8 * b) / 8 = nI (8 * b / 8) := pk_div (d := 8) (by omega) (by decide) (by decide)
        rw [this]; congr 1; omega]
      refine c_Md_emit (by simp only [prl, List.length_append, List.length_cons, List.length_nil]; omega) ?_
      refine s_Md_writeCycle_171 ?_
      have e : ([] : List Int32) ++ [60] ++ [nI (8 + cnt Z m b)] ++ [nI m] ++ prl (V m) ++ [nI b] = [nI 60, nI (8 + cnt Z m b), nI m] ++ prl (V m) ++ [nI b] := by
        simp; rfl
      rw [e]
      refine l_Md_wBytes hE hm hbz (cnt Z m b) 0 _ (by omega) (by simp only [prl, List.length_append, List.length_cons, List.length_nil]; omega) ?_
      refine ih (b + 1) _ (by omega) ?_ ?_
      · rw [List.append_assoc]; exact h700
      · rw [List.append_assoc]; exact hq
    refine s_Md_writeCycle_97 m hix (fun h => absurd h hlt) (fun _ h => ?_) (fun _ h => ?_)
    · rw [eL] at h
      have h' : 8 ≤ Z m - 8 * b := (nI_leI (a := 8) (by decide) (by omega)).mp h
      have hc : cnt Z m b = 8 := by unfold cnt; omega
      rw [hc] at go
      exact c_Md_emit (by simp only [List.length_nil]; omega) go
    · rw [eL] at h ⊢
      have h' : ¬ 8 ≤ Z m - 8 * b := fun x => h ((nI_leI (a := 8) (by decide) (by omega)).mpr x)
      have hc : cnt Z m b = Z m - 8 * b := by unfold cnt; omega
      rw [hc] at go
      exact c_Md_emit (by simp only [List.length_nil]; omega) go
theorem l_Md_wMods {d : Nat} {Q : zm_Q} {S0 : zm_S} {num M : Nat} {Z V : Nat → Nat} {C : Nat → Int32} (hE : EDr S0 num M Z V C) : ∀ (n m : Nat) (xs : List (List Int32)), m + n = M → (xs ++ asecs Z V C m n).flatten.length ≤ 700 → Q none GG (st_ep S0 (xs ++ asecs Z V C m n) []) →
    zw M_Md_writeCycle (d + 3) Q 87 [some (.ref 27), some (.int (nI m)), none, none, none] [] (st_ep S0 xs []) := by
  intro n
  have hM := hE.2.2.2.2.1
  induction n with
  | zero =>
    intro m xs hm _ hq
    have hle : st_ep S0 xs [] 27 6 ≤ nI m := by show S0 27 6 ≤ nI m; rw [hE.2.2.1]; exact nI_le (by omega) (by omega)
    refine s_Md_writeCycle_87 (fun _ => ?_) (fun h => absurd hle h)
    simpa [asecs] using hq
  | succ n ih =>
    intro m xs hm h700 hq
    have hlt : ¬ st_ep S0 xs [] 27 6 ≤ nI m := by show ¬ S0 27 6 ≤ nI m; rw [hE.2.2.1]; exact nI_ge (by omega) (by omega)
    have hcons : asecs Z V C m (n + 1) = msecs Z V C m 0 (blk Z m) ++ asecs Z V C (m + 1) n := by simp [asecs, List.range'_succ]
    rw [hcons] at h700 hq
    refine s_Md_writeCycle_87 (fun h => absurd h hlt) (fun _ => ?_)
    refine l_Md_wBlocks (b := 0) hE (by omega) (blk Z m) xs (by omega) h700 ?_
    refine ih (m + 1) _ (by omega) ?_ ?_
    · rw [List.append_assoc]; exact h700
    · rw [List.append_assoc]; exact hq
theorem st_ep_zero (S : zm_S) : zm_up (zm_up S 27 17 0) 27 18 (-1) = st_ep S [] [] := by
  funext a
  by_cases h : a = 27
  · subst h; rw [zm_up_self, zm_up_self]; rfl
  · rw [zm_up_ne _ _ _ h, zm_up_ne _ _ _ h]
    unfold st_ep
    by_cases h2 : a = 40
    · subst h2; rw [if_pos rfl]; exact (dr_nil _).symm
    · by_cases h3 : a = 41
      · subst h3; rw [if_neg h2, if_pos rfl]; exact (dr_nil _).symm
      · rw [if_neg h2, if_neg h3, if_neg h]
theorem c_Md_writeCycle {d : Nat} {Q : zm_Q} {S : zm_S} {num M : Nat} {Z V : Nat → Nat} {C : Nat → Int32} (hE : EDr S num M Z V C) (h700 : (secs num M Z V C).flatten.length ≤ 700) (hq : Q none GG (st_ep S (secs num M Z V C) [])) : zc M_Md_writeCycle (d + 3) [.ref 27] S Q := by
  have hM := hE.2.2.2.2.1
  have hnum := hE.2.1
  refine e_Md_writeCycle (s_Md_writeCycle_0 ?_)
  rw [st_ep_zero]
  refine c_Md_emit (by simp) ?_
  refine s_Md_writeCycle_16 ?_
  rw [show ∀ q, st_ep S [] q 27 6 = nI M from fun _ => hE.2.2.1]
  rw [show (7 : Int32) + 3 * nI M = nI (7 + 3 * M) by rw [show (3 : Int32) * nI M = nI (3 * M) from pk_mul 3 M, show (7 : Int32) + nI (3 * M) = nI (7 + 3 * M) from nI_add 7 _]]
  refine c_Md_emit (by simp) ?_
  refine s_Md_writeCycle_29 ?_
  rw [show ∀ q, st_ep S [] q 27 5 = nI num from fun _ => hE.1]
  refine c_Md_emitPair (by omega) (by simp) ?_
  refine s_Md_writeCycle_37 ?_
  rw [show ∀ q, st_ep S [] q 27 6 = nI M from fun _ => hE.2.2.1]
  refine c_Md_emit (by simp [prl]) ?_
  refine s_Md_writeCycle_45 ?_
  have e : ([] : List Int32) ++ [59] ++ [nI (7 + 3 * M)] ++ prl num ++ [nI M] = [nI 59, nI (7 + 3 * M)] ++ prl num ++ [nI M] := by simp; rfl
  rw [e]
  refine l_Md_wList (xs := []) hE M 0 _ (by omega) (by simp only [prl, List.length_append, List.length_cons, List.length_nil, List.flatten_nil]; omega) ?_
  exact l_Md_wMods hE M 0 [sec (lbody num M Z V)] (by omega) h700 hq
