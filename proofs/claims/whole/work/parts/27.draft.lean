-- the draft: a row whose first bytes are a list
def dr (f : Nat → Int32) (l : List Int32) : Nat → Int32 := fun i => if i < l.length then l.getD i 0 else f i
theorem dr_nil (f : Nat → Int32) : dr f [] = f := by funext i; simp [dr]
theorem dr_push (f : Nat → Int32) (l : List Int32) (x : Int32) : upd (dr f l) l.length x = dr f (l ++ [x]) := by
  funext i
  unfold dr upd
  by_cases h : i = l.length
  · subst h; simp
  · rw [if_neg h]
    show (if i < l.length then l.getD i 0 else f i) = _
    by_cases h2 : i < l.length
    · rw [if_pos h2, if_pos (by simp; omega)]
      simp [List.getD, List.getElem?_append_left h2]
    · rw [if_neg h2, if_neg (by simp; omega)]
theorem dr_at {f : Nat → Int32} {l : List Int32} {i : Nat} (h : i < l.length) : dr f l i = l.getD i 0 := if_pos h
def st_dr (S0 : zm_S) (l : List Int32) : zm_S := fun a => if a = 13 then dr (S0 13) l else if a = 7 then upd (S0 7) 9 (nI l.length) else S0 a
theorem st_dr_nil (S : zm_S) : zm_up S 7 9 0 = st_dr S [] := by
  funext a
  unfold zm_up st_dr
  by_cases h : a = 7
  · subst h; rfl
  · rw [if_neg h]
    by_cases h2 : a = 13
    · subst h2; rw [if_pos rfl, dr_nil]
    · rw [if_neg h2, if_neg h]
theorem st_dr_push (S0 : zm_S) (l : List Int32) (x : Int32) : zm_up (zm_up (st_dr S0 l) 13 l.length x) 7 9 (nI l.length + 1) = st_dr S0 (l ++ [x]) := by
  funext a
  by_cases h : a = 7
  · subst h
    rw [zm_up_self]
    show upd (upd (S0 7) 9 (nI l.length)) 9 (nI l.length + 1) = upd (S0 7) 9 (nI (l ++ [x]).length)
    funext i
    unfold upd
    by_cases hi : i = 9
    · rw [if_pos hi, if_pos hi, nI_1]; simp
    · rw [if_neg hi, if_neg hi, if_neg hi]
  · rw [zm_up_ne _ _ _ h]
    by_cases h2 : a = 13
    · subst h2
      rw [zm_up_self]
      exact dr_push (S0 13) l x
    · rw [zm_up_ne _ _ _ h2]
      unfold st_dr
      rw [if_neg h2, if_neg h, if_neg h2, if_neg h]
theorem c_Ed_write {d : Nat} {Q : zm_Q} {S0 : zm_S} {l : List Int32} {x : Int32} (hl : l.length < 48) (hq : Q none GG (st_dr S0 (l ++ [x]))) : zc M_Ed_write d [.ref 7, .int x] (st_dr S0 l) Q := by
  have h79 : st_dr S0 l 7 9 = nI l.length := rfl
  have hlt : ¬ (48 : Int32) ≤ nI l.length := nI_ge (b := 48) hl (by decide)
  refine e_Ed_write (s_Ed_write_0 l.length (fun _ => ?_) (fun h => absurd h hlt) (fun _ => ?_))
  · rw [h79]; exact zm_ixN hl (by decide)
  · rw [h79, st_dr_push]; exact hq
def eb (K N mo : Nat → Int32) (e : Nat) : List Int32 := [N e, K e, mo e, nI e]
theorem l_Ed_draftEntries {d : Nat} {Q : zm_Q} {S0 : zm_S} {dir : Int32} : ∀ (n i : Nat) (e : Int32) (l : List Int32), i + n = 12 → ef e → l.length + 4 * (elg (S0 3) (S0 4) dir n e).length ≤ 48 → Q none GG (st_dr S0 (l ++ (elg (S0 3) (S0 4) dir n e).flatMap (eb (S0 2) (S0 4) (S0 12)))) →
    zw M_Ed_draftEntries (d + 1) Q 10 [some (.ref 7), some (.ref 1), some (.int dir), some (.int e), some (.int (nI i))] [] (st_dr S0 l) := by
  intro n
  induction n with
  | zero =>
    intro i e l hi _ _ hq
    have : i = 12 := by omega
    subst this
    have hle : (12 : Int32) ≤ nI 12 := by decide
    refine s_Ed_draftEntries_10 0 (fun h => absurd hle h) (fun _ => ?_) (fun h => absurd hle h)
    simpa [elg] using hq
  | succ n ih =>
    intro i e l hi he hlen hq
    have hlt : ¬ (12 : Int32) ≤ nI i := nI_ge (b := 12) (by omega) (by decide)
    rcases he with rfl | ⟨j, _, hj, rfl⟩
    · rw [elg_nil] at hq
      refine s_Ed_draftEntries_10 0 (fun _ h => absurd rfl h) (fun _ => ?_) (fun _ h => absurd rfl h)
      simpa using hq
    · rw [elg_cons n hj] at hq hlen
      simp only [List.length_cons] at hlen
      refine s_Ed_draftEntries_10 j (fun _ _ => zm_ixN hj (by decide)) ?_ (fun _ _ => ?_)
      · rintro (h | h)
        · exact absurd h hlt
        · exact absurd h.2 (nI_nm1 (by omega))
      · refine c_Ed_write (x := S0 4 j) (by omega) ?_
        refine s_Ed_draftEntries_31 j (zm_ixN hj (by decide)) ?_
        refine c_Ed_write (x := S0 2 j) (by simp; omega) ?_
        refine s_Ed_draftEntries_40 j (zm_ixN hj (by decide)) ?_
        refine c_Ed_write (x := S0 12 j) (by simp; omega) ?_
        refine s_Ed_draftEntries_50 ?_
        refine c_Ed_write (x := nI j) (by simp; omega) ?_
        refine s_Ed_draftEntries_55 j (zm_ixN hj (by decide)) ?_
        refine c_Tree_entryAfter ?_
        refine s_Ed_draftEntries_65 ?_
        rw [nI_1]
        refine ih (i + 1) _ _ (by omega) (ea_ef _ _ _ _) ?_ ?_
        · show _ + 4 * (elg (S0 3) (S0 4) dir n (ea (S0 3) (S0 4) dir (S0 4 j))).length ≤ 48
          simp; omega
        · show Q none GG (st_dr S0 (_ ++ (elg (S0 3) (S0 4) dir n (ea (S0 3) (S0 4) dir (S0 4 j))).flatMap _))
          simpa [eb] using hq
theorem c_Ed_draftEntries {d : Nat} {Q : zm_Q} {S0 : zm_S} {dir : Int32} {l : List Int32} (hlen : l.length + 4 * (el (S0 3) (S0 4) dir).length ≤ 48) (hq : Q none GG (st_dr S0 (l ++ (el (S0 3) (S0 4) dir).flatMap (eb (S0 2) (S0 4) (S0 12))))) : zc M_Ed_draftEntries (d + 1) [.ref 7, .ref 1, .int dir] (st_dr S0 l) Q := by
  refine e_Ed_draftEntries (s_Ed_draftEntries_0 (c_Tree_entryAfter ?_))
  refine s_Ed_draftEntries_6 ?_
  exact l_Ed_draftEntries 12 0 _ l rfl (ea_ef _ _ _ _) hlen hq
-- a message
def fbs (Ln B : Nat → Int32) (k : Nat) : List Int32 := (List.range' 0 (Ln k).toNatClampNeg).map (fun i => B (k * 12 + i))
def msg (K P N Ln B mo : Nat → Int32) (k : Nat) : List Int32 := [K k, nI k, ml K P Ln k] ++ (if K k = 3 then fbs Ln B k else (el P N (nI k)).flatMap (eb K N mo))
theorem flat4 {α : Type} (f : Nat → List α) (h : ∀ x, (f x).length = 4) : ∀ l : List Nat, (l.flatMap f).length = 4 * l.length
  | [] => rfl
  | x :: l => by rw [List.flatMap_cons, List.length_append, flat4 f h l, h x, List.length_cons]; omega
def mlN (K P Ln : Nat → Int32) (k : Nat) : Nat := if K k = 3 then (Ln k).toNatClampNeg else 4 * ec P (nI k)
theorem msg_len (K P N Ln B mo : Nat → Int32) (k : Nat) : (msg K P N Ln B mo k).length ≤ 3 + mlN K P Ln k := by
  unfold msg mlN
  split
  · simp [fbs]; omega
  · have := el_len P N (nI k)
    have h4 := flat4 (eb K N mo) (fun x => rfl) (el P N (nI k))
    rw [List.length_append, h4]
    simp; omega
theorem l_Ed_draftFile {d : Nat} {Q : zm_Q} {S0 : zm_S} {k len : Nat} (hk : k < 12) (hL : S0 5 k = nI len) (hlen : len ≤ 12) : ∀ (n i : Nat) (l : List Int32), i + n = len → l.length + n ≤ 48 → Q none GG (st_dr S0 (l ++ (List.range' i n).map (fun i => S0 6 (k * 12 + i)))) →
    zw M_Ed_draftMessage (d + 2) Q 33 [some (.ref 7), some (.ref 1), some (.int (nI k)), some (.int (nI i))] [] (st_dr S0 l) := by
  intro n
  induction n with
  | zero =>
    intro i l hi _ hq
    have hle : st_dr S0 l 5 k ≤ nI i := by show S0 5 k ≤ nI i; rw [hL]; exact nI_le (by omega) (by omega)
    refine s_Ed_draftMessage_33 k 0 (zm_ixN hk (by decide)) (fun h => absurd hle h) (fun _ => ?_) (fun h => absurd hle h)
    simpa using hq
  | succ n ih =>
    intro i l hi hl hq
    have hlt : ¬ st_dr S0 l 5 k ≤ nI i := by show ¬ S0 5 k ≤ nI i; rw [hL]; exact nI_ge (by omega) (by omega)
    have e12 : nI k * 12 + nI i = nI (k * 12 + i) := by rw [show nI k * 12 = nI (k * 12) from pk_mul k 12, nI_add]
    refine s_Ed_draftMessage_33 k (k * 12 + i) (zm_ixN hk (by decide)) (fun _ => ?_) (fun h => absurd h hlt) (fun _ => ?_)
    · rw [e12]; exact zm_ixN (by omega) (by decide)
    · refine c_Ed_write (x := S0 6 (k * 12 + i)) (by omega) ?_
      refine s_Ed_draftMessage_52 ?_
      rw [nI_1]
      refine ih (i + 1) _ (by omega) (by simp; omega) ?_
      simpa [List.range'_succ] using hq
theorem c_Ed_draftMessage {d : Nat} {Q : zm_Q} {S0 : zm_S} {k : Nat} {l : List Int32} (hk : k < 12) (hL : ∃ n, n ≤ 12 ∧ S0 5 k = nI n) (hlen : l.length + (msg (S0 2) (S0 3) (S0 4) (S0 5) (S0 6) (S0 12) k).length ≤ 48) (hq : Q none GG (st_dr S0 (l ++ msg (S0 2) (S0 3) (S0 4) (S0 5) (S0 6) (S0 12) k))) : zc M_Ed_draftMessage (d + 2) [.ref 7, .ref 1, .int (nI k)] (st_dr S0 l) Q := by
  obtain ⟨n, hn, hL⟩ := hL
  have h3 : l.length + 3 ≤ 48 := by
    rw [msg, List.length_append] at hlen; simp at hlen; omega
  refine e_Ed_draftMessage (s_Ed_draftMessage_0 k (zm_ixN hk (by decide)) ?_)
  refine c_Ed_write (x := S0 2 k) (by omega) ?_
  refine s_Ed_draftMessage_9 ?_
  refine c_Ed_write (x := nI k) (by simp; omega) ?_
  refine s_Ed_draftMessage_14 ?_
  refine c_Tree_messageLength hk ?_
  refine s_Ed_draftMessage_20 ?_
  refine c_Ed_write (x := ml (S0 2) (S0 3) (S0 5) k) (by simp; omega) ?_
  refine s_Ed_draftMessage_23 k (zm_ixN hk (by decide)) (fun h => ?_) (fun h => ?_)
  · have h' : ¬ S0 2 k = 3 := h
    rw [msg, if_neg h'] at hq hlen
    refine c_Ed_draftEntries ?_ ?_
    · rw [List.length_append, flat4 _ (fun x => rfl)] at hlen
      simp at hlen ⊢; omega
    · refine s_Ed_draftMessage_67 ?_
      simpa using hq
  · have h' : S0 2 k = 3 := h
    rw [msg, if_pos h'] at hq hlen
    have hc : (S0 5 k).toNatClampNeg = n := by rw [hL]; exact nI_clamp (by omega)
    refine l_Ed_draftFile hk hL hn n 0 _ (by omega) ?_ ?_
    · simp [fbs, hc] at hlen ⊢; omega
    · rw [fbs, hc] at hq
      simpa using hq
-- a module
def msgs (K P N Ln B mo : Nat → Int32) (o : List Nat) (m : Nat) : List Int32 := (o.filter (fun k => decide (mo k = nI m))).flatMap (msg K P N Ln B mo)
def OR (S : zm_S) (o : List Nat) : Prop := S 7 6 = nI o.length ∧ o.length ≤ 12 ∧ ∀ i x, o[i]? = some x → S 11 i = nI x ∧ x < 12
theorem l_Ed_draftModule {d : Nat} {Q : zm_Q} {S0 : zm_S} {o : List Nat} {m : Nat} (hO : OR S0 o) (hL : ∀ k, k < 12 → ∃ n, n ≤ 12 ∧ S0 5 k = nI n) (hm : m < 12) (hmo : ∀ x ∈ o, ∃ q, q < 12 ∧ S0 12 x = nI q) : ∀ (n i : Nat) (l : List Int32), i + n = o.length → l.length + (msgs (S0 2) (S0 3) (S0 4) (S0 5) (S0 6) (S0 12) (o.drop i) m).length ≤ 48 → Q none GG (st_dr S0 (l ++ msgs (S0 2) (S0 3) (S0 4) (S0 5) (S0 6) (S0 12) (o.drop i) m)) →
    zw M_Ed_draftModule (d + 3) Q 7 [some (.ref 7), some (.ref 1), some (.int (nI m)), some (.int (nI i))] [] (st_dr S0 l) := by
  intro n
  induction n with
  | zero =>
    intro i l hi _ hq
    have h12 := hO.2.1
    have hle : st_dr S0 l 7 6 ≤ nI i := by show S0 7 6 ≤ nI i; rw [hO.1]; exact nI_le (by omega) (by omega)
    refine s_Ed_draftModule_7 0 0 (fun h => absurd hle h) (fun h => absurd hle h) (fun _ => ?_) (fun h => absurd hle h) (fun h => absurd hle h)
    rw [List.drop_eq_nil_of_le (by omega)] at hq
    simpa [msgs] using hq
  | succ n ih =>
    intro i l hi hl hq
    have h12 := hO.2.1
    have hlt : ¬ st_dr S0 l 7 6 ≤ nI i := by show ¬ S0 7 6 ≤ nI i; rw [hO.1]; exact nI_ge (by omega) (by omega)
    have hio : i < o.length := by omega
    have hx : o[i]? = some o[i] := List.getElem?_eq_getElem hio
    have hmem : o[i] ∈ o := List.getElem_mem hio
    rw [List.drop_eq_getElem_cons hio] at hq hl
    generalize o[i] = x at hx hq hl hmem
    obtain ⟨h11, hx12⟩ := hO.2.2 i x hx
    have h11' : st_dr S0 l 11 i = nI x := h11
    have hix : ¬ (st_dr S0 l 7 6) ≤ nI i → zm_ix (st_dr S0 l 11 i) x 12 := fun _ => by rw [h11']; exact zm_ixN hx12 (by decide)
    refine s_Ed_draftModule_7 i x (fun _ => zm_ixN (by omega) (by decide)) hix (fun h => absurd h hlt) (fun _ hne => ?_) (fun _ heq => ?_)
    · have hne' : ¬ S0 12 x = nI m := hne
      rw [nI_1]
      refine ih (i + 1) l (by omega) ?_ ?_
      · simpa [msgs, hne'] using hl
      · simpa [msgs, hne'] using hq
    · have heq' : S0 12 x = nI m := heq
      rw [h11']
      have hcons : msgs (S0 2) (S0 3) (S0 4) (S0 5) (S0 6) (S0 12) (x :: o.drop (i + 1)) m = msg (S0 2) (S0 3) (S0 4) (S0 5) (S0 6) (S0 12) x ++ msgs (S0 2) (S0 3) (S0 4) (S0 5) (S0 6) (S0 12) (o.drop (i + 1)) m := by
        simp [msgs, heq']
      rw [hcons] at hl hq
      rw [List.length_append] at hl
      refine c_Ed_draftMessage hx12 (hL x hx12) (by omega) ?_
      refine s_Ed_draftModule_41 ?_
      rw [nI_1]
      refine ih (i + 1) _ (by omega) ?_ ?_
      · rw [List.length_append]; omega
      · rw [List.append_assoc]; exact hq
theorem c_Ed_draftModule {d : Nat} {Q : zm_Q} {S0 : zm_S} {o : List Nat} {m : Nat} (hO : OR S0 o) (hL : ∀ k, k < 12 → ∃ n, n ≤ 12 ∧ S0 5 k = nI n) (hm : m < 12) (hmo : ∀ x ∈ o, ∃ q, q < 12 ∧ S0 12 x = nI q) (hlen : (msgs (S0 2) (S0 3) (S0 4) (S0 5) (S0 6) (S0 12) o m).length ≤ 48) (hq : Q none GG (st_dr S0 (msgs (S0 2) (S0 3) (S0 4) (S0 5) (S0 6) (S0 12) o m))) : zc M_Ed_draftModule (d + 3) [.ref 7, .ref 1, .int (nI m)] S0 Q := by
  refine e_Ed_draftModule (s_Ed_draftModule_0 ?_)
  rw [st_dr_nil]
  exact l_Ed_draftModule hO hL hm hmo o.length 0 [] (by omega) (by simpa using hlen) (by simpa using hq)
