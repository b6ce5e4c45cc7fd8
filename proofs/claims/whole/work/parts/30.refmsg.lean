-- the reference writes a module's bytes
def apL (g : Nat → List Int32) (q : Nat) (l : List Int32) : Nat → List Int32 := fun j => if j = q then g q ++ l else g j
theorem apL_nil (g : Nat → List Int32) (q : Nat) : apL g q [] = g := by
  funext j; unfold apL
  by_cases h : j = q
  · rw [if_pos h, List.append_nil, h]
  · rw [if_neg h]
theorem apL_apL (g : Nat → List Int32) (q : Nat) (a b : List Int32) : apL (apL g q a) q b = apL g q (a ++ b) := by
  funext j; unfold apL
  by_cases h : j = q
  · rw [if_pos h, if_pos h, if_pos rfl, List.append_assoc]
  · rw [if_neg h, if_neg h, if_neg h]
theorem apL_self (g : Nat → List Int32) (q : Nat) (a : List Int32) : apL g q a q = g q ++ a := if_pos rfl
def st_ct (S0 : zm_S) (g : Nat → List Int32) (M : Nat) : zm_S := fun a => if a = 35 then ct (S0 35) g else if a = 33 then szs (S0 33) g M else S0 a
theorem st_ct_push {S0 : zm_S} {g : Nat → List Int32} {M q : Nat} {x : Int32} (hq : q < M) (hl : (g q).length < 48) : zm_up (zm_up (st_ct S0 g M) 35 (q * 48 + (g q).length) x) 33 q (nI (g q).length + 1) = st_ct S0 (apL g q [x]) M := by
  funext a
  by_cases h : a = 33
  · subst h
    rw [zm_up_self]
    show upd (szs (S0 33) g M) q (nI (g q).length + 1) = szs (S0 33) (apL g q [x]) M
    funext j
    unfold szs apL
    by_cases hj : j = q
    · subst hj; rw [upd_self, if_pos hq, if_pos rfl, nI_1]; simp
    · rw [upd_ne _ _ hj, if_neg hj]
  · rw [zm_up_ne _ _ _ h]
    by_cases h2 : a = 35
    · subst h2
      rw [zm_up_self]
      show upd (ct (S0 35) g) (q * 48 + (g q).length) x = ct (S0 35) (apL g q [x])
      funext i
      by_cases hi : i = q * 48 + (g q).length
      · subst hi
        rw [upd_self]
        unfold ct
        have hd : (q * 48 + (g q).length) / 48 = q := by omega
        have hr : (q * 48 + (g q).length) % 48 = (g q).length := by omega
        rw [hd, hr, apL_self]
        simp
      · rw [upd_ne _ _ hi]
        unfold ct
        by_cases hd : i / 48 = q
        · rw [hd, apL_self]
          by_cases hlt : i % 48 < (g q).length
          · rw [if_pos hlt, if_pos (by simp; omega)]
            simp [List.getD, List.getElem?_append_left hlt]
          · rw [if_neg hlt, if_neg (by simp; omega)]
        · have : apL g q [x] (i / 48) = g (i / 48) := if_neg hd
          rw [this]
    · rw [zm_up_ne _ _ _ h2]
      unfold st_ct
      rw [if_neg h2, if_neg h, if_neg h2, if_neg h]
theorem c_Md_put {d : Nat} {Q : zm_Q} {S0 : zm_S} {g : Nat → List Int32} {M q : Nat} {x : Int32} (hM : M ≤ 12) (hq : q < M) (hl : (g q).length < 48) (h : Q none GG (st_ct S0 (apL g q [x]) M)) : zc M_Md_put d [.ref 27, .int (nI q), .int x] (st_ct S0 g M) Q := by
  have h33 : st_ct S0 g M 33 q = nI (g q).length := by
    show szs (S0 33) g M q = _
    exact if_pos hq
  refine e_Md_put (s_Md_put_0 q (q * 48 + (g q).length) (zm_ixN (by omega) (by decide)) ?_ ?_)
  · rw [h33, show (48 : Int32) * nI q = nI (48 * q) from pk_mul 48 q, nI_add, Nat.mul_comm]
    exact zm_ixN (by omega) (by decide)
  · rw [h33, st_ct_push hq hl]; exact h
theorem RP.ct {S0 : zm_S} {g : Nat → List Int32} {M : Nat} {P : Nat → Int32} (h : RP S0 P) : RP (st_ct S0 g M) P := h
theorem et_s {P N : Nat → Int32} {dir : Int32} {i k : Nat} (hk : k < 12) (h : et P N dir i = nI k) : et P N dir (i + 1) = ea P N dir (N k) := by
  show (if et P N dir i = -1 then -1 else _) = _
  rw [h, if_neg (nI_nm1 (by omega)), nI_clamp (by omega)]
theorem l_Md_entries {d : Nat} {Q : zm_Q} {S0 : zm_S} {P : Nat → Int32} {k M q : Nat} (hP : RP S0 P) (hk : k < 12) (hM : M ≤ 12) (hq : q < M) : ∀ (n i : Nat) (g : Nat → List Int32), i + n = 12 → (g q).length + 4 * (elg P (S0 30) (nI k) n (et P (S0 30) (nI k) i)).length ≤ 48 → Q none GG (st_ct S0 (apL g q ((elg P (S0 30) (nI k) n (et P (S0 30) (nI k) i)).flatMap (eb (S0 28) (S0 30) (S0 39)))) M) →
    zw M_Md_message (d + 1) Q 99 [some (.ref 27), some (.int (nI k)), some (.int (nI q)), some (.int (et P (S0 30) (nI k) i))] [] (st_ct S0 g M) := by
  intro n
  induction n with
  | zero =>
    intro i g hi _ hqq
    have he : et P (S0 30) (nI k) i = -1 := et_end i (by omega)
    rw [he] at hqq ⊢
    refine s_Md_message_99 0 (fun h => absurd (by decide) h) (fun _ => ?_) (fun h => absurd (by decide) h)
    rw [elg_nil] at hqq
    rw [List.flatMap_nil, apL_nil] at hqq; exact hqq
  | succ n ih =>
    intro i g hi hlen hqq
    rcases et_in (P := P) (N := S0 30) (dir := nI k) i with he | ⟨j, hj1, hj, he, _⟩
    · rw [he] at hqq ⊢
      refine s_Md_message_99 0 (fun h => absurd (by decide) h) (fun _ => ?_) (fun h => absurd (by decide) h)
      rw [elg_nil, List.flatMap_nil, apL_nil] at hqq; exact hqq
    · have hs := et_s hj he
      rw [he] at hqq hlen ⊢
      rw [elg_cons n hj] at hqq hlen
      simp only [List.length_cons] at hlen
      have hnn : ¬ nI j < 0 := nI_pos (by omega)
      refine s_Md_message_99 j (fun _ => zm_ixN hj (by decide)) (fun h => absurd h hnn) (fun _ => ?_)
      refine c_Md_put (x := S0 30 j) hM hq (by omega) ?_
      refine s_Md_message_114 j (zm_ixN hj (by decide)) ?_
      refine c_Md_put (x := S0 28 j) hM hq (by rw [apL_self]; simp; omega) ?_
      rw [apL_apL]
      refine s_Md_message_125 j (zm_ixN hj (by decide)) ?_
      refine c_Md_put (x := S0 39 j) hM hq (by rw [apL_self]; simp; omega) ?_
      rw [apL_apL]
      refine s_Md_message_136 ?_
      refine c_Md_put (x := nI j) hM hq (by rw [apL_self]; simp; omega) ?_
      rw [apL_apL]
      refine s_Md_message_142 j (zm_ixN hj (by decide)) ?_
      refine c_Md_after (P := P) hP (nI_nm1 (by omega)) ?_
      refine s_Md_message_153 ?_
      have hs' : ea P (st_ct S0 (apL g q ([S0 30 j] ++ [S0 28 j] ++ [S0 39 j] ++ [nI j])) M 30) (nI k) (st_ct S0 (apL g q ([S0 30 j] ++ [S0 28 j] ++ [S0 39 j] ++ [nI j])) M 30 j) = et P (S0 30) (nI k) (i + 1) := hs.symm
      rw [hs']
      refine ih (i + 1) _ (by omega) ?_ ?_
      · rw [apL_self, hs]; simp; omega
      · rw [apL_apL, hs]
        simpa [eb] using hqq
theorem l_Md_file {d : Nat} {Q : zm_Q} {S0 : zm_S} {k len M q : Nat} (hk : k < 12) (h3 : S0 28 k = 3) (hL : S0 31 k = nI len) (hlen : len ≤ 12) (hM : M ≤ 12) (hq : q < M) : ∀ (n i : Nat) (g : Nat → List Int32), i + n = len → (g q).length + n ≤ 48 → Q none GG (st_ct S0 (apL g q ((List.range' i n).map (fun i => S0 32 (k * 12 + i)))) M) →
    zw M_Md_message (d + 1) Q 36 [some (.ref 27), some (.int (nI k)), some (.int (nI q)), some (.int (nI i))] [] (st_ct S0 g M) := by
  intro n
  have h3' : ∀ g, st_ct S0 g M 28 k = 3 := fun g => h3
  have hL' : ∀ g, st_ct S0 g M 31 k = nI len := fun g => hL
  induction n with
  | zero =>
    intro i g hi _ hqq
    have hle : st_ct S0 g M 31 k ≤ nI i := by rw [hL']; exact nI_le (by omega) (by omega)
    refine s_Md_message_36 k 0 (zm_ixN hk (by decide)) (fun _ h => absurd hle h) (fun h => absurd (h3' g) h) (fun _ _ => ?_) (fun _ h => absurd hle h)
    refine s_Md_message_99 0 (fun h => absurd (by decide) h) (fun _ => ?_) (fun h => absurd (by decide) h)
    rw [List.range'_zero, List.map_nil, apL_nil] at hqq; exact hqq
  | succ n ih =>
    intro i g hi hl hqq
    have hlt : ¬ st_ct S0 g M 31 k ≤ nI i := by rw [hL']; exact nI_ge (by omega) (by omega)
    have e12 : 12 * nI k + nI i = nI (k * 12 + i) := by rw [show (12 : Int32) * nI k = nI (12 * k) from pk_mul 12 k, nI_add, Nat.mul_comm]
    refine s_Md_message_36 k (k * 12 + i) (zm_ixN hk (by decide)) (fun _ _ => ?_) (fun h => absurd (h3' g) h) (fun _ h => absurd h hlt) (fun _ _ => ?_)
    · rw [e12]; exact zm_ixN (by omega) (by decide)
    · refine c_Md_put (x := S0 32 (k * 12 + i)) hM hq (by omega) ?_
      refine s_Md_message_72 ?_
      rw [nI_1]
      refine ih (i + 1) _ (by omega) (by rw [apL_self]; simp; omega) ?_
      rw [apL_apL]
      simpa [List.range'_succ] using hqq
theorem c_Md_message {d : Nat} {Q : zm_Q} {S0 : zm_S} {P : Nat → Int32} {k M q : Nat} {g : Nat → List Int32} (hP : RP S0 P) (hk : k < 12) (hL : ∃ n, n ≤ 12 ∧ S0 31 k = nI n) (hM : M ≤ 12) (hq : q < M) (h39 : S0 39 k = nI q) (hlen : (g q).length + (msg (S0 28) P (S0 30) (S0 31) (S0 32) (S0 39) k).length ≤ 48)
    (hqq : Q none GG (st_ct S0 (apL g q (msg (S0 28) P (S0 30) (S0 31) (S0 32) (S0 39) k)) M)) : zc M_Md_message (d + 1) [.ref 27, .int (nI k)] (st_ct S0 g M) Q := by
  obtain ⟨n, hn, hL⟩ := hL
  have h3 : (g q).length + 3 ≤ 48 := by
    rw [msg, List.length_append] at hlen; simp at hlen; omega
  have e39 : st_ct S0 g M 39 k = nI q := h39
  refine e_Md_message (s_Md_message_0 k (zm_ixN hk (by decide)) ?_)
  rw [e39]
  refine c_Md_put (x := S0 28 k) hM hq (by omega) ?_
  refine s_Md_message_18 ?_
  refine c_Md_put (x := nI k) hM hq (by rw [apL_self]; simp; omega) ?_
  rw [apL_apL]
  refine s_Md_message_24 ?_
  refine c_Md_payload (P := P) hP hk ?_
  refine s_Md_message_31 ?_
  refine c_Md_put (x := ml (S0 28) P (S0 31) k) hM hq (by rw [apL_self]; simp; omega) ?_
  rw [apL_apL]
  refine s_Md_message_34 ?_
  by_cases hf : S0 28 k = 3
  · rw [msg, if_pos hf] at hqq hlen
    have hc : (S0 31 k).toNatClampNeg = n := by rw [hL]; exact nI_clamp (by omega)
    refine l_Md_file hk hf hL hn hM hq n 0 _ (by omega) ?_ ?_
    · rw [apL_self]; simp [fbs, hc] at hlen ⊢; omega
    · rw [apL_apL]
      rw [fbs, hc] at hqq
      simpa using hqq
  · rw [msg, if_neg hf] at hqq hlen
    refine s_Md_message_36 k 0 (zm_ixN hk (by decide)) (fun h => absurd h hf) (fun _ => ?_) (fun h => absurd h hf) (fun h => absurd h hf)
    refine c_Md_after (P := P) hP (nI_nm1 (by omega)) ?_
    refine s_Md_message_98 ?_
    refine l_Md_entries (i := 0) hP hk hM hq 12 _ (by omega) ?_ ?_
    · rw [List.length_append, flat4 _ (fun x => rfl)] at hlen
      rw [apL_self]
      have : (elg P (S0 30) (nI k) 12 (et P (S0 30) (nI k) 0)).length = (el P (S0 30) (nI k)).length := rfl
      rw [this]
      simp at hlen ⊢; omega
    · rw [apL_apL]
      have : elg P (S0 30) (nI k) 12 (et P (S0 30) (nI k) 0) = el P (S0 30) (nI k) := rfl
      rw [this]
      simpa using hqq
