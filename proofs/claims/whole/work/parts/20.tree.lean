-- the tree's loops: pure functions of the parents P and names N, and the contracts of both sides
def ea_st (P N : Nat → Int32) (dir ab : Int32) (k : Nat) (f : Int32) : Int32 := if P k = dir ∧ ¬ N k ≤ ab ∧ (f = -1 ∨ ¬ N f.toNatClampNeg ≤ N k) then nI k else f
def ea_go (P N : Nat → Int32) (dir ab : Int32) : Nat → Int32 → Int32
  | 0, f => f
  | n + 1, f => ea_go P N dir ab n (ea_st P N dir ab (11 - n) f)
def ea (P N : Nat → Int32) (dir ab : Int32) : Int32 := ea_go P N dir ab 11 (-1)
def ef (f : Int32) : Prop := f = -1 ∨ ∃ j, 1 ≤ j ∧ j < 12 ∧ f = nI j
theorem nI_nm1 {n : Nat} (h : n < 2 ^ 31) : ¬ nI n = -1 := by
  intro e
  have h1 := congrArg Int32.toInt e
  rw [nI_toInt h] at h1
  have h2 : (-1 : Int32).toInt = -1 := by decide
  omega
theorem ef_neg {f : Int32} (h : ef f) : f < 0 ↔ f = -1 := by
  rcases h with rfl | ⟨j, _, hj, rfl⟩
  · decide
  · exact ⟨fun h => absurd h (nI_pos (by omega)), fun h => absurd h (nI_nm1 (by omega))⟩
theorem ea_st_ef {P N : Nat → Int32} {dir ab f : Int32} {k : Nat} (h1 : 1 ≤ k) (h2 : k < 12) (h : ef f) : ef (ea_st P N dir ab k f) := by
  unfold ea_st
  split
  · exact Or.inr ⟨k, h1, h2, rfl⟩
  · exact h
theorem ea_go_ef {P N : Nat → Int32} {dir ab : Int32} : ∀ (n : Nat) (f : Int32), n ≤ 11 → ef f → ef (ea_go P N dir ab n f)
  | 0, _, _, h => h
  | n + 1, f, hn, h => ea_go_ef n _ (by omega) (ea_st_ef (by omega) (by omega) h)
theorem ea_ef (P N : Nat → Int32) (dir ab : Int32) : ef (ea P N dir ab) := ea_go_ef 11 (-1) (by omega) (Or.inl rfl)
theorem l_Tree_entryAfter {d : Nat} {Q : zm_Q} {S : zm_S} {dir ab : Int32} : ∀ (n : Nat) (f : Int32), n ≤ 11 → ef f → Q (some (ea_go (S 3) (S 4) dir ab n f)) GG S → zw M_Tree_entryAfter d Q 5 [some (.ref 1), some (.int dir), some (.int ab), some (.int f), some (.int (nI (12 - n))), none] [] S := by
  intro n
  induction n with
  | zero =>
    intro f _ _ hq
    have hle : (12 : Int32) ≤ nI (12 - 0) := by decide
    refine s_Tree_entryAfter_5 0 0 (fun h => absurd hle h) (fun h => absurd hle h) (fun _ => hq) ?_ ?_
    · rintro (h | h | h) <;> exact absurd hle h.1
    · rintro (h | h) <;> exact absurd hle h.1
  | succ n ih =>
    intro f hn hf hq
    have hk : 12 - (n + 1) = 11 - n := by omega
    rw [hk]
    have hlt : ¬ (12 : Int32) ≤ nI (11 - n) := nI_ge (b := 12) (by omega) (by decide)
    have e : nI (11 - n) + 1 = nI (12 - n) := by rw [nI_1]; congr 1; omega
    refine s_Tree_entryAfter_5 (11 - n) f.toNatClampNeg (fun _ => zm_ixN (by omega) (by decide)) ?_ (fun h => absurd h hlt) ?_ ?_
    · intro _ _ _ hne
      rcases hf with rfl | ⟨j, _, hj, rfl⟩
      · exact absurd rfl hne
      · rw [nI_clamp (by omega)]; exact zm_ixN hj (by decide)
    · intro h
      have hs : ea_st (S 3) (S 4) dir ab (11 - n) f = f := by
        refine if_neg ?_
        rintro ⟨h1, h2, h3⟩
        rcases h with h | h | h
        · exact h.2 h1
        · exact h2 h.2.2
        · rcases h3 with h3 | h3
          · exact h.2.2.2.1 h3
          · exact h3 h.2.2.2.2
      have hq' : ea_go (S 3) (S 4) dir ab (n + 1) f = ea_go (S 3) (S 4) dir ab n f := by
        show ea_go (S 3) (S 4) dir ab n (ea_st (S 3) (S 4) dir ab (11 - n) f) = _
        rw [hs]
      rw [hq'] at hq
      rw [e]
      exact ih f (by omega) hf hq
    · intro h
      have hs : ea_st (S 3) (S 4) dir ab (11 - n) f = nI (11 - n) := by
        refine if_pos ?_
        rcases h with h | h
        · exact ⟨h.2.1, h.2.2.1, Or.inl h.2.2.2⟩
        · exact ⟨h.2.1, h.2.2.1, Or.inr h.2.2.2.2⟩
      have hq' : ea_go (S 3) (S 4) dir ab (n + 1) f = ea_go (S 3) (S 4) dir ab n (nI (11 - n)) := by
        show ea_go (S 3) (S 4) dir ab n (ea_st (S 3) (S 4) dir ab (11 - n) f) = _
        rw [hs]
      rw [hq'] at hq
      rw [e]
      exact ih (nI (11 - n)) (by omega) (Or.inr ⟨11 - n, by omega, by omega, rfl⟩) hq
theorem c_Tree_entryAfter {d : Nat} {Q : zm_Q} {S : zm_S} {dir ab : Int32} (hq : Q (some (ea (S 3) (S 4) dir ab)) GG S) : zc M_Tree_entryAfter d [.ref 1, .int dir, .int ab] S Q :=
  e_Tree_entryAfter (s_Tree_entryAfter_0 (l_Tree_entryAfter 11 (-1) (by omega) (Or.inl rfl) hq))
-- the reference's parents stand for P
def RP (S : zm_S) (P : Nat → Int32) : Prop := ∀ k, 1 ≤ k → k < 12 → (S 28 k = 0 → P k = -1) ∧ (¬ S 28 k = 0 → S 29 k = P k)
theorem l_Md_after {d : Nat} {Q : zm_Q} {S : zm_S} {P : Nat → Int32} {dir ab : Int32} (hP : RP S P) (hdir : ¬ dir = -1) : ∀ (n : Nat) (f : Int32), n ≤ 11 → ef f → Q (some (ea_go P (S 30) dir ab n f)) GG S → zw M_Md_after d Q 5 [some (.ref 27), some (.int dir), some (.int ab), some (.int f), some (.int (nI (12 - n))), none] [] S := by
  intro n
  induction n with
  | zero =>
    intro f _ _ hq
    have hle : (12 : Int32) ≤ nI (12 - 0) := by decide
    refine s_Md_after_5 0 0 (fun h => absurd hle h) (fun h => absurd hle h) (fun _ => hq) ?_ ?_
    · rintro (h | h | h | h) <;> exact absurd hle h.1
    · rintro (h | h) <;> exact absurd hle h.1
  | succ n ih =>
    intro f hn hf hq
    have hk : 12 - (n + 1) = 11 - n := by omega
    rw [hk]
    have hlt : ¬ (12 : Int32) ≤ nI (11 - n) := nI_ge (b := 12) (by omega) (by decide)
    have e : nI (11 - n) + 1 = nI (12 - n) := by rw [nI_1]; congr 1; omega
    have hp := hP (11 - n) (by omega) (by omega)
    refine s_Md_after_5 (11 - n) f.toNatClampNeg (fun _ => zm_ixN (by omega) (by decide)) ?_ (fun h => absurd h hlt) ?_ ?_
    · intro _ _ _ _ hne
      rcases hf with rfl | ⟨j, _, hj, rfl⟩
      · exact absurd (by decide) hne
      · rw [nI_clamp (by omega)]; exact zm_ixN hj (by decide)
    · intro h
      have hs : ea_st P (S 30) dir ab (11 - n) f = f := by
        refine if_neg ?_
        rintro ⟨h1, h2, h3⟩
        rcases h with h | h | h | h
        · rw [hp.1 h.2] at h1; exact hdir h1.symm
        · rw [← hp.2 h.2.1] at h1; exact h.2.2 h1
        · exact h2 h.2.2.2
        · rcases h3 with h3 | h3
          · exact h.2.2.2.2.1 ((ef_neg hf).mpr h3)
          · exact h3 h.2.2.2.2.2
      have hq' : ea_go P (S 30) dir ab (n + 1) f = ea_go P (S 30) dir ab n f := by
        show ea_go P (S 30) dir ab n (ea_st P (S 30) dir ab (11 - n) f) = _
        rw [hs]
      rw [hq'] at hq
      rw [e]
      exact ih f (by omega) hf hq
    · intro h
      have hs : ea_st P (S 30) dir ab (11 - n) f = nI (11 - n) := by
        refine if_pos ?_
        rcases h with h | h
        · exact ⟨by rw [← hp.2 h.2.1]; exact h.2.2.1, h.2.2.2.1, Or.inl ((ef_neg hf).mp h.2.2.2.2)⟩
        · exact ⟨by rw [← hp.2 h.2.1]; exact h.2.2.1, h.2.2.2.1, Or.inr h.2.2.2.2.2⟩
      have hq' : ea_go P (S 30) dir ab (n + 1) f = ea_go P (S 30) dir ab n (nI (11 - n)) := by
        show ea_go P (S 30) dir ab n (ea_st P (S 30) dir ab (11 - n) f) = _
        rw [hs]
      rw [hq'] at hq
      rw [e]
      exact ih (nI (11 - n)) (by omega) (Or.inr ⟨11 - n, by omega, by omega, rfl⟩) hq
theorem c_Md_after {d : Nat} {Q : zm_Q} {S : zm_S} {P : Nat → Int32} {dir ab : Int32} (hP : RP S P) (hdir : ¬ dir = -1) (hq : Q (some (ea P (S 30) dir ab)) GG S) : zc M_Md_after d [.ref 27, .int dir, .int ab] S Q :=
  e_Md_after (s_Md_after_0 (l_Md_after hP hdir 11 (-1) (by omega) (Or.inl rfl) hq))
-- what ea answers
def eaI (P N : Nat → Int32) (dir ab : Int32) (m : Nat) (f : Int32) : Prop := (f = -1 ∧ ∀ k, 1 ≤ k → k < m → ¬ (P k = dir ∧ ¬ N k ≤ ab)) ∨ ∃ j, 1 ≤ j ∧ j < m ∧ f = nI j ∧ P j = dir ∧ ¬ N j ≤ ab ∧ ∀ k, 1 ≤ k → k < m → P k = dir → ¬ N k ≤ ab → N j ≤ N k
theorem ea_go_I {P N : Nat → Int32} {dir ab : Int32} : ∀ (n : Nat) (f : Int32), n ≤ 11 → eaI P N dir ab (12 - n) f → eaI P N dir ab 12 (ea_go P N dir ab n f)
  | 0, _, _, h => h
  | n + 1, f, hn, h => by
    refine ea_go_I n _ (by omega) ?_
    have hk : 12 - (n + 1) = 11 - n := by omega
    rw [hk] at h
    have h12 : 12 - n = 11 - n + 1 := by omega
    rw [h12]
    generalize hm : 11 - n = m at h ⊢
    have hm12 : m < 12 := by omega
    unfold ea_st
    by_cases hc : P m = dir ∧ ¬ N m ≤ ab
    · rcases h with ⟨rfl, h⟩ | ⟨j, hj1, hj2, rfl, hj3, hj4, hj5⟩
      · rw [if_pos ⟨hc.1, hc.2, Or.inl rfl⟩]
        refine Or.inr ⟨m, by omega, by omega, rfl, hc.1, hc.2, fun k h1 h2 h3 h4 => ?_⟩
        by_cases hkm : k = m
        · subst hkm; exact Int32.le_refl _
        · exact absurd ⟨h3, h4⟩ (h k h1 (by omega))
      · rw [nI_clamp (by omega)]
        by_cases hlt : N j ≤ N m
        · rw [if_neg (by rintro ⟨_, _, h | h⟩; exact nI_nm1 (by omega) h; exact h hlt)]
          refine Or.inr ⟨j, hj1, by omega, rfl, hj3, hj4, fun k h1 h2 h3 h4 => ?_⟩
          by_cases hkm : k = m
          · subst hkm; exact hlt
          · exact hj5 k h1 (by omega) h3 h4
        · rw [if_pos ⟨hc.1, hc.2, Or.inr hlt⟩]
          refine Or.inr ⟨m, by omega, by omega, rfl, hc.1, hc.2, fun k h1 h2 h3 h4 => ?_⟩
          by_cases hkm : k = m
          · subst hkm; exact Int32.le_refl _
          · have := hj5 k h1 (by omega) h3 h4
            rw [Int32.le_iff_toInt_le] at this hlt ⊢
            omega
    · rw [if_neg (by rintro ⟨h1, h2, _⟩; exact hc ⟨h1, h2⟩)]
      rcases h with ⟨rfl, h⟩ | ⟨j, hj1, hj2, rfl, hj3, hj4, hj5⟩
      · refine Or.inl ⟨rfl, fun k h1 h2 => ?_⟩
        by_cases hkm : k = m
        · subst hkm; exact hc
        · exact h k h1 (by omega)
      · refine Or.inr ⟨j, hj1, by omega, rfl, hj3, hj4, fun k h1 h2 h3 h4 => ?_⟩
        by_cases hkm : k = m
        · subst hkm; exact absurd ⟨h3, h4⟩ hc
        · exact hj5 k h1 (by omega) h3 h4
theorem ea_I (P N : Nat → Int32) (dir ab : Int32) : eaI P N dir ab 12 (ea P N dir ab) := ea_go_I 11 (-1) (by omega) (Or.inl ⟨rfl, fun k h1 h2 => by omega⟩)
-- hasEntry
theorem l_Tree_hasEntry {d : Nat} {Q : zm_Q} {S : zm_S} {dir nm : Int32} (h1 : ∀ k, 1 ≤ k → k < 12 → S 3 k = dir → S 4 k = nm → Q (some 1) GG S) (h0 : (∀ k, 1 ≤ k → k < 12 → ¬ (S 3 k = dir ∧ S 4 k = nm)) → Q (some 0) GG S) : ∀ n, n ≤ 11 → (∀ k, 1 ≤ k → k < 12 - n → ¬ (S 3 k = dir ∧ S 4 k = nm)) → zw M_Tree_hasEntry d Q 2 [some (.ref 1), some (.int dir), some (.int nm), some (.int (nI (12 - n)))] [] S := by
  intro n
  induction n with
  | zero =>
    intro _ hI
    have hle : (12 : Int32) ≤ nI (12 - 0) := by decide
    refine s_Tree_hasEntry_2 0 (fun h => absurd hle h) (fun _ => h0 hI) ?_ (fun h => absurd hle h)
    rintro (h | h) <;> exact absurd hle h.1
  | succ n ih =>
    intro hn hI
    have hk : 12 - (n + 1) = 11 - n := by omega
    rw [hk] at hI ⊢
    have hlt : ¬ (12 : Int32) ≤ nI (11 - n) := nI_ge (b := 12) (by omega) (by decide)
    have e : nI (11 - n) + 1 = nI (12 - n) := by rw [nI_1]; congr 1; omega
    refine s_Tree_hasEntry_2 (11 - n) (fun _ => zm_ixN (by omega) (by decide)) (fun h => absurd h hlt) ?_ (fun _ a b => h1 (11 - n) (by omega) (by omega) a b)
    intro h
    rw [e]
    refine ih (by omega) (fun k a b => ?_)
    by_cases hkm : k = 11 - n
    · subst hkm
      rintro ⟨c1, c2⟩
      rcases h with h | h
      · exact h.2 c1
      · exact h.2.2 c2
    · exact hI k a (by omega)
theorem c_Tree_hasEntry {d : Nat} {Q : zm_Q} {S : zm_S} {dir nm : Int32} (h1 : ∀ k, 1 ≤ k → k < 12 → S 3 k = dir → S 4 k = nm → Q (some 1) GG S) (h0 : (∀ k, 1 ≤ k → k < 12 → ¬ (S 3 k = dir ∧ S 4 k = nm)) → Q (some 0) GG S) : zc M_Tree_hasEntry d [.ref 1, .int dir, .int nm] S Q :=
  e_Tree_hasEntry (s_Tree_hasEntry_0 (l_Tree_hasEntry h1 h0 11 (by omega) (fun k a b => by omega)))
-- entryCount and payload
def ec_go (P : Nat → Int32) (dir : Int32) : Nat → Nat
  | 0 => 0
  | n + 1 => (if P (11 - n) = dir then 1 else 0) + ec_go P dir n
def ec (P : Nat → Int32) (dir : Int32) : Nat := ec_go P dir 11
theorem l_Tree_entryCount {d : Nat} {Q : zm_Q} {S : zm_S} {dir : Int32} : ∀ n c, n ≤ 11 → Q (some (nI (c + ec_go (S 3) dir n))) GG S → zw M_Tree_entryCount d Q 4 [some (.ref 1), some (.int dir), some (.int (nI c)), some (.int (nI (12 - n)))] [] S := by
  intro n
  induction n with
  | zero =>
    intro c _ hq
    have hle : (12 : Int32) ≤ nI (12 - 0) := by decide
    exact s_Tree_entryCount_4 0 (fun h => absurd hle h) (fun _ => hq) (fun h => absurd hle h) (fun h => absurd hle h)
  | succ n ih =>
    intro c hn hq
    have hk : 12 - (n + 1) = 11 - n := by omega
    rw [hk]
    have hlt : ¬ (12 : Int32) ≤ nI (11 - n) := nI_ge (b := 12) (by omega) (by decide)
    have e : nI (11 - n) + 1 = nI (12 - n) := by rw [nI_1]; congr 1; omega
    refine s_Tree_entryCount_4 (11 - n) (fun _ => zm_ixN (by omega) (by decide)) (fun h => absurd h hlt) (fun _ h => ?_) (fun _ h => ?_)
    · rw [e]
      refine ih c (by omega) ?_
      simpa [ec_go, h] using hq
    · rw [e, nI_1]
      refine ih (c + 1) (by omega) ?_
      rw [show c + 1 + ec_go (S 3) dir n = c + ec_go (S 3) dir (n + 1) by simp [ec_go, h]; omega]
      exact hq
theorem c_Tree_entryCount {d : Nat} {Q : zm_Q} {S : zm_S} {dir : Int32} (hq : Q (some (nI (ec (S 3) dir))) GG S) : zc M_Tree_entryCount d [.ref 1, .int dir] S Q :=
  e_Tree_entryCount (s_Tree_entryCount_0 (l_Tree_entryCount 11 0 (by omega) (by rw [Nat.zero_add]; exact hq)))
theorem ec_go_le (P : Nat → Int32) (dir : Int32) : ∀ n, ec_go P dir n ≤ n
  | 0 => Nat.le_refl _
  | n + 1 => by have := ec_go_le P dir n; simp only [ec_go]; split <;> omega
theorem ec_go_pos {P : Nat → Int32} {dir : Int32} : ∀ n, n ≤ 11 → (0 < ec_go P dir n ↔ ∃ k, 12 - n ≤ k ∧ k < 12 ∧ P k = dir)
  | 0, _ => by simp [ec_go]; intro k h1 h2; omega
  | n + 1, hn => by
    have ih := ec_go_pos (P := P) (dir := dir) n (by omega)
    simp only [ec_go]
    by_cases h : P (11 - n) = dir
    · rw [if_pos h]
      exact ⟨fun _ => ⟨11 - n, by omega, by omega, h⟩, fun _ => by omega⟩
    · rw [if_neg h, Nat.zero_add, ih]
      constructor
      · rintro ⟨k, a, b, c⟩; exact ⟨k, by omega, b, c⟩
      · rintro ⟨k, a, b, c⟩
        refine ⟨k, ?_, b, c⟩
        by_cases hk : k = 11 - n
        · subst hk; exact absurd c h
        · omega
-- leastFreeKey
theorem l_Tree_leastFreeKey {d : Nat} {Q : zm_Q} {S : zm_S} (h1 : ∀ k, 1 ≤ k → k < 12 → S 2 k = 0 → (∀ i, 1 ≤ i → i < k → ¬ S 2 i = 0) → Q (some (nI k)) GG S) (h0 : (∀ k, 1 ≤ k → k < 12 → ¬ S 2 k = 0) → Q (some (-1)) GG S) : ∀ n, n ≤ 11 → (∀ k, 1 ≤ k → k < 12 - n → ¬ S 2 k = 0) → zw M_Tree_leastFreeKey (d + 1) Q 2 [some (.ref 1), some (.int (nI (12 - n)))] [] S := by
  intro n
  induction n with
  | zero =>
    intro _ hI
    have hle : (12 : Int32) ≤ nI (12 - 0) := by decide
    exact s_Tree_leastFreeKey_2 0 (fun h => absurd hle h) (fun _ => h0 hI) (fun h => absurd hle h) (fun h => absurd hle h)
  | succ n ih =>
    intro hn hI
    have hk : 12 - (n + 1) = 11 - n := by omega
    rw [hk] at hI ⊢
    have hlt : ¬ (12 : Int32) ≤ nI (11 - n) := nI_ge (b := 12) (by omega) (by decide)
    have e : nI (11 - n) + 1 = nI (12 - n) := by rw [nI_1]; congr 1; omega
    refine s_Tree_leastFreeKey_2 (11 - n) (fun _ => zm_ixN (by omega) (by decide)) (fun h => absurd h hlt) (fun _ h => h1 (11 - n) (by omega) (by omega) h hI) (fun _ h => ?_)
    rw [e]
    refine ih (by omega) (fun k a b => ?_)
    by_cases hkm : k = 11 - n
    · subst hkm; exact h
    · exact hI k a (by omega)
theorem c_Tree_leastFreeKey {d : Nat} {Q : zm_Q} {S : zm_S} (h1 : ∀ k, 1 ≤ k → k < 12 → S 2 k = 0 → (∀ i, 1 ≤ i → i < k → ¬ S 2 i = 0) → Q (some (nI k)) GG S) (h0 : (∀ k, 1 ≤ k → k < 12 → ¬ S 2 k = 0) → Q (some (-1)) GG S) : zc M_Tree_leastFreeKey (d + 1) [.ref 1] S Q :=
  e_Tree_leastFreeKey (s_Tree_leastFreeKey_0 (l_Tree_leastFreeKey h1 h0 11 (by omega) (fun k a b => by omega)))
-- the length of a message's content
def ml (K P Ln : Nat → Int32) (k : Nat) : Int32 := if K k = 3 then Ln k else nI (4 * ec P (nI k))
theorem c_Tree_messageLength {d : Nat} {Q : zm_Q} {S : zm_S} {k : Nat} (hk : k < 12) (hq : Q (some (ml (S 2) (S 3) (S 5) k)) GG S) : zc M_Tree_messageLength (d + 1) [.ref 1, .int (nI k)] S Q := by
  refine e_Tree_messageLength (s_Tree_messageLength_0 k (zm_ixN hk (by decide)) (fun _ => zm_ixN hk (by decide)) (fun h => ?_) (fun h => ?_))
  · refine c_Tree_entryCount ?_
    refine s_Tree_messageLength_23 ?_
    have e : (4 : Int32) * nI (ec (S 3) (nI k)) = nI (4 * ec (S 3) (nI k)) := pk_mul 4 _
    rw [e]
    rw [ml, if_neg h] at hq; exact hq
  · rw [ml, if_pos h] at hq; exact hq
theorem l_Md_payload {d : Nat} {Q : zm_Q} {S : zm_S} {P : Nat → Int32} {dir : Int32} (hP : RP S P) (hdir : ¬ dir = -1) : ∀ n c, n ≤ 11 → Q (some (nI (c + 4 * ec_go P dir n))) GG S → zw M_Md_payload d Q 21 [some (.ref 27), some (.int dir), some (.int (nI c)), some (.int (nI (12 - n)))] [] S := by
  intro n
  induction n with
  | zero =>
    intro c _ hq
    have hle : (12 : Int32) ≤ nI (12 - 0) := by decide
    refine s_Md_payload_21 0 (fun h => absurd hle h) (fun _ => hq) ?_ (fun h => absurd hle h)
    rintro (h | h) <;> exact absurd hle h.1
  | succ n ih =>
    intro c hn hq
    have hk : 12 - (n + 1) = 11 - n := by omega
    rw [hk]
    have hlt : ¬ (12 : Int32) ≤ nI (11 - n) := nI_ge (b := 12) (by omega) (by decide)
    have e : nI (11 - n) + 1 = nI (12 - n) := by rw [nI_1]; congr 1; omega
    have hp := hP (11 - n) (by omega) (by omega)
    refine s_Md_payload_21 (11 - n) (fun _ => zm_ixN (by omega) (by decide)) (fun h => absurd h hlt) (fun h => ?_) (fun _ h0 h => ?_)
    · have hne : ¬ P (11 - n) = dir := by
        rcases h with h | h
        · rw [hp.1 h.2]; exact fun x => hdir x.symm
        · rw [← hp.2 h.2.1]; exact h.2.2
      rw [e]
      refine ih c (by omega) ?_
      simpa [ec_go, hne] using hq
    · have heq : P (11 - n) = dir := by rw [← hp.2 h0]; exact h
      have e4 : nI c + 4 = nI (c + 4) := nI_add c 4
      rw [e, e4]
      refine ih (c + 4) (by omega) ?_
      rw [show c + 4 + 4 * ec_go P dir n = c + 4 * ec_go P dir (n + 1) by simp [ec_go, heq]; omega]
      exact hq
theorem c_Md_payload {d : Nat} {Q : zm_Q} {S : zm_S} {P : Nat → Int32} {k : Nat} (hP : RP S P) (hk : k < 12) (hq : Q (some (ml (S 28) P (S 31) k)) GG S) : zc M_Md_payload d [.ref 27, .int (nI k)] S Q := by
  refine e_Md_payload (s_Md_payload_0 k (zm_ixN hk (by decide)) (fun h => ?_) (fun h => ?_))
  · rw [ml, if_neg h] at hq
    exact l_Md_payload hP (nI_nm1 (by omega)) 11 0 (by omega) (by rw [Nat.zero_add]; exact hq)
  · rw [ml, if_pos h] at hq; exact hq
