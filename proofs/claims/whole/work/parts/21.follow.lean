-- the follower in the order of publishing
def fo_go (P N : Nat → Int32) : Nat → Int32 → Int32 → Int32
  | 0, f, _ => f
  | n + 1, f, a => if f = -1 ∧ ¬ a ≤ 0 then fo_go P N n (ea P N (P a.toNatClampNeg) (N a.toNatClampNeg)) (P a.toNatClampNeg) else f
def fo (P N : Nat → Int32) (a : Int32) : Int32 := fo_go P N 12 (ea P N a 0) a
def PC (P : Nat → Int32) : Prop := ∀ k, k < 12 → P k = -1 ∨ ∃ p, p < 12 ∧ P k = nI p
theorem l_Tree_followerOf {d : Nat} {Q : zm_Q} {S : zm_S} (hC : PC (S 3)) : ∀ (n : Nat) (f a : Int32), n ≤ 12 → (a = -1 ∨ ∃ j, j < 12 ∧ a = nI j) → Q (some (fo_go (S 3) (S 4) n f a)) GG S → zw M_Tree_followerOf (d + 1) Q 12 [some (.ref 1), none, some (.int f), some (.int a), some (.int (nI (12 - n)))] [] S := by
  intro n
  induction n with
  | zero =>
    intro f a _ _ hq
    have hle : (12 : Int32) ≤ nI (12 - 0) := by decide
    exact s_Tree_followerOf_12 0 (fun h => absurd hle h) (fun _ => hq) (fun h => absurd hle h)
  | succ n ih =>
    intro f a hn ha hq
    have hk : 12 - (n + 1) = 11 - n := by omega
    rw [hk]
    have hlt : ¬ (12 : Int32) ≤ nI (11 - n) := nI_ge (b := 12) (by omega) (by decide)
    have e : nI (11 - n) + 1 = nI (12 - n) := by rw [nI_1]; congr 1; omega
    by_cases hc : f = -1 ∧ ¬ a ≤ 0
    · obtain ⟨hf, ha0⟩ := hc
      rcases ha with rfl | ⟨j, hj, rfl⟩
      · exact absurd (by decide) ha0
      · have e1 : fo_go (S 3) (S 4) (n + 1) f (nI j) = fo_go (S 3) (S 4) n (ea (S 3) (S 4) (S 3 j) (S 4 j)) (S 3 j) := by
          show (if f = -1 ∧ ¬ nI j ≤ 0 then _ else _) = _
          rw [if_pos ⟨hf, ha0⟩, nI_clamp (by omega)]
        rw [e1] at hq
        refine s_Tree_followerOf_12 j (fun _ _ _ => zm_ixN hj (by decide)) ?_ ?_
        · rintro (h | h | h)
          · exact absurd h hlt
          · exact absurd hf h.2
          · exact absurd h.2.2 ha0
        · intro _ _ _
          refine c_Tree_entryAfter ?_
          refine s_Tree_followerOf_44 j (zm_ixN hj (by decide)) ?_
          rw [e]
          exact ih _ _ (by omega) (hC j hj) hq
    · have e1 : fo_go (S 3) (S 4) (n + 1) f a = f := if_neg hc
      rw [e1] at hq
      exact s_Tree_followerOf_12 a.toNatClampNeg (fun _ h1 h2 => absurd ⟨h1, h2⟩ hc) (fun _ => hq) (fun _ h1 h2 => absurd ⟨h1, h2⟩ hc)
theorem c_Tree_followerOf {d : Nat} {Q : zm_Q} {S : zm_S} {k : Nat} (hC : PC (S 3)) (hk : k < 12) (hq : Q (some (fo (S 3) (S 4) (nI k))) GG S) : zc M_Tree_followerOf (d + 1) [.ref 1, .int (nI k)] S Q := by
  refine e_Tree_followerOf (s_Tree_followerOf_0 (c_Tree_entryAfter ?_))
  refine s_Tree_followerOf_6 ?_
  exact l_Tree_followerOf hC 12 _ _ (by omega) (Or.inr ⟨k, hk, rfl⟩) hq
-- the invariant of a tree
def TD (K P : Nat → Int32) (dep : Nat → Nat) : Prop := dep 0 = 0 ∧ ∀ k p, 1 ≤ k → k < 12 → p < 12 → ¬ K k = 0 → P k = nI p → dep k = dep p + 1
def TK (K P N : Nat → Int32) : Prop := K 0 = 1 ∧ P 0 = -1 ∧ ∀ k, 1 ≤ k → k < 12 → (K k = 0 ∧ P k = -1) ∨ ((K k = 2 ∨ K k = 3) ∧ ∃ p n, p < 12 ∧ 1 ≤ n ∧ n ≤ 255 ∧ P k = nI p ∧ N k = nI n ∧ (K p = 1 ∨ K p = 2))
def TI (K P N Ln B : Nat → Int32) : Prop := TK K P N ∧ (∃ dep, TD K P dep) ∧ (∀ k, k < 12 → ∃ l, l ≤ 12 ∧ Ln k = nI l) ∧ ∀ i, ∃ b, b ≤ 255 ∧ B i = nI b
theorem TK.pc {K P N : Nat → Int32} (h : TK K P N) : PC P := by
  intro k hk
  by_cases h0 : k = 0
  · subst h0; exact Or.inl h.2.1
  · rcases h.2.2 k (by omega) hk with ⟨_, h1⟩ | ⟨_, p, n, hp, _, _, h1, _⟩
    · exact Or.inl h1
    · exact Or.inr ⟨p, hp, h1⟩
theorem TK.live {K P N : Nat → Int32} (h : TK K P N) {k : Nat} (h1 : 1 ≤ k) (hk : k < 12) (hl : ¬ K k = 0) : (K k = 2 ∨ K k = 3) ∧ ∃ p n, p < 12 ∧ 1 ≤ n ∧ n ≤ 255 ∧ P k = nI p ∧ N k = nI n ∧ (K p = 1 ∨ K p = 2) := by
  rcases h.2.2 k h1 hk with ⟨h2, _⟩ | h2
  · exact absurd h2 hl
  · exact h2
theorem TK.dirLive {K : Nat → Int32} {p : Nat} (h : K p = 1 ∨ K p = 2) : ¬ K p = 0 := by
  rcases h with h | h <;> rw [h] <;> decide
-- pigeon holes
theorem php : ∀ (n : Nat) (f : Nat → Nat), (∀ i, i ≤ n → f i < n) → ∃ i j, i < j ∧ j ≤ n ∧ f i = f j
  | 0, f, h => absurd (h 0 (Nat.le_refl _)) (Nat.not_lt_zero _)
  | n + 1, f, h => by
    by_cases hx : ∃ i, i ≤ n ∧ f i = f (n + 1)
    · obtain ⟨i, hi, he⟩ := hx
      exact ⟨i, n + 1, by omega, Nat.le_refl _, he⟩
    · have hx' : ∀ i, i ≤ n → f i ≠ f (n + 1) := fun i hi he => hx ⟨i, hi, he⟩
      obtain ⟨i, j, hij, hj, he⟩ := php n (fun i => if f i = n then f (n + 1) else f i) (fun i hi => by
        have h1 := h i (by omega)
        have h2 := h (n + 1) (Nat.le_refl _)
        have h3 := hx' i hi
        show (if f i = n then f (n + 1) else f i) < n
        split <;> omega)
      refine ⟨i, j, hij, by omega, ?_⟩
      have h1 := hx' i (by omega)
      have h2 := hx' j hj
      split at he <;> split at he <;> omega
theorem TD.at {K P N : Nat → Int32} {dep : Nat → Nat} (hK : TK K P N) (hD : TD K P dep) : ∀ (n k : Nat), k < 12 → ¬ K k = 0 → dep k = n → ∀ i, i ≤ n → ∃ q, q < 12 ∧ ¬ K q = 0 ∧ dep q = i
  | 0, k, hk, hl, hd, i, hi => ⟨k, hk, hl, by omega⟩
  | n + 1, k, hk, hl, hd, i, hi => by
    by_cases hin : i = n + 1
    · exact ⟨k, hk, hl, by omega⟩
    · by_cases h0 : k = 0
      · subst h0; have := hD.1; omega
      · obtain ⟨_, p, nn, hp, _, _, h1, _, h2⟩ := hK.live (by omega) hk hl
        have := hD.2 k p (by omega) hk hp hl h1
        exact TD.at hK hD n p hp (TK.dirLive h2) (by omega) i (by omega)
theorem TD.le {K P N : Nat → Int32} {dep : Nat → Nat} (hK : TK K P N) (hD : TD K P dep) {k : Nat} (hk : k < 12) (hl : ¬ K k = 0) : dep k ≤ 11 := by
  by_cases h : dep k ≤ 11
  · exact h
  · have hq := TD.at hK hD (dep k) k hk hl rfl
    obtain ⟨f, hf⟩ : ∃ f : Nat → Nat, ∀ i, i ≤ dep k → f i < 12 ∧ dep (f i) = i :=
      ⟨fun i => if hi : i ≤ dep k then (hq i hi).choose else 0, fun i hi => by
        simp only [dif_pos hi]
        exact ⟨(hq i hi).choose_spec.1, (hq i hi).choose_spec.2.2⟩⟩
    obtain ⟨i, j, hij, hj, he⟩ := php 12 f (fun i hi => (hf i (by omega)).1)
    have h1 := (hf i (by omega)).2
    have h2 := (hf j (by omega)).2
    rw [he] at h1
    omega
theorem fo_go_ne {P N : Nat → Int32} (n : Nat) {f a : Int32} (h : ¬ (f = -1 ∧ ¬ a ≤ 0)) : fo_go P N n f a = f := by
  cases n with
  | zero => rfl
  | succ n => exact if_neg h
theorem nI_le0 {k : Nat} (hk : k < 2 ^ 31) : nI k ≤ 0 ↔ k = 0 := by
  rw [Int32.le_iff_toInt_le, nI_toInt hk]
  have : (0 : Int32).toInt = 0 := by decide
  omega
theorem nI_eq0 {k : Nat} (hk : k < 2 ^ 31) : nI k = 0 ↔ k = 0 := nI_eq (b := 0) hk (by decide)
theorem ef_nn {f : Int32} (h : ef f) : 0 ≤ f ↔ ¬ f = -1 := by
  rw [← ef_neg h, Int32.not_lt]
theorem l_Md_next {d : Nat} {Q : zm_Q} {S : zm_S} {P : Nat → Int32} {dep : Nat → Nat} (hP : RP S P) (hK : TK (S 28) P (S 30)) (hD : TD (S 28) P dep) : ∀ (n k : Nat) (f : Int32), dep k ≤ n → k < 12 → ¬ S 28 k = 0 → ef f → Q (some (fo_go P (S 30) n f (nI k))) GG S → zw M_Md_next (d + 1) Q 9 [some (.ref 27), none, some (.int f), some (.int (nI k))] [] S := by
  intro n
  induction n with
  | zero =>
    intro k f hd hk hl hf hq
    have h0 : k = 0 := by
      by_cases h0 : k = 0
      · exact h0
      · obtain ⟨_, p, nn, hp, _, _, h1, _, h2⟩ := hK.live (by omega) hk hl
        have := hD.2 k p (by omega) hk hp hl h1
        omega
    subst h0
    exact s_Md_next_9 0 (fun _ _ => zm_ixN (by decide) (by decide)) (fun _ => hq) (fun _ h => absurd rfl h)
  | succ n ih =>
    intro k f hd hk hl hf hq
    by_cases hc : f = -1 ∧ ¬ nI k ≤ 0
    · obtain ⟨hf1, hk0⟩ := hc
      have hk1 : ¬ k = 0 := fun h => hk0 ((nI_le0 (by omega)).mpr h)
      obtain ⟨_, p, nn, hp, _, _, h1, _, h2⟩ := hK.live (by omega) hk hl
      have hdp := hD.2 k p (by omega) hk hp hl h1
      have h29 : S 29 k = nI p := ((hP k (by omega) hk).2 hl).trans h1
      have e1 : fo_go P (S 30) (n + 1) f (nI k) = fo_go P (S 30) n (ea P (S 30) (nI p) (S 30 k)) (nI p) := by
        show (if f = -1 ∧ ¬ nI k ≤ 0 then _ else _) = _
        rw [if_pos ⟨hf1, hk0⟩, nI_clamp (by omega), h1]
      rw [e1] at hq
      refine s_Md_next_9 k (fun _ _ => zm_ixN hk (by decide)) ?_ ?_
      · rintro (h | h)
        · exact absurd hf1 ((ef_nn hf).mp h)
        · exact absurd ((nI_eq0 (by omega)).mp h.2) hk1
      · intro _ _
        rw [h29]
        refine c_Md_after hP (nI_nm1 (by omega)) ?_
        refine s_Md_next_33 k (zm_ixN hk (by decide)) ?_
        rw [h29]
        exact ih p _ (by omega) hp (TK.dirLive h2) (ea_ef _ _ _ _) hq
    · rw [fo_go_ne (n + 1) hc] at hq
      refine s_Md_next_9 k (fun _ _ => zm_ixN hk (by decide)) (fun _ => hq) ?_
      intro h1 h2
      exact absurd ⟨Classical.byContradiction (fun h => h1 ((ef_nn hf).mpr h)), fun h => h2 ((nI_eq0 (by omega)).mpr ((nI_le0 (by omega)).mp h))⟩ hc
theorem c_Md_next {d : Nat} {Q : zm_Q} {S : zm_S} {P : Nat → Int32} {k : Nat} (hP : RP S P) (hT : TI (S 28) P (S 30) (S 31) (S 32)) (hk : k < 12) (hl : ¬ S 28 k = 0) (hq : Q (some (fo P (S 30) (nI k))) GG S) : zc M_Md_next (d + 1) [.ref 27, .int (nI k)] S Q := by
  obtain ⟨hK, ⟨dep, hD⟩, _⟩ := hT
  refine e_Md_next (s_Md_next_0 (c_Md_after hP (nI_nm1 (by omega)) ?_))
  refine s_Md_next_6 ?_
  exact l_Md_next hP hK hD 12 k _ (by have := TD.le hK hD hk hl; omega) hk hl (ea_ef _ _ _ _) hq
