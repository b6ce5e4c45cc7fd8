-- keepOld
theorem l_Md_keepOld2 {d : Nat} {Q : zm_Q} {S0 : zm_S} (hq : ∀ S', (∀ a, a ≠ 38 → S' a = S0 a) → (∀ j, j < 576 → S' 38 j = S0 35 j) → Q none GG S') : ∀ (n i : Nat) (S : zm_S), i + n = 576 → (∀ a, a ≠ 38 → S a = S0 a) → (∀ j, j < i → S 38 j = S0 35 j) → zw M_Md_keepOld d Q 48 [some (.ref 27), some (.int (nI i))] [] S := by
  intro n
  induction n with
  | zero =>
    intro i S hi h1 h2
    have : i = 576 := by omega
    subst this
    have hle : (576 : Int32) ≤ nI 576 := by decide
    exact s_Md_keepOld_48 0 (fun h => absurd hle h) (fun _ => hq S h1 h2) (fun h => absurd hle h)
  | succ n ih =>
    intro i S hi h1 h2
    have hlt : ¬ (576 : Int32) ≤ nI i := nI_ge (b := 576) (by omega) (by decide)
    refine s_Md_keepOld_48 i (fun _ => zm_ixN (by omega) (by decide)) (fun h => absurd h hlt) (fun _ => ?_)
    rw [nI_1]
    refine ih (i + 1) _ (by omega) (fun a ha => by rw [zm_up_ne _ _ _ ha]; exact h1 a ha) (fun j hj => ?_)
    rw [zm_up_self]
    by_cases hji : j = i
    · subst hji; rw [upd_self, h1 35 (by decide)]
    · rw [upd_ne _ _ hji]; exact h2 j (by omega)
theorem l_Md_keepOld1 {d : Nat} {Q : zm_Q} {S0 : zm_S} (hq : ∀ S', (∀ a, a ≠ 36 → a ≠ 37 → a ≠ 38 → S' a = S0 a) → (∀ j, j < 12 → S' 36 j = S0 33 j) → (∀ j, j < 12 → S' 37 j = S0 34 j) → (∀ j, j < 576 → S' 38 j = S0 35 j) → Q none GG S') : ∀ (n i : Nat) (S : zm_S), i + n = 12 → (∀ a, a ≠ 36 → a ≠ 37 → S a = S0 a) → (∀ j, j < i → S 36 j = S0 33 j) → (∀ j, j < i → S 37 j = S0 34 j) → zw M_Md_keepOld d Q 10 [some (.ref 27), some (.int (nI i))] [] S := by
  intro n
  induction n with
  | zero =>
    intro i S hi h1 h2 h3
    have : i = 12 := by omega
    subst this
    have hle : (12 : Int32) ≤ nI 12 := by decide
    refine s_Md_keepOld_10 0 (fun h => absurd hle h) (fun _ => ?_) (fun h => absurd hle h)
    refine l_Md_keepOld2 (S0 := S) (fun S' g1 g2 => ?_) 576 0 S (by omega) (fun _ _ => rfl) (fun j hj => by omega)
    refine hq S' (fun a a1 a2 a3 => by rw [g1 a a3]; exact h1 a a1 a2) (fun j hj => by rw [g1 36 (by decide)]; exact h2 j hj) (fun j hj => by rw [g1 37 (by decide)]; exact h3 j hj) (fun j hj => by rw [g2 j hj, h1 35 (by decide) (by decide)])
  | succ n ih =>
    intro i S hi h1 h2 h3
    have hlt : ¬ (12 : Int32) ≤ nI i := nI_ge (b := 12) (by omega) (by decide)
    refine s_Md_keepOld_10 i (fun _ => zm_ixN (by omega) (by decide)) (fun h => absurd h hlt) (fun _ => ?_)
    rw [nI_1]
    refine ih (i + 1) _ (by omega) (fun a a1 a2 => by rw [zm_up_ne _ _ _ a2, zm_up_ne _ _ _ a1]; exact h1 a a1 a2) (fun j hj => ?_) (fun j hj => ?_)
    · rw [zm_up_ne _ _ _ (by decide), zm_up_self]
      by_cases hji : j = i
      · subst hji; rw [upd_self, h1 33 (by decide) (by decide)]
      · rw [upd_ne _ _ hji]; exact h2 j (by omega)
    · rw [zm_up_self, zm_up_ne _ _ _ (by decide)]
      by_cases hji : j = i
      · subst hji; rw [upd_self, h1 34 (by decide) (by decide)]
      · rw [upd_ne _ _ hji]; exact h3 j (by omega)
theorem c_Md_keepOld {d : Nat} {Q : zm_Q} {S : zm_S} (hq : ∀ S', (∀ a, a ≠ 27 → a ≠ 36 → a ≠ 37 → a ≠ 38 → S' a = S a) → S' 27 = upd (S 27) 10 (S 27 6) → (∀ j, j < 12 → S' 36 j = S 33 j) → (∀ j, j < 12 → S' 37 j = S 34 j) → (∀ j, j < 576 → S' 38 j = S 35 j) → Q none GG S') : zc M_Md_keepOld d [.ref 27] S Q := by
  refine e_Md_keepOld (s_Md_keepOld_0 ?_)
  refine l_Md_keepOld1 (S0 := zm_up S 27 10 (S 27 6)) (fun S' g1 g2 g3 g4 => ?_) 12 0 _ (by omega) (fun _ _ _ => rfl) (fun j hj => by omega) (fun j hj => by omega)
  exact hq S' (fun a a1 a2 a3 a4 => by rw [g1 a a2 a3 a4]; exact zm_up_ne _ _ _ a1) (g1 27 (by decide) (by decide) (by decide)) g2 g3 g4
-- is a module unchanged?
theorem l_Md_unchanged {d : Nat} {Q : zm_Q} {S : zm_S} {m n : Nat} (hm : m < 12) (hn : n ≤ 48) (h33 : S 33 m = nI n) (b : Prop) (h1 : (b ∧ ∀ x, x < n → S 38 (m * 48 + x) = S 35 (m * 48 + x)) → Q (some 1) GG S) (h0 : ¬ (b ∧ ∀ x, x < n → S 38 (m * 48 + x) = S 35 (m * 48 + x)) → Q (some 0) GG S) : ∀ (t i : Nat) (v : Int32), i + t = n → ((v = 1 ∧ b ∧ ∀ x, x < i → S 38 (m * 48 + x) = S 35 (m * 48 + x)) ∨ (v = 0 ∧ ¬ (b ∧ ∀ x, x < i → S 38 (m * 48 + x) = S 35 (m * 48 + x)))) → zw M_Md_unchanged d Q 31 [some (.ref 27), some (.int (nI m)), some (.int v), some (.int (nI i))] [] S := by
  intro t
  have hix : zm_ix (nI m) m 12 := zm_ixN hm (by decide)
  induction t with
  | zero =>
    intro i v hi hv
    have : i = n := by omega
    subst this
    have hle : S 33 m ≤ nI i := by rw [h33]; exact Int32.le_refl _
    refine s_Md_unchanged_31 m 0 hix (fun _ => ?_) (fun h => absurd hle h) (fun _ => ?_) ?_ (fun h => absurd hle h)
    · rcases hv with h | h
      · exact Or.inr h.1
      · exact Or.inl h.1
    · rcases hv with ⟨rfl, h⟩ | ⟨rfl, h⟩
      · exact h1 h
      · exact h0 h
    · rintro (h | h) <;> exact absurd hle h.1
  | succ t ih =>
    intro i v hi hv
    have hlt : ¬ S 33 m ≤ nI i := by rw [h33]; exact nI_ge (by omega) (by omega)
    have e48 : 48 * nI m + nI i = nI (m * 48 + i) := by rw [show (48 : Int32) * nI m = nI (48 * m) from pk_mul 48 m, nI_add, Nat.mul_comm]
    refine s_Md_unchanged_31 m (m * 48 + i) hix (fun h => absurd h hlt) (fun _ _ => by rw [e48]; exact zm_ixN (by omega) (by decide)) (fun h => absurd h hlt) (fun h => ?_) (fun _ hv0 he => ?_)
    · rw [nI_1]
      refine ih (i + 1) 0 (by omega) (Or.inr ⟨rfl, fun hh => ?_⟩)
      rcases hv with ⟨rfl, hb⟩ | ⟨rfl, hb⟩
      · rcases h with h | h
        · exact absurd h.2 (by decide)
        · exact h.2.2 (hh.2 i (by omega))
      · exact hb ⟨hh.1, fun x hx => hh.2 x (by omega)⟩
    · rw [nI_1]
      refine ih (i + 1) 1 (by omega) (Or.inl ⟨rfl, ?_⟩)
      rcases hv with ⟨rfl, hb⟩ | ⟨rfl, hb⟩
      · refine ⟨hb.1, fun x hx => ?_⟩
        by_cases hxi : x = i
        · subst hxi; exact he
        · exact hb.2 x (by omega)
      · exact absurd rfl hv0
theorem c_Md_unchanged {d : Nat} {Q : zm_Q} {S : zm_S} {m n M0 : Nat} (hm : m < 12) (hn : n ≤ 48) (hM : M0 ≤ 12) (h33 : S 33 m = nI n) (h10 : S 27 10 = nI M0) (h1 : (m < M0 ∧ S 36 m = nI n ∧ ∀ x, x < n → S 38 (m * 48 + x) = S 35 (m * 48 + x)) → Q (some 1) GG S) (h0 : ¬ (m < M0 ∧ S 36 m = nI n ∧ ∀ x, x < n → S 38 (m * 48 + x) = S 35 (m * 48 + x)) → Q (some 0) GG S) : zc M_Md_unchanged d [.ref 27, .int (nI m)] S Q := by
  have hc : S 27 10 ≤ nI m ↔ M0 ≤ m := by rw [h10]; exact nI_leI (by omega) (by omega)
  have go : ∀ v : Int32, ((v = 1 ∧ (m < M0 ∧ S 36 m = nI n)) ∨ (v = 0 ∧ ¬ (m < M0 ∧ S 36 m = nI n))) → zw M_Md_unchanged d Q 31 [some (.ref 27), some (.int (nI m)), some (.int v), some (.int 0)] [] S := by
    intro v hv
    refine l_Md_unchanged hm hn h33 (m < M0 ∧ S 36 m = nI n) (fun h => h1 ⟨h.1.1, h.1.2, h.2⟩) (fun h => h0 (fun x => h ⟨⟨x.1, x.2.1⟩, x.2.2⟩)) n 0 v (by omega) ?_
    rcases hv with h | h
    · exact Or.inl ⟨h.1, h.2, fun x hx => by omega⟩
    · exact Or.inr ⟨h.1, fun x => h.2 x.1⟩
  refine e_Md_unchanged (s_Md_unchanged_0 m (fun _ => zm_ixN hm (by decide)) (fun h => go 0 (Or.inr ⟨rfl, fun x => ?_⟩)) (fun h he => go 1 (Or.inl ⟨rfl, ?_, by rw [he]; exact h33⟩)))
  · rcases h with h | h
    · have := hc.mp h; omega
    · exact h.2 (by rw [h33]; exact x.2)
  · have : ¬ M0 ≤ m := fun x => h (hc.mpr x)
    omega
-- the first loop of publish: the modules of the messages
def st_as (S0 : zm_S) (mo : Nat → Int32) (l : Nat) : zm_S := fun a => if a = 39 then mo else if a = 33 then szs (S0 33) (fun _ => []) l else if a = 27 then upd (S0 27) 6 (nI l) else S0 a
theorem st_as_same (S0 : zm_S) (mo : Nat → Int32) (l k : Nat) (x : Int32) : zm_up (st_as S0 mo l) 39 k x = st_as S0 (upd mo k x) l := by
  funext a
  by_cases h : a = 39
  · subst h; rw [zm_up_self]; rfl
  · rw [zm_up_ne _ _ _ h]
    unfold st_as
    rw [if_neg h, if_neg h]
theorem st_as_new (S0 : zm_S) (mo : Nat → Int32) (l k : Nat) (x : Int32) : zm_up (zm_up (zm_up (st_as S0 mo l) 27 6 (nI l + 1)) 33 l 0) 39 k x = st_as S0 (upd mo k x) (l + 1) := by
  funext a
  by_cases h : a = 39
  · subst h; rw [zm_up_self]; rfl
  · rw [zm_up_ne _ _ _ h]
    by_cases h2 : a = 33
    · subst h2
      rw [zm_up_self]
      show upd (szs (S0 33) (fun _ => []) l) l 0 = szs (S0 33) (fun _ => []) (l + 1)
      funext j
      unfold szs
      by_cases hj : j = l
      · subst hj; rw [upd_self, if_pos (Nat.lt_succ_self j)]; rfl
      · rw [upd_ne _ _ hj]
        by_cases hjl : j < l
        · rw [if_pos hjl, if_pos (by omega)]
        · rw [if_neg hjl, if_neg (by omega)]
    · rw [zm_up_ne _ _ _ h2]
      by_cases h3 : a = 27
      · subst h3
        rw [zm_up_self]
        show upd (upd (S0 27) 6 (nI l)) 6 (nI l + 1) = upd (S0 27) 6 (nI (l + 1))
        rw [nI_1]
        funext i
        unfold upd
        by_cases hi : i = 6
        · rw [if_pos hi, if_pos hi]
        · rw [if_neg hi, if_neg hi, if_neg hi]
      · rw [zm_up_ne _ _ _ h3]
        unfold st_as
        rw [if_neg h, if_neg h2, if_neg h3, if_neg h, if_neg h2, if_neg h3]
theorem it_s {P N : Nat → Int32} {i k : Nat} (hk : k < 12) (h : it P N i = nI k) : it P N (i + 1) = fo P N (nI k) := by
  show (if it P N i = -1 then -1 else _) = _
  rw [h, if_neg (nI_nm1 (by omega))]
theorem l_Md_pub1 {d : Nat} {Q : zm_Q} {S0 : zm_S} {P : Nat → Int32} {dep : Nat → Nat} (hP : RP S0 P) (hT : TI (S0 28) P (S0 30) (S0 31) (S0 32)) (hD : TD (S0 28) P dep) : ∀ (n i : Nat) (mo : Nat → Int32) (l f : Nat), i + n = 12 → 1 ≤ i → l < i → f ≤ 1000 →
    zw M_Md_publish (d + 4) Q 101 [some (.ref 27), none, some (.int 0), none] [] (st_as S0 (am_go (lnN (S0 28) P (S0 31)) (itl P (S0 30) n (it P (S0 30) i)) mo l f).1 ((am_go (lnN (S0 28) P (S0 31)) (itl P (S0 30) n (it P (S0 30) i)) mo l f).2 + 1)) →
    zw M_Md_publish (d + 4) Q 23 [some (.ref 27), some (.int (nI f)), some (.int (it P (S0 30) i)), none] [] (st_as S0 mo (l + 1)) := by
  intro n
  induction n with
  | zero =>
    intro i mo l f hi _ _ _ hq
    have : i = 12 := by omega
    subst this
    rw [it_end hT.1 hD] at hq ⊢
    exact s_Md_publish_23 (fun _ => hq) (fun h => absurd (by decide) h)
  | succ n ih =>
    intro i mo l f hi h1 hl hf hq
    rcases it_live hT.1 hD i with he | ⟨k, hk, hlk, he⟩
    · rw [he] at hq ⊢
      rw [itl_nil] at hq
      exact s_Md_publish_23 (fun _ => hq) (fun h => absurd (by decide) h)
    · have hs := it_s hk he
      rw [he] at hq ⊢
      rw [itl_cons n hk, ← hs] at hq
      obtain ⟨hml, hmle⟩ := ml_N (K := S0 28) (P := P) (hT.2.2.1 k hk)
      have hln : lnN (S0 28) P (S0 31) k ≤ 47 := by unfold lnN; omega
      refine s_Md_publish_23 (fun h => absurd h (nI_pos (by omega))) (fun _ => ?_)
      refine c_Md_payload (P := P) (show RP (st_as S0 mo (l + 1)) P from hP) hk ?_
      rw [show ml (st_as S0 mo (l + 1) 28) P (st_as S0 mo (l + 1) 31) k = nI (mlN (S0 28) P (S0 31) k) from hml]
      have e6 : st_as S0 mo (l + 1) 27 6 = nI (l + 1) := rfl
      have esum : nI f + (3 + nI (mlN (S0 28) P (S0 31) k)) = nI (f + lnN (S0 28) P (S0 31) k) := by
        rw [show (3 : Int32) + nI (mlN (S0 28) P (S0 31) k) = nI (3 + mlN (S0 28) P (S0 31) k) from nI_add 3 _, nI_add]; rfl
      have e0 : 0 + (3 + nI (mlN (S0 28) P (S0 31) k)) = nI (lnN (S0 28) P (S0 31) k) := by
        rw [show (3 : Int32) + nI (mlN (S0 28) P (S0 31) k) = nI (3 + mlN (S0 28) P (S0 31) k) from nI_add 3 _]
        have : (0 : Int32) + nI (3 + mlN (S0 28) P (S0 31) k) = nI (0 + (3 + mlN (S0 28) P (S0 31) k)) := nI_add 0 _
        rw [this, Nat.zero_add]; rfl
      have hcmp : nI f + (3 + nI (mlN (S0 28) P (S0 31) k)) ≤ 24 ↔ f + lnN (S0 28) P (S0 31) k ≤ 24 := by
        rw [esum]; exact nI_leI (b := 24) (by omega) (by decide)
      have hne : ¬ st_as S0 mo (l + 1) 27 6 = 0 := by rw [e6]; exact nI_ne0 (by omega) (by omega)
      have ep : nI (l + 1) + 1 - 1 = nI (l + 1) := by rw [nI_1]; exact nI_pred _
      have ep2 : nI (l + 1) - 1 = nI l := nI_pred l
      have hixk : zm_ix (nI k) k 12 := zm_ixN hk (by decide)
      have hixl : zm_ix (st_as S0 mo (l + 1) 27 6 + 1 - 1) (l + 1) 12 := by rw [e6, ep]; exact zm_ixN (by omega) (by decide)
      refine s_Md_publish_33 (l + 1) k (fun h => absurd h hne) (fun h => absurd h hne) (fun _ _ => hixk) (fun _ _ => hixl) (fun _ _ => hixk) (fun h => ?_) (fun _ h => ?_)
      · have hc : ¬ f + lnN (S0 28) P (S0 31) k ≤ 24 := by
          rcases h with h | h
          · exact absurd h hne
          · exact fun x => h.2 (hcmp.mpr x)
        rw [e6, ep, st_as_new]
        refine c_Md_next (P := P) (show RP (st_as S0 _ _) P from hP) (show TI (S0 28) P (S0 30) (S0 31) (S0 32) from hT) hk (show ¬ S0 28 k = 0 from hlk) ?_
        refine s_Md_publish_95 ?_
        rw [e0]
        have hs' : fo P (st_as S0 (upd mo k (nI (l + 1))) (l + 1 + 1) 30) (nI k) = it P (S0 30) (i + 1) := hs.symm
        rw [hs']
        refine ih (i + 1) _ (l + 1) _ (by omega) (by omega) (by omega) (by omega) ?_
        rw [am_go, if_neg hc] at hq; exact hq
      · have hc := hcmp.mp h
        rw [e6, ep2, st_as_same]
        refine c_Md_next (P := P) (show RP (st_as S0 _ _) P from hP) (show TI (S0 28) P (S0 30) (S0 31) (S0 32) from hT) hk (show ¬ S0 28 k = 0 from hlk) ?_
        refine s_Md_publish_95 ?_
        rw [esum]
        have hs' : fo P (st_as S0 (upd mo k (nI l)) (l + 1) 30) (nI k) = it P (S0 30) (i + 1) := hs.symm
        rw [hs']
        refine ih (i + 1) _ l _ (by omega) (by omega) (by omega) (by omega) ?_
        rw [am_go, if_pos hc] at hq; exact hq
-- the second loop: the messages
theorem msgs_app (K P N Ln B mo : Nat → Int32) (a b : List Nat) (m : Nat) : msgs K P N Ln B mo (a ++ b) m = msgs K P N Ln B mo a m ++ msgs K P N Ln B mo b m := by
  simp [msgs, List.filter_append]
theorem fm_step {K P N Ln B mo : Nat → Int32} {pre : List Nat} {k q M : Nat} (hM : M ≤ 12) (hq : q < M) (hk : mo k = nI q) : apL (fm (msgs K P N Ln B mo pre) M) q (msg K P N Ln B mo k) = fm (msgs K P N Ln B mo (pre ++ [k])) M := by
  funext j
  unfold apL fm
  by_cases hj : j = q
  · subst hj
    rw [if_pos rfl, if_pos hq, if_pos hq, msgs_app]
    simp [msgs, hk]
  · rw [if_neg hj]
    by_cases hjM : j < M
    · rw [if_pos hjM, if_pos hjM, msgs_app]
      have : ¬ nI q = nI j := fun e => hj ((nI_eq (by omega) (by omega)).mp e).symm
      simp [msgs, hk, this]
    · rw [if_neg hjM, if_neg hjM]
theorem l_Md_pub2 {d : Nat} {Q : zm_Q} {S0 : zm_S} {P : Nat → Int32} {dep : Nat → Nat} {M : Nat} {o : List Nat} (hP : RP S0 P) (hT : TI (S0 28) P (S0 30) (S0 31) (S0 32)) (hD : TD (S0 28) P dep) (hM : M ≤ 12) (hmo : ∀ k ∈ o, ∃ q, q < M ∧ S0 39 k = nI q) (hlen : ∀ m, m < M → (msgs (S0 28) P (S0 30) (S0 31) (S0 32) (S0 39) o m).length ≤ 48)
    (hq : zw M_Md_publish (d + 4) Q 121 [some (.ref 27), none, some (.int 0), none] [] (st_ct S0 (fm (msgs (S0 28) P (S0 30) (S0 31) (S0 32) (S0 39) o) M) M)) : ∀ (n i : Nat) (pre : List Nat), i + n = 12 → pre ++ itl P (S0 30) n (it P (S0 30) i) = o →
    zw M_Md_publish (d + 4) Q 101 [some (.ref 27), none, some (.int (it P (S0 30) i)), none] [] (st_ct S0 (fm (msgs (S0 28) P (S0 30) (S0 31) (S0 32) (S0 39) pre) M) M) := by
  intro n
  induction n with
  | zero =>
    intro i pre hi ho
    have : i = 12 := by omega
    subst this
    have hpo : pre = o := by simpa [itl] using ho
    rw [it_end hT.1 hD, hpo]
    exact s_Md_publish_101 (fun _ => hq) (fun h => absurd (by decide) h)
  | succ n ih =>
    intro i pre hi ho
    rcases it_live hT.1 hD i with he | ⟨k, hk, hlk, he⟩
    · rw [he] at ho ⊢
      rw [itl_nil, List.append_nil] at ho
      rw [ho]
      exact s_Md_publish_101 (fun _ => hq) (fun h => absurd (by decide) h)
    · have hs := it_s hk he
      rw [he] at ho ⊢
      rw [itl_cons n hk, ← hs] at ho
      have hko : k ∈ o := by rw [← ho]; simp
      obtain ⟨q, hqM, hq39⟩ := hmo k hko
      have hl := hlen q hqM
      have ho2 : (pre ++ [k]) ++ itl P (S0 30) n (it P (S0 30) (i + 1)) = o := by rw [← ho]; simp
      rw [← ho2, msgs_app, msgs_app, List.length_append, List.length_append] at hl
      have hmk : msgs (S0 28) P (S0 30) (S0 31) (S0 32) (S0 39) [k] q = msg (S0 28) P (S0 30) (S0 31) (S0 32) (S0 39) k := by simp [msgs, hq39]
      rw [hmk] at hl
      refine s_Md_publish_101 (fun h => absurd h (nI_pos (by omega))) (fun _ => ?_)
      refine c_Md_message (P := P) hP hk (hT.2.2.1 k hk) hM hqM hq39 ?_ ?_
      · show (if q < M then _ else _ : List Int32).length + _ ≤ 48
        rw [if_pos hqM]; omega
      · rw [fm_step hM hqM hq39]
        refine s_Md_publish_110 ?_
        refine c_Md_next (P := P) (show RP (st_ct S0 _ _) P from hP) (show TI (S0 28) P (S0 30) (S0 31) (S0 32) from hT) hk (show ¬ S0 28 k = 0 from hlk) ?_
        refine s_Md_publish_115 ?_
        have hs' : fo P (st_ct S0 (fm (msgs (S0 28) P (S0 30) (S0 31) (S0 32) (S0 39) (pre ++ [k])) M) M 30) (nI k) = it P (S0 30) (i + 1) := hs.symm
        rw [hs']
        exact ih (i + 1) _ (by omega) ho2
-- the third loop: the versions
theorem l_Md_pub3 {d : Nat} {Q : zm_Q} {S0 : zm_S} {M M0 : Nat} {f : Nat → List Int32} {V0 Z0 C0 : Nat → Int32} (hM : M ≤ 12) (hM0 : M0 ≤ 12) (h6 : S0 27 6 = nI M) (h10 : S0 27 10 = nI M0) (hlen : ∀ m, m < M → (f m).length ≤ 48) (h33 : ∀ m, m < M → S0 33 m = nI (f m).length) (h35 : ∀ m i, m < M → i < (f m).length → S0 35 (m * 48 + i) = (f m).getD i 0) (h36 : ∀ j, j < 12 → S0 36 j = Z0 j) (h37 : ∀ j, j < 12 → S0 37 j = V0 j) (h38 : ∀ j, j < 576 → S0 38 j = C0 j)
    (hq : zc M_Md_writeCycle (d + 3) [.ref 27] (zm_upA S0 34 (vss V0 (S0 27 5) M0 Z0 C0 f M)) (fun v G' S' => zm_WP M_Md_publish none (d + 4) 0 0 Q 166 [some (.ref 27), none, none, none] (zm_ps v []) G' S' 0 0)) : ∀ (n m : Nat), m + n = M →
    zw M_Md_publish (d + 4) Q 121 [some (.ref 27), none, some (.int (nI m)), none] [] (zm_upA S0 34 (vss V0 (S0 27 5) M0 Z0 C0 f m)) := by
  intro n
  induction n with
  | zero =>
    intro m hm
    have : m = M := by omega
    subst this
    have hle : zm_upA S0 34 (vss V0 (S0 27 5) M0 Z0 C0 f m) 27 6 ≤ nI m := by show S0 27 6 ≤ nI m; rw [h6]; exact Int32.le_refl _
    exact s_Md_publish_121 (fun _ => hq) (fun h => absurd hle h)
  | succ n ih =>
    intro m hm
    have hlt : ¬ zm_upA S0 34 (vss V0 (S0 27 5) M0 Z0 C0 f m) 27 6 ≤ nI m := by show ¬ S0 27 6 ≤ nI m; rw [h6]; exact nI_ge (by omega) (by omega)
    have hl := hlen m (by omega)
    have hix : zm_ix (nI m) m 12 := zm_ixN (by omega) (by decide)
    have hiff : (m < M0 ∧ S0 36 m = nI (f m).length ∧ ∀ x, x < (f m).length → S0 38 (m * 48 + x) = S0 35 (m * 48 + x)) ↔ same M0 Z0 C0 f m := by
      rw [h36 m (by omega)]
      constructor
      · rintro ⟨a, b, c⟩
        exact ⟨a, b, fun i hi => by rw [← h38 _ (by omega), c i hi, h35 m i (by omega) hi]⟩
      · rintro ⟨a, b, c⟩
        exact ⟨a, b, fun i hi => by rw [h38 _ (by omega), c i hi, h35 m i (by omega) hi]⟩
    have vstep : ∀ v : Int32, v = (if same M0 Z0 C0 f m then V0 m else S0 27 5) → upd (vss V0 (S0 27 5) M0 Z0 C0 f m) m v = vss V0 (S0 27 5) M0 Z0 C0 f (m + 1) := by
      intro v hv
      funext j
      by_cases hj : j = m
      · subst hj
        rw [upd_self, hv]
        unfold vss
        rw [if_pos (Nat.lt_succ_self j)]
      · rw [upd_ne _ _ hj]
        unfold vss
        by_cases hjm : j < m
        · have hj1 : j < m + 1 := by omega
          simp only [hjm, hj1, if_true]
        · have hj1 : ¬ j < m + 1 := by omega
          simp only [hjm, hj1, if_false]
    refine s_Md_publish_121 (fun h => absurd h hlt) (fun _ => ?_)
    refine c_Md_unchanged (n := (f m).length) (M0 := M0) (by omega) hl hM0 (show S0 33 m = _ from h33 m (by omega)) (show S0 27 10 = _ from h10) (fun h => ?_) (fun h => ?_)
    · have hs := hiff.mp h
      refine s_Md_publish_139 m m (fun h => absurd h (by decide)) (fun _ => hix) (fun _ => hix) (fun h => absurd h (by decide)) (fun _ => ?_)
      rw [nI_1, zm_upA_up]
      rw [show zm_upA S0 34 (vss V0 (S0 27 5) M0 Z0 C0 f m) 37 m = V0 m from h37 m (by omega), vstep (V0 m) (by rw [if_pos hs])]
      exact ih (m + 1) (by omega)
    · have hs : ¬ same M0 Z0 C0 f m := fun x => h (hiff.mpr x)
      refine s_Md_publish_139 m m (fun _ => hix) (fun h => absurd rfl h) (fun h => absurd rfl h) (fun _ => ?_) (fun h => absurd rfl h)
      rw [nI_1, zm_upA_up]
      rw [show zm_upA S0 34 (vss V0 (S0 27 5) M0 Z0 C0 f m) 27 5 = S0 27 5 from rfl, vstep (S0 27 5) (by rw [if_neg hs])]
      exact ih (m + 1) (by omega)
