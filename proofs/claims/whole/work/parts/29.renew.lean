-- sums over the messages of a module
def sm (len : Nat → Nat) (mo : Nat → Int32) (m : Nat) (l : List Nat) : Nat := ((l.filter (fun k => decide (mo k = nI m))).map len).sum
theorem sm_app (len : Nat → Nat) (mo : Nat → Int32) (m : Nat) (a b : List Nat) : sm len mo m (a ++ b) = sm len mo m a + sm len mo m b := by
  simp [sm, List.filter_append]
theorem sm_congr {len : Nat → Nat} {mo mo' : Nat → Int32} {m : Nat} {l : List Nat} (h : ∀ x ∈ l, mo x = mo' x) : sm len mo m l = sm len mo' m l := by
  unfold sm
  rw [List.filter_congr (fun x hx => by rw [h x hx])]
theorem sm_one (len : Nat → Nat) (mo : Nat → Int32) (m k q : Nat) (hq : q < 2 ^ 31) (hm : m < 2 ^ 31) (h : mo k = nI q) : sm len mo m [k] = if q = m then len k else 0 := by
  unfold sm
  by_cases hqm : q = m
  · subst hqm; simp [h]
  · have : ¬ nI q = nI m := fun e => hqm ((nI_eq hq hm).mp e)
    simp [h, this, hqm]
theorem am_go_ok {len : Nat → Nat} (hlen : ∀ k, len k ≤ 47) : ∀ (ks pre : List Nat) (mo : Nat → Int32) (l f : Nat), (pre ++ ks).Nodup → (pre ++ ks).length ≤ 1000 → (∀ k ∈ pre, ∃ q, q ≤ l ∧ mo k = nI q) → (∀ m, m < l → sm len mo m pre ≤ 47) → sm len mo l pre = f → f ≤ 47 → l + 1 ≤ pre.length →
    (∀ k ∈ pre ++ ks, ∃ q, q ≤ (am_go len ks mo l f).2 ∧ (am_go len ks mo l f).1 k = nI q) ∧ (∀ m, m ≤ (am_go len ks mo l f).2 → sm len (am_go len ks mo l f).1 m (pre ++ ks) ≤ 47) ∧ (am_go len ks mo l f).2 + 1 ≤ (pre ++ ks).length
  | [], pre, mo, l, f, _, _, h1, h2, h3, h4, h5 => by
    simp only [List.append_nil, am_go]
    refine ⟨h1, fun m hm => ?_, h5⟩
    by_cases hml : m = l
    · subst hml; omega
    · exact h2 m (by omega)
  | k :: ks, pre, mo, l, f, hn, hL, h1, h2, h3, h4, h5 => by
    have hass : pre ++ k :: ks = (pre ++ [k]) ++ ks := by simp
    have hkpre : k ∉ pre := by
      intro hk
      rw [List.nodup_append] at hn
      exact hn.2.2 k hk k List.mem_cons_self rfl
    have hLl : l < 1000 := by
      have : (pre ++ k :: ks).length = pre.length + (ks.length + 1) := by simp
      omega
    have step : ∀ (v : Nat), v < 2000 → (∀ x ∈ pre, upd mo k (nI v) x = mo x) := fun v _ x hx => upd_ne _ _ (fun e => by subst e; exact hkpre hx)
    by_cases hc : f + len k ≤ 24
    · have e : am_go len (k :: ks) mo l f = am_go len ks (upd mo k (nI l)) l (f + len k) := if_pos hc
      rw [e, hass]
      refine am_go_ok hlen ks (pre ++ [k]) _ l _ (by rw [← hass]; exact hn) (by rw [← hass]; exact hL) ?_ ?_ ?_ (by omega) (by simp; omega)
      · intro x hx
        rcases List.mem_append.mp hx with hx | hx
        · rw [step l (by omega) x hx]; exact h1 x hx
        · rw [List.mem_singleton.mp hx]; exact ⟨l, Nat.le_refl _, upd_self _ _ _⟩
      · intro m hm
        rw [sm_app, sm_congr (step l (by omega)), sm_one len _ m k l (by omega) (by omega) (upd_self _ _ _), if_neg (by omega)]
        exact h2 m hm
      · rw [sm_app, sm_congr (step l (by omega)), sm_one len _ l k l (by omega) (by omega) (upd_self _ _ _), if_pos rfl, h3]
    · have e : am_go len (k :: ks) mo l f = am_go len ks (upd mo k (nI (l + 1))) (l + 1) (len k) := if_neg hc
      rw [e, hass]
      have hz : sm len mo (l + 1) pre = 0 := by
        unfold sm
        rw [List.filter_eq_nil_iff.mpr]
        · rfl
        · intro x hx
          obtain ⟨q, hq, he⟩ := h1 x hx
          have : ¬ nI q = nI (l + 1) := fun e => by have := (nI_eq (by omega) (by omega)).mp e; omega
          simp [he, this]
      refine am_go_ok hlen ks (pre ++ [k]) _ (l + 1) _ (by rw [← hass]; exact hn) (by rw [← hass]; exact hL) ?_ ?_ ?_ (hlen k) (by simp; omega)
      · intro x hx
        rcases List.mem_append.mp hx with hx | hx
        · rw [step (l + 1) (by omega) x hx]
          obtain ⟨q, hq, he⟩ := h1 x hx
          exact ⟨q, by omega, he⟩
        · rw [List.mem_singleton.mp hx]; exact ⟨l + 1, Nat.le_refl _, upd_self _ _ _⟩
      · intro m hm
        rw [sm_app, sm_congr (step (l + 1) (by omega)), sm_one len _ m k (l + 1) (by omega) (by omega) (upd_self _ _ _), if_neg (by omega)]
        by_cases hml : m = l
        · subst hml; omega
        · exact h2 m (by omega)
      · rw [sm_app, sm_congr (step (l + 1) (by omega)), sm_one len _ (l + 1) k (l + 1) (by omega) (by omega) (upd_self _ _ _), if_pos rfl, hz, Nat.zero_add]
theorem am_ok {len : Nat → Nat} (hlen : ∀ k, len k ≤ 47) {o : List Nat} (hn : o.Nodup) (h0 : 0 < o.length) (h12 : o.length ≤ 12) (mo : Nat → Int32) :
    (∀ k ∈ o, ∃ q, q ≤ (am len mo o).2 ∧ (am len mo o).1 k = nI q) ∧ (∀ m, m ≤ (am len mo o).2 → sm len (am len mo o).1 m o ≤ 47) ∧ (am len mo o).2 + 1 ≤ 12 := by
  cases o with
  | nil => simp at h0
  | cons k ks =>
    have h := am_go_ok hlen ks [k] (upd mo k 0) 0 (len k) hn (by simp at h12 ⊢; omega) (fun x hx => by
      rw [List.mem_singleton.mp hx]; exact ⟨0, Nat.le_refl _, upd_self _ _ _⟩) (fun m hm => by omega) (by
      rw [sm_one len (upd mo k 0) 0 k 0 (by omega) (by omega) (upd_self _ _ _), if_pos rfl]) (hlen k) (by simp)
    refine ⟨h.1, h.2.1, Nat.le_trans h.2.2 h12⟩
theorem am_go_out {len : Nat → Nat} : ∀ (ks : List Nat) (mo : Nat → Int32) (l f : Nat), l + ks.length ≤ 11 → (∀ i, ∃ q, q < 12 ∧ mo i = nI q) → ∀ i, ∃ q, q < 12 ∧ (am_go len ks mo l f).1 i = nI q
  | [], _, _, _, _, h, i => h i
  | k :: ks, mo, l, f, hl, h, i => by
    simp only [List.length_cons] at hl
    have h' : ∀ v, v < 12 → ∀ i, ∃ q, q < 12 ∧ upd mo k (nI v) i = nI q := fun v hv i => by
      by_cases hi : i = k
      · subst hi; exact ⟨v, hv, upd_self _ _ _⟩
      · rw [upd_ne _ _ hi]; exact h i
    simp only [am_go]
    split
    · exact am_go_out ks _ l _ (by omega) (h' l (by omega)) i
    · exact am_go_out ks _ (l + 1) _ (by omega) (h' (l + 1) (by omega)) i
theorem am_out {len : Nat → Nat} {o : List Nat} (h12 : o.length ≤ 12) {mo : Nat → Int32} (h : ∀ i, ∃ q, q < 12 ∧ mo i = nI q) : ∀ i, ∃ q, q < 12 ∧ (am len mo o).1 i = nI q := by
  cases o with
  | nil => exact h
  | cons k ks =>
    refine am_go_out ks _ 0 _ (by simp at h12; omega) (fun i => ?_)
    by_cases hi : i = k
    · subst hi; exact ⟨0, by omega, upd_self _ _ _⟩
    · rw [upd_ne _ _ hi]; exact h i
theorem flatMap_len_le {f : Nat → List Int32} {len : Nat → Nat} (h : ∀ k, (f k).length ≤ len k) : ∀ l : List Nat, (l.flatMap f).length ≤ (l.map len).sum
  | [] => Nat.le_refl _
  | x :: l => by
    have := flatMap_len_le h l
    have := h x
    simp only [List.flatMap_cons, List.length_append, List.map_cons, List.sum_cons]; omega
theorem msgs_len (K P N Ln B mo : Nat → Int32) (o : List Nat) (m : Nat) : (msgs K P N Ln B mo o m).length ≤ sm (lnN K P Ln) mo m o :=
  flatMap_len_le (fun k => msg_len K P N Ln B mo k) _
-- the modules' bytes as one row
def ct (C : Nat → Int32) (f : Nat → List Int32) : Nat → Int32 := fun i => if i % 48 < (f (i / 48)).length then (f (i / 48)).getD (i % 48) 0 else C i
def szs (Z : Nat → Int32) (f : Nat → List Int32) (M : Nat) : Nat → Int32 := fun j => if j < M then nI (f j).length else Z j
abbrev same (M0 : Nat) (Z0 C0 : Nat → Int32) (f : Nat → List Int32) (j : Nat) : Prop := j < M0 ∧ Z0 j = nI (f j).length ∧ ∀ i, i < (f j).length → C0 (j * 48 + i) = (f j).getD i 0
def vss (V : Nat → Int32) (num : Int32) (M0 : Nat) (Z0 C0 : Nat → Int32) (f : Nat → List Int32) (M : Nat) : Nat → Int32 := fun j => if j < M then (if same M0 Z0 C0 f j then V j else num) else V j
def fm (f : Nat → List Int32) (m : Nat) : Nat → List Int32 := fun j => if j < m then f j else []
theorem ct_step {C g : Nat → Int32} {f : Nat → List Int32} {m : Nat} (hl : (f m).length ≤ 48) (hg : ∀ i, i < (f m).length → g i = (f m).getD i 0) : va_cpy g (ct C (fm f m)) 0 (m * 48) (f m).length = ct C (fm f (m + 1)) := by
  funext i
  by_cases h : m * 48 ≤ i ∧ i < m * 48 + (f m).length
  · have hd : i / 48 = m := by omega
    have hr : i % 48 = i - m * 48 := by omega
    rw [pk_cpy_in h.1 h.2, Nat.zero_add, hg _ (by omega)]
    unfold ct fm
    rw [hd, if_pos (show m < m + 1 by omega), hr, if_pos (by omega)]
  · rw [pk_cpy_out (by omega)]
    unfold ct fm
    by_cases hd : i / 48 = m
    · rw [hd, if_neg (by omega : ¬ m < m), if_pos (show m < m + 1 by omega)]
      rw [if_neg (by simp), if_neg (by omega)]
    · by_cases hlt : i / 48 < m
      · rw [if_pos hlt, if_pos (show i / 48 < m + 1 by omega)]
      · rw [if_neg hlt, if_neg (show ¬ i / 48 < m + 1 by omega)]
theorem ct_out {C : Nat → Int32} {f : Nat → List Int32} {m i : Nat} (h : i < 48) : ct C (fm f m) (m * 48 + i) = C (m * 48 + i) := by
  unfold ct fm
  have hd : (m * 48 + i) / 48 = m := by omega
  rw [hd, if_neg (Nat.lt_irrefl m)]
  simp
-- is the draft what the module holds?
theorem l_Ed_draftEquals {d : Nat} {Q : zm_Q} {S : zm_S} {m n : Nat} (hm : m < 12) (hn : n ≤ 48) (h79 : S 7 9 = nI n) (h1 : (∀ x, x < n → S 10 (m * 48 + x) = S 13 x) → Q (some 1) GG S) (h0 : ¬ (∀ x, x < n → S 10 (m * 48 + x) = S 13 x) → Q (some 0) GG S) : ∀ (t i : Nat), i + t = n → (∀ x, x < i → S 10 (m * 48 + x) = S 13 x) → zw M_Ed_draftEquals (d + 1) Q 17 [some (.ref 7), some (.int (nI m)), some (.int (nI i))] [] S := by
  intro t
  induction t with
  | zero =>
    intro i hi hI
    have hle : S 7 9 ≤ nI i := by rw [h79]; exact nI_le (by omega) (by omega)
    refine s_Ed_draftEquals_17 0 0 (fun h => absurd hle h) (fun h => absurd hle h) (fun _ => h1 (fun x hx => hI x (by omega))) (fun h => absurd hle h) (fun h => absurd hle h)
  | succ t ih =>
    intro i hi hI
    have hlt : ¬ S 7 9 ≤ nI i := by rw [h79]; exact nI_ge (by omega) (by omega)
    have e48 : nI m * 48 + nI i = nI (m * 48 + i) := by rw [show nI m * 48 = nI (m * 48) from pk_mul m 48, nI_add]
    refine s_Ed_draftEquals_17 (m * 48 + i) i (fun _ => ?_) (fun _ => zm_ixN (by omega) (by decide)) (fun h => absurd h hlt) (fun _ he => ?_) (fun _ hne => h0 (fun h => hne (h i (by omega))))
    · rw [e48]; exact zm_ixN (by omega) (by decide)
    · rw [nI_1]
      refine ih (i + 1) (by omega) (fun x hx => ?_)
      by_cases hxi : x = i
      · subst hxi; exact he
      · exact hI x (by omega)
theorem c_Ed_draftEquals {d : Nat} {Q : zm_Q} {S : zm_S} {m n : Nat} (hm : m < 12) (hn : n ≤ 48) (h79 : S 7 9 = nI n) (h1 : (S 8 m = nI n ∧ ∀ x, x < n → S 10 (m * 48 + x) = S 13 x) → Q (some 1) GG S) (h0 : ¬ (S 8 m = nI n ∧ ∀ x, x < n → S 10 (m * 48 + x) = S 13 x) → Q (some 0) GG S) : zc M_Ed_draftEquals (d + 1) [.ref 7, .int (nI m)] S Q := by
  refine e_Ed_draftEquals (s_Ed_draftEquals_0 m (zm_ixN hm (by decide)) (fun h => ?_) (fun h => ?_))
  · rw [h79] at h
    exact l_Ed_draftEquals hm hn h79 (fun h' => h1 ⟨h, h'⟩) (fun h' => h0 (fun x => h' x.2)) n 0 (by omega) (fun x hx => by omega)
  · rw [h79] at h
    exact h0 (fun x => h x.1)
theorem c_Ed_keepDraft {d : Nat} {Q : zm_Q} {S : zm_S} {m n M0 : Nat} (hm : m < 12) (hn : n ≤ 48) (hM : M0 ≤ 12) (h79 : S 7 9 = nI n) (h71 : S 7 1 = nI M0)
    (h1 : (m < M0 ∧ S 8 m = nI n ∧ ∀ x, x < n → S 10 (m * 48 + x) = S 13 x) → Q none GG (zm_upA (zm_up S 8 m (nI n)) 10 (va_cpy (S 13) (S 10) 0 (m * 48) n)))
    (h0 : ¬ (m < M0 ∧ S 8 m = nI n ∧ ∀ x, x < n → S 10 (m * 48 + x) = S 13 x) → Q none GG (zm_upA (zm_up (zm_up S 9 m (S 7 0)) 8 m (nI n)) 10 (va_cpy (S 13) (S 10) 0 (m * 48) n))) : zc M_Ed_keepDraft (d + 2) [.ref 7, .int (nI m)] S Q := by
  have e48 : nI m * 48 = nI (m * 48) := pk_mul m 48
  have hix : zm_ix (nI m) m 12 := zm_ixN hm (by decide)
  have fin : ∀ (S1 : zm_S), S1 7 9 = nI n → Q none GG (zm_upA (zm_up S1 8 m (nI n)) 10 (va_cpy (S1 13) (S1 10) 0 (m * 48) n)) → zw M_Ed_keepDraft (d + 2) Q 26 [some (.ref 7), some (.int (nI m))] [] S1 := by
    intro S1 e79 hq
    refine s_Ed_keepDraft_26 m (m * 48) n hix ?_ ?_ (by omega) (by omega) ?_
    · rw [e48]; exact ⟨nI_pos (by omega), nI_clamp (by omega)⟩
    · rw [e79]; exact ⟨nI_pos (by omega), nI_clamp (by omega)⟩
    · rw [e79]; exact hq
  refine e_Ed_keepDraft (s_Ed_keepDraft_0 m (fun _ => hix) (fun h => ?_) (fun h => ?_))
  · rw [h71, nI_leI (by omega) (by omega)] at h
    exact fin _ h79 (h0 (fun x => by omega))
  · rw [h71, nI_leI (by omega) (by omega)] at h
    refine c_Ed_draftEquals hm hn h79 (fun h' => ?_) (fun h' => ?_)
    · exact s_Ed_keepDraft_13 m (fun h => absurd h (by decide)) (fun _ => fin S h79 (h1 ⟨by omega, h'⟩)) (fun h => absurd h (by decide))
    · exact s_Ed_keepDraft_13 m (fun _ => hix) (fun h => absurd rfl h) (fun _ => fin _ h79 (h0 (fun x => h' x.2)))
-- all modules
def EI (S0 S : zm_S) (num : Int32) (M0 : Nat) (f : Nat → List Int32) (m : Nat) : Prop :=
  (∀ a, a ≠ 7 → a ≠ 8 → a ≠ 9 → a ≠ 10 → a ≠ 13 → S a = S0 a) ∧ (∀ i, i ≠ 9 → S 7 i = S0 7 i) ∧ S 8 = szs (S0 8) f m ∧ S 9 = vss (S0 9) num M0 (S0 8) (S0 10) f m ∧ S 10 = ct (S0 10) (fm f m)
theorem l_Ed_renew {d : Nat} {Q : zm_Q} {S0 : zm_S} {o : List Nat} {M M0 : Nat} (hO : OR S0 o) (hL : ∀ k, k < 12 → ∃ n, n ≤ 12 ∧ S0 5 k = nI n) (hM : M ≤ 12) (hM0 : M0 ≤ 12) (h71 : S0 7 1 = nI M0) (hmo : ∀ x ∈ o, ∃ q, q < 12 ∧ S0 12 x = nI q)
    (hlen : ∀ m, m < M → (msgs (S0 2) (S0 3) (S0 4) (S0 5) (S0 6) (S0 12) o m).length ≤ 48) (hq : ∀ S, EI S0 S (S0 7 0) M0 (msgs (S0 2) (S0 3) (S0 4) (S0 5) (S0 6) (S0 12) o) M → Q none GG (zm_up S 7 1 (nI M))) :
    ∀ (n m : Nat) (S : zm_S), m + n = M → EI S0 S (S0 7 0) M0 (msgs (S0 2) (S0 3) (S0 4) (S0 5) (S0 6) (S0 12) o) m → zw M_Ed_renew (d + 4) Q 23 [some (.ref 7), some (.ref 1), some (.int (nI M)), some (.int (nI m))] [] S := by
  intro n
  induction n with
  | zero =>
    intro m S hm hE
    have : m = M := by omega
    subst this
    have hle : nI m ≤ nI m := Int32.le_refl _
    exact s_Ed_renew_23 (fun _ => hq S hE) (fun h => absurd hle h)
  | succ n ih =>
    intro m S hm hE
    have hlt : ¬ nI M ≤ nI m := nI_ge (by omega) (by omega)
    obtain ⟨h1, h2, h3, h4, h5⟩ := id hE
    have s2 : S 2 = S0 2 := h1 2 (by decide) (by decide) (by decide) (by decide) (by decide)
    have s3 : S 3 = S0 3 := h1 3 (by decide) (by decide) (by decide) (by decide) (by decide)
    have s4 : S 4 = S0 4 := h1 4 (by decide) (by decide) (by decide) (by decide) (by decide)
    have s5 : S 5 = S0 5 := h1 5 (by decide) (by decide) (by decide) (by decide) (by decide)
    have s6 : S 6 = S0 6 := h1 6 (by decide) (by decide) (by decide) (by decide) (by decide)
    have s11 : S 11 = S0 11 := h1 11 (by decide) (by decide) (by decide) (by decide) (by decide)
    have s12 : S 12 = S0 12 := h1 12 (by decide) (by decide) (by decide) (by decide) (by decide)
    have hO' : OR S o := ⟨(h2 6 (by decide)).trans hO.1, hO.2.1, fun i x hx => by rw [s11]; exact hO.2.2 i x hx⟩
    have hle48 := hlen m (by omega)
    refine s_Ed_renew_23 (fun h => absurd h hlt) (fun _ => ?_)
    refine c_Ed_draftModule hO' (by rw [s5]; exact hL) (by omega) (by rw [s12]; exact hmo) ?_ ?_
    · rw [s2, s3, s4, s5, s6, s12]; exact hle48
    · rw [s2, s3, s4, s5, s6, s12]
      generalize hf : msgs (S0 2) (S0 3) (S0 4) (S0 5) (S0 6) (S0 12) o = f at *
      refine s_Ed_renew_34 ?_
      have d13 : ∀ i, i < (f m).length → st_dr S (f m) 13 i = (f m).getD i 0 := fun i hi => dr_at hi
      have hz : st_dr S (f m) 8 m = S0 8 m := by
        show S 8 m = _
        rw [h3]; exact if_neg (Nat.lt_irrefl m)
      have hc : ∀ x, x < (f m).length → st_dr S (f m) 10 (m * 48 + x) = S0 10 (m * 48 + x) := fun x hx => by
        show S 10 (m * 48 + x) = _
        rw [h5]; exact ct_out (by omega)
      have hiff : (m < M0 ∧ st_dr S (f m) 8 m = nI (f m).length ∧ ∀ x, x < (f m).length → st_dr S (f m) 10 (m * 48 + x) = st_dr S (f m) 13 x) ↔ same M0 (S0 8) (S0 10) f m := by
        rw [hz]
        constructor
        · rintro ⟨a, b, c⟩
          exact ⟨a, b, fun i hi => by rw [← hc i hi, c i hi]; exact d13 i hi⟩
        · rintro ⟨a, b, c⟩
          exact ⟨a, b, fun i hi => by rw [hc i hi, c i hi]; exact (d13 i hi).symm⟩
      have fr : ∀ (V : Nat → Int32) , (V = vss (S0 9) (S0 7 0) M0 (S0 8) (S0 10) f (m + 1)) → EI S0 (zm_upA (zm_up (zm_upA (st_dr S (f m)) 9 V) 8 m (nI (f m).length)) 10 (va_cpy (st_dr S (f m) 13) (st_dr S (f m) 10) 0 (m * 48) (f m).length)) (S0 7 0) M0 f (m + 1) := by
        intro V hV
        refine ⟨fun a a7 a8 a9 a10 a13 => ?_, fun i hi => ?_, ?_, ?_, ?_⟩
        · rw [zm_upA_ne _ _ a10, zm_up_ne _ _ _ a8, zm_upA_ne _ _ a9]
          show (if a = 13 then _ else if a = 7 then _ else S a) = _
          rw [if_neg a13, if_neg a7]; exact h1 a a7 a8 a9 a10 a13
        · show upd (S 7) 9 _ i = _
          rw [upd_ne _ _ hi]; exact h2 i hi
        · show upd (S 8) m (nI (f m).length) = _
          rw [h3]
          funext j
          unfold szs
          by_cases hj : j = m
          · subst hj; rw [upd_self, if_pos (Nat.lt_succ_self j)]
          · rw [upd_ne _ _ hj]
            by_cases hjm : j < m
            · rw [if_pos hjm, if_pos (by omega)]
            · rw [if_neg hjm, if_neg (by omega)]
        · show V = _
          exact hV
        · show va_cpy (dr (S 13) (f m)) (S 10) 0 (m * 48) (f m).length = _
          rw [h5]
          exact ct_step (by omega) (fun i hi => dr_at hi)
      have vstep : ∀ j, j ≠ m → vss (S0 9) (S0 7 0) M0 (S0 8) (S0 10) f m j = vss (S0 9) (S0 7 0) M0 (S0 8) (S0 10) f (m + 1) j := by
        intro j hj
        unfold vss
        by_cases hjm : j < m
        · have hj1 : j < m + 1 := by omega
          simp only [hjm, hj1, if_true]
        · have hj1 : ¬ j < m + 1 := by omega
          simp only [hjm, hj1, if_false]
      have vm0 : vss (S0 9) (S0 7 0) M0 (S0 8) (S0 10) f m m = S0 9 m := if_neg (Nat.lt_irrefl m)
      refine c_Ed_keepDraft (n := (f m).length) (by omega) (by omega) hM0 rfl ((h2 1 (by decide)).trans h71) (fun h => ?_) (fun h => ?_)
      · refine s_Ed_renew_39 ?_
        rw [nI_1]
        refine ih (m + 1) _ (by omega) ?_
        have hs := hiff.mp h
        have := fr (st_dr S (f m) 9) (by
          show S 9 = _
          rw [h4]
          funext j
          by_cases hj : j = m
          · subst hj
            rw [vm0]
            show _ = (if j < j + 1 then (if same M0 (S0 8) (S0 10) f j then S0 9 j else S0 7 0) else S0 9 j)
            rw [if_pos (Nat.lt_succ_self j), if_pos hs]
          · exact vstep j hj)
        rw [zm_upA_id] at this
        exact this
      · refine s_Ed_renew_39 ?_
        rw [nI_1]
        refine ih (m + 1) _ (by omega) ?_
        have hs : ¬ same M0 (S0 8) (S0 10) f m := fun x => h (hiff.mpr x)
        exact fr (upd (st_dr S (f m) 9) m (st_dr S (f m) 7 0)) (by
          show upd (S 9) m (S 7 0) = _
          rw [h4, h2 0 (by decide)]
          funext j
          by_cases hj : j = m
          · subst hj
            rw [upd_self]
            show _ = (if j < j + 1 then (if same M0 (S0 8) (S0 10) f j then S0 9 j else S0 7 0) else S0 9 j)
            rw [if_pos (Nat.lt_succ_self j), if_neg hs]
          · rw [upd_ne _ _ hj]; exact vstep j hj)
theorem lnN_le {K P Ln : Nat → Int32} (hL : ∀ k, k < 12 → ∃ n, n ≤ 12 ∧ Ln k = nI n) (k : Nat) : (if k < 12 then lnN K P Ln k else 0) ≤ 47 := by
  split
  · have := (ml_N (K := K) (P := P) (hL k (by assumption))).2
    unfold lnN; omega
  · omega
theorem am_go_congr {len len' : Nat → Nat} : ∀ (ks : List Nat) (mo : Nat → Int32) (l f : Nat), (∀ k ∈ ks, len k = len' k) → am_go len ks mo l f = am_go len' ks mo l f
  | [], _, _, _, _ => rfl
  | k :: ks, mo, l, f, h => by
    have hk := h k List.mem_cons_self
    have ih := fun mo l f => am_go_congr ks mo l f (fun x hx => h x (List.mem_cons_of_mem _ hx))
    simp only [am_go, hk, ih]
theorem am_congr {len len' : Nat → Nat} {o : List Nat} (mo : Nat → Int32) (h : ∀ k ∈ o, len k = len' k) : am len mo o = am len' mo o := by
  cases o with
  | nil => rfl
  | cons k ks =>
    simp only [am]
    rw [h k List.mem_cons_self]
    exact am_go_congr ks _ _ _ (fun x hx => h x (List.mem_cons_of_mem _ hx))
theorem sm_congr_len {len len' : Nat → Nat} {mo : Nat → Int32} {m : Nat} {o : List Nat} (h : ∀ k ∈ o, len k = len' k) : sm len mo m o = sm len' mo m o := by
  unfold sm
  congr 1
  apply List.map_congr_left
  intro x hx
  exact h x (List.mem_filter.mp hx).1
/-- what is published: the order o, the modules' rows mo, their number M, the bytes f of each -/
def PB (K P N Ln B mo0 : Nat → Int32) (o : List Nat) (mo : Nat → Int32) (M : Nat) (f : Nat → List Int32) : Prop :=
  o = od P N ∧ mo = (am (lnN K P Ln) mo0 o).1 ∧ M = (am (lnN K P Ln) mo0 o).2 + 1 ∧ f = msgs K P N Ln B mo o
theorem od_facts {K P N Ln B : Nat → Int32} (hT : TI K P N Ln B) : (od P N).Nodup ∧ 0 < (od P N).length ∧ (od P N).length ≤ 12 ∧ ∀ x ∈ od P N, x < 12 ∧ ¬ K x = 0 := by
  obtain ⟨hK, ⟨dep, hD⟩, _⟩ := hT
  refine ⟨itl_nodup hK hD 12 0 (vd0 hK), ?_, itl_len P N 12 0, itl_in hK hD 12 0 (vd0 hK)⟩
  show 0 < (itl P N 12 (nI 0)).length
  rw [itl_cons 11 (by omega)]; simp
theorem PB.facts {K P N Ln B mo0 : Nat → Int32} {o : List Nat} {mo : Nat → Int32} {M : Nat} {f : Nat → List Int32} (hT : TI K P N Ln B) (hm : ∀ i, ∃ q, q < 12 ∧ mo0 i = nI q) (h : PB K P N Ln B mo0 o mo M f) :
    1 ≤ M ∧ M ≤ 12 ∧ (∀ i, ∃ q, q < 12 ∧ mo i = nI q) ∧ (∀ k ∈ o, ∃ q, q < M ∧ mo k = nI q) ∧ (∀ m, m < M → (f m).length ≤ 47) ∧ ∀ m, m < M → sm (lnN K P Ln) mo m o ≤ 47 := by
  obtain ⟨ho, hmo, hM, hf⟩ := h
  obtain ⟨h1, h2, h3, h4⟩ := od_facts hT
  rw [← ho] at h1 h2 h3 h4
  have hcg : ∀ k ∈ o, lnN K P Ln k = (fun k => if k < 12 then lnN K P Ln k else 0) k := fun k hk => by
    show _ = if k < 12 then _ else _
    rw [if_pos (h4 k hk).1]
  have hA := am_ok (len := fun k => if k < 12 then lnN K P Ln k else 0) (lnN_le hT.2.2.1) h1 h2 h3 mo0
  rw [← am_congr mo0 hcg] at hA
  have hS : ∀ m, m < M → sm (lnN K P Ln) mo m o ≤ 47 := fun m hm' => by
    rw [sm_congr_len hcg, hmo]; exact hA.2.1 m (by omega)
  refine ⟨by omega, by rw [hM]; exact hA.2.2, ?_, fun k hk => ?_, fun m hm' => ?_, hS⟩
  · rw [hmo]; exact am_out h3 hm
  · obtain ⟨q, hq, he⟩ := hA.1 k hk
    exact ⟨q, by omega, by rw [hmo]; exact he⟩
  · rw [hf]
    exact Nat.le_trans (msgs_len K P N Ln B mo o m) (hS m hm')
/-- Edition.renew -/
theorem c_Ed_renew {d : Nat} {Q : zm_Q} {S : zm_S} {M0 : Nat} {o : List Nat} {mo : Nat → Int32} {M : Nat} {f : Nat → List Int32} (hT : TI (S 2) (S 3) (S 4) (S 5) (S 6)) (hm : ∀ i, ∃ q, q < 12 ∧ S 12 i = nI q) (hM0 : M0 ≤ 12) (h71 : S 7 1 = nI M0) (hB : PB (S 2) (S 3) (S 4) (S 5) (S 6) (S 12) o mo M f)
    (hq : ∀ S', (∀ a, ¬ (7 ≤ a ∧ a ≤ 13) → S' a = S a) → S' 7 0 = S 7 0 + 1 → S' 7 1 = nI M → S' 8 = szs (S 8) f M → S' 9 = vss (S 9) (S 7 0 + 1) M0 (S 8) (S 10) f M → S' 10 = ct (S 10) (fm f M) → S' 12 = mo → Q none GG S') : zc M_Ed_renew (d + 4) [.ref 7, .ref 1] S Q := by
  have hF := hB.facts hT hm
  obtain ⟨ho, hmo, hM, hf⟩ := id hB
  obtain ⟨h1, h2, h3, h4⟩ := od_facts hT
  obtain ⟨hK, ⟨dep, hD⟩, hL, _⟩ := id hT
  refine e_Ed_renew (s_Ed_renew_0 ?_)
  generalize hS1 : zm_up S 7 0 (S 7 0 + 1) = S1
  have a1 : ∀ a, a ≠ 7 → S1 a = S a := fun a ha => by rw [← hS1]; exact zm_up_ne _ _ _ ha
  have a7 : S1 7 = upd (S 7) 0 (S 7 0 + 1) := by rw [← hS1]; exact zm_up_self _ _ _ _
  have e2 := a1 2 (by decide)
  have e3 := a1 3 (by decide)
  have e4 := a1 4 (by decide)
  refine c_Ed_arrange (dep := dep) (by rw [e2, e3, e4]; exact hK) (by rw [e2, e3]; exact hD) ?_
  rw [e3, e4, ← ho]
  refine s_Ed_renew_15 ?_
  have hO : OR (st_or S1 o) o := OR.of (by rw [ho]; exact h3) (fun x hx => by rw [ho] at hx; exact (h4 x hx).1)
  have b1 : ∀ a, a ≠ 7 → a ≠ 11 → st_or S1 o a = S a := fun a ha hb => by
    show (if a = 11 then _ else if a = 7 then _ else S1 a) = _
    rw [if_neg hb, if_neg ha]; exact a1 a ha
  have b2 := b1 2 (by decide) (by decide)
  have b3 := b1 3 (by decide) (by decide)
  have b4 := b1 4 (by decide) (by decide)
  have b5 := b1 5 (by decide) (by decide)
  have b6 := b1 6 (by decide) (by decide)
  have b12 := b1 12 (by decide) (by decide)
  refine c_Ed_assignModules hO (by rw [ho]; exact h2) (by rw [b5]; exact hL) ?_
  rw [b2, b3, b5, b12, ← hmo, ← hM]
  refine s_Ed_renew_20 ?_
  have c1 : ∀ a, a ≠ 7 → a ≠ 11 → a ≠ 12 → zm_upA (st_or S1 o) 12 mo a = S a := fun a ha hb hc => by rw [zm_upA_ne _ _ hc]; exact b1 a ha hb
  have c7 : zm_upA (st_or S1 o) 12 mo 7 = upd (upd (S 7) 0 (S 7 0 + 1)) 6 (nI o.length) := by
    show upd (S1 7) 6 (nI o.length) = _
    rw [a7]
  have c12 : zm_upA (st_or S1 o) 12 mo 12 = mo := zm_upA_self _ _ _
  have c11 : zm_upA (st_or S1 o) 12 mo 11 = st_or S1 o 11 := zm_upA_ne _ _ (by decide)
  generalize zm_upA (st_or S1 o) 12 mo = S2 at c1 c7 c12 c11
  have d2 := c1 2 (by decide) (by decide) (by decide)
  have d3 := c1 3 (by decide) (by decide) (by decide)
  have d4 := c1 4 (by decide) (by decide) (by decide)
  have d5 := c1 5 (by decide) (by decide) (by decide)
  have d6 := c1 6 (by decide) (by decide) (by decide)
  have d8 := c1 8 (by decide) (by decide) (by decide)
  have d9 := c1 9 (by decide) (by decide) (by decide)
  have d10 := c1 10 (by decide) (by decide) (by decide)
  have hO2 : OR S2 o := ⟨by rw [c7]; exact upd_self _ _ _, hO.2.1, fun i x hx => by rw [c11]; exact hO.2.2 i x hx⟩
  have e70 : S2 7 0 = S 7 0 + 1 := by rw [c7]; rfl
  have e71 : S2 7 1 = nI M0 := by rw [c7]; exact h71
  have hfe : msgs (S2 2) (S2 3) (S2 4) (S2 5) (S2 6) (S2 12) o = f := by rw [d2, d3, d4, d5, d6, c12]; exact hf.symm
  refine l_Ed_renew (M0 := M0) hO2 (by rw [d5]; exact hL) hF.2.1 hM0 e71 (fun x hx => by rw [c12]; exact hF.2.2.1 x) (fun m hm' => by rw [hfe]; have := hF.2.2.2.2.1 m hm'; omega) ?_ M 0 S2 (by omega) ?_
  · intro S' hE
    rw [hfe, e70] at hE
    obtain ⟨g1, g2, g3, g4, g5⟩ := hE
    rw [d8] at g3
    rw [d8, d9, d10] at g4
    rw [d10] at g5
    refine hq _ (fun a ha => ?_) ?_ ?_ ?_ ?_ ?_ ?_
    · rw [zm_up_ne _ _ _ (show a ≠ 7 by omega), g1 a (by omega) (by omega) (by omega) (by omega) (by omega)]
      exact c1 a (by omega) (by omega) (by omega)
    · show upd (S' 7) 1 (nI M) 0 = _
      rw [upd_ne _ _ (by decide), g2 0 (by decide), e70]
    · show upd (S' 7) 1 (nI M) 1 = nI M
      exact upd_self _ _ _
    · rw [zm_up_ne _ _ _ (by decide), g3]
    · rw [zm_up_ne _ _ _ (by decide), g4]
    · rw [zm_up_ne _ _ _ (by decide), g5]
    · rw [zm_up_ne _ _ _ (by decide), g1 12 (by decide) (by decide) (by decide) (by decide) (by decide)]
      exact c12
  · refine ⟨fun _ _ _ _ _ _ => rfl, fun _ _ => rfl, ?_, ?_, ?_⟩
    · funext j; rfl
    · funext j; rfl
    · funext i
      show _ = if i % 48 < (fm _ 0 (i / 48)).length then _ else _
      simp [fm]
