-- where sections end
def tk (xs : List (List Int32)) (k : Nat) : Nat := ((xs.take k).flatten).length
def Bd (xs : List (List Int32)) (b : Nat) : Prop := ∃ k, k ≤ xs.length ∧ b = tk xs k
def isNs (xs : List (List Int32)) (pos v : Nat) : Prop := Bd xs v ∧ pos ≤ v ∧ ∀ b, Bd xs b → pos ≤ b → v ≤ b
theorem isNs.uniq {xs : List (List Int32)} {pos v w : Nat} (h : isNs xs pos v) (g : isNs xs pos w) : v = w := Nat.le_antisymm (h.2.2 w g.1 g.2.1) (g.2.2 v h.1 h.2.1)
theorem tk_all (xs : List (List Int32)) : tk xs xs.length = xs.flatten.length := by unfold tk; rw [List.take_length]
theorem tk_mono (xs : List (List Int32)) {i j : Nat} (h : i ≤ j) : tk xs i ≤ tk xs j := by
  unfold tk
  have : xs.take j = xs.take i ++ (xs.drop i).take (j - i) := by
    rw [show j = i + (j - i) by omega, List.take_add]; simp
  rw [this, List.flatten_append, List.length_append]; omega
theorem Bd.le {xs : List (List Int32)} {b : Nat} (h : Bd xs b) : b ≤ xs.flatten.length := by
  obtain ⟨k, hk, rfl⟩ := h
  rw [← tk_all]; exact tk_mono xs hk
theorem Bd.T (xs : List (List Int32)) : Bd xs xs.flatten.length := ⟨xs.length, Nat.le_refl _, (tk_all xs).symm⟩
theorem Bd.zero (xs : List (List Int32)) : Bd xs 0 := ⟨0, Nat.zero_le _, rfl⟩
theorem sts_get {xs : List (List Int32)} {i : Nat} (h : i < xs.length) : (sts xs).getD i 0 = tk xs i := by
  unfold sts tk
  simp [List.getD, h]
theorem tk_cons (y : List Int32) (xs : List (List Int32)) (k : Nat) : tk (y :: xs) (k + 1) = y.length + tk xs k := by
  unfold tk
  rw [List.take_succ_cons, List.flatten_cons, List.length_append]
theorem ens_bd : ∀ (xs : List (List Int32)), (∀ y ∈ xs, 1 ≤ y.length) → ∀ i, i < xs.flatten.length → ((ens xs).getD i 0 = 0 ∧ ¬ Bd xs (i + 1)) ∨ ((ens xs).getD i 0 = 1 ∧ Bd xs (i + 1))
  | [], _, i, hi => by simp at hi
  | y :: xs, hy, i, hi => by
    have hy1 := hy y List.mem_cons_self
    have ih := ens_bd xs (fun z hz => hy z (List.mem_cons_of_mem _ hz))
    have hens : ens (y :: xs) = en1 y ++ ens xs := by simp [ens]
    rw [List.flatten_cons, List.length_append] at hi
    rw [hens]
    by_cases h : i < y.length
    · have hg : (en1 y ++ ens xs).getD i 0 = if i + 1 = y.length then 1 else 0 := by
        simp only [List.getD]
        rw [List.getElem?_append_left (by rw [en1_len]; exact h)]
        unfold en1
        rw [List.getElem?_map, List.getElem?_range' h]
        simp
      rw [hg]
      by_cases he : i + 1 = y.length
      · rw [if_pos he]
        refine Or.inr ⟨rfl, 1, by simp, ?_⟩
        rw [tk_cons, he]; simp [tk]
      · rw [if_neg he]
        refine Or.inl ⟨rfl, ?_⟩
        rintro ⟨k, hk, hb⟩
        cases k with
        | zero => simp [tk] at hb
        | succ k => rw [tk_cons] at hb; omega
    · have hg : (en1 y ++ ens xs).getD i 0 = (ens xs).getD (i - y.length) 0 := by
        simp only [List.getD]
        rw [List.getElem?_append_right (by rw [en1_len]; omega), en1_len]
      rw [hg]
      have hiff : Bd (y :: xs) (i + 1) ↔ Bd xs (i - y.length + 1) := by
        constructor
        · rintro ⟨k, hk, hb⟩
          cases k with
          | zero => simp [tk] at hb
          | succ k =>
            rw [tk_cons] at hb
            exact ⟨k, by simpa using hk, by omega⟩
        · rintro ⟨k, hk, hb⟩
          exact ⟨k + 1, by simpa using hk, by rw [tk_cons]; omega⟩
      rcases ih (i - y.length) (by omega) with ⟨a, b⟩ | ⟨a, b⟩
      · exact Or.inl ⟨a, fun x => b (hiff.mp x)⟩
      · exact Or.inr ⟨a, hiff.mpr b⟩
-- the cycle of both sides
def RCc (S : zm_S) (xs : List (List Int32)) : Prop := S 16 1 = nI xs.flatten.length ∧ S 16 3 = nI xs.length ∧ (∀ i, i < xs.length → S 18 i = nI (tk xs i)) ∧ ∀ i, i < xs.flatten.length → S 17 i = xs.flatten.getD i 0
def RCr (S : zm_S) (xs : List (List Int32)) : Prop := S 27 17 = nI xs.flatten.length ∧ (∀ i, i < xs.flatten.length → S 40 i = xs.flatten.getD i 0) ∧ ∀ i, i < xs.flatten.length → S 41 i = (ens xs).getD i 0
def XS (xs : List (List Int32)) : Prop := xs.length ≤ 73 ∧ xs.flatten.length ≤ 700 ∧ (∀ y ∈ xs, 1 ≤ y.length) ∧ ∀ x ∈ xs.flatten, ∃ b, b ≤ 255 ∧ x = nI b
theorem RCc.of {S0 : zm_S} {xs : List (List Int32)} : RCc (st_cy S0 xs.flatten (sts xs)) xs := by
  refine ⟨rfl, ?_, fun i hi => ?_, fun i hi => dr_at hi⟩
  · show nI (sts xs).length = _
    rw [sts_len]
  · show dr (S0 18) ((sts xs).map nI) i = _
    have hl : i < (sts xs).length := by rw [sts_len]; exact hi
    rw [dr_at (by rw [List.length_map]; exact hl), ← sts_get hi]
    simp [List.getD, hl]
theorem RCr.of {S0 : zm_S} {xs : List (List Int32)} : RCr (st_ep S0 xs []) xs := by
  refine ⟨?_, fun i hi => ?_, fun i hi => ?_⟩
  · show nI (xs.flatten ++ []).length = _
    rw [List.append_nil]
  · show dr (S0 40) (xs.flatten ++ []) i = _
    rw [List.append_nil]; exact dr_at hi
  · show dr (S0 41) (ens xs ++ List.replicate ([] : List Int32).length 0) i = _
    rw [show List.replicate ([] : List Int32).length (0 : Int32) = [] from rfl, List.append_nil]
    exact dr_at (by rw [ens_len]; exact hi)
theorem l_Cy_startFrom {d : Nat} {Q : zm_Q} {S : zm_S} {xs : List (List Int32)} {pos : Nat} (hR : RCc S xs) (hX : XS xs) (hp : pos ≤ xs.flatten.length) (hq : ∀ v, isNs xs pos v → Q (some (nI v)) GG S) : ∀ (n i : Nat), i + n = xs.length → (∀ j, j < i → tk xs j < pos) → zw M_Cy_startFrom d Q 2 [some (.ref 16), some (.int (nI pos)), some (.int (nI i))] [] S := by
  intro n
  have h73 := hX.1
  have h700 := hX.2.1
  induction n with
  | zero =>
    intro i hi hI
    have hle : S 16 3 ≤ nI i := by rw [hR.2.1]; exact nI_le (by omega) (by omega)
    refine s_Cy_startFrom_2 0 (fun h => absurd hle h) (fun _ => ?_) (fun h => absurd hle h) (fun h => absurd hle h)
    rw [hR.1]
    refine hq _ ⟨Bd.T xs, hp, ?_⟩
    rintro b ⟨k, hk, rfl⟩ hb
    by_cases hki : k < i
    · have := hI k hki; omega
    · rw [← tk_all]; exact tk_mono xs (by omega)
  | succ n ih =>
    intro i hi hI
    have hlt : ¬ S 16 3 ≤ nI i := by rw [hR.2.1]; exact nI_ge (by omega) (by omega)
    have e18 := hR.2.2.1 i (by omega)
    have hti : tk xs i ≤ 700 := by have := tk_mono xs (show i ≤ xs.length by omega); rw [tk_all] at this; omega
    refine s_Cy_startFrom_2 i (fun _ => zm_ixN (by omega) (by decide)) (fun h => absurd h hlt) (fun _ h => ?_) (fun _ h => ?_)
    · rw [e18, nI_ltI (by omega) (by omega)] at h
      rw [nI_1]
      refine ih (i + 1) (by omega) (fun j hj => ?_)
      by_cases hji : j = i
      · subst hji; exact h
      · exact hI j (by omega)
    · rw [e18, nI_ltI (by omega) (by omega)] at h
      rw [e18]
      refine hq _ ⟨⟨i, by omega, rfl⟩, by omega, ?_⟩
      rintro b ⟨k, hk, rfl⟩ hb
      by_cases hki : k < i
      · have := hI k hki; omega
      · exact tk_mono xs (by omega)
theorem c_Cy_startFrom {d : Nat} {Q : zm_Q} {S : zm_S} {xs : List (List Int32)} {pos : Nat} (hR : RCc S xs) (hX : XS xs) (hp : pos ≤ xs.flatten.length) (hq : ∀ v, isNs xs pos v → Q (some (nI v)) GG S) : zc M_Cy_startFrom d [.ref 16, .int (nI pos)] S Q :=
  e_Cy_startFrom (s_Cy_startFrom_0 (l_Cy_startFrom hR hX hp hq xs.length 0 (by omega) (fun j hj => by omega)))
theorem l_Md_rest {d : Nat} {Q : zm_Q} {S : zm_S} {xs : List (List Int32)} {pos : Nat} (hR : RCr S xs) (hX : XS xs) (hp : pos < xs.flatten.length) (hp0 : ¬ Bd xs pos) (h19 : S 27 19 = nI pos) (hq : ∀ v, isNs xs pos v → Q (some (nI (v - pos))) GG S) : ∀ (n p : Nat), p + n + 1 = xs.flatten.length → pos ≤ p → (∀ b, Bd xs b → pos ≤ b → p < b) → zw M_Md_rest d Q 28 [some (.ref 27), some (.int (nI p))] [] S := by
  intro n
  have h700 := hX.2.1
  induction n with
  | zero =>
    intro p hn hpp hI
    have e41 := hR.2.2 p (by omega)
    have hix : zm_ix (nI p) p 700 := zm_ixN (by omega) (by decide)
    have hb : Bd xs (p + 1) := by rw [show p + 1 = xs.flatten.length by omega]; exact Bd.T xs
    rcases ens_bd xs hX.2.2.1 p (by omega) with ⟨_, h⟩ | ⟨h, _⟩
    · exact absurd hb h
    · refine s_Md_rest_28 p hix (fun _ => ?_) (fun h' => ?_)
      · rw [h19, nI_1, pk_sub (by omega)]
        refine hq (p + 1) ⟨hb, by omega, fun b hb2 hb3 => hI b hb2 hb3⟩
      · rw [e41, h] at h'; exact absurd h' (by decide)
  | succ n ih =>
    intro p hn hpp hI
    have e41 := hR.2.2 p (by omega)
    have hix : zm_ix (nI p) p 700 := zm_ixN (by omega) (by decide)
    rcases ens_bd xs hX.2.2.1 p (by omega) with ⟨h, hb⟩ | ⟨h, hb⟩
    · refine s_Md_rest_28 p hix (fun h' => ?_) (fun _ => ?_)
      · rw [e41, h] at h'; exact absurd rfl h'
      · rw [nI_1]
        refine ih (p + 1) (by omega) (by omega) (fun b hb2 hb3 => ?_)
        have := hI b hb2 hb3
        by_cases he : b = p + 1
        · subst he; exact absurd hb2 hb
        · omega
    · refine s_Md_rest_28 p hix (fun _ => ?_) (fun h' => ?_)
      · rw [h19, nI_1, pk_sub (by omega)]
        exact hq (p + 1) ⟨hb, by omega, fun b hb2 hb3 => hI b hb2 hb3⟩
      · rw [e41, h] at h'; exact absurd h' (by decide)
theorem c_Md_rest {d : Nat} {Q : zm_Q} {S : zm_S} {xs : List (List Int32)} {pos : Nat} (hR : RCr S xs) (hX : XS xs) (hp : pos < xs.flatten.length) (h19 : S 27 19 = nI pos) (hq : ∀ v, isNs xs pos v → Q (some (nI (v - pos))) GG S) : zc M_Md_rest d [.ref 27] S Q := by
  have h700 := hX.2.1
  have bdq : Bd xs pos → Q (some 0) GG S := fun hb => by
    have := hq pos ⟨hb, Nat.le_refl _, fun b _ h => h⟩
    rw [Nat.sub_self] at this; exact this
  refine e_Md_rest (s_Md_rest_0 (pos - 1) (fun h => ?_) (fun h => ?_) (fun h0 h => ?_))
  · rw [h19] at h ⊢
    have : ¬ pos = 0 := fun e => h ((nI_eq0 (by omega)).mpr e)
    rw [show nI pos - 1 = nI (pos - 1) from pk_sub (b := 1) (by omega)]
    exact zm_ixN (by omega) (by decide)
  · apply bdq
    rw [h19] at h
    by_cases hz : pos = 0
    · subst hz; exact Bd.zero xs
    · rcases h with h | h
      · exact absurd ((nI_eq0 (by omega)).mp h) hz
      · have e41 := hR.2.2 (pos - 1) (by omega)
        rcases ens_bd xs hX.2.2.1 (pos - 1) (by omega) with ⟨h', _⟩ | ⟨_, hb⟩
        · rw [e41, h'] at h; exact absurd rfl h.2
        · rw [show pos - 1 + 1 = pos by omega] at hb; exact hb
  · rw [h19] at h0 ⊢
    have hz : ¬ pos = 0 := fun e => h0 ((nI_eq0 (by omega)).mpr e)
    have e41 := hR.2.2 (pos - 1) (by omega)
    have hnb : ¬ Bd xs pos := by
      rcases ens_bd xs hX.2.2.1 (pos - 1) (by omega) with ⟨_, hb⟩ | ⟨h', _⟩
      · rw [show pos - 1 + 1 = pos by omega] at hb; exact hb
      · rw [e41, h'] at h; exact absurd h (by decide)
    refine l_Md_rest hR hX hp hnb h19 hq (xs.flatten.length - pos - 1) pos (by omega) (Nat.le_refl _) (fun b hb hb2 => ?_)
    by_cases he : b = pos
    · subst he; exact absurd hb hnb
    · omega
-- a packet
def pst (T pos v : Nat) : Bool := decide (v - pos ≤ 12 ∧ v < T)
def pkt (l : List Int32) (pos v c i : Nat) : Int32 :=
  if i = 0 then 71 else if i = 1 then (if pst l.length pos v then nI (c + 64) else nI c) else
  if pst l.length pos v then (if i = 2 then nI (v - pos) else if pos + (i - 3) < l.length then l.getD (pos + (i - 3)) 0 else 255)
  else (if pos + (i - 2) < v then l.getD (pos + (i - 2)) 0 else 255)
def bhd (T pos v : Nat) : Nat := if pst T pos v then min (pos + 13) T else min (pos + 14) v
theorem l_Sn_load {d : Nat} {Q : zm_Q} {S0 : zm_S} {l : List Int32} {pos fr e : Nat} (h17 : ∀ i, i < l.length → S0 17 i = l.getD i 0) (hT : l.length ≤ 1341) (he : e ≤ l.length) (hpe : pos ≤ e)
    (hq : ∀ S', (∀ a, a ≠ 14 → a ≠ 15 → S' a = S0 a) → S' 14 = upd (S0 14) 4 (nI (min (pos + (16 - fr)) e)) → (∀ i, i < fr → S' 15 i = S0 15 i) → (∀ i, fr ≤ i → i < 16 → S' 15 i = if pos + (i - fr) < e then l.getD (pos + (i - fr)) 0 else 255) → Q none GG S') : ∀ (n i : Nat) (S : zm_S), i + n = 16 → fr ≤ i → (∀ a, a ≠ 15 → S a = S0 a) → (∀ j, j < fr → S 15 j = S0 15 j) → (∀ j, fr ≤ j → j < i → S 15 j = if pos + (j - fr) < e then l.getD (pos + (j - fr)) 0 else 255) →
    zw M_Sn_load d Q 8 [some (.ref 14), none, some (.int (nI e)), some (.int (nI (min (pos + (i - fr)) e))), some (.int (nI i))] [] S := by
  intro n
  induction n with
  | zero =>
    intro i S hi hf h1 h2 h3
    have : i = 16 := by omega
    subst this
    have hle : (16 : Int32) ≤ nI 16 := by decide
    refine s_Sn_load_8 0 0 (fun h => absurd hle h) (fun h => absurd hle h) (fun h => absurd hle h) (fun _ => ?_) (fun h => absurd hle h) (fun h => absurd hle h)
    refine hq _ (fun a a1 a2 => by rw [zm_up_ne _ _ _ a1]; exact h1 a a2) ?_ (fun j hj => ?_) (fun j hj1 hj2 => ?_)
    · rw [zm_up_self, h1 14 (by decide)]
    · rw [zm_up_ne _ _ _ (by decide)]; exact h2 j hj
    · rw [zm_up_ne _ _ _ (by decide)]; exact h3 j hj1 hj2
  | succ n ih =>
    intro i S hi hf h1 h2 h3
    have hlt : ¬ (16 : Int32) ≤ nI i := nI_ge (b := 16) (by omega) (by decide)
    have hcmp : nI e ≤ nI (min (pos + (i - fr)) e) ↔ ¬ pos + (i - fr) < e := by
      rw [nI_leI (by omega) (by omega)]; omega
    have hix : zm_ix (nI i) i 16 := zm_ixN (by omega) (by decide)
    refine s_Sn_load_8 i (pos + (i - fr)) (fun _ _ => hix) (fun _ h => ?_) (fun _ _ => hix) (fun h => absurd h hlt) (fun _ h => ?_) (fun _ h => ?_)
    · have hlt2 : pos + (i - fr) < e := Classical.byContradiction (fun x => h (hcmp.mpr x))
      rw [show min (pos + (i - fr)) e = pos + (i - fr) by omega]
      exact zm_ixN (by omega) (by decide)
    · have hge := hcmp.mp h
      rw [nI_1]
      rw [show min (pos + (i - fr)) e = min (pos + (i + 1 - fr)) e by omega]
      refine ih (i + 1) _ (by omega) (by omega) (fun a ha => by rw [zm_up_ne _ _ _ ha]; exact h1 a ha) (fun j hj => ?_) (fun j hj1 hj2 => ?_)
      · rw [zm_up_self, upd_ne _ _ (by omega)]; exact h2 j hj
      · rw [zm_up_self]
        by_cases hji : j = i
        · subst hji; rw [upd_self, if_neg hge]
        · rw [upd_ne _ _ hji]; exact h3 j hj1 (by omega)
    · have hlt2 : pos + (i - fr) < e := Classical.byContradiction (fun x => h (hcmp.mpr x))
      rw [nI_1, nI_1]
      rw [show min (pos + (i - fr)) e + 1 = min (pos + (i + 1 - fr)) e by omega]
      have e17 : S 17 (pos + (i - fr)) = l.getD (pos + (i - fr)) 0 := by rw [h1 17 (by decide)]; exact h17 _ (by omega)
      rw [e17]
      refine ih (i + 1) _ (by omega) (by omega) (fun a ha => by rw [zm_up_ne _ _ _ ha]; exact h1 a ha) (fun j hj => ?_) (fun j hj1 hj2 => ?_)
      · rw [zm_up_self, upd_ne _ _ (by omega)]; exact h2 j hj
      · rw [zm_up_self]
        by_cases hji : j = i
        · subst hji; rw [upd_self, if_pos hlt2]
        · rw [upd_ne _ _ hji]; exact h3 j hj1 (by omega)
theorem or64 : ∀ c, c < 16 → (64 : Int32) ||| nI c = nI (c + 64) := by decide +kernel
theorem c_Sn_prepare {d : Nat} {Q : zm_Q} {S : zm_S} {xs : List (List Int32)} {pos c : Nat} (hR : RCc S xs) (hX : XS xs) (hp : pos < xs.flatten.length) (hc : c < 16) (h143 : S 14 3 = nI pos) (h142 : S 14 2 = nI c)
    (hq : ∀ S' v, isNs xs pos v → (∀ a, a ≠ 14 → a ≠ 15 → S' a = S a) → S' 14 = upd (S 14) 4 (nI (bhd xs.flatten.length pos v)) → (∀ i, i < 16 → S' 15 i = pkt xs.flatten pos v c i) → Q none GG S') : zc M_Sn_prepare (d + 1) [.ref 14] S Q := by
  have h700 := hX.2.1
  refine e_Sn_prepare (s_Sn_prepare_0 ?_)
  rw [h143]
  refine c_Cy_startFrom hR hX (by omega) (fun v hv => ?_)
  have hvT : v ≤ xs.flatten.length := hv.1.le
  have hpv := hv.2.1
  have esub : nI v - S 14 3 = nI (v - pos) := by rw [h143, pk_sub hpv]
  have c12 : 12 < nI v - S 14 3 ↔ 12 < v - pos := by rw [esub]; exact nI_ltI (a := 12) (by decide) (by omega)
  have cT : S 16 1 ≤ nI v ↔ xs.flatten.length ≤ v := by rw [hR.1]; exact nI_leI (by omega) (by omega)
  refine s_Sn_prepare_11 (fun h => ?_) (fun h1 h2 => ?_)
  · have hst : pst xs.flatten.length pos v = false := by
      unfold pst
      rw [decide_eq_false_iff_not]
      rintro ⟨x1, x2⟩
      rcases h with h | h
      · have := c12.mp h; omega
      · have := cT.mp h.2; omega
    refine e_Sn_load (s_Sn_load_0 ?_)
    have e3 : zm_up (zm_up S 15 0 71) 15 1 (S 14 2) 14 3 = nI (min (pos + (2 - 2)) v) := by
      show S 14 3 = _
      rw [h143]; congr 1; omega
    rw [e3]
    refine l_Sn_load (l := xs.flatten) (fr := 2) (S0 := zm_up (zm_up S 15 0 71) 15 1 (S 14 2)) (fun i hi => hR.2.2.2 i hi) (by omega) hvT hpv (fun S' g1 g2 g3 g4 => ?_) 14 2 _ (by omega) (by omega) (fun _ _ => rfl) (fun _ _ => rfl) (fun j a b => by omega)
    refine s_Sn_prepare_106 ?_
    refine hq S' v hv (fun a a1 a2 => by rw [g1 a a1 a2, zm_up_ne _ _ _ a2, zm_up_ne _ _ _ a2]) ?_ (fun i hi => ?_)
    · rw [g2]
      show upd (S 14) 4 _ = _
      unfold bhd
      rw [hst]
      simp only [Bool.false_eq_true, if_false]
    · unfold pkt
      rw [hst]
      simp only [Bool.false_eq_true, if_false]
      by_cases hi0 : i = 0
      · subst hi0; rw [if_pos rfl, g3 0 (by omega)]; rfl
      · rw [if_neg hi0]
        by_cases hi1 : i = 1
        · subst hi1; rw [if_pos rfl, g3 1 (by omega)]
          show S 14 2 = _
          exact h142
        · rw [if_neg hi1]
          exact g4 i (by omega) hi
  · have hst : pst xs.flatten.length pos v = true := by
      unfold pst
      rw [decide_eq_true_iff]
      refine ⟨?_, ?_⟩
      · have : ¬ 12 < v - pos := fun x => h1 (c12.mpr x)
        omega
      · have : ¬ xs.flatten.length ≤ v := fun x => h2 (cT.mpr x)
        omega
    refine e_Sn_load (s_Sn_load_0 ?_)
    have e3 : zm_up (zm_up (zm_up S 15 0 71) 15 1 (64 ||| S 14 2)) 15 2 (nI v - S 14 3) 14 3 = nI (min (pos + (3 - 3)) xs.flatten.length) := by
      show S 14 3 = _
      rw [h143]; congr 1; omega
    rw [e3, hR.1]
    refine l_Sn_load (l := xs.flatten) (fr := 3) (S0 := zm_up (zm_up (zm_up S 15 0 71) 15 1 (64 ||| S 14 2)) 15 2 (nI v - S 14 3)) (fun i hi => hR.2.2.2 i hi) (by omega) (Nat.le_refl _) (by omega) (fun S' g1 g2 g3 g4 => ?_) 13 3 _ (by omega) (by omega) (fun _ _ => rfl) (fun _ _ => rfl) (fun j a b => by omega)
    refine s_Sn_prepare_97 ?_
    refine hq S' v hv (fun a a1 a2 => by rw [g1 a a1 a2, zm_up_ne _ _ _ a2, zm_up_ne _ _ _ a2, zm_up_ne _ _ _ a2]) ?_ (fun i hi => ?_)
    · rw [g2]
      show upd (S 14) 4 _ = _
      unfold bhd
      rw [hst]
      simp only [if_true]
    · unfold pkt
      rw [hst]
      simp only [if_true]
      by_cases hi0 : i = 0
      · subst hi0; rw [if_pos rfl, g3 0 (by omega)]; rfl
      · rw [if_neg hi0]
        by_cases hi1 : i = 1
        · subst hi1; rw [if_pos rfl, g3 1 (by omega)]
          show 64 ||| S 14 2 = _
          rw [h142]; exact or64 c hc
        · rw [if_neg hi1]
          by_cases hi2 : i = 2
          · subst hi2; rw [if_pos rfl, g3 2 (by omega)]
            show nI v - S 14 3 = _
            exact esub
          · rw [if_neg hi2]
            exact g4 i (by omega) hi
