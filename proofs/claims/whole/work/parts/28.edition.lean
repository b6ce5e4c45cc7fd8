-- the order row
def st_or (S0 : zm_S) (l : List Nat) : zm_S := fun a => if a = 11 then dr (S0 11) (l.map nI) else if a = 7 then upd (S0 7) 6 (nI l.length) else S0 a
theorem st_or_nil (S : zm_S) : zm_up S 7 6 0 = st_or S [] := by
  funext a
  unfold zm_up st_or
  by_cases h : a = 7
  · subst h; rfl
  · rw [if_neg h]
    by_cases h2 : a = 11
    · subst h2; rw [if_pos rfl]; exact (dr_nil _).symm
    · rw [if_neg h2, if_neg h]
theorem st_or_push (S0 : zm_S) (l : List Nat) (x : Nat) : zm_up (zm_up (st_or S0 l) 11 l.length (nI x)) 7 6 (nI l.length + 1) = st_or S0 (l ++ [x]) := by
  funext a
  by_cases h : a = 7
  · subst h
    rw [zm_up_self]
    show upd (upd (S0 7) 6 (nI l.length)) 6 (nI l.length + 1) = upd (S0 7) 6 (nI (l ++ [x]).length)
    funext i
    unfold upd
    by_cases hi : i = 6
    · rw [if_pos hi, if_pos hi, nI_1]; simp
    · rw [if_neg hi, if_neg hi, if_neg hi]
  · rw [zm_up_ne _ _ _ h]
    by_cases h2 : a = 11
    · subst h2
      rw [zm_up_self]
      have := dr_push (S0 11) (l.map nI) (nI x)
      rw [List.length_map] at this
      show upd (dr (S0 11) (l.map nI)) l.length (nI x) = dr (S0 11) ((l ++ [x]).map nI)
      rw [this, List.map_append]; rfl
    · rw [zm_up_ne _ _ _ h2]
      unfold st_or
      rw [if_neg h2, if_neg h, if_neg h2, if_neg h]
theorem l_Ed_arrange {d : Nat} {Q : zm_Q} {S0 : zm_S} {dep : Nat → Nat} (hK : TK (S0 2) (S0 3) (S0 4)) (hD : TD (S0 2) (S0 3) dep) : ∀ (n : Nat) (l : List Nat) (k : Int32), l.length + n = 12 → vd (S0 2) k → Q none GG (st_or S0 (l ++ itl (S0 3) (S0 4) n k)) → zw M_Ed_arrange (d + 2) Q 9 [some (.ref 7), some (.ref 1), some (.int k), some (.int (nI l.length))] [] (st_or S0 l) := by
  intro n
  induction n with
  | zero =>
    intro l k hl _ hq
    have hle : (12 : Int32) ≤ nI l.length := nI_le (a := 12) (by omega) (by omega)
    refine s_Ed_arrange_9 0 (fun h => absurd hle h) (fun _ => ?_) (fun h => absurd hle h)
    simpa [itl] using hq
  | succ n ih =>
    intro l k hl hv hq
    have hlt : ¬ (12 : Int32) ≤ nI l.length := nI_ge (b := 12) (by omega) (by decide)
    rcases hv with rfl | ⟨j, hj, hlj, rfl⟩
    · rw [itl_nil] at hq
      refine s_Ed_arrange_9 0 (fun _ h => absurd rfl h) (fun _ => ?_) (fun _ h => absurd rfl h)
      simpa using hq
    · rw [itl_cons n hj] at hq
      refine s_Ed_arrange_9 l.length (fun _ _ => zm_ixN (by omega) (by decide)) ?_ (fun _ _ => ?_)
      · rintro (h | h)
        · exact absurd h hlt
        · exact absurd h.2 (nI_nm1 (by omega))
      · rw [show st_or S0 l 7 6 = nI l.length from rfl, st_or_push]
        refine c_Tree_followerOf (show PC (S0 3) from hK.pc) hj ?_
        refine s_Ed_arrange_42 ?_
        have hlen : nI l.length + 1 = nI (l ++ [j]).length := by rw [nI_1]; simp
        rw [hlen]
        refine ih _ _ (by simp; omega) (fo_vd hK hD hj hlj) ?_
        rw [List.append_assoc]; exact hq
theorem c_Ed_arrange {d : Nat} {Q : zm_Q} {S : zm_S} {dep : Nat → Nat} (hK : TK (S 2) (S 3) (S 4)) (hD : TD (S 2) (S 3) dep) (hq : Q none GG (st_or S (od (S 3) (S 4)))) : zc M_Ed_arrange (d + 2) [.ref 7, .ref 1] S Q := by
  refine e_Ed_arrange (s_Ed_arrange_0 ?_)
  rw [st_or_nil]
  exact l_Ed_arrange hK hD 12 [] 0 rfl (vd0 hK) hq
theorem OR.of {S0 : zm_S} {o : List Nat} (h1 : o.length ≤ 12) (h2 : ∀ x ∈ o, x < 12) : OR (st_or S0 o) o := by
  refine ⟨rfl, h1, fun i x hx => ⟨?_, h2 x (List.mem_of_getElem? hx)⟩⟩
  have hi := (List.getElem?_eq_some_iff.mp hx).1
  show dr (S0 11) (o.map nI) i = nI x
  rw [dr_at (by simpa using hi)]
  simp [List.getD, hx]
-- the modules of the messages
def am_go (len : Nat → Nat) : List Nat → (Nat → Int32) → Nat → Nat → (Nat → Int32) × Nat
  | [], mo, l, _ => (mo, l)
  | k :: ks, mo, l, f => if f + len k ≤ 24 then am_go len ks (upd mo k (nI l)) l (f + len k) else am_go len ks (upd mo k (nI (l + 1))) (l + 1) (len k)
def am (len : Nat → Nat) (mo : Nat → Int32) : List Nat → (Nat → Int32) × Nat
  | [] => (mo, 0)
  | k :: ks => am_go len ks (upd mo k 0) 0 (len k)
def lnN (K P Ln : Nat → Int32) (k : Nat) : Nat := 3 + mlN K P Ln k
theorem ml_N {K P Ln : Nat → Int32} {k : Nat} (hL : ∃ n, n ≤ 12 ∧ Ln k = nI n) : ml K P Ln k = nI (mlN K P Ln k) ∧ mlN K P Ln k ≤ 44 := by
  obtain ⟨n, hn, hL⟩ := hL
  unfold ml mlN
  split
  · rw [hL, nI_clamp (by omega)]; exact ⟨rfl, by omega⟩
  · have : ec P (nI k) ≤ 11 := ec_go_le _ _ 11
    exact ⟨rfl, by omega⟩
theorem zm_upA_up (S : zm_S) (k i : Nat) (f : Nat → Int32) (x : Int32) : zm_up (zm_upA S k f) k i x = zm_upA S k (upd f i x) := by
  funext a
  by_cases h : a = k
  · subst h; rw [zm_up_self, zm_upA_self, zm_upA_self]
  · rw [zm_up_ne _ _ _ h, zm_upA_ne _ _ h, zm_upA_ne _ _ h]
theorem zm_upA_id (S : zm_S) (k : Nat) : zm_upA S k (S k) = S := by
  funext a
  by_cases h : a = k
  · subst h; rw [zm_upA_self]
  · rw [zm_upA_ne _ _ h]
theorem zm_upA_upA (S : zm_S) (k : Nat) (f g : Nat → Int32) : zm_upA (zm_upA S k f) k g = zm_upA S k g := by
  funext a
  by_cases h : a = k
  · subst h; rw [zm_upA_self, zm_upA_self]
  · rw [zm_upA_ne _ _ h, zm_upA_ne _ _ h, zm_upA_ne _ _ h]
theorem l_Ed_assignModules {d : Nat} {Q : zm_Q} {S0 : zm_S} {o : List Nat} (hO : OR S0 o) (hL : ∀ k, k < 12 → ∃ n, n ≤ 12 ∧ S0 5 k = nI n) : ∀ (n i : Nat) (mo : Nat → Int32) (l f : Nat), 1 ≤ i → i + n = o.length → l < i → f ≤ 1000 →
    Q (some (nI ((am_go (lnN (S0 2) (S0 3) (S0 5)) (o.drop i) mo l f).2 + 1))) GG (zm_upA S0 12 (am_go (lnN (S0 2) (S0 3) (S0 5)) (o.drop i) mo l f).1) →
    zw M_Ed_assignModules (d + 2) Q 7 [some (.ref 7), some (.ref 1), some (.int (nI l)), some (.int (nI f)), some (.int (nI i)), none] [] (zm_upA S0 12 mo) := by
  intro n
  have h12 := hO.2.1
  induction n with
  | zero =>
    intro i mo l f _ hi hl _ hq
    rw [List.drop_eq_nil_of_le (by omega)] at hq
    have hle : zm_upA S0 12 mo 7 6 ≤ nI i := by show S0 7 6 ≤ nI i; rw [hO.1]; exact nI_le (by omega) (by omega)
    refine s_Ed_assignModules_7 0 (fun h => absurd hle h) (fun _ => ?_) (fun h => absurd hle h)
    rw [nI_1]; exact hq
  | succ n ih =>
    intro i mo l f h1 hi hl hf hq
    have hlt : ¬ zm_upA S0 12 mo 7 6 ≤ nI i := by show ¬ S0 7 6 ≤ nI i; rw [hO.1]; exact nI_ge (by omega) (by omega)
    have hio : i < o.length := by omega
    have hx : o[i]? = some o[i] := List.getElem?_eq_getElem hio
    rw [List.drop_eq_getElem_cons hio] at hq
    generalize o[i] = x at hx hq
    obtain ⟨h11, hx12⟩ := hO.2.2 i x hx
    obtain ⟨hml, hmle⟩ := ml_N (K := S0 2) (P := S0 3) (hL x hx12)
    have h11' : zm_upA S0 12 mo 11 i = nI x := h11
    have hi0 : ¬ nI i ≤ 0 := fun h => by have := (nI_le0 (by omega)).mp h; omega
    refine s_Ed_assignModules_7 i (fun _ => zm_ixN (by omega) (by decide)) (fun h => absurd h hlt) (fun _ => ?_)
    rw [h11']
    refine c_Tree_messageLength hx12 ?_
    rw [show ml (zm_upA S0 12 mo 2) (zm_upA S0 12 mo 3) (zm_upA S0 12 mo 5) x = nI (mlN (S0 2) (S0 3) (S0 5) x) from hml]
    have esum : nI f + (3 + nI (mlN (S0 2) (S0 3) (S0 5) x)) = nI (f + lnN (S0 2) (S0 3) (S0 5) x) := by
      rw [show (3 : Int32) + nI (mlN (S0 2) (S0 3) (S0 5) x) = nI (3 + mlN (S0 2) (S0 3) (S0 5) x) from nI_add 3 _, nI_add]; rfl
    have e0 : 0 + (3 + nI (mlN (S0 2) (S0 3) (S0 5) x)) = nI (lnN (S0 2) (S0 3) (S0 5) x) := by
      rw [show (3 : Int32) + nI (mlN (S0 2) (S0 3) (S0 5) x) = nI (3 + mlN (S0 2) (S0 3) (S0 5) x) from nI_add 3 _]
      have : (0 : Int32) + nI (3 + mlN (S0 2) (S0 3) (S0 5) x) = nI (0 + (3 + mlN (S0 2) (S0 3) (S0 5) x)) := nI_add 0 _
      rw [this, Nat.zero_add]; rfl
    have hln : lnN (S0 2) (S0 3) (S0 5) x ≤ 47 := by unfold lnN; omega
    have hix : zm_ix (nI i) i 12 := zm_ixN (by omega) (by decide)
    have hix2 : zm_ix (zm_upA S0 12 mo 11 i) x 12 := by rw [h11']; exact zm_ixN hx12 (by decide)
    have hcmp : nI f + (3 + nI (mlN (S0 2) (S0 3) (S0 5) x)) ≤ 24 ↔ f + lnN (S0 2) (S0 3) (S0 5) x ≤ 24 := by
      rw [esum]; exact nI_leI (b := 24) (by omega) (by decide)
    refine s_Ed_assignModules_28 i x (fun _ => hix) (fun _ => hix2) (fun _ _ => hix) (fun _ _ => hix2) (fun _ _ => hix) (fun _ _ => hix2) (fun h => ?_) (fun _ h => ?_)
    · have hc : f + lnN (S0 2) (S0 3) (S0 5) x ≤ 24 := by
        rcases h with h | h
        · exact absurd h hi0
        · exact hcmp.mp h.2
      rw [esum, nI_1, zm_upA_up]
      refine ih (i + 1) _ l _ (by omega) (by omega) (by omega) (by omega) ?_
      rw [am_go, if_pos hc] at hq; exact hq
    · have hc : ¬ f + lnN (S0 2) (S0 3) (S0 5) x ≤ 24 := fun h' => h (hcmp.mpr h')
      rw [e0, nI_1, nI_1, zm_upA_up]
      refine ih (i + 1) _ (l + 1) _ (by omega) (by omega) (by omega) (by omega) ?_
      rw [am_go, if_neg hc] at hq; exact hq
theorem c_Ed_assignModules {d : Nat} {Q : zm_Q} {S0 : zm_S} {o : List Nat} (hO : OR S0 o) (hne : 0 < o.length) (hL : ∀ k, k < 12 → ∃ n, n ≤ 12 ∧ S0 5 k = nI n)
    (hq : Q (some (nI ((am (lnN (S0 2) (S0 3) (S0 5)) (S0 12) o).2 + 1))) GG (zm_upA S0 12 (am (lnN (S0 2) (S0 3) (S0 5)) (S0 12) o).1)) : zc M_Ed_assignModules (d + 2) [.ref 7, .ref 1] S0 Q := by
  have h12 := hO.2.1
  refine e_Ed_assignModules (s_Ed_assignModules_0 ?_)
  have hlt : ¬ S0 7 6 ≤ 0 := by rw [hO.1]; exact nI_nle hne (by omega)
  have hx : o[0]? = some o[0] := List.getElem?_eq_getElem hne
  have hcons : o = o[0] :: o.drop 1 := by rw [← List.drop_eq_getElem_cons hne]; rfl
  rw [show am (lnN (S0 2) (S0 3) (S0 5)) (S0 12) o = am (lnN (S0 2) (S0 3) (S0 5)) (S0 12) (o[0] :: o.drop 1) from congrArg _ hcons] at hq
  generalize o[0] = x at hx hq
  obtain ⟨h11, hx12⟩ := hO.2.2 0 x hx
  obtain ⟨hml, hmle⟩ := ml_N (K := S0 2) (P := S0 3) (hL x hx12)
  refine s_Ed_assignModules_7 0 (fun _ => zm_ixN (by decide) (by decide)) (fun h => absurd h hlt) (fun _ => ?_)
  rw [h11]
  refine c_Tree_messageLength hx12 ?_
  rw [hml]
  have esum : 0 + (3 + nI (mlN (S0 2) (S0 3) (S0 5) x)) = nI (lnN (S0 2) (S0 3) (S0 5) x) := by
    rw [show (3 : Int32) + nI (mlN (S0 2) (S0 3) (S0 5) x) = nI (3 + mlN (S0 2) (S0 3) (S0 5) x) from nI_add 3 _]
    have : (0 : Int32) + nI (3 + mlN (S0 2) (S0 3) (S0 5) x) = nI (0 + (3 + mlN (S0 2) (S0 3) (S0 5) x)) := nI_add 0 _
    rw [this, Nat.zero_add]; rfl
  have hix : zm_ix (0 : Int32) 0 12 := zm_ixN (by decide) (by decide)
  have hix2 : zm_ix (S0 11 0) x 12 := by rw [h11]; exact zm_ixN hx12 (by decide)
  have h00 : (0 : Int32) ≤ 0 := by decide
  have hln : lnN (S0 2) (S0 3) (S0 5) x ≤ 47 := by unfold lnN; omega
  refine s_Ed_assignModules_28 0 x (fun _ => hix) (fun _ => hix2) (fun _ _ => hix) (fun _ _ => hix2) (fun _ _ => hix) (fun _ _ => hix2) (fun _ => ?_) (fun h => absurd h00 h)
  rw [esum, show zm_up S0 12 x 0 = zm_upA S0 12 (upd (S0 12) x 0) from rfl]
  exact l_Ed_assignModules hO hL (o.length - 1) 1 (upd (S0 12) x 0) 0 _ (by omega) (by omega) (by omega) (by omega) hq
