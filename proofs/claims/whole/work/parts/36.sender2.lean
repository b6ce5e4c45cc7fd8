noncomputable def nsF (xs : List (List Int32)) (pos : Nat) : Nat := @dite _ (∃ v, isNs xs pos v) (Classical.propDecidable _) (fun h => h.choose) (fun _ => 0)
theorem nsF_eq {xs : List (List Int32)} {pos v : Nat} (h : isNs xs pos v) : v = nsF xs pos := by
  have hex : ∃ v, isNs xs pos v := ⟨v, h⟩
  unfold nsF
  rw [dif_pos hex]
  exact h.uniq hex.choose_spec
noncomputable def pkF (xs : List (List Int32)) (pos c : Nat) : Nat → Int32 := pkt xs.flatten pos (nsF xs pos) c
noncomputable def bhF (xs : List (List Int32)) (pos : Nat) : Nat := bhd xs.flatten.length pos (nsF xs pos)
noncomputable def npF (xs : List (List Int32)) (pos : Nat) : Nat := if bhF xs pos < xs.flatten.length then bhF xs pos else 0
theorem bhF_le {xs : List (List Int32)} {pos v : Nat} (h : isNs xs pos v) (hp : pos < xs.flatten.length) : bhF xs pos ≤ xs.flatten.length ∧ pos ≤ bhF xs pos := by
  unfold bhF
  rw [← nsF_eq h]
  have h1 := h.1.le
  have h2 := h.2.1
  unfold bhd
  split <;> omega
theorem npF_lt {xs : List (List Int32)} {pos : Nat} (h : 0 < xs.flatten.length) : npF xs pos < xs.flatten.length := by
  unfold npF
  split <;> omega
-- the reference builds a packet
theorem l_Md_fill {d : Nat} {Q : zm_Q} {S0 : zm_S} {r st n : Int32} (hx : ∀ S', (∀ a, a ≠ 42 → S' a = S0 a) → (∀ j, j < 16 → S' 42 j = 255) → zw M_Md_build (d + 1) Q 83 [some (.ref 27), some (.int r), some (.int st), none, none, none, some (.int n), some (.int (nI 16)), none] [] S') : ∀ (t i : Nat) (S : zm_S), i + t = 16 → (∀ a, a ≠ 42 → S a = S0 a) → (∀ j, j < i → S 42 j = 255) → zw M_Md_build (d + 1) Q 83 [some (.ref 27), some (.int r), some (.int st), none, none, none, some (.int n), some (.int (nI i)), none] [] S := by
  intro t
  induction t with
  | zero =>
    intro i S hi h1 h2
    have : i = 16 := by omega
    subst this
    exact hx S h1 h2
  | succ t ih =>
    intro i S hi h1 h2
    have hlt : ¬ (16 : Int32) ≤ nI i := nI_ge (b := 16) (by omega) (by decide)
    refine s_Md_build_83 i (fun _ => zm_ixN (by omega) (by decide)) (fun h => absurd h hlt) (fun h => absurd h hlt) (fun _ => ?_)
    rw [nI_1]
    refine ih (i + 1) _ (by omega) (fun a ha => by rw [zm_up_ne _ _ _ ha]; exact h1 a ha) (fun j hj => ?_)
    rw [zm_up_self]
    by_cases hji : j = i
    · subst hji; rw [upd_self]
    · rw [upd_ne _ _ hji]; exact h2 j (by omega)
theorem l_Md_bcopy {d : Nat} {Q : zm_Q} {S0 : zm_S} {l : List Int32} {pos fr n : Nat} (h19 : S0 27 19 = nI pos) (h40 : ∀ i, i < l.length → S0 40 i = l.getD i 0) (hT : l.length ≤ 700) (hn : pos + n ≤ l.length) (hf : fr + n ≤ 16)
    (hq : ∀ S', (∀ a, a ≠ 42 → S' a = S0 a) → (∀ j, (j < fr ∨ fr + n ≤ j) → S' 42 j = S0 42 j) → (∀ j, fr ≤ j → j < fr + n → S' 42 j = l.getD (pos + (j - fr)) 0) → Q (some (nI n)) GG S') : ∀ (t i : Nat) (S : zm_S), i + t = n → (∀ a, a ≠ 42 → S a = S0 a) → (∀ j, (j < fr ∨ fr + i ≤ j) → S 42 j = S0 42 j) → (∀ j, fr ≤ j → j < fr + i → S 42 j = l.getD (pos + (j - fr)) 0) →
    zw M_Md_build (d + 1) Q 166 [some (.ref 27), none, none, none, none, none, some (.int (nI n)), some (.int (nI fr)), some (.int (nI i))] [] S := by
  intro t
  induction t with
  | zero =>
    intro i S hi h1 h2 h3
    have : i = n := by omega
    subst this
    have hle : nI i ≤ nI i := Int32.le_refl _
    exact s_Md_build_166 0 0 (fun h => absurd hle h) (fun h => absurd hle h) (fun _ => hq S h1 h2 h3) (fun h => absurd hle h)
  | succ t ih =>
    intro i S hi h1 h2 h3
    have hlt : ¬ nI n ≤ nI i := nI_ge (by omega) (by omega)
    have e19 : S 27 19 = nI pos := by rw [h1 27 (by decide)]; exact h19
    refine s_Md_build_166 (pos + i) (fr + i) (fun _ => ?_) (fun _ => ?_) (fun h => absurd h hlt) (fun _ => ?_)
    · rw [e19, nI_add]; exact zm_ixN (by omega) (by decide)
    · rw [nI_add]; exact zm_ixN (by omega) (by decide)
    · rw [nI_1]
      have e40 : S 40 (pos + i) = l.getD (pos + i) 0 := by rw [h1 40 (by decide)]; exact h40 _ (by omega)
      rw [e40]
      refine ih (i + 1) _ (by omega) (fun a ha => by rw [zm_up_ne _ _ _ ha]; exact h1 a ha) (fun j hj => ?_) (fun j hj1 hj2 => ?_)
      · rw [zm_up_self, upd_ne _ _ (by omega)]; exact h2 j (by omega)
      · rw [zm_up_self]
        by_cases hji : j = fr + i
        · subst hji; rw [upd_self]; congr 1; omega
        · rw [upd_ne _ _ hji]; exact h3 j hj1 (by omega)
theorem c_Md_build {d : Nat} {Q : zm_Q} {S : zm_S} {xs : List (List Int32)} {pos c : Nat} (hR : RCr S xs) (hX : XS xs) (hp : pos < xs.flatten.length) (hc : c < 16) (h19 : S 27 19 = nI pos) (h20 : S 27 20 = nI c)
    (hq : ∀ S', (∃ v, isNs xs pos v) → (∀ a, a ≠ 42 → S' a = S a) → (∀ i, i < 16 → S' 42 i = pkF xs pos c i) → Q (some (nI (bhF xs pos - pos))) GG S') : zc M_Md_build (d + 1) [.ref 27] S Q := by
  have h700 := hX.2.1
  refine e_Md_build (s_Md_build_0 ?_)
  refine c_Md_rest hR hX hp h19 (fun v hv => ?_)
  have hvT : v ≤ xs.flatten.length := hv.1.le
  have hpv := hv.2.1
  have hvF := nsF_eq hv
  have c12 : 12 < nI (v - pos) ↔ 12 < v - pos := nI_ltI (a := 12) (by decide) (by omega)
  have c14 : 14 ≤ nI (v - pos) ↔ 14 ≤ v - pos := nI_leI (a := 14) (by decide) (by omega)
  have cT : S 27 17 ≤ S 27 19 + nI (v - pos) ↔ xs.flatten.length ≤ v := by
    rw [hR.1, h19, nI_add, nI_leI (by omega) (by omega)]; omega
  have eL : S 27 17 - S 27 19 = nI (xs.flatten.length - pos) := by rw [hR.1, h19, pk_sub (by omega)]
  have c13 : 13 ≤ S 27 17 - S 27 19 ↔ 13 ≤ xs.flatten.length - pos := by rw [eL]; exact nI_leI (a := 13) (by decide) (by omega)
  have hle16 : (16 : Int32) ≤ nI 16 := by decide
  -- not a start
  have goN : pst xs.flatten.length pos v = false → zw M_Md_build (d + 1) Q 83 [some (.ref 27), some (.int (nI (v - pos))), some (.int 0), none, none, none, some (.int (nI (min 14 (v - pos)))), some (.int 0), none] [] S := by
    intro hst
    refine l_Md_fill (S0 := S) (fun S' g1 g2 => ?_) 16 0 S (by omega) (fun _ _ => rfl) (fun j hj => by omega)
    refine s_Md_build_83 0 (fun h => absurd hle16 h) (fun _ _ => ?_) (fun _ h => absurd rfl h) (fun h => absurd hle16 h)
    refine l_Md_bcopy (l := xs.flatten) (pos := pos) (fr := 2) (n := min 14 (v - pos)) (S0 := zm_up (zm_up (zm_up S' 42 0 71) 42 1 (S' 27 20 + 0)) 42 2 255) (show S' 27 19 = _ by rw [g1 27 (by decide)]; exact h19) (fun i hi => by show S' 40 i = _; rw [g1 40 (by decide)]; exact hR.2.1 i hi) h700 (by omega) (by omega) (fun S2 k1 k2 k3 => ?_) (min 14 (v - pos)) 0 _ (by omega) (fun _ _ => rfl) (fun _ _ => rfl) (fun j a b => by omega)
    have hb : bhF xs pos - pos = min 14 (v - pos) := by
      unfold bhF
      rw [← hvF]
      unfold bhd
      rw [hst]
      simp only [Bool.false_eq_true, if_false]
      omega
    rw [← hb]
    refine hq S2 ⟨v, hv⟩ (fun a ha => by rw [k1 a ha, zm_up_ne _ _ _ ha, zm_up_ne _ _ _ ha, zm_up_ne _ _ _ ha, g1 a ha]) (fun i hi => ?_)
    unfold pkF
    rw [← hvF]
    unfold pkt
    rw [hst]
    simp only [Bool.false_eq_true, if_false]
    by_cases hi0 : i = 0
    · subst hi0; rw [if_pos rfl, k2 0 (by omega)]; rfl
    · rw [if_neg hi0]
      by_cases hi1 : i = 1
      · subst hi1; rw [if_pos rfl, k2 1 (by omega)]
        show S' 27 20 + 0 = _
        rw [g1 27 (by decide), h20]
        show nI c + nI 0 = _
        rw [nI_add, Nat.add_zero]
      · rw [if_neg hi1]
        by_cases hin : pos + (i - 2) < v
        · rw [if_pos hin]
          exact k3 i (by omega) (by omega)
        · rw [if_neg hin, k2 i (by omega)]
          by_cases hi2 : i = 2
          · subst hi2; rfl
          · show upd (upd (upd (S' 42) 0 71) 1 _) 2 255 i = _
            rw [upd_ne _ _ hi2, upd_ne _ _ hi1, upd_ne _ _ hi0]
            exact g2 i hi
  have goS : pst xs.flatten.length pos v = true → zw M_Md_build (d + 1) Q 83 [some (.ref 27), some (.int (nI (v - pos))), some (.int 1), none, none, none, some (.int (nI (min 13 (xs.flatten.length - pos)))), some (.int 0), none] [] S := by
    intro hst
    refine l_Md_fill (S0 := S) (fun S' g1 g2 => ?_) 16 0 S (by omega) (fun _ _ => rfl) (fun j hj => by omega)
    refine s_Md_build_83 0 (fun h => absurd hle16 h) (fun _ h => absurd h (by decide)) (fun _ _ => ?_) (fun h => absurd hle16 h)
    refine l_Md_bcopy (l := xs.flatten) (pos := pos) (fr := 3) (n := min 13 (xs.flatten.length - pos)) (S0 := zm_up (zm_up (zm_up S' 42 0 71) 42 1 (S' 27 20 + 64)) 42 2 (nI (v - pos))) (show S' 27 19 = _ by rw [g1 27 (by decide)]; exact h19) (fun i hi => by show S' 40 i = _; rw [g1 40 (by decide)]; exact hR.2.1 i hi) h700 (by omega) (by omega) (fun S2 k1 k2 k3 => ?_) (min 13 (xs.flatten.length - pos)) 0 _ (by omega) (fun _ _ => rfl) (fun _ _ => rfl) (fun j a b => by omega)
    have hb : bhF xs pos - pos = min 13 (xs.flatten.length - pos) := by
      unfold bhF
      rw [← hvF]
      unfold bhd
      rw [hst]
      simp only [if_true]
      omega
    rw [← hb]
    refine hq S2 ⟨v, hv⟩ (fun a ha => by rw [k1 a ha, zm_up_ne _ _ _ ha, zm_up_ne _ _ _ ha, zm_up_ne _ _ _ ha, g1 a ha]) (fun i hi => ?_)
    unfold pkF
    rw [← hvF]
    unfold pkt
    rw [hst]
    simp only [if_true]
    by_cases hi0 : i = 0
    · subst hi0; rw [if_pos rfl, k2 0 (by omega)]; rfl
    · rw [if_neg hi0]
      by_cases hi1 : i = 1
      · subst hi1; rw [if_pos rfl, k2 1 (by omega)]
        show S' 27 20 + 64 = _
        rw [g1 27 (by decide), h20]
        exact nI_add c 64
      · rw [if_neg hi1]
        by_cases hi2 : i = 2
        · subst hi2; rw [if_pos rfl, k2 2 (by omega)]; rfl
        · rw [if_neg hi2]
          by_cases hin : pos + (i - 3) < xs.flatten.length
          · rw [if_pos hin]
            exact k3 i (by omega) (by omega)
          · rw [if_neg hin, k2 i (by omega)]
            show upd (upd (upd (S' 42) 0 71) 1 _) 2 _ i = _
            rw [upd_ne _ _ hi2, upd_ne _ _ hi1, upd_ne _ _ hi0]
            exact g2 i hi
  have hstf : (12 < nI (v - pos) ∨ S 27 17 ≤ S 27 19 + nI (v - pos)) → pst xs.flatten.length pos v = false := by
    intro h
    unfold pst
    rw [decide_eq_false_iff_not]
    rintro ⟨x1, x2⟩
    rcases h with h | h
    · have := c12.mp h; omega
    · have := cT.mp h; omega
  have hstt : ¬ 12 < nI (v - pos) → ¬ S 27 17 ≤ S 27 19 + nI (v - pos) → pst xs.flatten.length pos v = true := by
    intro h1 h2
    unfold pst
    rw [decide_eq_true_iff]
    refine ⟨?_, ?_⟩
    · have : ¬ 12 < v - pos := fun x => h1 (c12.mpr x)
      omega
    · have : ¬ xs.flatten.length ≤ v := fun x => h2 (cT.mpr x)
      omega
  refine s_Md_build_4 (fun h => ?_) (fun h => ?_) (fun h1 h2 h3 => ?_) (fun h1 h2 h3 => ?_)
  · have hst := hstf (by rcases h with h | h; exact Or.inl h.1; exact Or.inr h.2.1)
    have h14 : 14 ≤ v - pos := c14.mp (by rcases h with h | h; exact h.2; exact h.2.2)
    have := goN hst
    rw [show min 14 (v - pos) = 14 by omega] at this
    exact this
  · have hst := hstf (by rcases h with h | h; exact Or.inl h.1; exact Or.inr h.2.1)
    have h14 : ¬ 14 ≤ v - pos := fun x => (show ¬ 14 ≤ nI (v - pos) by rcases h with h | h; exact h.2; exact h.2.2) (c14.mpr x)
    have := goN hst
    rw [show min 14 (v - pos) = v - pos by omega] at this
    exact this
  · have := goS (hstt h1 h2)
    have h13 := c13.mp h3
    rw [show min 13 (xs.flatten.length - pos) = 13 by omega] at this
    exact this
  · have := goS (hstt h1 h2)
    have h13 : ¬ 13 ≤ xs.flatten.length - pos := fun x => h3 (c13.mpr x)
    rw [show min 13 (xs.flatten.length - pos) = xs.flatten.length - pos by omega] at this
    rw [eL]
    exact this
theorem c_Md_sent {d : Nat} {Q : zm_Q} {S : zm_S} {xs : List (List Int32)} {pos c : Nat} (hR : RCr S xs) (hX : XS xs) (hp : pos < xs.flatten.length) (hc : c < 16) (h19 : S 27 19 = nI pos) (h20 : S 27 20 = nI c)
    (hq : ∀ S', (∀ a, a ≠ 42 → a ≠ 27 → S' a = S a) → S' 27 = upd (upd (S 27) 19 (nI (npF xs pos))) 20 (nI ((c + 1) % 16)) → (∀ i, i < 16 → S' 42 i = pkF xs pos c i) → Q none GG S') : zc M_Md_sent (d + 2) [.ref 27] S Q := by
  have h700 := hX.2.1
  refine e_Md_sent (s_Md_sent_0 ?_)
  refine c_Md_build hR hX hp hc h19 h20 (fun S' hv g1 g2 => ?_)
  obtain ⟨v, hv⟩ := hv
  obtain ⟨hb1, hb2⟩ := bhF_le hv hp
  have e19 : S' 27 19 = nI pos := by rw [g1 27 (by decide)]; exact h19
  have e20 : S' 27 20 = nI c := by rw [g1 27 (by decide)]; exact h20
  have e17 : S' 27 17 = nI xs.flatten.length := by rw [g1 27 (by decide)]; exact hR.1
  have esum : S' 27 19 + nI (bhF xs pos - pos) = nI (bhF xs pos) := by rw [e19, nI_add]; congr 1; omega
  have ec : S' 27 20 + 1 - (S' 27 20 + 1) / 16 * 16 = nI ((c + 1) % 16) := by
    rw [e20, nI_1]; exact pk_rem (d := 16) (by omega) (by decide) (by decide)
  have hiff : S' 27 19 + nI (bhF xs pos - pos) = S' 27 17 ↔ bhF xs pos = xs.flatten.length := by
    rw [esum, e17]; exact nI_eq (by omega) (by omega)
  have fin : ∀ x : Int32, x = nI (npF xs pos) → Q none GG (zm_up (zm_up S' 27 19 x) 27 20 (nI ((c + 1) % 16))) := by
    intro x hx
    subst hx
    refine hq _ (fun a a1 a2 => by rw [zm_up_ne _ _ _ a2, zm_up_ne _ _ _ a2]; exact g1 a a1) ?_ (fun i hi => by rw [zm_up_ne _ _ _ (by decide), zm_up_ne _ _ _ (by decide)]; exact g2 i hi)
    rw [zm_up_self, zm_up_self, g1 27 (by decide)]
  refine s_Md_sent_4 (fun h => ?_) (fun h => ?_)
  · rw [ec, esum]
    refine fin _ ?_
    unfold npF
    have : ¬ bhF xs pos = xs.flatten.length := fun x => h (hiff.mpr x)
    rw [if_pos (by omega)]
  · rw [ec]
    refine fin _ ?_
    unfold npF
    have := hiff.mp h
    rw [if_neg (by omega)]; rfl
-- the class's sender
def SNc (S : zm_S) (xs : List (List Int32)) (pos c : Nat) : Prop := pos < xs.flatten.length ∧ c < 16 ∧ S 14 3 = nI pos ∧ S 14 2 = nI c ∧ S 14 4 = nI (bhF xs pos) ∧ (∀ i, i < 16 → S 15 i = pkF xs pos c i) ∧ ∃ v, isNs xs pos v
theorem c_Sn_advance {d : Nat} {Q : zm_Q} {S : zm_S} {xs : List (List Int32)} {pos c : Nat} (hR : RCc S xs) (hX : XS xs) (hp : pos < xs.flatten.length) (hc : c < 16) (h3 : S 14 3 = nI pos) (h2 : S 14 2 = nI c) (h4 : S 14 4 = nI (bhF xs pos)) (hv : ∃ v, isNs xs pos v)
    (hq : ∀ S', (∀ a, a ≠ 14 → a ≠ 15 → S' a = S a) → (∀ i, i < 2 → S' 14 i = S 14 i) → SNc S' xs (npF xs pos) ((c + 1) % 16) → Q none GG S') : zc M_Sn_advance (d + 2) [.ref 14] S Q := by
  have h700 := hX.2.1
  obtain ⟨v, hv⟩ := hv
  obtain ⟨hb1, hb2⟩ := bhF_le hv hp
  have ec : (S 14 2 + 1) &&& 15 = nI ((c + 1) % 16) := by
    rw [h2, nI_1]; exact pk_andN (by omega) 4 (by decide)
  have cT : S 16 1 ≤ S 14 4 ↔ xs.flatten.length ≤ bhF xs pos := by rw [hR.1, h4]; exact nI_leI (by omega) (by omega)
  have fin : ∀ x : Int32, x = nI (npF xs pos) → zc M_Sn_prepare (d + 1) [.ref 14] (zm_up (zm_up S 14 2 (nI ((c + 1) % 16))) 14 3 x) (fun v G' S' => zm_WP M_Sn_advance none (d + 2) 0 0 Q 43 [none] (zm_ps v []) G' S' 0 0) := by
    intro x hx
    subst hx
    refine c_Sn_prepare (xs := xs) (pos := npF xs pos) (c := (c + 1) % 16) hR hX (npF_lt (by omega)) (by omega) ?_ ?_ (fun S' v' hv' g1 g2 g3 => ?_)
    · rw [zm_up_self]; exact upd_self _ _ _
    · rw [zm_up_self, zm_up_self]; rfl
    · refine s_Sn_advance_43 ?_
      have hvF := nsF_eq hv'
      rw [zm_up_self, zm_up_self] at g2
      refine hq S' (fun a a1 a2 => by rw [g1 a a1 a2, zm_up_ne _ _ _ a1, zm_up_ne _ _ _ a1]) (fun i hi => ?_) ⟨npF_lt (by omega), by omega, ?_, ?_, ?_, ?_, v', hv'⟩
      · rw [g2, upd_ne _ _ (by omega), upd_ne _ _ (by omega), upd_ne _ _ (by omega)]
      · rw [g2]; rfl
      · rw [g2]; rfl
      · rw [g2, upd_self]; unfold bhF; rw [hvF]
      · intro i hi
        rw [g3 i hi]; unfold pkF; rw [hvF]
  refine e_Sn_advance (s_Sn_advance_0 (fun h => ?_) (fun h => ?_))
  · rw [ec]
    refine fin _ ?_
    unfold npF
    have := cT.mp h
    rw [if_neg (by omega)]; rfl
  · rw [ec, h4]
    refine fin _ ?_
    unfold npF
    have : ¬ xs.flatten.length ≤ bhF xs pos := fun x => h (cT.mpr x)
    rw [if_pos (by omega)]
