-- the mount: what stands in the way of a module
theorem bits_bound {h n : Nat} (hb : ∀ b, b < 6 → h.testBit b = true → b < n) : ∀ t, t ≤ 6 → bits h t ≤ n
  | 0, _ => Nat.zero_le _
  | t + 1, ht => by
    have h1 := bits_bound hb t (by omega)
    have h2 := bits_le h t
    unfold bits
    split
    · rename_i hx
      have := hb t (by omega) hx
      omega
    · omega
def OB (S : zm_S) (b : Nat) (r : Int32) : Prop := (S 20 0 = 0 ∧ r = -6) ∨ (¬ S 20 0 = 0 ∧ (12 ≤ b ∨ (b < 12 ∧ S 21 b = 0)) ∧ r = -2) ∨ (¬ S 20 0 = 0 ∧ ∃ z h, b < 12 ∧ 1 ≤ z ∧ z ≤ 48 ∧ S 21 b = nI z ∧ h < 64 ∧ S 23 b = nI h ∧ ((bits h 6 = (z + 7) / 8 ∧ r = 0) ∨ (¬ bits h 6 = (z + 7) / 8 ∧ r = -6)))
theorem c_Mt_obstacle {d : Nat} {Q : zm_Q} {S : zm_S} {b : Nat} (hW : RW S S) (hb : b ≤ 255) (hq : ∀ r, OB S b r → Q (some r) GG S) : zc M_Mt_obstacle (d + 2) [.ref 20, .int (nI b)] S Q := by
  obtain ⟨w1, w2, w3, w4, w5, w6, w7⟩ := hW
  refine e_Mt_obstacle ?_
  by_cases h20 : S 20 0 = 0
  · exact s_Mt_obstacle_0 0 (fun h => absurd h20 h) (fun h => absurd h20 h) (fun h => absurd h20 h) (fun _ => hq _ (Or.inl ⟨h20, rfl⟩))
  have nn : ¬ nI b < 0 := nI_pos (by omega)
  have c12 : 12 ≤ nI b ↔ 12 ≤ b := nI_leI (a := 12) (by decide) (by omega)
  by_cases hb12 : 12 ≤ b
  · have g12 := c12.mpr hb12
    exact s_Mt_obstacle_0 0 (fun _ _ h => absurd g12 h) (fun _ _ => hq _ (Or.inr (Or.inl ⟨h20, Or.inl hb12, rfl⟩))) (fun _ _ h => absurd g12 h) (fun h => absurd h h20)
  have hlt : b < 12 := by omega
  have n12 : ¬ 12 ≤ nI b := fun x => hb12 (c12.mp x)
  have hix : zm_ix (nI b) b 12 := zm_ixN hlt (by decide)
  rcases w5 b hlt with ⟨q1, q2, q3, q4, q5⟩ | ⟨z, w, hh, q1, q2, q3, q4, q5, q6, q7, q8, q9, q10, q11, q12⟩
  · refine s_Mt_obstacle_0 b (fun _ _ _ => hix) (fun _ _ => hq _ (Or.inr (Or.inl ⟨h20, Or.inr ⟨hlt, q1⟩, rfl⟩))) (fun _ _ _ h => ?_) (fun h => absurd h h20)
    rw [q1] at h
    exact absurd (Int32.le_refl _) h
  · refine s_Mt_obstacle_0 b (fun _ _ _ => hix) (fun _ h => ?_) (fun _ _ _ _ => ?_) (fun h => absurd h h20)
    · exfalso
      rcases h with h | h | h
      · exact nn h
      · exact n12 h.2
      · have := h.2.2
        rw [q5] at this
        have := (nI_le0 (by omega)).mp this
        omega
    · refine c_Mt_blocksHeld hlt q4 q10 ?_
      have eb : (S 21 b + 8 - 1) / 8 = nI ((z + 7) / 8) := by
        rw [q5, show nI z + 8 = nI (z + 8) from nI_add _ 8, show nI (z + 8) - 1 = nI (z + 7) from nI_pred _]
        exact pk_div (d := 8) (by omega) (by decide) (by decide)
      have hbl := bits_le hh 6
      have ce : nI (bits hh 6) = (S 21 b + 8 - 1) / 8 ↔ bits hh 6 = (z + 7) / 8 := by rw [eb]; exact nI_eq (by omega) (by omega)
      exact s_Mt_obstacle_26 b hix (fun h => hq _ (Or.inr (Or.inr ⟨h20, z, hh, hlt, q1, q2, q5, q4, q10, Or.inr ⟨fun x => h (ce.mpr x), rfl⟩⟩))) (fun h => hq _ (Or.inr (Or.inr ⟨h20, z, hh, hlt, q1, q2, q5, q4, q10, Or.inl ⟨ce.mp h, rfl⟩⟩)))
theorem c_Md_ready {d : Nat} {Q : zm_Q} {S : zm_S} {b : Nat} {r : Int32} (hW : RW S S) (hb : b ≤ 255) (hO : OB S b r) (hq : Q (some r) GG S) : zc M_Md_ready (d + 1) [.ref 27, .int (nI b)] S Q := by
  obtain ⟨w1, w2, w3, w4, w5, w6, w7⟩ := hW
  have cl : 0 ≤ S 27 22 ↔ ¬ S 20 0 = 0 := by
    rcases w4 with ⟨h1, h2⟩ | ⟨h1, h2, t, ht, h3⟩
    · rw [h1, h2]; decide
    · rw [h1, h2, h3]
      exact ⟨fun _ => by decide, fun _ => nI_le (a := 0) (by omega) (by omega)⟩
  refine e_Md_ready ?_
  have c11 : 11 < nI b ↔ 11 < b := nI_ltI (a := 11) (by decide) (by omega)
  rcases hO with ⟨h20, rfl⟩ | ⟨h20, hm, rfl⟩ | ⟨h20, z, h, hlt, z1, z2, e21, hh, e23, hr⟩
  · have n0 : ¬ 0 ≤ S 27 22 := fun x => cl.mp x h20
    refine s_Md_ready_0 0 (fun x => absurd x n0) (fun x => ?_) (fun x => absurd x n0) (fun _ => hq)
    rcases x with x | x <;> exact absurd x.1 n0
  · have p0 : 0 ≤ S 27 22 := cl.mpr h20
    rcases hm with hm | ⟨hm, e21⟩
    · have g11 := c11.mpr (by omega)
      exact s_Md_ready_0 0 (fun _ x => absurd g11 x) (fun _ => hq) (fun _ x => absurd g11 x) (fun x => absurd p0 x)
    · have n11 : ¬ 11 < nI b := fun x => by have := c11.mp x; omega
      have e43 : S 43 b = 0 := by
        rcases w5 b hm with ⟨q1, q2, q3, q4, q5⟩ | ⟨z, w, hh, q1, q2, q3, q4, q5, _⟩
        · exact q4
        · rw [e21] at q5
          have := (nI_eq0 (by omega)).mp q5.symm
          omega
      exact s_Md_ready_0 b (fun _ _ => zm_ixN hm (by decide)) (fun _ => hq) (fun _ _ x => absurd e43 x) (fun x => absurd p0 x)
  · have p0 : 0 ≤ S 27 22 := cl.mpr h20
    have n11 : ¬ 11 < nI b := fun x => by have := c11.mp x; omega
    rcases w5 b hlt with ⟨q1, q2, q3, q4, q5⟩ | ⟨z', w, hh', q1, q2, q3, q4, q5, q6, q7, q8, q9, q10, q11, q12⟩
    · rw [q1] at e21
      have := (nI_eq0 (by omega)).mp e21.symm
      omega
    · have ez : z' = z := (nI_eq (by omega) (by omega)).mp (q5.symm.trans e21)
      have eh : hh' = h := (nI_eq (by omega) (by omega)).mp (q10.symm.trans e23)
      subst ez
      subst eh
      have hix : zm_ix (nI b) b 12 := zm_ixN hlt (by decide)
      refine s_Md_ready_0 b (fun _ _ => hix) (fun x => ?_) (fun _ _ _ => ?_) (fun x => absurd p0 x)
      · exfalso
        rcases x with x | x
        · exact n11 x.2
        · have := x.2.2
          rw [q9] at this
          exact absurd this (by decide)
      · refine c_Md_heldOf hlt q11 ?_
        have hbl := bits_le hh' 6
        have hbb := bits_bound q12 6 (by omega)
        have cm : 8 * nI (bits hh' 6) < S 45 b ↔ 8 * bits hh' 6 < z' := by
          rw [q6, show (8 : Int32) * nI (bits hh' 6) = nI (8 * bits hh' 6) from pk_mul 8 _]; exact nI_ltI (by omega) (by omega)
        refine s_Md_ready_35 b hix (fun x => ?_) (fun x => ?_)
        · have g := cm.mp x
          rcases hr with ⟨h1, rfl⟩ | ⟨h1, rfl⟩
          · omega
          · exact hq
        · have g : ¬ 8 * bits hh' 6 < z' := fun y => x (cm.mpr y)
          rcases hr with ⟨h1, rfl⟩ | ⟨h1, rfl⟩
          · exact hq
          · omega
-- a message with a key is looked for
def St (f : Nat → Int32) (m z at_ : Nat) : Prop := ∃ L, L ≤ 255 ∧ f (48 * m + at_ + 2) = nI L ∧ at_ + 3 + L ≤ z
def SC (f : Nat → Int32) (m z : Nat) (key : Int32) : Nat → Nat → Int32 → Prop
  | 0, _, r => r = -2
  | n + 1, at_, r => (¬ St f m z at_ ∧ r = -2) ∨ ∃ L, L ≤ 255 ∧ f (48 * m + at_ + 2) = nI L ∧ at_ + 3 + L ≤ z ∧ ((f (48 * m + at_ + 1) = key ∧ r = nI (48 * m + at_)) ∨ (¬ f (48 * m + at_ + 1) = key ∧ SC f m z key n (at_ + 3 + L) r))
def VP (f : Nat → Int32) (p : Nat) : Prop := ∃ L, L ≤ 255 ∧ f (p + 2) = nI L ∧ p + 3 + L ≤ 576
def PV (f : Nat → Int32) (r : Int32) : Prop := r = -2 ∨ r = -6 ∨ ∃ p, VP f p ∧ r = nI p
theorem SC.pv {f : Nat → Int32} {m z : Nat} {key : Int32} (hm : m < 12) (hz : z ≤ 48) : ∀ {n at_ : Nat} {r : Int32}, SC f m z key n at_ r → PV f r
  | 0, _, _, h => Or.inl h
  | n + 1, at_, r, h => by
    rcases h with ⟨_, h⟩ | ⟨L, hL, e, hl, h | h⟩
    · exact Or.inl h
    · exact Or.inr (Or.inr ⟨48 * m + at_, ⟨L, hL, e, by omega⟩, h.2⟩)
    · exact SC.pv hm hz h.2
theorem l_Mt_messageWithKey {d : Nat} {Q : zm_Q} {S : zm_S} {m z : Nat} {key : Int32} (hm : m < 12) (hz : z ≤ 48) (hB : ∀ i, isB (S 24 i)) : ∀ (n at_ i : Nat), 48 ≤ at_ + 3 * n → at_ ≤ z → 3 * i ≤ at_ → (∀ r, SC (S 24) m z key n at_ r → Q (some r) GG S) → zw M_Mt_messageWithKey (d + 3) Q 32 [some (.ref 20), none, some (.int key), none, some (.int (nI (48 * m + at_))), some (.int (nI (48 * m + z))), some (.int (nI i))] [] S := by
  intro n
  have e3 : ∀ x, nI x + 3 = nI (x + 3) := fun x => nI_add x 3
  have e2 : ∀ x, nI x + 2 = nI (x + 2) := fun x => nI_add x 2
  induction n with
  | zero =>
    intro at_ i h1 h2 h3 hq
    have n48 : ¬ (48 : Int32) ≤ nI i := nI_ge (b := 48) (by omega) (by decide)
    have lt : nI (48 * m + z) < nI (48 * m + at_) + 3 := by rw [e3]; exact (nI_ltI (by omega) (by omega)).mpr (by omega)
    exact s_Mt_messageWithKey_32 0 0 (fun _ h => absurd lt h) (fun _ h => absurd lt h) (fun _ h => absurd lt h) (fun _ => hq _ rfl) (fun _ h => absurd lt h) (fun _ h => absurd lt h)
  | succ n ih =>
    intro at_ i h1 h2 h3 hq
    have n48 : ¬ (48 : Int32) ≤ nI i := nI_ge (b := 48) (by omega) (by decide)
    have c3 : nI (48 * m + z) < nI (48 * m + at_) + 3 ↔ z < at_ + 3 := by
      have h' : nI (48 * m + z) < nI (48 * m + at_ + 3) ↔ 48 * m + z < 48 * m + at_ + 3 := nI_ltI (by omega) (by omega)
      rw [e3, h']; omega
    by_cases hz3 : z < at_ + 3
    · have lt := c3.mpr hz3
      refine s_Mt_messageWithKey_32 0 0 (fun _ h => absurd lt h) (fun _ h => absurd lt h) (fun _ h => absurd lt h) (fun _ => hq _ (Or.inl ⟨?_, rfl⟩)) (fun _ h => absurd lt h) (fun _ h => absurd lt h)
      rintro ⟨L, _, _, hl⟩
      omega
    · obtain ⟨L, hL, eL⟩ := hB (48 * m + at_ + 2)
      have cL : nI (48 * m + z) < nI (48 * m + at_) + 3 + S 24 (48 * m + at_ + 2) ↔ z < at_ + 3 + L := by
        have h' : nI (48 * m + z) < nI (48 * m + at_ + 3 + L) ↔ 48 * m + z < 48 * m + at_ + 3 + L := nI_ltI (by omega) (by omega)
        rw [eL, e3, nI_add, h']; omega
      have i2 : zm_ix (nI (48 * m + at_) + 2) (48 * m + at_ + 2) 576 := by rw [e2]; exact zm_ixN (by omega) (by decide)
      have i1 : zm_ix (nI (48 * m + at_) + 1) (48 * m + at_ + 1) 576 := by rw [nI_1]; exact zm_ixN (by omega) (by decide)
      refine s_Mt_messageWithKey_32 (48 * m + at_ + 2) (48 * m + at_ + 1) (fun _ _ => i2) (fun _ _ _ => i1) (fun _ _ _ _ => i2) (fun h => hq _ (Or.inl ⟨?_, rfl⟩)) (fun _ _ h4 h5 => ?_) (fun _ _ h4 h5 => ?_)
      · rintro ⟨L', hL', eL', hl⟩
        have : L' = L := (nI_eq (by omega) (by omega)).mp (eL'.symm.trans eL)
        subst this
        rcases h with h | ⟨_, h | h⟩
        · exact n48 h
        · exact hz3 (c3.mp h)
        · have := cL.mp h.2; omega
      · have hl : at_ + 3 + L ≤ z := by
          have : ¬ z < at_ + 3 + L := fun x => h4 (cL.mpr x)
          omega
        rw [eL, show (3 : Int32) + nI L = nI (3 + L) from nI_add 3 L, nI_add, nI_1, show 48 * m + at_ + (3 + L) = 48 * m + (at_ + 3 + L) by omega]
        exact ih (at_ + 3 + L) (i + 1) (by omega) hl (by omega) (fun r hr => hq r (Or.inr ⟨L, hL, eL, hl, Or.inr ⟨h5, hr⟩⟩))
      · have hl : at_ + 3 + L ≤ z := by
          have : ¬ z < at_ + 3 + L := fun x => h4 (cL.mpr x)
          omega
        exact hq _ (Or.inr ⟨L, hL, eL, hl, Or.inl ⟨h5, rfl⟩⟩)
theorem l_Md_first {d : Nat} {Q : zm_Q} {S : zm_S} {m z : Nat} {key r : Int32} (hm : m < 12) (hz : z ≤ 48) (hk : ¬ key < 0) (hB : ∀ i, isB (S 24 i)) (h47 : S 47 = S 24) (h45 : S 45 m = nI z) (hq : Q (some r) GG S) : ∀ (n at_ : Nat), 48 ≤ at_ + 3 * n → at_ ≤ z → SC (S 24) m z key n at_ r → zw M_Md_first (d + 1) Q 2 [some (.ref 27), some (.int (nI m)), some (.int key), some (.int (nI at_))] [] S := by
  intro n
  have e3 : ∀ x, nI x + 3 = nI (x + 3) := fun x => nI_add x 3
  have e2 : ∀ x, nI x + 2 = nI (x + 2) := fun x => nI_add x 2
  have hix : zm_ix (nI m) m 12 := zm_ixN hm (by decide)
  have e48 : ∀ x, 48 * nI m + nI x = nI (48 * m + x) := fun x => by rw [show (48 : Int32) * nI m = nI (48 * m) from pk_mul 48 m, nI_add]
  induction n with
  | zero =>
    intro at_ h1 h2 hS
    have lt : S 45 m < nI at_ + 3 := by rw [h45, e3]; exact (nI_ltI (by omega) (by omega)).mpr (by omega)
    have : r = -2 := hS
    subst this
    refine s_Md_first_2 m 0 0 hix (fun h => absurd lt h) (fun h => absurd lt h) (fun h => absurd lt h) (fun _ => hq) (fun h => ?_) (fun h => absurd lt h)
    rcases h with h | h <;> exact absurd lt h.1
  | succ n ih =>
    intro at_ h1 h2 hS
    have c3 : S 45 m < nI at_ + 3 ↔ z < at_ + 3 := by rw [h45, e3]; exact nI_ltI (by omega) (by omega)
    by_cases hz3 : z < at_ + 3
    · have lt := c3.mpr hz3
      have hr : r = -2 := by
        rcases hS with h | ⟨L, hL, eL, hl, _⟩
        · exact h.2
        · omega
      subst hr
      refine s_Md_first_2 m 0 0 hix (fun h => absurd lt h) (fun h => absurd lt h) (fun h => absurd lt h) (fun _ => hq) (fun h => ?_) (fun h => absurd lt h)
      rcases h with h | h <;> exact absurd lt h.1
    · obtain ⟨L, hL, eL⟩ := hB (48 * m + at_ + 2)
      have eL' : S 47 (48 * m + at_ + 2) = nI L := by rw [h47]; exact eL
      have cL : S 45 m < nI at_ + 3 + S 47 (48 * m + at_ + 2) ↔ z < at_ + 3 + L := by
        rw [h45, eL', e3, nI_add]; exact nI_ltI (by omega) (by omega)
      have i2 : zm_ix (48 * nI m + nI at_ + 2) (48 * m + at_ + 2) 576 := by rw [e48, e2]; exact zm_ixN (by omega) (by decide)
      have i1 : zm_ix (48 * nI m + nI at_ + 1) (48 * m + at_ + 1) 576 := by rw [e48, nI_1]; exact zm_ixN (by omega) (by decide)
      refine s_Md_first_2 m (48 * m + at_ + 2) (48 * m + at_ + 1) hix (fun _ => i2) (fun _ _ _ => i1) (fun _ _ _ _ => i2) (fun h => ?_) (fun h => ?_) (fun _ h4 _ h5 => ?_)
      · have hn : ¬ at_ + 3 + L ≤ z := by
          rcases h with h | h
          · exact absurd (c3.mp h) hz3
          · have := cL.mp h.2; omega
        rcases hS with hS | ⟨L', hL', e', hl, _⟩
        · rw [hS.2] at hq; exact hq
        · have : L' = L := (nI_eq (by omega) (by omega)).mp (e'.symm.trans eL)
          omega
      · have hh : at_ + 3 + L ≤ z ∧ S 24 (48 * m + at_ + 1) = key := by
          rcases h with h | h
          · exact absurd h.2.2 hk
          · have : ¬ z < at_ + 3 + L := fun x => h.2.1 (cL.mpr x)
            exact ⟨by omega, by rw [← h47]; exact h.2.2.2⟩
        rw [e48]
        rcases hS with hS | ⟨L', hL', e', hl, hS | hS⟩
        · exact absurd ⟨L, hL, eL, hh.1⟩ hS.1
        · rw [hS.2] at hq; exact hq
        · exact absurd hh.2 hS.1
      · have hl : at_ + 3 + L ≤ z := by
          have : ¬ z < at_ + 3 + L := fun x => h4 (cL.mpr x)
          omega
        rw [eL', e3, nI_add]
        rcases hS with hS | ⟨L', hL', e', hl', hS | hS⟩
        · exact absurd ⟨L, hL, eL, hl⟩ hS.1
        · rw [h47] at h5; exact absurd hS.1 h5
        · have : L' = L := (nI_eq (by omega) (by omega)).mp (e'.symm.trans eL)
          subst this
          exact ih (at_ + 3 + L') (by omega) hl hS.2
def MW (S : zm_S) (m key r : Int32) : Prop := ∃ b, b ≤ 255 ∧ m = nI b ∧ ∃ c, OB S b c ∧ ((¬ c = 0 ∧ r = c) ∨ (c = 0 ∧ ∃ z, b < 12 ∧ z ≤ 48 ∧ S 21 b = nI z ∧ SC (S 24) b z key 16 0 r))
theorem OB.pv {S : zm_S} {b : Nat} {r : Int32} (h : OB S b r) (hr : ¬ r = 0) : r = -2 ∨ r = -6 := by
  rcases h with ⟨_, h⟩ | ⟨_, _, h⟩ | ⟨_, z, hh, _, _, _, _, _, _, h | h⟩
  · exact Or.inr h
  · exact Or.inl h
  · exact absurd h.2 hr
  · exact Or.inr h.2
theorem OB.z {S : zm_S} {b : Nat} {r : Int32} (h : OB S b r) (hr : r = 0) : b < 12 ∧ ∃ z, z ≤ 48 ∧ S 21 b = nI z := by
  subst hr
  rcases h with ⟨_, h⟩ | ⟨_, _, h⟩ | ⟨_, z, hh, h1, h2, h3, h4, _⟩
  · exact absurd h (by decide)
  · exact absurd h (by decide)
  · exact ⟨h1, z, h3, h4⟩
theorem MW.pv {S : zm_S} {m key r : Int32} (h : MW S m key r) : PV (S 24) r := by
  obtain ⟨b, _, _, c, hO, ⟨h1, rfl⟩ | ⟨_, z, h1, h2, _, h3⟩⟩ := h
  · rcases hO.pv h1 with h | h
    · exact Or.inl h
    · exact Or.inr (Or.inl h)
  · exact h3.pv h1 h2
theorem neg26 {r : Int32} (h : r = -2 ∨ r = -6) : ¬ 0 ≤ r ∧ r < 0 ∧ ¬ r = 0 := by
  rcases h with rfl | rfl <;> decide
theorem c_Mt_messageWithKey {d : Nat} {Q : zm_Q} {S : zm_S} {m key : Int32} (hW : RW S S) (hm : isB m) (hq : ∀ r, MW S m key r → Q (some r) GG S) : zc M_Mt_messageWithKey (d + 3) [.ref 20, .int m, .int key] S Q := by
  obtain ⟨b, hb, rfl⟩ := hm
  have w7 := hW.2.2.2.2.2.2
  refine e_Mt_messageWithKey (s_Mt_messageWithKey_0 (c_Mt_obstacle hW hb (fun c hO => ?_)))
  by_cases hc : c = 0
  · obtain ⟨hb12, z, hz, e21⟩ := hO.z hc
    refine s_Mt_messageWithKey_5 b (fun _ => zm_ixN hb12 (by decide)) (fun _ => ?_) (fun h => ?_)
    · have := l_Mt_messageWithKey (d := d) (Q := Q) (S := S) (key := key) hb12 hz w7 16 0 0 (by omega) (by omega) (by omega) (fun r hr => hq r ⟨b, hb, rfl, c, hO, Or.inr ⟨hc, z, hb12, hz, e21, hr⟩⟩)
      rw [e21, show nI b * 48 = nI (b * 48) from pk_mul b 48, nI_add, show b * 48 = 48 * b by omega]
      exact this
    · subst hc; exact absurd (by decide) h
  · have ng := neg26 (hO.pv hc)
    exact s_Mt_messageWithKey_5 0 (fun h => absurd h ng.1) (fun h => absurd h ng.1) (fun _ => hq c ⟨b, hb, rfl, c, hO, Or.inl ⟨hc, rfl⟩⟩)
