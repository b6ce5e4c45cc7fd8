theorem RSn.congr {S S' : zm_S} {xs : List (List Int32)} {pos c num : Nat} (h : RSn S xs pos c num) (e : ∀ a, (14 ≤ a ∧ a ≤ 18) ∨ (40 ≤ a ∧ a ≤ 41) → S' a = S a) (e27 : ∀ i, 17 ≤ i → i ≤ 20 → S' 27 i = S 27 i) : RSn S' xs pos c num := by
  obtain ⟨hCc, hCr, hX, hc, e2, e3, e20, e19, hx⟩ := h
  refine ⟨hCc.congr (fun a x y => e a (by omega)), hCr.congr (fun a x y => e a (by omega)) (e27 17 (by decide) (by decide)), hX, hc, by rw [e 14 (by decide)]; exact e2, by rw [e 14 (by decide)]; exact e3, by rw [e27 20 (by decide) (by decide)]; exact e20, by rw [e27 19 (by decide) (by decide)]; exact e19, ?_⟩
  rcases hx with hx | hx
  · exact Or.inl hx
  · exact Or.inr ⟨hx.1, hx.2.1, hx.2.2.congr (fun a x y => e a (by omega))⟩
theorem RR.of2 {num : Nat} {S S' : zm_S} (h : RR num S) (hI : RI S') (hV : RV S' S') (e : ∀ a, a ≤ 41 → a ≠ 27 → ¬ (19 ≤ a ∧ a ≤ 26) → S' a = S a) (e27 : ∀ i, i ≤ 20 → S' 27 i = S 27 i) : RR num S' := by
  obtain ⟨hT, ⟨M, hE⟩, ⟨xs, pos, c, hS⟩, _, _⟩ := h
  exact ⟨hT.congr (fun a ha => e a (by omega) (by omega) (by omega)), ⟨M, hE.congr (fun a ha => e a (by omega) (by omega) (by omega)) (fun i hi => e27 i (by omega))⟩, ⟨xs, pos, c, hS.congr (fun a ha => e a (by omega) (by omega) (by omega)) (fun i x y => e27 i y)⟩, hI, hV⟩
theorem RR.c42 {num : Nat} {S S' : zm_S} (h : RR num S) (e : ∀ a, a ≠ 42 → S' a = S a) : RR num S' := by
  refine h.of2 (h.2.2.2.1.congr (fun a x y => e a (by omega))) ((h.2.2.2.2.congrA (fun a x y => e a (by omega))).congrS (fun i _ => by rw [e 27 (by decide)]) (fun a x y => e a (by omega))) (fun a x y z => e a (by omega)) (fun i _ => by rw [e 27 (by decide)])
-- the air
theorem RR.air {num : Nat} {S : zm_S} (h : RR num S) (hnum : num < 60000) : (S 16 1 ≤ 0 ↔ num = 0) ∧ (S 27 5 = 0 ↔ num = 0) := by
  obtain ⟨hT, ⟨M, hE⟩, ⟨xs, pos, c, hS⟩, hI, hV⟩ := h
  obtain ⟨hCc, hCr, hX, hc, e2, e3, e20, e19, hx⟩ := hS
  have h700 := hX.2.1
  refine ⟨?_, by rw [hE.2.1]; exact nI_eq0 (by omega)⟩
  rw [hCc.1, nI_le0 (by omega)]
  rcases hx with ⟨h1, h2⟩ | ⟨h1, h2, _⟩
  · subst h2; simp [h1]
  · omega
-- peek
theorem op_peek {d e : Nat} {Q : zm_Q} {S : zm_S} {num : Nat} {a : Int32} (hR : RR num S) (hnum : num < 60000) (hk : ∀ S1 r, CPS M_Md_peek (e + 2) [.ref 27, .int a] (RR num) r S1 → Q (some r) GG S1) : zc M_CM_peek (d + 1) [.ref 0, .int a] S Q := by
  obtain ⟨onair, onref⟩ := hR.air hnum
  have hix : ¬ a < 0 → a < 16 → zm_ix a a.toNatClampNeg 16 := fun h1 h2 => by
    obtain ⟨j, hj, rfl⟩ := nI_of h1
    rw [nI_clamp hj]
    exact zm_ixN ((nI_ltI (b := 16) hj (by decide)).mp h2) (by decide)
  have c15 : ¬ a < 0 → (15 < a ↔ ¬ a < 16) := fun h1 => by
    obtain ⟨j, hj, rfl⟩ := nI_of h1
    have x : 15 < nI j ↔ 15 < j := nI_ltI (a := 15) (by decide) hj
    have y : nI j < 16 ↔ j < 16 := nI_ltI (b := 16) hj (by decide)
    rw [x, y]; omega
  refine c_CM_peek a.toNatClampNeg (fun _ h1 h2 => hix h1 h2) (fun h => ?_) (fun h1 h2 h3 => ?_)
  · refine hk S (-2) (fun Q' hQ' => e_Md_peek (s_Md_peek_0 (fun _ => hQ' S hR) (fun g1 g2 g3 => ?_)))
    exfalso
    rcases h with h | h | h
    · exact g1 (onref.mpr (onair.mp h))
    · exact g2 h.2
    · exact g3 ((c15 g2).mpr h.2.2)
  · have hn0 : ¬ num = 0 := fun x => h1 (onair.mpr x)
    obtain ⟨hT, ⟨M, hE⟩, ⟨xs, pos, c, hS⟩, hI, hV⟩ := id hR
    obtain ⟨hCc, hCr, hX, hc, e2, e3, e20, e19, hx⟩ := hS
    have hN : SNc S xs pos c := by
      rcases hx with hx | hx
      · exact absurd hx.1 hn0
      · exact hx.2.2
    have h700 := hX.2.1
    refine hk S _ (fun Q' hQ' => e_Md_peek (s_Md_peek_0 (fun h => ?_) (fun g1 g2 g3 => ?_)))
    · exfalso
      rcases h with h | ⟨_, h | h⟩
      · exact hn0 (onref.mp h)
      · exact h2 h
      · exact (c15 h2).mp h.2 h3
    · refine c_Md_build hCr hX hN.1 hc e19 e20 (fun S' hv f1 f2 => ?_)
      have hj := hix h2 h3
      have hle : (0 : Int32) ≤ nI (bhF xs pos - pos) := by
        obtain ⟨v, hv⟩ := hv
        have := bhF_le hv hN.1
        exact nI_le (a := 0) (by omega) (by omega)
      refine s_Md_peek_24 a.toNatClampNeg (fun _ => hj) (fun _ => ?_) (fun h => absurd hle h)
      have hlt : a.toNatClampNeg < 16 := by
        obtain ⟨j, hj31, rfl⟩ := nI_of h2
        rw [nI_clamp hj31]
        exact (nI_ltI (b := 16) hj31 (by decide)).mp h3
      rw [f2 _ hlt, ← hN.2.2.2.2.2.1 _ hlt]
      exact hQ' S' (hR.c42 f1)
theorem op_modules {d e : Nat} {Q : zm_Q} {S : zm_S} {num : Nat} (hR : RR num S) (hk : ∀ S1 r, CPS M_Md_modules e [.ref 27] (RR num) r S1 → Q (some r) GG S1) : zc M_CM_modules d [.ref 0] S Q := by
  obtain ⟨hT, ⟨M, hE⟩, _⟩ := id hR
  refine c_CM_modules (hk S _ (fun Q' hQ' => c_Md_modules ?_))
  rw [hE.2.2.2.2.1, ← hE.2.2.2.1]
  exact hQ' S hR
theorem op_module {d e : Nat} {Q : zm_Q} {S : zm_S} {num : Nat} {a : Int32} (hR : RR num S) (hk : ∀ S1 r, CPS M_Md_module e [.ref 27, .int a] (RR num) r S1 → Q (some r) GG S1) : zc M_CM_module d [.ref 0, .int a] S Q := by
  obtain ⟨hT, ⟨M, e70, e275, hM, e71, e276, e8, e9, _⟩, _⟩ := id hR
  have hix : ¬ a < 0 → a < S 7 1 → zm_ix a a.toNatClampNeg 12 := fun h1 h2 => by
    obtain ⟨j, hj, rfl⟩ := nI_of h1
    rw [nI_clamp hj]
    rw [e71] at h2
    have := (nI_ltI hj (by omega)).mp h2
    exact zm_ixN (by omega) (by decide)
  have cl : ¬ S 27 6 ≤ a ↔ a < S 7 1 := by rw [e276, e71]; exact Int32.not_le
  refine c_CM_module a.toNatClampNeg hix (fun h => ?_) (fun h1 h2 => ?_)
  · refine hk S _ (fun Q' hQ' => c_Md_module a.toNatClampNeg (fun g1 g2 => hix g1 (cl.mp g2)) (fun _ => hQ' S hR) (fun g1 g2 => ?_))
    exfalso
    rcases h with h | h
    · exact g1 h
    · exact h.2 (cl.mp g2)
  · refine hk S _ (fun Q' hQ' => c_Md_module a.toNatClampNeg (fun g1 g2 => hix g1 (cl.mp g2)) (fun h => ?_) (fun g1 g2 => ?_))
    · exfalso
      rcases h with h | h
      · exact h1 h
      · exact cl.mpr h2 h.2
    · rw [← e9, ← e8]; exact hQ' S hR
theorem op_count {d e : Nat} {Q : zm_Q} {S : zm_S} {num : Nat} {a : Int32} (hR : RR num S) (hk : ∀ S1 r, CPS M_Md_count (e + 1) [.ref 27, .int a] (RR num) r S1 → Q (some r) GG S1) : zc M_CM_count d [.ref 0, .int a] S Q := by
  have w1 : S 49 = S 25 := hR.2.2.2.2.1.1
  have hix : ¬ a < 0 → a < 6 → zm_ix a a.toNatClampNeg 6 := fun h1 h2 => by
    obtain ⟨j, hj, rfl⟩ := nI_of h1
    rw [nI_clamp hj]
    exact zm_ixN ((nI_ltI (b := 6) hj (by decide)).mp h2) (by decide)
  have c5 : ¬ a < 0 → (5 < a ↔ ¬ a < 6) := fun h1 => by
    obtain ⟨j, hj, rfl⟩ := nI_of h1
    have x : 5 < nI j ↔ 5 < j := nI_ltI (a := 5) (by decide) hj
    have y : nI j < 6 ↔ j < 6 := nI_ltI (b := 6) hj (by decide)
    rw [x, y]; omega
  have c6 : ¬ a < 0 → ¬ 5 < a → a < 6 := fun h1 h2 => Classical.byContradiction (fun x => h2 ((c5 h1).mpr x))
  refine c_CM_count a.toNatClampNeg hix (fun h => ?_) (fun h1 h2 => ?_)
  · refine hk S _ (fun Q' hQ' => c_Md_count a.toNatClampNeg (fun g1 g2 => hix g1 (c6 g1 g2)) (fun _ => hQ' S hR) (fun g1 g2 => ?_))
    exfalso
    rcases h with h | h
    · exact g1 h
    · exact h.2 (c6 g1 g2)
  · refine hk S _ (fun Q' hQ' => c_Md_count a.toNatClampNeg (fun g1 g2 => hix g1 (c6 g1 g2)) (fun h => ?_) (fun g1 g2 => ?_))
    · exfalso
      rcases h with h | h
      · exact h1 h
      · exact (c5 h1).mp h.2 h2
    · rw [w1]; exact hQ' S hR
theorem op_transaction {d e : Nat} {Q : zm_Q} {S : zm_S} {num : Nat} (hR : RR num S) (hk : ∀ S1 r, CPS M_Md_transaction e [.ref 27] (RR num) r S1 → Q (some r) GG S1) : zc M_CM_transaction d [.ref 0] S Q := by
  have w4 := hR.2.2.2.2.1.2.2.2.1
  refine c_CM_transaction (fun h => ?_) (fun h => ?_)
  · refine hk S _ (fun Q' hQ' => c_Md_transaction (fun g => ?_) (fun _ => hQ' S hR))
    rcases w4 with w | w
    · rw [w.2] at g; exact absurd g (by decide)
    · rw [w.1] at h; exact absurd h (by decide)
  · rcases w4 with w | w
    · exact absurd w.1 h
    · obtain ⟨w1, w2, t, ht, w3⟩ := w
      refine hk S _ (fun Q' hQ' => c_Md_transaction (fun g => ?_) (fun g => ?_))
      · rw [w2]; exact hQ' S hR
      · exfalso
        apply g
        rw [w2, w3]
        exact nI_le (a := 0) (by omega) (by omega)
-- what is held of a module
def bits (h : Nat) : Nat → Nat
  | 0 => 0
  | t + 1 => bits h t + if h.testBit t then 1 else 0
theorem bits_le (h : Nat) : ∀ t, bits h t ≤ t
  | 0 => Nat.le_refl _
  | t + 1 => by
    have := bits_le h t
    unfold bits
    split <;> omega
theorem c_Int_bitCount {d : Nat} {Q : zm_Q} {S : zm_S} {h : Nat} (hh : h < 64) (hq : Q (some (nI (bits h 6))) GG S) : zc M_Int_bitCount d [.int (nI h)] S Q := by
  refine e_Int_bitCount (s_Int_bitCount_0 ?_)
  have key : ∀ x, x = nI (bits h 6) → Q (some x) GG S := fun x e => by rw [e]; exact hq
  apply key
  clear key hq
  revert h
  decide +kernel
theorem c_Mt_blocksHeld {d : Nat} {Q : zm_Q} {S : zm_S} {m h : Nat} (hm : m < 12) (hh : h < 64) (e23 : S 23 m = nI h) (hq : Q (some (nI (bits h 6))) GG S) : zc M_Mt_blocksHeld (d + 1) [.ref 20, .int (nI m)] S Q := by
  refine e_Mt_blocksHeld (s_Mt_blocksHeld_0 m (zm_ixN hm (by decide)) ?_)
  rw [e23]
  exact c_Int_bitCount hh (s_Mt_blocksHeld_9 hq)
theorem l_Md_heldOf {d : Nat} {Q : zm_Q} {S : zm_S} {m h : Nat} (hm : m < 12) (e46 : ∀ b, b < 6 → S 46 (6 * m + b) = if h.testBit b then 1 else 0) (hq : Q (some (nI (bits h 6))) GG S) : ∀ (n t : Nat), t + n = 6 → zw M_Md_heldOf d Q 7 [some (.ref 27), some (.int (nI m)), some (.int (nI (bits h t))), some (.int (nI (6 * m + t)))] [] S := by
  intro n
  have e6 : 6 * nI m + 6 = nI (6 * m + 6) := by rw [show (6 : Int32) * nI m = nI (6 * m) from pk_mul 6 m, show nI (6 * m) + 6 = nI (6 * m + 6) from nI_add _ 6]
  induction n with
  | zero =>
    intro t ht
    have : t = 6 := by omega
    subst this
    have hle : 6 * nI m + 6 ≤ nI (6 * m + 6) := by rw [e6]; exact Int32.le_refl _
    exact s_Md_heldOf_7 0 (fun h => absurd hle h) (fun _ => hq) (fun h => absurd hle h) (fun h => absurd hle h)
  | succ n ih =>
    intro t ht
    have hlt : ¬ 6 * nI m + 6 ≤ nI (6 * m + t) := by rw [e6]; exact nI_ge (by omega) (by omega)
    have nx := ih (t + 1) (by omega)
    refine s_Md_heldOf_7 (6 * m + t) (fun _ => zm_ixN (by omega) (by decide)) (fun h => absurd h hlt) (fun _ h0 => ?_) (fun _ h1 => ?_)
    · rw [e46 t (by omega)] at h0
      have hb : ¬ h.testBit t = true := fun x => by rw [if_pos x] at h0; exact absurd h0 (by decide)
      unfold bits at nx
      rw [if_neg hb] at nx
      rw [nI_1]
      exact nx
    · rw [e46 t (by omega)] at h1
      have hb : h.testBit t = true := Classical.byContradiction (fun x => by rw [if_neg x] at h1; exact h1 rfl)
      unfold bits at nx
      rw [if_pos hb] at nx
      rw [nI_1, nI_1]
      exact nx
theorem c_Md_heldOf {d : Nat} {Q : zm_Q} {S : zm_S} {m h : Nat} (hm : m < 12) (e46 : ∀ b, b < 6 → S 46 (6 * m + b) = if h.testBit b then 1 else 0) (hq : Q (some (nI (bits h 6))) GG S) : zc M_Md_heldOf d [.ref 27, .int (nI m)] S Q := by
  refine e_Md_heldOf (s_Md_heldOf_0 ?_)
  have := l_Md_heldOf (d := d) hm e46 hq 6 0 (by omega)
  rw [show (6 : Int32) * nI m = nI (6 * m) from pk_mul 6 m]
  exact this
theorem op_held {d e : Nat} {Q : zm_Q} {S : zm_S} {num : Nat} {a : Int32} (hR : RR num S) (hk : ∀ S1 r, CPS M_Md_held (e + 1) [.ref 27, .int a] (RR num) r S1 → Q (some r) GG S1) : zc M_CM_held (d + 2) [.ref 0, .int a] S Q := by
  have w5 := hR.2.2.2.2.1.2.2.2.2.1
  by_cases hn : a < 0
  · exact e_CM_held (s_CM_held_0 0 (fun h => absurd hn h) (fun _ => hk S _ (fun Q' hQ' => e_Md_held (s_Md_held_0 0 (fun h => absurd hn h) (fun _ => hQ' S hR) (fun h => absurd hn h)))) (fun h => absurd hn h))
  obtain ⟨m, hm31, rfl⟩ := nI_of hn
  have c12 : 12 ≤ nI m ↔ 12 ≤ m := nI_leI (a := 12) (by decide) hm31
  have c11 : 11 < nI m ↔ 11 < m := nI_ltI (a := 11) (by decide) hm31
  by_cases hm : 12 ≤ m
  · have g12 := c12.mpr hm
    have g11 := c11.mpr (by omega)
    exact e_CM_held (s_CM_held_0 0 (fun _ h => absurd g12 h) (fun _ => hk S _ (fun Q' hQ' => e_Md_held (s_Md_held_0 0 (fun _ h => absurd g11 h) (fun _ => hQ' S hR) (fun _ h => absurd g11 h)))) (fun _ h => absurd g12 h))
  have hm12 : m < 12 := by omega
  have n12 : ¬ 12 ≤ nI m := fun x => hm (c12.mp x)
  have n11 : ¬ 11 < nI m := fun x => hm (by have := c11.mp x; omega)
  have hix : zm_ix (nI m) m 12 := zm_ixN hm12 (by decide)
  rcases w5 m hm12 with ⟨q1, q2, q3, q4, q5⟩ | ⟨z, w, hh, q1, q2, q3, q4, q5, q6, q7, q8, q9, q10, q11, q12⟩
  · refine e_CM_held (s_CM_held_0 m (fun _ _ => hix) (fun _ => hk S _ (fun Q' hQ' => e_Md_held (s_Md_held_0 m (fun _ _ => hix) (fun _ => hQ' S hR) (fun _ _ h => absurd q4 h)))) (fun _ _ h => ?_))
    rw [q1] at h
    exact absurd (Int32.le_refl _) h
  · refine e_CM_held (s_CM_held_0 m (fun _ _ => hix) (fun h => ?_) (fun _ _ _ => ?_))
    · exfalso
      rcases h with h | h | h
      · exact hn h
      · exact n12 h.2
      · have := h.2.2
        rw [q5] at this
        have := (nI_le0 (by omega)).mp this
        omega
    · refine c_Mt_blocksHeld hm12 q4 q10 (s_CM_held_21 (hk S _ (fun Q' hQ' => e_Md_held (s_Md_held_0 m (fun _ _ => hix) (fun h => ?_) (fun _ _ _ => c_Md_heldOf hm12 q11 (s_Md_held_24 (hQ' S hR)))))))
      exfalso
      rcases h with (h | h) | h
      · exact hn h
      · exact n11 h.2
      · have := h.2.2
        rw [q9] at this
        exact absurd this (by decide)
