theorem RM.congr {A A' S S2 : zm_S} {m : Nat} (h : RM A S m) (a21 : A' 21 m = A 21 m) (a22 : A' 22 m = A 22 m) (a23 : A' 23 m = A 23 m) (s43 : S2 43 m = S 43 m) (s44 : S2 44 m = S 44 m) (s45 : S2 45 m = S 45 m) (s46 : ∀ b, b < 6 → S2 46 (6 * m + b) = S 46 (6 * m + b)) : RM A' S2 m := by
  unfold RM at h ⊢
  rw [a21, a22, a23, s43, s44, s45]
  rcases h with ⟨h1, h2, h3, h4, h5⟩ | ⟨z, w, hh, h1, h2, h3, h4, h5, h6, h7, h8, h9, h10, h11, h12⟩
  · exact Or.inl ⟨h1, h2, h3, h4, fun b hb => by rw [s46 b hb]; exact h5 b hb⟩
  · exact Or.inr ⟨z, w, hh, h1, h2, h3, h4, h5, h6, h7, h8, h9, h10, fun b hb => by rw [s46 b hb]; exact h11 b hb, h12⟩
theorem mul256 (x : Int32) : 256 * x = x * 256 := Int32.mul_comm _ _
def LI (A S1 S : zm_S) (k m : Nat) : Prop := (∀ a, a ≠ 43 → a ≠ 44 → a ≠ 45 → a ≠ 46 → S a = S1 a) ∧ (∀ j, j < m → RM (tlS A k 12) S j) ∧ ∀ j, m ≤ j → j < 12 → RM A S j
theorem clr_out {f : Nat → Int32} {m j b : Nat} (h : j ≠ m) (hb : b < 6) : clr f m (6 * m + 6) (6 * j + b) = f (6 * j + b) := if_neg (by omega)
theorem clr_in {f : Nat → Int32} {m b : Nat} (hb : b < 6) : clr f m (6 * m + 6) (6 * m + b) = 0 := if_pos (by omega)
theorem l_Md_list {d : Nat} {Q : zm_Q} {A S1 : zm_S} {n k : Nat} (hB : ∀ i, isB (A 26 i)) (hl : lsS (A 26) n k) (h48 : S1 48 = A 26) (hq : ∀ S', LI A S1 S' k 12 → Q none GG S') : ∀ (t m : Nat) (S : zm_S), m + t = 12 → LI A S1 S k m → zw M_Md_list (d + 1) Q 21 [some (.ref 27), some (.int (nI m)), none, none, none, none] [] S := by
  intro t
  obtain ⟨l0, l1, l2, l3, l4, l5⟩ := hl
  induction t with
  | zero =>
    intro m S hm hI
    have : m = 12 := by omega
    subst this
    have hle : (12 : Int32) ≤ nI 12 := by decide
    refine s_Md_list_21 0 0 0 0 (fun h => absurd hle h) (fun h => absurd hle h) (fun h => absurd hle h) (fun h => absurd hle h) (fun _ => hq S hI) (fun h => absurd hle h) ?_ (fun h => absurd hle h)
    rintro (h | h | h) <;> exact absurd hle h.1
  | succ t ih =>
    intro m S hm hI
    obtain ⟨g1, g2, g3⟩ := hI
    have s48 : S 48 = A 26 := by rw [g1 48 (by decide) (by decide) (by decide) (by decide)]; exact h48
    have hlt : ¬ (12 : Int32) ≤ nI m := nI_ge (b := 12) (by omega) (by decide)
    have hix : zm_ix (nI m) m 12 := zm_ixN (by omega) (by decide)
    have e5 : 5 + 3 * nI m = nI (5 + 3 * m) := by rw [show (3 : Int32) * nI m = nI (3 * m) from pk_mul 3 m, show (5 : Int32) + nI (3 * m) = nI (5 + 3 * m) from nI_add 5 _]
    have e6 : 6 + 3 * nI m = nI (6 + 3 * m) := by rw [show (3 : Int32) * nI m = nI (3 * m) from pk_mul 3 m, show (6 : Int32) + nI (3 * m) = nI (6 + 3 * m) from nI_add 6 _]
    have e7 : 6 + 3 * nI m + 1 = nI (7 + 3 * m) := by rw [e6, nI_1]; congr 1; omega
    have ck : S 48 4 ≤ nI m ↔ k ≤ m := by rw [s48, l3]; exact nI_leI (by omega) (by omega)
    have hRM := g3 m (Nat.le_refl _) (by omega)
    have hnx : ∀ (S2 : zm_S), (∀ a, a ≠ 43 → a ≠ 44 → a ≠ 45 → a ≠ 46 → S2 a = S a) → (∀ j, j ≠ m → S2 43 j = S 43 j ∧ S2 44 j = S 44 j ∧ S2 45 j = S 45 j ∧ ∀ b, b < 6 → S2 46 (6 * j + b) = S 46 (6 * j + b)) → RM (tlS A k 12) S2 m → zw M_Md_list (d + 1) Q 21 [some (.ref 27), some (.int (nI (m + 1))), none, none, none, none] [] S2 := by
      intro S2 f1 f2 f3
      refine ih (m + 1) S2 (by omega) ⟨fun a x1 x2 x3 x4 => (f1 a x1 x2 x3 x4).trans (g1 a x1 x2 x3 x4), fun j hj => ?_, fun j hj1 hj2 => ?_⟩
      · by_cases hjm : j = m
        · subst hjm; exact f3
        · obtain ⟨y1, y2, y3, y4⟩ := f2 j hjm
          exact (g2 j (by omega)).congr rfl rfl rfl y1 y2 y3 y4
      · obtain ⟨y1, y2, y3, y4⟩ := f2 j (by omega)
        exact (g3 j (by omega) hj2).congr rfl rfl rfl y1 y2 y3 y4
    have a21 : tlS A k 12 21 m = nz (A 26) k m := if_pos (by omega)
    have a22 : tlS A k 12 22 m = nv (A 26) k m := if_pos (by omega)
    have a23s : (A 21 m = nz (A 26) k m ∧ A 22 m = nv (A 26) k m) → tlS A k 12 23 m = A 23 m := fun h => if_neg (fun x => x.2 h)
    have a23n : ¬ (A 21 m = nz (A 26) k m ∧ A 22 m = nv (A 26) k m) → tlS A k 12 23 m = 0 := fun h => if_pos ⟨by omega, h⟩
    have e46 : ∀ (v z w : Int32), ∀ j, j ≠ m → zm_up (zm_up (zm_up (zm_upA S 46 (clr (S 46) m (6 * m + 6))) 43 m v) 45 m z) 44 m w 43 j = S 43 j ∧ zm_up (zm_up (zm_up (zm_upA S 46 (clr (S 46) m (6 * m + 6))) 43 m v) 45 m z) 44 m w 44 j = S 44 j ∧ zm_up (zm_up (zm_up (zm_upA S 46 (clr (S 46) m (6 * m + 6))) 43 m v) 45 m z) 44 m w 45 j = S 45 j ∧ ∀ b, b < 6 → zm_up (zm_up (zm_up (zm_upA S 46 (clr (S 46) m (6 * m + 6))) 43 m v) 45 m z) 44 m w 46 (6 * j + b) = S 46 (6 * j + b) := by
      intro v z w j hj
      refine ⟨?_, ?_, ?_, fun b hb => ?_⟩
      · show upd (S 43) m v j = _
        exact upd_ne _ _ hj
      · show upd (S 44) m w j = _
        exact upd_ne _ _ hj
      · show upd (S 45) m z j = _
        exact upd_ne _ _ hj
      · show clr (S 46) m (6 * m + 6) (6 * j + b) = _
        exact clr_out hj hb
    have f46 : ∀ (v z w : Int32), ∀ a, a ≠ 43 → a ≠ 44 → a ≠ 45 → a ≠ 46 → zm_up (zm_up (zm_up (zm_upA S 46 (clr (S 46) m (6 * m + 6))) 43 m v) 45 m z) 44 m w a = S a := by
      intro v z w a x1 x2 x3 x4
      rw [zm_up_ne _ _ _ x2, zm_up_ne _ _ _ x3, zm_up_ne _ _ _ x1, zm_upA_ne _ _ x4]
    have hmk : k ≤ m ∨ m < k := by omega
    refine s_Md_list_21 (5 + 3 * m) (6 + 3 * m) (7 + 3 * m) m (fun _ _ => by rw [e5]; exact zm_ixN (by omega) (by decide)) (fun _ _ => by rw [e6]; exact zm_ixN (by omega) (by decide)) (fun _ _ => by rw [e7]; exact zm_ixN (by omega) (by decide)) (fun _ _ => hix) (fun h => absurd h hlt) (fun _ h => ?_) (fun h => ?_) (fun _ hk x1 x2 x3 => ?_)
    · -- not listed any more
      have hk := ck.mp h
      have ez : nz (A 26) k m = 0 := if_neg (by omega)
      have ev : nv (A 26) k m = 0 := if_neg (by omega)
      refine c_Md_nothing (by omega) ?_
      refine s_Md_list_133 m hix (Or.inl rfl) ?_
      rw [nI_1]
      refine hnx _ (f46 0 0 0) (e46 0 0 0) (Or.inl ⟨by rw [a21]; exact ez, by rw [a22]; exact ev, ?_, ?_, fun b hb => ?_⟩)
      · by_cases hs : A 21 m = nz (A 26) k m ∧ A 22 m = nv (A 26) k m
        · rw [a23s hs]
          rcases hRM with ⟨_, _, h3, _⟩ | ⟨z, w, hh, q1, q2, q3, q4, q5, _⟩
          · exact h3
          · rw [ez, q5] at hs
            have := (nI_eq0 (by omega)).mp hs.1
            omega
        · exact a23n hs
      · show upd (S 43) m 0 m = 0
        exact upd_self _ _ _
      · show clr (S 46) m (6 * m + 6) (6 * m + b) = 0
        exact clr_in hb
    · -- listed anew
      have hk : m < k := by
        have hn : ¬ S 48 4 ≤ nI m := by rcases h with h | h | h; exact h.2.1; exact h.2.1; exact h.2.1
        have : ¬ k ≤ m := fun x => hn (ck.mpr x)
        omega
      obtain ⟨z, z1, z2, z3⟩ := l5 m hk
      obtain ⟨w1, hw1, ew1⟩ := hB (6 + 3 * m)
      obtain ⟨w2, hw2, ew2⟩ := hB (7 + 3 * m)
      have ez : nz (A 26) k m = nI z := by rw [nz, if_pos hk]; exact z3
      have ev : nv (A 26) k m = nI (w1 * 256 + w2) := by
        rw [nv, if_pos hk, ew1, ew2, show nI w1 * 256 = nI (w1 * 256) from pk_mul w1 256, nI_add]
      have es : S 48 (5 + 3 * m) = nI z := by rw [s48]; exact z3
      have esv : 256 * S 48 (6 + 3 * m) + S 48 (7 + 3 * m) = nI (w1 * 256 + w2) := by
        rw [s48, ew1, ew2, mul256, show nI w1 * 256 = nI (w1 * 256) from pk_mul w1 256, nI_add]
      rw [es, esv] at h
      rw [es, esv]
      have hn : ¬ (A 21 m = nz (A 26) k m ∧ A 22 m = nv (A 26) k m) := by
        rw [ez, ev]
        rintro ⟨y1, y2⟩
        rcases hRM with ⟨q1, _⟩ | ⟨z', w', hh, q1, q2, q3, q4, q5, q6, q7, q8, q9, _⟩
        · rw [q1] at y1
          have := (nI_eq0 (by omega)).mp y1.symm
          omega
        · rcases h with h | h | h
          · rw [q9] at h; exact absurd h.2.2 (by decide)
          · apply h.2.2.2
            rw [q6, ← q5]; exact y1
          · apply h.2.2.2.2
            rw [q8, ← q7]; exact y2
      refine c_Md_nothing (by omega) ?_
      refine s_Md_list_133 m hix (Or.inr rfl) ?_
      rw [nI_1]
      refine hnx _ (f46 1 _ _) (e46 1 _ _) (Or.inr ⟨z, w1 * 256 + w2, 0, z1, z2, by omega, by omega, by rw [a21]; exact ez, ?_, by rw [a22]; exact ev, ?_, ?_, by rw [a23n hn]; rfl, fun b hb => ?_, fun b hb hh => by simp at hh⟩)
      · show upd (S 45) m (nI z) m = nI z
        exact upd_self _ _ _
      · show upd (S 44) m (nI (w1 * 256 + w2)) m = _
        exact upd_self _ _ _
      · show upd (S 43) m 1 m = 1
        exact upd_self _ _ _
      · show clr (S 46) m (6 * m + 6) (6 * m + b) = _
        rw [clr_in hb]; simp
    · -- as it was
      have hkm : m < k := by
        have : ¬ k ≤ m := fun x => hk (ck.mpr x)
        omega
      obtain ⟨z, z1, z2, z3⟩ := l5 m hkm
      obtain ⟨w1, hw1, ew1⟩ := hB (6 + 3 * m)
      obtain ⟨w2, hw2, ew2⟩ := hB (7 + 3 * m)
      have ez : nz (A 26) k m = nI z := by rw [nz, if_pos hkm]; exact z3
      have ev : nv (A 26) k m = nI (w1 * 256 + w2) := by
        rw [nv, if_pos hkm, ew1, ew2, show nI w1 * 256 = nI (w1 * 256) from pk_mul w1 256, nI_add]
      have es : S 48 (5 + 3 * m) = nI z := by rw [s48]; exact z3
      have esv : 256 * S 48 (6 + 3 * m) + S 48 (7 + 3 * m) = nI (w1 * 256 + w2) := by
        rw [s48, ew1, ew2, mul256, show nI w1 * 256 = nI (w1 * 256) from pk_mul w1 256, nI_add]
      rw [es] at x2
      rw [esv] at x3
      rw [es, esv, nI_1]
      rcases hRM with ⟨_, _, _, q4, _⟩ | ⟨z', w', hh, q1, q2, q3, q4, q5, q6, q7, q8, q9, q10, q11, q12⟩
      · exact absurd q4 x1
      · rw [q6] at x2
        rw [q8] at x3
        have hz : z' = z := (nI_eq (by omega) (by omega)).mp x2
        have hw : w' = w1 * 256 + w2 := (nI_eq (by omega) (by omega)).mp x3
        subst hz
        subst hw
        have hs : A 21 m = nz (A 26) k m ∧ A 22 m = nv (A 26) k m := ⟨by rw [ez]; exact q5, by rw [ev]; exact q7⟩
        refine hnx _ (fun a x1 x2 x3 x4 => by rw [zm_up_ne _ _ _ x2, zm_up_ne _ _ _ x3, zm_up_ne _ _ _ x1]) (fun j hj => ⟨?_, ?_, ?_, fun b hb => rfl⟩) (Or.inr ⟨z', w1 * 256 + w2, hh, q1, q2, q3, q4, by rw [a21]; exact ez, ?_, by rw [a22]; exact ev, ?_, ?_, by rw [a23s hs]; exact q10, fun b hb => q11 b hb, q12⟩)
        · show upd (S 43) m 1 j = _
          exact upd_ne _ _ hj
        · show upd (S 44) m _ j = _
          exact upd_ne _ _ hj
        · show upd (S 45) m _ j = _
          exact upd_ne _ _ hj
        · show upd (S 45) m (nI z') m = nI z'
          exact upd_self _ _ _
        · show upd (S 44) m (nI (w1 * 256 + w2)) m = _
          exact upd_self _ _ _
        · show upd (S 43) m 1 m = 1
          exact upd_self _ _ _
theorem c_Md_list {d : Nat} {Q : zm_Q} {A S : zm_S} {n k : Nat} (hB : ∀ i, isB (A 26 i)) (hl : lsS (A 26) n k) (hW : RW A S) (hq : ∀ S', RW (zm_up (tlS A k 12) 25 0 (A 25 0 + 1)) S' → FR S S' → S' 27 29 = S 27 29 → Q none GG S') : zc M_Md_list (d + 1) [.ref 27] S Q := by
  obtain ⟨w1, w2, w3, w4, w5, w6, w7⟩ := hW
  refine e_Md_list (s_Md_list_0 3 (zm_ixN (j := 3) (by decide) (by decide)) ?_)
  obtain ⟨x2, hx2, ex2⟩ := hB 2
  obtain ⟨x3, hx3, ex3⟩ := hB 3
  have e48 : ∀ i, zm_up S 49 0 (S 49 0 + 1) 48 i = A 26 i := fun i => by rw [zm_up_ne _ _ _ (by decide), w2]
  have et : 256 * zm_up S 49 0 (S 49 0 + 1) 48 2 + zm_up S 49 0 (S 49 0 + 1) 48 3 = nI (x2 * 256 + x3) := by
    rw [e48, e48, ex2, ex3, mul256, show nI x2 * 256 = nI (x2 * 256) from pk_mul x2 256, nI_add]
  rw [et]
  generalize hS1 : zm_up (zm_up S 49 0 (S 49 0 + 1)) 27 22 (nI (x2 * 256 + x3)) = S1
  have b48 : S1 48 = A 26 := by rw [← hS1, zm_up_ne _ _ _ (by decide), zm_up_ne _ _ _ (by decide)]; exact w2
  have bo : ∀ a, a ≠ 27 → a ≠ 49 → S1 a = S a := fun a p q => by rw [← hS1, zm_up_ne _ _ _ p, zm_up_ne _ _ _ q]
  refine l_Md_list hB hl b48 (fun S' hI => ?_) 12 0 S1 (by omega) ⟨fun _ _ _ _ _ => rfl, fun j hj => by omega, fun j _ hj => ?_⟩
  · obtain ⟨g1, g2, _⟩ := hI
    have c27 : S' 27 = upd (S 27) 22 (nI (x2 * 256 + x3)) := by rw [g1 27 (by decide) (by decide) (by decide) (by decide), ← hS1, zm_up_self]; rfl
    refine hq S' ⟨?_, ?_, ?_, Or.inr ⟨rfl, ?_, x2 * 256 + x3, by omega, ?_⟩, fun m hm => (g2 m hm).congr rfl rfl rfl rfl rfl rfl (fun _ _ => rfl), ?_, w7⟩ ⟨fun a p q => ?_, fun i p _ _ _ => ?_⟩ ?_
    · rw [g1 49 (by decide) (by decide) (by decide) (by decide), ← hS1, zm_up_ne _ _ _ (by decide), zm_up_self, zm_up_self, w1]
      rfl
    · rw [g1 48 (by decide) (by decide) (by decide) (by decide), b48]; rfl
    · rw [c27, upd_ne _ _ (by decide)]; exact w3
    · rw [c27, upd_self]
      show _ = A 26 2 * 256 + A 26 3
      rw [ex2, ex3, show nI x2 * 256 = nI (x2 * 256) from pk_mul x2 256, nI_add]
    · show A 26 2 * 256 + A 26 3 = _
      rw [ex2, ex3, show nI x2 * 256 = nI (x2 * 256) from pk_mul x2 256, nI_add]
    · rw [g1 47 (by decide) (by decide) (by decide) (by decide), bo 47 (by decide) (by decide)]; exact w6
    · rw [g1 a (by omega) (by omega) (by omega) (by omega)]; exact bo a p (by omega)
    · rw [c27, upd_ne _ _ p]
    · rw [c27, upd_ne _ _ (by decide)]
  · exact (w5 j hj).congr rfl rfl rfl (by rw [bo 43 (by decide) (by decide)]) (by rw [bo 44 (by decide) (by decide)]) (by rw [bo 45 (by decide) (by decide)]) (fun b _ => by rw [bo 46 (by decide) (by decide)])
