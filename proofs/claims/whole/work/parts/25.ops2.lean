theorem op_remove {d e : Nat} {Q : zm_Q} {S : zm_S} {a : Int32} (hR : RT S) (hk : ∀ S1 r, CPS M_Md_remove (e + 1) [.ref 27, .int a] (fun S2 => RT S2 ∧ FT S S2) r S1 → Q (some r) GG S1) : zc M_CM_remove (d + 1) [.ref 0, .int a] S Q := by
  have hRP := hR.rp
  obtain ⟨h28, h30, h31, h32, h29, hT⟩ := id hR
  refine e_CM_remove ?_
  by_cases hbad : a < 1 ∨ 12 ≤ a
  · have c1 : ¬ a < 1 → ¬ 12 ≤ a → False := fun x1 x2 => by
      rcases hbad with h | h
      · exact x1 h
      · exact x2 h
    have c2 : ¬ a < 1 → ¬ 11 < a → False := fun x1 x2 => c1 x1 (fun h => x2 (i12'.mpr h))
    have hq : Q (some (-1)) GG S := hk S (-1) (fun Q' hq => e_Md_remove (s_Md_remove_0 0 (fun x1 x2 => absurd (c2 x1 x2) id) (fun _ => hq S ⟨hR, FT.refl S⟩) (fun x1 x2 => absurd (c2 x1 x2) id) (fun x1 x2 => absurd (c2 x1 x2) id)))
    exact s_CM_remove_0 0 (fun x1 x2 => absurd (c1 x1 x2) id) (fun _ => hq) (fun x1 x2 => absurd (c1 x1 x2) id) (fun x1 x2 => absurd (c1 x1 x2) id)
  · have g1 : ¬ a < 1 := fun h => hbad (Or.inl h)
    have g2 : ¬ 12 ≤ a := fun h => hbad (Or.inr h)
    have g2' : ¬ 11 < a := fun h => g2 (i12'.mp h)
    obtain ⟨k, hk1, hk2, rfl⟩ := ix1 g1 g2
    have hix : zm_ix (nI k) k 12 := zm_ixN hk2 (by decide)
    have bad1 : ∀ {X : Prop}, ((nI k < 1) ∨ (¬ nI k < 1 ∧ 12 ≤ nI k)) → X := by
      rintro X (h | h)
      · exact absurd h g1
      · exact absurd h.2 g2
    have bad2 : ∀ {X : Prop}, ((nI k < 1) ∨ (¬ nI k < 1 ∧ 11 < nI k)) → X := by
      rintro X (h | h)
      · exact absurd h g1
      · exact absurd h.2 g2'
    have key : 0 < ec (S 3) (nI k) ↔ ¬ ea (S 3) (S 30) (nI k) 0 < 0 := by
      rw [show (0 < ec (S 3) (nI k)) ↔ _ from ec_go_pos 11 (by omega)]
      rcases ea_I (S 3) (S 30) (nI k) 0 with ⟨h', hno⟩ | ⟨j, hj1, hj, h', hj4, _, _⟩
      · rw [h']
        refine ⟨?_, fun h => absurd (by decide) h⟩
        rintro ⟨j, hj1, hj, hpj⟩
        exfalso
        have hl := hT.1.ofP (k := j) (by omega) hj (p := k) (by omega) hpj
        obtain ⟨_, q, n, _, hn1, hn2, _, hnj, _⟩ := hT.1.live (by omega) hj hl
        refine hno j (by omega) hj ⟨hpj, ?_⟩
        rw [h30, hnj]
        exact nI_nle (by omega) (by omega)
      · rw [h']
        exact ⟨fun _ => nI_pos (by omega), fun _ => ⟨j, by omega, hj, hj4⟩⟩
    refine s_CM_remove_0 k (fun _ _ => hix) (fun h => bad1 h) (fun _ _ h0 => ?_) (fun _ _ hl => ?_)
    · exact hk S (-2) (fun Q' hq => e_Md_remove (s_Md_remove_0 k (fun _ _ => hix) (fun h => bad2 h) (fun _ _ h => absurd (by rw [h28]; exact h0) h) (fun _ _ _ => hq S ⟨hR, FT.refl S⟩)))
    · have hl28 : ¬ S 28 k = 0 := by rw [h28]; exact hl
      have rstart : ∀ (S1 : zm_S) (Q' : zm_Q), S1 28 = S 28 → S1 29 = S 29 → S1 30 = S 30 → (ea (S 3) (S 30) (nI k) 0 < 0 → Q' (some 0) GG (zm_up S1 28 k 0)) → (¬ ea (S 3) (S 30) (nI k) 0 < 0 → Q' (some (-5)) GG S1) → zc M_Md_remove (e + 1) [.ref 27, .int (nI k)] S1 Q' := by
        intro S1 Q' e28 e29 e30 q1 q2
        have hRP1 : RP S1 (S 3) := by
          intro i hi1 hi2
          have := hRP i hi1 hi2
          rw [e28, e29]; exact this
        refine e_Md_remove (s_Md_remove_0 k (fun _ _ => hix) (fun h => bad2 h) (fun _ _ _ => ?_) (fun _ _ h => absurd (by rw [← e28]; exact h) hl28))
        refine c_Md_after hRP1 (nI_nm1 (by omega)) ?_
        rw [e30]
        exact s_Md_remove_30 k (fun _ => hix) q1 q2
      refine c_Tree_entryCount ?_
      have hec : ec (S 3) (nI k) ≤ 11 := ec_go_le _ _ 11
      refine s_CM_remove_31 k (fun _ => hix) (fun h => ?_) (fun h => ?_)
      · have h0 : ¬ 0 < ec (S 3) (nI k) := by have := (nI_le0 (by omega)).mp h; omega
        refine hk _ 0 (fun Q' hq => rstart _ Q' rfl rfl rfl (fun _ => ?_) (fun h' => absurd (key.mpr h') h0))
        refine hq _ ⟨⟨?_, h30, h31, h32, ?_, ?_⟩, ?_⟩
        · show upd (S 28) k 0 = upd (S 2) k 0; rw [h28]
        · intro i a1 a2 a3
          have a3' : ¬ upd (S 2) k 0 i = 0 := a3
          show S 29 i = upd (S 3) k (-1) i
          by_cases hik : i = k
          · subst hik; exact absurd (upd_self _ _ _) a3'
          · rw [upd_ne _ _ hik] at a3' ⊢
            exact h29 i a1 a2 a3'
        · refine TI.remove hT hk1 hk2 (fun j hj1 hj2 hpj => h0 ?_)
          exact (ec_go_pos 11 (by omega)).mpr ⟨j, by omega, hj2, hpj⟩
        · intro i b1 b2
          rw [zm_up_ne _ _ _ (show i ≠ 28 by omega), zm_up_ne _ _ _ (show i ≠ 3 by omega), zm_up_ne _ _ _ (show i ≠ 2 by omega)]
      · have h0 : 0 < ec (S 3) (nI k) := by
          have : ¬ ec (S 3) (nI k) = 0 := fun h' => h ((nI_le0 (by omega)).mpr h')
          omega
        exact hk S (-5) (fun Q' hq => rstart S Q' rfl rfl rfl (fun h' => absurd h' (key.mp h0)) (fun _ => hq S ⟨hR, FT.refl S⟩))
theorem op_append {d e : Nat} {Q : zm_Q} {S : zm_S} {a b : Int32} (hR : RT S) (hk : ∀ S1 r, CPS M_Md_append (e + 1) [.ref 27, .int a, .int b] (fun S2 => RT S2 ∧ FT S S2) r S1 → Q (some r) GG S1) : zc M_CM_append (d + 1) [.ref 0, .int a, .int b] S Q := by
  obtain ⟨h28, h30, h31, h32, h29, hT⟩ := id hR
  refine e_CM_append ?_
  by_cases hbad : a < 1 ∨ 12 ≤ a ∨ b < 0 ∨ 255 < b
  · have c1 : ∀ {X : Prop}, ¬ a < 1 → ¬ 12 ≤ a → ¬ b < 0 → ¬ 255 < b → X := fun x1 x2 x3 x4 => by
      rcases hbad with h | h | h | h
      · exact absurd h x1
      · exact absurd h x2
      · exact absurd h x3
      · exact absurd h x4
    have c2 : ∀ {X : Prop}, ¬ a < 1 → ¬ 11 < a → ¬ b < 0 → ¬ 255 < b → X := fun x1 x2 x3 x4 => c1 x1 (fun h => x2 (i12'.mpr h)) x3 x4
    have hq : Q (some (-1)) GG S := hk S (-1) (fun Q' hq => e_Md_append (s_Md_append_0 0 0 (fun x1 x2 x3 x4 => c2 x1 x2 x3 x4) (fun x1 x2 x3 x4 => c2 x1 x2 x3 x4) (fun _ => hq S ⟨hR, FT.refl S⟩) (fun x1 x2 x3 x4 => c2 x1 x2 x3 x4) (fun x1 x2 x3 x4 => c2 x1 x2 x3 x4) (fun x1 x2 x3 x4 => c2 x1 x2 x3 x4)))
    exact s_CM_append_0 0 0 (fun x1 x2 x3 x4 => c1 x1 x2 x3 x4) (fun x1 x2 x3 x4 => c1 x1 x2 x3 x4) (fun _ => hq) (fun x1 x2 x3 x4 => c1 x1 x2 x3 x4) (fun x1 x2 x3 x4 => c1 x1 x2 x3 x4) (fun x1 x2 x3 x4 => c1 x1 x2 x3 x4)
  · have g1 : ¬ a < 1 := fun h => hbad (Or.inl h)
    have g2 : ¬ 12 ≤ a := fun h => hbad (Or.inr (Or.inl h))
    have g3 : ¬ b < 0 := fun h => hbad (Or.inr (Or.inr (Or.inl h)))
    have g4 : ¬ 255 < b := fun h => hbad (Or.inr (Or.inr (Or.inr h)))
    have g2' : ¬ 11 < a := fun h => g2 (i12'.mp h)
    obtain ⟨k, hk1, hk2, rfl⟩ := ix1 g1 g2
    obtain ⟨n, hn, rfl⟩ := ixb g3 (i255'.mp g4)
    have hix : zm_ix (nI k) k 12 := zm_ixN hk2 (by decide)
    have bad1 : ∀ {X : Prop}, ((((nI k < 1) ∨ (¬ nI k < 1 ∧ 12 ≤ nI k))) ∨ (¬ nI k < 1 ∧ ¬ 12 ≤ nI k ∧ ((nI n < 0) ∨ (¬ nI n < 0 ∧ 255 < nI n)))) → X := by
      rintro X ((h | h) | ⟨_, _, h | h⟩)
      · exact absurd h g1
      · exact absurd h.2 g2
      · exact absurd h g3
      · exact absurd h.2 g4
    have bad2 : ∀ {X : Prop}, ((((nI k < 1) ∨ (¬ nI k < 1 ∧ 11 < nI k))) ∨ (¬ nI k < 1 ∧ ¬ 11 < nI k ∧ ((nI n < 0) ∨ (¬ nI n < 0 ∧ 255 < nI n)))) → X := by
      rintro X ((h | h) | ⟨_, _, h | h⟩)
      · exact absurd h g1
      · exact absurd h.2 g2'
      · exact absurd h g3
      · exact absurd h.2 g4
    obtain ⟨l, hl, hle⟩ := hT.2.2.1 k hk2
    have hle31 : S 31 k = nI l := by rw [h31]; exact hle
    have e12 : nI k * 12 + nI l = nI (k * 12 + l) := by rw [show nI k * 12 = nI (k * 12) from pk_mul k 12, nI_add]
    have e12' : 12 * nI k + nI l = nI (k * 12 + l) := by rw [show 12 * nI k = nI (12 * k) from pk_mul 12 k, nI_add, Nat.mul_comm]
    refine s_CM_append_0 k (k * 12 + l) (fun _ _ _ _ => hix) (fun _ _ _ _ _ h => ?_) (fun h => bad1 h) (fun _ _ _ _ h => ?_) (fun _ _ _ _ h3 h => ?_) (fun _ _ _ _ h3 h => ?_)
    · rw [hle] at h ⊢
      rw [e12]
      have := (nI_ltI (b := 12) (by omega) (by decide)).mp h
      exact zm_ixN (by omega) (by decide)
    · refine hk S (-2) (fun Q' hq => e_Md_append (s_Md_append_0 k 0 (fun _ _ _ _ => hix) ?_ (fun h => bad2 h) ?_ ?_ (fun _ _ _ _ _ => hq S ⟨hR, FT.refl S⟩)))
      · intro _ _ _ _ x; exact absurd (by rw [← h28]; exact x) h
      · intro _ _ _ _ x; exact absurd (by rw [← h28]; exact x) h
      · intro _ _ _ _ x; exact absurd (by rw [← h28]; exact x) h
    · rw [hle] at h ⊢
      have hl12 := (nI_ltI (b := 12) (by omega) (by decide)).mp h
      refine hk _ (nI l + 1) (fun Q' hq => ?_)
      refine e_Md_append (s_Md_append_0 k (k * 12 + l) (fun _ _ _ _ => hix) ?_ (fun h => bad2 h) ?_ ?_ ?_)
      · intro _ _ _ _ _ _
        show zm_ix (12 * nI k + S 31 k) _ _
        rw [hle31, e12']; exact zm_ixN (by omega) (by decide)
      · intro _ _ _ _ _ _
        show Q' (some (S 31 k + 1)) GG (zm_up (zm_up _ 32 _ _) 31 k (S 31 k + 1))
        rw [hle31]
        refine hq _ ⟨⟨h28, h30, ?_, ?_, h29, ?_⟩, ?_⟩
        · show upd (S 31) k (nI l + 1) = upd (S 5) k (nI l + 1); rw [h31]
        · show upd (S 32) (k * 12 + l) (nI n) = upd (S 6) (k * 12 + l) (nI n); rw [h32]
        · show TI (S 2) (S 3) (S 4) (upd (S 5) k (nI l + 1)) (upd (S 6) (k * 12 + l) (nI n))
          rw [nI_1]
          exact (hT.len (by omega)).byte hn
        · intro i b1 b2
          rw [zm_up_ne _ _ _ (show i ≠ 31 by omega), zm_up_ne _ _ _ (show i ≠ 32 by omega), zm_up_ne _ _ _ (show i ≠ 5 by omega), zm_up_ne _ _ _ (show i ≠ 6 by omega)]
      · intro _ _ _ _ _ x
        have x' : S 31 k = 12 := x
        rw [hle31] at x'
        have := (nI_eq (b := 12) (by omega) (by decide)).mp x'
        omega
      · intro _ _ _ _ x; exact absurd (show S 28 k = 3 by rw [h28]; exact h3) x
    · rw [hle] at h
      have hl12 : l = 12 := by
        have : ¬ l < 12 := fun h' => h ((nI_ltI (b := 12) (by omega) (by decide)).mpr h')
        omega
      subst hl12
      have e31 : S 31 k = 12 := hle31
      refine hk S (-4) (fun Q' hq => e_Md_append (s_Md_append_0 k 0 (fun _ _ _ _ => hix) (fun _ _ _ _ _ x => absurd e31 x) (fun h => bad2 h) (fun _ _ _ _ _ x => absurd e31 x) (fun _ _ _ _ _ _ => hq S ⟨hR, FT.refl S⟩) (fun _ _ _ _ x => absurd (by rw [h28]; exact h3) x)))
theorem op_empty {d e : Nat} {Q : zm_Q} {S : zm_S} {a : Int32} (hR : RT S) (hk : ∀ S1 r, CPS M_Md_empty (e + 1) [.ref 27, .int a] (fun S2 => RT S2 ∧ FT S S2) r S1 → Q (some r) GG S1) : zc M_CM_empty (d + 1) [.ref 0, .int a] S Q := by
  obtain ⟨h28, h30, h31, h32, h29, hT⟩ := id hR
  by_cases hbad : a < 1 ∨ 12 ≤ a
  · have c1 : ∀ {X : Prop}, ¬ a < 1 → ¬ 12 ≤ a → X := fun x1 x2 => by
      rcases hbad with h | h
      · exact absurd h x1
      · exact absurd h x2
    have c2 : ∀ {X : Prop}, ¬ a < 1 → ¬ 11 < a → X := fun x1 x2 => c1 x1 (fun h => x2 (i12'.mpr h))
    have hq : Q (some (-1)) GG S := hk S (-1) (fun Q' hq => c_Md_empty 0 (fun x1 x2 => c2 x1 x2) (fun _ => hq S ⟨hR, FT.refl S⟩) (fun x1 x2 => c2 x1 x2) (fun x1 x2 => c2 x1 x2))
    exact c_CM_empty 0 (fun x1 x2 => c1 x1 x2) (fun _ => hq) (fun x1 x2 => c1 x1 x2) (fun x1 x2 => c1 x1 x2)
  · have g1 : ¬ a < 1 := fun h => hbad (Or.inl h)
    have g2 : ¬ 12 ≤ a := fun h => hbad (Or.inr h)
    have g2' : ¬ 11 < a := fun h => g2 (i12'.mp h)
    obtain ⟨k, hk1, hk2, rfl⟩ := ix1 g1 g2
    have hix : zm_ix (nI k) k 12 := zm_ixN hk2 (by decide)
    have bad1 : ∀ {X : Prop}, ((nI k < 1) ∨ (¬ nI k < 1 ∧ 12 ≤ nI k)) → X := by
      rintro X (h | h)
      · exact absurd h g1
      · exact absurd h.2 g2
    have bad2 : ∀ {X : Prop}, ((nI k < 1) ∨ (¬ nI k < 1 ∧ 11 < nI k)) → X := by
      rintro X (h | h)
      · exact absurd h g1
      · exact absurd h.2 g2'
    refine c_CM_empty k (fun _ _ => hix) (fun h => bad1 h) (fun _ _ h => ?_) (fun _ _ h => ?_)
    · exact hk S (-2) (fun Q' hq => c_Md_empty k (fun _ _ => hix) (fun h => bad2 h) (fun _ _ x => absurd (by rw [← h28]; exact x) h) (fun _ _ _ => hq S ⟨hR, FT.refl S⟩))
    · refine hk _ (S 5 k) (fun Q' hq => c_Md_empty k (fun _ _ => hix) (fun h => bad2 h) (fun _ _ _ => ?_) (fun _ _ x => absurd (show S 28 k = 3 by rw [h28]; exact h) x))
      show Q' (some (S 31 k)) GG _
      rw [h31]
      refine hq _ ⟨⟨h28, h30, ?_, h32, h29, ?_⟩, ?_⟩
      · show upd (S 31) k 0 = upd (S 5) k 0; rw [h31]
      · exact hT.len (l := 0) (by omega)
      · intro i b1 b2
        rw [zm_up_ne _ _ _ (show i ≠ 31 by omega), zm_up_ne _ _ _ (show i ≠ 5 by omega)]
