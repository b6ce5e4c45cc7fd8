def CPS (Mr : zm_M) (d : Nat) (ar : List Value) (R : zm_S → Prop) (r : Int32) (S1 : zm_S) : Prop := ∀ (Q' : zm_Q), (∀ S2, R S2 → Q' (some r) GG S2) → zc Mr d ar S1 Q'
theorem FT.refl (S : zm_S) : FT S S := fun _ _ _ => rfl
theorem i12' {a : Int32} : 11 < a ↔ 12 ≤ a := by rw [Int32.lt_iff_toInt_lt, Int32.le_iff_toInt_le, i11, i12]; omega
theorem i255' {a : Int32} : ¬ 255 < a ↔ a ≤ 255 := Int32.not_lt
theorem i1' {a : Int32} : a < 1 ↔ a ≤ 0 := by rw [Int32.lt_iff_toInt_lt, Int32.le_iff_toInt_le, i1, i0]; omega
theorem ix1 {a : Int32} (h0 : ¬ a < 1) (h1 : ¬ 12 ≤ a) : ∃ p, 1 ≤ p ∧ p < 12 ∧ a = nI p := by
  have h : ¬ a < 0 := fun h => h0 (by rw [Int32.lt_iff_toInt_lt, i1]; rw [Int32.lt_iff_toInt_lt, i0] at h; omega)
  obtain ⟨p, hp, rfl⟩ := ix12 h h1
  refine ⟨p, ?_, hp, rfl⟩
  by_cases hp0 : p = 0
  · subst hp0; exact absurd (by decide) h0
  · omega
theorem op_make {d e : Nat} {Q : zm_Q} {S : zm_S} {a b c : Int32} (hR : RT S) (hk : ∀ S1 r, CPS M_Md_make (e + 1) [.ref 27, .int a, .int b, .int c] (fun S2 => RT S2 ∧ FT S S2) r S1 → Q (some r) GG S1) : zc M_CM_make (d + 2) [.ref 0, .int a, .int b, .int c] S Q := by
  have hRP := hR.rp
  obtain ⟨h28, h30, h31, h32, h29, hT⟩ := id hR
  refine e_CM_make ?_
  by_cases hbad : a < 0 ∨ 12 ≤ a ∨ b < 1 ∨ 255 < b
  · have c1 : ¬ a < 0 → ¬ 12 ≤ a → ¬ b < 1 → ¬ 255 < b → False := fun x1 x2 x3 x4 => by
      rcases hbad with h | h | h | h
      · exact x1 h
      · exact x2 h
      · exact x3 h
      · exact x4 h
    have hq : Q (some (-1)) GG S := hk S (-1) (fun Q' hq => by
      refine e_Md_make (s_Md_make_0 0 (fun x1 x2 x3 x4 => absurd (c1 x1 (fun h => x2 (i12'.mpr h)) x3 x4) id) (fun _ => hq S ⟨hR, FT.refl S⟩) ?_ (fun x1 x2 x3 x4 => absurd (c1 x1 (fun h => x2 (i12'.mpr h)) x3 x4) id))
      rintro (x | x)
      · exact absurd (c1 x.1 (fun h => x.2.1 (i12'.mpr h)) x.2.2.1 x.2.2.2.1) id
      · exact absurd (c1 x.1 (fun h => x.2.1 (i12'.mpr h)) x.2.2.1 x.2.2.2.1) id)
    exact s_CM_make_0 0 (fun x1 x2 x3 x4 => absurd (c1 x1 x2 x3 (i255'.mpr x4)) id) (fun _ => hq) (fun x1 x2 x3 x4 => absurd (c1 x1 x2 x3 (i255'.mpr x4)) id) (fun x1 x2 x3 x4 => absurd (c1 x1 x2 x3 (i255'.mpr x4)) id)
  · have g1 : ¬ a < 0 := fun h => hbad (Or.inl h)
    have g2 : ¬ 12 ≤ a := fun h => hbad (Or.inr (Or.inl h))
    have g3 : ¬ b < 1 := fun h => hbad (Or.inr (Or.inr (Or.inl h)))
    have g4 : ¬ 255 < b := fun h => hbad (Or.inr (Or.inr (Or.inr h)))
    have g4' : b ≤ 255 := i255'.mp g4
    have g2' : ¬ 11 < a := fun h => g2 (i12'.mp h)
    obtain ⟨p, hp, rfl⟩ := ix12 g1 g2
    obtain ⟨n, hn, rfl⟩ := ixb (fun h => g3 (by rw [Int32.lt_iff_toInt_lt, i1]; rw [Int32.lt_iff_toInt_lt, i0] at h; omega)) g4'
    have hn1 : 1 ≤ n := by
      by_cases h0 : n = 0
      · subst h0; exact absurd (by decide) g3
      · omega
    have bad1 : ∀ {X : Prop}, ((nI p < 0) ∨ (¬ nI p < 0 ∧ 12 ≤ nI p) ∨ (¬ nI p < 0 ∧ ¬ 12 ≤ nI p ∧ nI n < 1) ∨ (¬ nI p < 0 ∧ ¬ 12 ≤ nI p ∧ ¬ nI n < 1 ∧ ¬ nI n ≤ 255)) → X := by
      rintro X (h | h | h | h)
      · exact absurd h g1
      · exact absurd h.2 g2
      · exact absurd h.2.2 g3
      · exact absurd g4' h.2.2.2
    have bad2 : ∀ {X : Prop}, ((((nI p < 0) ∨ (¬ nI p < 0 ∧ 11 < nI p))) ∨ (¬ nI p < 0 ∧ ¬ 11 < nI p ∧ ((nI n < 1) ∨ (¬ nI n < 1 ∧ 255 < nI n)))) → X := by
      rintro X ((h | h) | ⟨_, _, h | h⟩)
      · exact absurd h g1
      · exact absurd h.2 g2'
      · exact absurd h g3
      · exact absurd h.2 g4
    have hix : zm_ix (nI p) p 12 := zm_ixN hp (by decide)
    by_cases hdir : S 2 p = 1 ∨ S 2 p = 2
    · -- the parent is a directory
      have hdir28 : S 28 p = 1 ∨ S 28 p = 2 := by rw [h28]; exact hdir
      have en : nI n - 1 = nI (n - 1) := pk_sub (b := 1) hn1
      -- the reference up to its search
      have rstart : ∀ (S1 : zm_S) (Q' : zm_Q), S1 28 = S 28 → S1 29 = S 29 → S1 30 = S 30 → (¬ ea (S 3) (S 30) (nI p) (nI (n - 1)) < 0 → ∀ j, j < 12 → ea (S 3) (S 30) (nI p) (nI (n - 1)) = nI j → S 30 j = nI n → Q' (some (-3)) GG S1) →
          ((ea (S 3) (S 30) (nI p) (nI (n - 1)) < 0 ∨ ∃ j, j < 12 ∧ ea (S 3) (S 30) (nI p) (nI (n - 1)) = nI j ∧ ¬ S 30 j = nI n) → zw M_Md_make (e + 1) Q' 80 [some (.ref 27), some (.int (nI p)), some (.int (nI n)), some (.int c), some (.int 1)] [] S1) →
          zc M_Md_make (e + 1) [.ref 27, .int (nI p), .int (nI n), .int c] S1 Q' := by
        intro S1 Q' e28 e29 e30 hex hgo
        have hRP1 : RP S1 (S 3) := by
          intro k hk1 hk2
          have := hRP k hk1 hk2
          rw [e28, e29]; exact this
        refine e_Md_make (s_Md_make_0 p (fun _ _ _ _ => hix) (fun h => bad2 h) ?_ ?_)
        · intro _
          rw [en]
          refine c_Md_after hRP1 (nI_nm1 (by omega)) ?_
          rw [e30]
          refine s_Md_make_54 (fun h => hgo (Or.inl h)) (fun h => ?_)
          rw [en]
          refine c_Md_after hRP1 (nI_nm1 (by omega)) ?_
          rw [e30]
          rcases ea_ef (S 3) (S 30) (nI p) (nI (n - 1)) with h' | ⟨j, _, hj, h'⟩
          · rw [h'] at h; exact absurd (by decide) h
          · rw [h']
            refine s_Md_make_69 j (zm_ixN hj (by decide)) (fun h2 => ?_) (fun h2 => ?_)
            · rw [e30] at h2; exact hgo (Or.inr ⟨j, hj, h', h2⟩)
            · rw [e30] at h2; exact hex h j hj h' h2
        · intro _ _ _ _ x1 x2
          rw [e28] at x1 x2
          rcases hdir28 with h | h
          · exact absurd h x1
          · exact absurd h x2
      refine s_CM_make_0 p (fun _ _ _ _ => hix) (fun h => bad1 h) ?_ (fun _ _ _ _ x1 x2 => by
        rcases hdir with h | h
        · exact absurd h x1
        · exact absurd h x2)
      intro _ _ _ _ _
      refine c_Tree_hasEntry ?_ ?_
      · -- an entry has the name
        intro k hk1 hk2 hpk hnk
        refine s_CM_make_47 (fun h => absurd h (by decide)) (fun _ => ?_)
        refine hk S (-3) (fun Q' hq => rstart S Q' rfl rfl rfl (fun _ _ _ _ _ => hq S ⟨hR, FT.refl S⟩) ?_)
        intro hgo
        exfalso
        rcases ea_I (S 3) (S 30) (nI p) (nI (n - 1)) with ⟨h', hno⟩ | ⟨j, _, hj, h', _, hj5, hmin⟩
        · refine hno k hk1 hk2 ⟨hpk, ?_⟩
          rw [h30, hnk, nI_leI (by omega) (by omega)]; omega
        · have hle := hmin k hk1 hk2 hpk (by rw [h30, hnk, nI_leI (by omega) (by omega)]; omega)
          rcases hgo with hgo | ⟨j', hj', he', hne⟩
          · rw [h'] at hgo; exact nI_pos (by omega) hgo
          · have : j' = j := (nI_eq (by omega) (by omega)).mp (he'.symm.trans h')
            subst this
            refine hne ?_
            rw [h30] at hle hj5 ⊢
            rw [hnk] at hle
            apply Int32.toInt_inj.mp
            rw [Int32.le_iff_toInt_le] at hle hj5
            rw [nI_toInt (by omega)] at hle hj5
            rw [nI_toInt (by omega)]
            omega
      · -- no entry has it
        intro hno
        have hgo : ea (S 3) (S 30) (nI p) (nI (n - 1)) < 0 ∨ ∃ j, j < 12 ∧ ea (S 3) (S 30) (nI p) (nI (n - 1)) = nI j ∧ ¬ S 30 j = nI n := by
          rcases ea_I (S 3) (S 30) (nI p) (nI (n - 1)) with ⟨h', _⟩ | ⟨j, hj1, hj, h', hj4, _, _⟩
          · rw [h']; exact Or.inl (by decide)
          · refine Or.inr ⟨j, hj, h', fun h => hno j hj1 hj ⟨hj4, by rw [← h30]; exact h⟩⟩
        have hex : ∀ {X : Prop}, ¬ ea (S 3) (S 30) (nI p) (nI (n - 1)) < 0 → ∀ j, j < 12 → ea (S 3) (S 30) (nI p) (nI (n - 1)) = nI j → S 30 j = nI n → X := by
          intro X hnn j hj he hn'
          exfalso
          rcases hgo with h | ⟨j', hj', he', hne⟩
          · exact hnn h
          · have : j' = j := (nI_eq (by omega) (by omega)).mp (he'.symm.trans he)
            subst this; exact hne hn'
        refine s_CM_make_47 (fun _ => ?_) (fun h => absurd rfl h)
        refine c_Tree_leastFreeKey ?_ ?_
        · intro k hk1 hk2 hk0 hkI
          have hk12 : ¬ k = 12 := by omega
          have fin : ∀ kd : Int32, (kd = 2 ∨ kd = 3) → kd = (if c = 0 then 3 else 2) → Q (some (nI k)) GG (zm_up (zm_up (zm_up (zm_up S 2 k kd) 3 k (nI p)) 4 k (nI n)) 5 k 0) := by
            intro kd hkd hkc
            refine hk _ (nI k) (fun Q' hq => rstart _ Q' rfl rfl rfl (fun h j hj he hn' => hex h j hj he hn') (fun _ => ?_))
            refine l_Md_make (k := k) hk1 (by omega) (fun i a1 a2 => ?_) (fun _ => ?_) ?_ (k - 1) 1 (by omega) (by omega)
            · show ¬ S 28 i = 0; rw [h28]; exact hkI i a1 a2
            · show S 28 k = 0; rw [h28]; exact hk0
            · rw [if_neg hk12, ← hkc]
              refine hq _ ⟨⟨?_, ?_, ?_, ?_, ?_, ?_⟩, ?_⟩
              · show upd (S 28) k kd = upd (S 2) k kd; rw [h28]
              · show upd (S 30) k (nI n) = upd (S 4) k (nI n); rw [h30]
              · show upd (S 31) k 0 = upd (S 5) k 0; rw [h31]
              · exact h32
              · intro i a1 a2 a3
                show upd (S 29) k (nI p) i = upd (S 3) k (nI p) i
                by_cases hik : i = k
                · subst hik; rw [upd_self, upd_self]
                · rw [upd_ne _ _ hik, upd_ne _ _ hik]
                  have a3' : ¬ upd (S 2) k kd i = 0 := a3
                  rw [upd_ne _ _ hik] at a3'
                  exact h29 i a1 a2 a3'
              · exact TI.make hT hk1 hk2 hk0 hp hdir hn1 hn hkd
              · intro i b1 b2
                simp [zm_up]
                split
                · omega
                · split
                  · omega
                  · split
                    · omega
                    · split
                      · omega
                      · split
                        · omega
                        · split
                          · omega
                          · split
                            · omega
                            · split
                              · omega
                              · rfl
          refine s_CM_make_60 k (fun _ _ => zm_ixN hk2 (by decide)) (fun _ _ => zm_ixN hk2 (by decide)) (fun _ hc => ?_) (fun _ hc => ?_) (fun h => absurd h (nI_nm1 (by omega)))
          · exact fin 3 (Or.inr rfl) (by rw [if_pos hc])
          · exact fin 2 (Or.inl rfl) (by rw [if_neg hc])
        · intro hfull
          refine s_CM_make_60 0 (fun h => absurd rfl h) (fun h => absurd rfl h) (fun h => absurd rfl h) (fun h => absurd rfl h) (fun _ => ?_)
          refine hk S (-4) (fun Q' hq => rstart S Q' rfl rfl rfl (fun h j hj he hn' => hex h j hj he hn') (fun _ => ?_))
          refine l_Md_make (k := 12) (by omega) (by omega) (fun i a1 a2 => ?_) (fun h => by omega) ?_ 11 1 (by omega) (by omega)
          · rw [h28]; exact hfull i a1 a2
          · rw [if_pos rfl]; exact hq S ⟨hR, FT.refl S⟩
    · -- the parent isn't one
      have nd1 : ¬ S 2 p = 1 := fun h => hdir (Or.inl h)
      have nd2 : ¬ S 2 p = 2 := fun h => hdir (Or.inr h)
      have hq : Q (some (-2)) GG S := hk S (-2) (fun Q' hq => by
        refine e_Md_make (s_Md_make_0 p (fun _ _ _ _ => hix) (fun h => bad2 h) ?_ (fun _ _ _ _ _ _ => hq S ⟨hR, FT.refl S⟩))
        rintro (x | x)
        · exact absurd (by rw [← h28]; exact x.2.2.2.2) nd1
        · exact absurd (by rw [← h28]; exact x.2.2.2.2.2) nd2)
      refine s_CM_make_0 p (fun _ _ _ _ => hix) (fun h => bad1 h) ?_ (fun _ _ _ _ _ _ => hq)
      rintro _ _ _ _ (x | x)
      · exact absurd x nd1
      · exact absurd x.2 nd2
