theorem c_Md_fits {d : Nat} {Q : zm_Q} {A S : zm_S} {n : Nat} (hB : ∀ i, isB (A 26 i)) (hW : RW A S) (h30 : S 27 30 = nI n) (h11 : 11 ≤ n) (h18 : n ≤ 18) (h1 : ∀ m b z, BK A n m b z → Q (some 1) GG S) (h0 : (∀ m b z, ¬ BK A n m b z) → Q (some 0) GG S) : zc M_Md_fits (d + 1) [.ref 27] S Q := by
  obtain ⟨w1, w2, w3, w4, w5, w6, w7⟩ := hW
  obtain ⟨m, hm, e2⟩ := hB 2
  obtain ⟨b, hb, e5⟩ := hB 5
  have s2 : S 48 2 = nI m := by rw [w2]; exact e2
  have s5 : S 48 5 = nI b := by rw [w2]; exact e5
  have c11 : 11 < S 48 2 ↔ 11 < m := by rw [s2]; exact nI_ltI (a := 11) (by decide) (by omega)
  have huniq : ∀ m' b' z', BK A n m' b' z' → m' = m ∧ b' = b := by
    rintro m' b' z' ⟨x1, x2, x3, x4, x5, x6, x7, x8, x9⟩
    exact ⟨(nI_eq (by omega) (by omega)).mp (x1.symm.trans e2), (nI_eq (by omega) (by omega)).mp (x3.symm.trans e5)⟩
  refine e_Md_fits ?_
  by_cases hm12 : 11 < m
  · have g12 := c11.mpr hm12
    refine s_Md_fits_0 0 0 (fun h => absurd g12 h) (fun h => absurd g12 h) (fun _ => h0 ?_) ?_
    · rintro m' b' z' hbk
      have := (huniq m' b' z' hbk).1
      have := hbk.2.1
      omega
    · rintro (h | h) <;> exact absurd g12 h.1
  · have hmlt : m < 12 := by omega
    have n11 : ¬ 11 < S 48 2 := fun h => hm12 (c11.mp h)
    have hix : zm_ix (S 48 2) m 12 := by rw [s2]; exact zm_ixN hmlt (by decide)
    have e10 : S 27 30 - 10 = nI (n - 10) := by rw [h30]; exact pk_sub (b := 10) (by omega)
    rcases w5 m hmlt with ⟨q1, q2, q3, q4, q5⟩ | ⟨z, w, hh, q1, q2, q3, q4, q5, q6, q7, q8, q9, q10, q11, q12⟩
    · refine s_Md_fits_0 m 4 (fun _ => hix) (fun _ _ => zm_ixN (j := 4) (by decide) (by decide)) (fun _ => h0 ?_) ?_
      · rintro m' b' z' hbk
        obtain ⟨rfl, rfl⟩ := huniq m' b' z' hbk
        obtain ⟨x1, x2, x3, x4, x5, x6, x7, x8, x9⟩ := hbk
        rw [q1] at x4
        have := (nI_eq0 (by omega)).mp x4.symm
        omega
      · rintro (h | h) <;> exact absurd q4 h.2.1
    · have hv : S 44 m = 256 * S 48 3 + S 48 4 ↔ A 22 m = A 26 3 * 256 + A 26 4 := by rw [q8, q7, w2, mul256]
      have e8 : 8 * S 48 5 = nI (8 * b) := by rw [s5]; exact pk_mul 8 b
      have eL : 8 * b ≤ z → S 45 m - 8 * S 48 5 = nI (z - 8 * b) := fun h => by rw [e8, q6]; exact pk_sub h
      have cL : S 45 m - 8 * S 48 5 ≤ 0 ↔ z ≤ 8 * b := by
        by_cases h : 8 * b ≤ z
        · rw [eL h, nI_le0 (by omega)]; omega
        · refine ⟨fun _ => by omega, fun _ => ?_⟩
          rw [e8, q6]
          exact Int32.le_of_lt (pk_sneg (by omega) (by omega))
      have c8 : ¬ z ≤ 8 * b → (8 ≤ S 45 m - 8 * S 48 5 ↔ 8 ≤ z - 8 * b) := fun h => by
        rw [eL (by omega)]; exact nI_leI (a := 8) (by decide) (by omega)
      have cn : ∀ {x : Nat}, x < 2 ^ 31 → (S 27 30 - 10 = nI x ↔ n - 10 = x) := fun hx => by rw [e10]; exact nI_eq (by omega) hx
      refine s_Md_fits_0 m 4 (fun _ => hix) (fun _ _ => zm_ixN (j := 4) (by decide) (by decide)) (fun h => h0 ?_) (fun h => ?_)
      · rintro m' b' z' hbk
        obtain ⟨rfl, rfl⟩ := huniq m' b' z' hbk
        obtain ⟨x1, x2, x3, x4, x5, x6, x7, x8, x9⟩ := hbk
        have hzz : z' = z := (nI_eq (by omega) (by omega)).mp (x4.symm.trans q5)
        subst hzz
        have nl : ¬ z' ≤ 8 * b' := by omega
        rcases h with h | h | h | h | h | h
        · exact n11 h
        · rw [q9] at h; exact absurd h.2 (by decide)
        · exact nl (cL.mp h.2.2.2)
        · have g := (c8 nl).mp h.2.2.2.2.1
          exact h.2.2.2.2.2 ((cn (x := 8) (by decide)).mpr (by omega))
        · have g : ¬ 8 ≤ z' - 8 * b' := fun x => h.2.2.2.2.1 ((c8 nl).mpr x)
          refine h.2.2.2.2.2 ?_
          rw [eL (by omega)]
          exact (cn (by omega)).mpr (by omega)
        · exact h.2.2 (hv.mpr x7)
      · refine h1 m b z ?_
        rcases h with ⟨_, _, y3, y4, y5, y6⟩ | ⟨_, _, y3, y4, y5, y6⟩
        · have nl : ¬ z ≤ 8 * b := fun x => y4 (cL.mpr x)
          have g := (c8 nl).mp y5
          have g2 := (cn (x := 8) (by decide)).mp y6
          exact ⟨e2, hmlt, e5, q5, q1, q2, hv.mp y3, by omega, by omega⟩
        · have nl : ¬ z ≤ 8 * b := fun x => y4 (cL.mpr x)
          have g : ¬ 8 ≤ z - 8 * b := fun x => y5 ((c8 nl).mpr x)
          rw [eL (by omega)] at y6
          have g2 := (cn (by omega)).mp y6
          exact ⟨e2, hmlt, e5, q5, q1, q2, hv.mp y3, by omega, by omega⟩
theorem bit_or : ∀ h, h < 64 → ∀ b, b < 6 → nI h ||| ((1 : Int32) <<< (nI b &&& 31)) = nI (h ||| 2 ^ b) ∧ (h ||| 2 ^ b) < 64 ∧ ∀ c, c < 6 → (h ||| 2 ^ b).testBit c = (h.testBit c || decide (c = b)) := by decide +kernel
theorem cpy_step (f g : Nat → Int32) (D i : Nat) : upd (va_cpy f g 6 D i) (D + i) (f (6 + i)) = va_cpy f g 6 D (i + 1) := by
  funext k
  unfold va_cpy
  by_cases hk : k = D + i
  · subst hk
    rw [upd_self, if_pos ⟨by omega, by omega⟩]
    congr 1; omega
  · rw [upd_ne _ _ hk]
    by_cases hc : D ≤ k ∧ k < D + i
    · rw [if_pos hc, if_pos ⟨hc.1, by omega⟩]
    · rw [if_neg hc, if_neg (fun x => hc ⟨x.1, by omega⟩)]
theorem cpy_zero (f g : Nat → Int32) (D : Nat) : va_cpy f g 6 D 0 = g := by
  funext k
  unfold va_cpy
  rw [if_neg (by omega)]
theorem l_Md_block {d : Nat} {Q : zm_Q} {A S1 : zm_S} {n m b : Nat} (h10 : 10 ≤ n) (h18 : n ≤ 18) (hm : m < 12) (hb : b < 6) (h30 : S1 27 30 = nI n) (h48 : S1 48 = A 26) (e2 : A 26 2 = nI m) (e5 : A 26 5 = nI b) (hq : Q none GG (zm_upA S1 47 (va_cpy (A 26) (A 24) 6 (m * 48 + b * 8) (n - 10)))) : ∀ (t i : Nat), i + t = n - 10 → zw M_Md_block d Q 36 [some (.ref 27), some (.int (nI m)), some (.int (nI i))] [] (zm_upA S1 47 (va_cpy (A 26) (A 24) 6 (m * 48 + b * 8) i)) := by
  intro t
  have e10 : S1 27 30 - 10 = nI (n - 10) := by rw [h30]; exact pk_sub (b := 10) (by omega)
  have g27 : ∀ f, zm_upA S1 47 f 27 30 - 10 = nI (n - 10) := fun f => by rw [zm_upA_ne _ _ (by decide)]; exact e10
  have g48 : ∀ f, zm_upA S1 47 f 48 = A 26 := fun f => by rw [zm_upA_ne _ _ (by decide)]; exact h48
  induction t with
  | zero =>
    intro i hi
    have : i = n - 10 := by omega
    subst this
    have hle : ∀ f, zm_upA S1 47 f 27 30 - 10 ≤ nI (n - 10) := fun f => by rw [g27]; exact Int32.le_refl _
    exact s_Md_block_36 0 0 (fun h => absurd (hle _) h) (fun h => absurd (hle _) h) (fun _ => hq) (fun h => absurd (hle _) h)
  | succ t ih =>
    intro i hi
    have hlt : ∀ f, ¬ zm_upA S1 47 f 27 30 - 10 ≤ nI i := fun f => by rw [g27]; exact nI_ge (by omega) (by omega)
    refine s_Md_block_36 (6 + i) (m * 48 + b * 8 + i) (fun _ => ?_) (fun _ => ?_) (fun h => absurd h (hlt _)) (fun _ => ?_)
    · rw [show (6 : Int32) + nI i = nI (6 + i) from nI_add 6 i]; exact zm_ixN (by omega) (by decide)
    · rw [g48, e5, show (48 : Int32) * nI m = nI (48 * m) from pk_mul 48 m, show (8 : Int32) * nI b = nI (8 * b) from pk_mul 8 b, nI_add, nI_add, show 48 * m + 8 * b + i = m * 48 + b * 8 + i by omega]; exact zm_ixN (by omega) (by decide)
    · rw [nI_1, g48, zm_upA_up, cpy_step]
      exact ih (i + 1) (by omega)
theorem c_Md_block {d : Nat} {Q : zm_Q} {A S : zm_S} {n m b z : Nat} (hB : ∀ i, isB (A 26 i)) (hk : BK A n m b z) (h18 : n ≤ 18) (h30 : S 27 30 = nI n) (hW : RW A S) (hq : ∀ S', RW (zm_up (tbS A m b (n - 10)) 25 1 (A 25 1 + 1)) S' → FR S S' → S' 27 = S 27 → Q none GG S') : zc M_Md_block d [.ref 27] S Q := by
  obtain ⟨w1, w2, w3, w4, w5, w6, w7⟩ := hW
  obtain ⟨x1, x2, x3, x4, x5, x6, x7, x8, x9⟩ := hk
  have hb : b < 6 := by omega
  have s2 : S 48 2 = nI m := by rw [w2]; exact x1
  have s5 : S 48 5 = nI b := by rw [w2]; exact x3
  refine e_Md_block (s_Md_block_0 (6 * m + b) ?_ ?_)
  · rw [s2, s5, show (6 : Int32) * nI m = nI (6 * m) from pk_mul 6 m, nI_add]; exact zm_ixN (by omega) (by decide)
  rw [s2]
  have hl := l_Md_block (d := d) (Q := Q) (A := A) (S1 := zm_up (zm_up S 49 1 (S 49 1 + 1)) 46 (6 * m + b) 1) (n := n) (m := m) (b := b) (by omega) h18 x2 hb h30 w2 x1 x3 ?_ (n - 10) 0 (by omega)
  · rw [cpy_zero, ← w6] at hl
    have e : zm_upA (zm_up (zm_up S 49 1 (S 49 1 + 1)) 46 (6 * m + b) 1) 47 (S 47) = zm_up (zm_up S 49 1 (S 49 1 + 1)) 46 (6 * m + b) 1 := zm_upA_id (zm_up (zm_up S 49 1 (S 49 1 + 1)) 46 (6 * m + b) 1) 47
    rw [e] at hl
    exact hl
  · refine hq _ ⟨?_, w2, w3, w4, fun j hj => ?_, rfl, fun i => ?_⟩ ⟨fun a p q => ?_, fun i _ _ _ _ => rfl⟩ rfl
    · show upd (S 49) 1 (S 49 1 + 1) = upd (A 25) 1 (A 25 1 + 1)
      rw [w1]
    · have a23 : ∀ i, (zm_up (tbS A m b (n - 10)) 25 1 (A 25 1 + 1)) 23 i = upd (A 23) m (A 23 m ||| ((1 : Int32) <<< (nI b &&& 31))) i := fun i => rfl
      have s46 : ∀ i, zm_upA (zm_up (zm_up S 49 1 (S 49 1 + 1)) 46 (6 * m + b) 1) 47 (va_cpy (A 26) (A 24) 6 (m * 48 + b * 8) (n - 10)) 46 i = upd (S 46) (6 * m + b) 1 i := fun i => rfl
      by_cases hjm : j = m
      · subst hjm
        rcases w5 j hj with ⟨q1, q2, q3, q4, q5⟩ | ⟨z', w, hh, q1, q2, q3, q4, q5, q6, q7, q8, q9, q10, q11, q12⟩
        · rw [q1] at x4
          have := (nI_eq0 (by omega)).mp x4.symm
          omega
        · have hzz : z = z' := (nI_eq (by omega) (by omega)).mp (x4.symm.trans q5)
          subst hzz
          obtain ⟨b1, b2, b3⟩ := bit_or hh q4 b hb
          refine Or.inr ⟨z, w, hh ||| 2 ^ b, q1, q2, q3, b2, q5, q6, q7, q8, q9, ?_, fun c hc => ?_, fun c hc ht => ?_⟩
          · rw [a23, upd_self, q10]; exact b1
          · rw [s46, b3 c hc]
            by_cases hcb : c = b
            · subst hcb; rw [upd_self]; simp
            · rw [upd_ne _ _ (by omega), q11 c hc]; simp [hcb]
          · rw [b3 c hc] at ht
            by_cases hcb : c = b
            · subst hcb; exact x8
            · simp [hcb] at ht
              exact q12 c hc ht
      · refine (w5 j hj).congr rfl rfl ?_ rfl rfl rfl (fun c hc => ?_)
        · rw [a23, upd_ne _ _ hjm]
        · rw [s46, upd_ne _ _ (by omega)]
    · show isB (va_cpy (A 26) (A 24) 6 (m * 48 + b * 8) (n - 10) i)
      unfold va_cpy
      split
      · exact hB _
      · exact w7 i
    · rw [zm_upA_ne _ _ (by omega), zm_up_ne _ _ _ (by omega), zm_up_ne _ _ _ (by omega)]
theorem RW.cnt {A S : zm_S} (h : RW A S) (i : Nat) : RW (zm_up A 25 i (A 25 i + 1)) (zm_up S 49 i (S 49 i + 1)) := by
  obtain ⟨w1, w2, w3, w4, w5, w6, w7⟩ := h
  refine ⟨?_, w2, w3, w4, w5, w6, w7⟩
  show upd (S 49) i (S 49 i + 1) = upd (A 25) i (A 25 i + 1)
  rw [w1]
theorem FR.cnt {S : zm_S} (i : Nat) (v : Int32) : FR S (zm_up S 49 i v) := ⟨fun a _ q => zm_up_ne _ _ _ (by omega), fun _ _ _ _ _ => rfl⟩
theorem c_Md_look {d : Nat} {Q : zm_Q} {A A2 S : zm_S} {n kd : Nat} (hB : ∀ i, isB (A 26 i)) (hn : n ≤ 257) (h30 : S 27 30 = nI n) (hW : RW A S) (hJ : JD A n kd A2) (hq : ∀ S', RW (zm_up A2 25 kd (A2 25 kd + 1)) S' → FR S S' → S' 27 29 = S 27 29 → Q none GG S') : zc M_Md_look (d + 2) [.ref 27] S Q := by
  have c6 : S 27 30 < 6 ↔ n < 6 := by rw [h30]; exact nI_ltI (b := 6) (by omega) (by decide)
  have w2 : S 48 = A 26 := hW.2.1
  have hB' : ∀ i, isB (S 48 i) := fun i => by rw [w2]; exact hB i
  have bad : (n < 6 ∨ ¬ ckS (A 26) n) → Q none GG (zm_up S 49 2 (S 49 2 + 1)) := by
    intro hb
    rcases hJ with ⟨rfl, rfl, _⟩ | ⟨h6, hc, _⟩
    · exact hq _ (hW.cnt 2) (FR.cnt _ _) rfl
    · rcases hb with hb | hb
      · omega
      · exact absurd hc hb
  refine e_Md_look (s_Md_look_0 (fun h => bad (Or.inl (c6.mp h))) (fun h => ?_))
  have h6 : 6 ≤ n := by
    have : ¬ n < 6 := fun x => h (c6.mpr x)
    omega
  refine c_Md_checks hn h30 h6 hB' (fun hck => ?_) (fun hck => ?_)
  · refine s_Md_look_13 (fun _ => ?_) (fun h => absurd h (by decide))
    rw [w2] at hck
    have c11 : S 27 30 < 11 ↔ n < 11 := by rw [h30]; exact nI_ltI (b := 11) (by omega) (by decide)
    have c18 : 18 < S 27 30 ↔ 18 < n := by rw [h30]; exact nI_ltI (a := 18) (by decide) (by omega)
    rcases hJ with ⟨_, _, hb⟩ | ⟨_, _, hJ⟩
    · rcases hb with hb | hb
      · omega
      · exact absurd hck hb
    refine c_Md_isList hB' hn h30 (fun k hl => ?_) (fun hnl => ?_)
    · rw [w2] at hl
      refine s_Md_look_33 (fun h => ?_) (fun h => absurd h (by decide)) (fun _ => ?_)
      · rcases h with h | h <;> exact absurd h.1 (by decide)
      · rcases hJ with ⟨k', hl', rfl, rfl⟩ | ⟨hnl, _⟩
        · exact c_Md_list hB hl' hW (fun S' a b c => s_Md_look_40 (hq S' a b c))
        · exact absurd hl (hnl k)
    · rw [w2] at hnl
      rcases hJ with ⟨k', hl', _⟩ | ⟨_, hJ⟩
      · exact absurd hl' (hnl k')
      · have no : ¬ (A 26 0 = 60 ∧ 11 ≤ n ∧ n ≤ 18 ∧ ∃ m b z, BK A n m b z) → Q none GG (zm_up S 49 3 (S 49 3 + 1)) := by
          intro hno
          rcases hJ with ⟨y1, y2, y3, m, b, z, hbk, _⟩ | ⟨_, rfl, rfl⟩
          · exact absurd ⟨y1, y2, y3, m, b, z, hbk⟩ hno
          · exact hq _ (hW.cnt 3) (FR.cnt _ _) rfl
        refine s_Md_look_33 (fun h => no ?_) (fun _ x1 x2 x3 => ?_) (fun h => absurd rfl h)
        · rintro ⟨y1, y2, y3, _⟩
          rw [w2] at h
          rcases h with h | ⟨_, _, h | h⟩
          · exact h.2 y1
          · have := c11.mp h; omega
          · have := c18.mp h.2; omega
        · have h11 : 11 ≤ n := by
            have : ¬ n < 11 := fun x => x2 (c11.mpr x)
            omega
          have h18 : n ≤ 18 := by
            have : ¬ 18 < n := fun x => x3 (c18.mpr x)
            omega
          refine c_Md_fits hB hW h30 h11 h18 (fun m b z hbk => ?_) (fun hno => ?_)
          · refine s_Md_look_72 (fun h => absurd h (by decide)) (fun _ => ?_)
            rcases hJ with ⟨y1, y2, y3, m', b', z', hbk', rfl, rfl⟩ | ⟨hno, _⟩
            · exact c_Md_block hB hbk' h18 h30 hW (fun S' a b c => s_Md_look_79 (hq S' a b (by rw [c])))
            · rw [w2] at x1
              exact absurd ⟨x1, h11, h18, m, b, z, hbk⟩ hno
          · refine s_Md_look_72 (fun _ => no ?_) (fun h => absurd rfl h)
            rintro ⟨_, _, _, m, b, z, hb⟩
            exact hno m b z hb
  · refine s_Md_look_13 (fun h => absurd rfl h) (fun _ => bad (Or.inr ?_))
    rw [w2] at hck
    exact hck
