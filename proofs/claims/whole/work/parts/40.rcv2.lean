-- a block is taken
def BK (A : zm_S) (n m b z : Nat) : Prop := A 26 2 = nI m ∧ m < 12 ∧ A 26 5 = nI b ∧ A 21 m = nI z ∧ 1 ≤ z ∧ z ≤ 48 ∧ A 22 m = A 26 3 * 256 + A 26 4 ∧ b < (z + 7) / 8 ∧ n = 10 + min 8 (z - 8 * b)
def tbS (A : zm_S) (m b c : Nat) : zm_S := zm_up (zm_upA A 24 (va_cpy (A 26) (A 24) 6 (m * 48 + b * 8) c)) 23 m (A 23 m ||| ((1 : Int32) <<< (nI b &&& 31)))
def RI (A : zm_S) : Prop := (∀ i, isB (A 26 i)) ∧ (∃ n, A 19 3 = nI n ∧ n ≤ 256 ∧ (2 ≤ n → ∃ b, b ≤ 255 ∧ A 26 1 = nI b ∧ n < 2 + b)) ∧ ∀ m, m < 12 → ∃ z, z ≤ 48 ∧ A 21 m = nI z
theorem c_Mt_takeBlock {d : Nat} {Q : zm_Q} {A : zm_S} {n : Nat} (hB : ∀ i, isB (A 26 i)) (hZ : ∀ m, m < 12 → ∃ z, z ≤ 48 ∧ A 21 m = nI z) (h11 : 11 ≤ n) (h18 : n ≤ 18) (h1 : ∀ m b z, BK A n m b z → Q (some 1) GG (tbS A m b (n - 10))) (h0 : (∀ m b z, ¬ BK A n m b z) → Q (some 0) GG A) : zc M_Mt_takeBlock (d + 1) [.ref 20, .ref 26, .int (nI (n - 10))] A Q := by
  obtain ⟨m, hm, e2⟩ := hB 2
  obtain ⟨b, hb, e5⟩ := hB 5
  have nn : ¬ A 26 2 < 0 := by rw [e2]; exact nI_pos (by omega)
  have c12 : 12 ≤ A 26 2 ↔ 12 ≤ m := by rw [e2]; exact nI_leI (a := 12) (by decide) (by omega)
  have huniq : ∀ m' b' z', BK A n m' b' z' → m' = m ∧ b' = b := by
    rintro m' b' z' ⟨x1, x2, x3, x4, x5, x6, x7, x8, x9⟩
    exact ⟨(nI_eq (by omega) (by omega)).mp (x1.symm.trans e2), (nI_eq (by omega) (by omega)).mp (x3.symm.trans e5)⟩
  refine e_Mt_takeBlock ?_
  by_cases hm12 : 12 ≤ m
  · have g12 := c12.mpr hm12
    refine s_Mt_takeBlock_0 0 0 0 0 (fun _ h => absurd g12 h) (fun _ h => absurd g12 h) (fun _ h => absurd g12 h) (fun _ h => absurd g12 h) (fun _ h => absurd g12 h) (fun _ h => absurd g12 h) (fun _ h => absurd g12 h) (fun _ h => absurd g12 h) (fun _ h => absurd g12 h) (fun _ h => absurd g12 h) (fun _ h => absurd g12 h) (fun _ => h0 ?_) ?_
    · rintro m' b' z' hbk
      have := (huniq m' b' z' hbk).1
      have := hbk.2.1
      omega
    · rintro (h | h) <;> exact absurd g12 h.2.1
  · have hmlt : m < 12 := by omega
    obtain ⟨z, hz, e21⟩ := hZ m hmlt
    have hix : zm_ix (A 26 2) m 12 := by rw [e2]; exact zm_ixN hmlt (by decide)
    have cz : A 21 m ≤ 0 ↔ z = 0 := by rw [e21]; exact nI_le0 (by omega)
    have eb : (A 21 m + 8 - 1) / 8 = nI ((z + 7) / 8) := by
      rw [e21, show nI z + 8 = nI (z + 8) from nI_add _ 8, show nI (z + 8) - 1 = nI (z + 7) from nI_pred _]
      exact pk_div (d := 8) (by omega) (by decide) (by decide)
    have cb : (A 21 m + 8 - 1) / 8 ≤ A 26 5 ↔ (z + 7) / 8 ≤ b := by rw [eb, e5]; exact nI_leI (by omega) (by omega)
    have eL : b < (z + 7) / 8 → A 21 m - A 26 5 * 8 = nI (z - 8 * b) := by
      intro hlt
      rw [e21, e5, show nI b * 8 = nI (b * 8) from pk_mul b 8, pk_sub (by omega)]
      congr 1; omega
    have c8 : b < (z + 7) / 8 → (8 ≤ A 21 m - A 26 5 * 8 ↔ 8 ≤ z - 8 * b) := by
      intro hlt
      rw [eL hlt]; exact nI_leI (a := 8) (by decide) (by omega)
    have eT : A 26 2 * 48 + A 26 5 * 8 = nI (m * 48 + b * 8) := by
      rw [e2, e5, show nI m * 48 = nI (m * 48) from pk_mul m 48, show nI b * 8 = nI (b * 8) from pk_mul b 8, nI_add]
    have oT : b < (z + 7) / 8 → ¬ (A 26 2 * 48 + A 26 5 * 8) < 0 ∧ (A 26 2 * 48 + A 26 5 * 8).toNatClampNeg = m * 48 + b * 8 := by
      intro hlt
      rw [eT]; exact ⟨nI_pos (by omega), nI_clamp (by omega)⟩
    have oC : ¬ nI (n - 10) < 0 ∧ (nI (n - 10)).toNatClampNeg = n - 10 := ⟨nI_pos (by omega), nI_clamp (by omega)⟩
    have lt : ¬ (A 21 m + 8 - 1) / 8 ≤ A 26 5 → b < (z + 7) / 8 := fun h => by
      have : ¬ (z + 7) / 8 ≤ b := fun x => h (cb.mpr x)
      omega
    have e8 : ∀ {x : Nat}, nI (n - 10) = nI x → x < 2 ^ 31 → n - 10 = x := fun h hx => (nI_eq (by omega) hx).mp h
    refine s_Mt_takeBlock_0 m 4 (m * 48 + b * 8) (n - 10) (fun _ _ => hix) (fun _ _ _ => hix) (fun _ _ _ => zm_ixN (j := 4) (by decide) (by decide)) (fun _ _ _ _ h _ _ => oT (lt h)) (fun _ _ _ _ _ _ _ => oC) (fun _ _ _ _ _ _ _ => by omega) (fun _ _ _ _ h _ _ => by have := lt h; omega) (fun _ _ _ _ h _ _ => oT (lt h)) (fun _ _ _ _ _ _ _ => oC) (fun _ _ _ _ _ _ _ => by omega) (fun _ _ _ _ h _ _ => by have := lt h; omega) (fun h => h0 ?_) (fun h => ?_)
    · rintro m' b' z' hbk
      obtain ⟨rfl, rfl⟩ := huniq m' b' z' hbk
      obtain ⟨x1, x2, x3, x4, x5, x6, x7, x8, x9⟩ := hbk
      have hzz : z' = z := (nI_eq (by omega) (by omega)).mp (x4.symm.trans e21)
      subst hzz
      rcases h with (h | h | h) | h | h | h | h
      · exact nn h
      · exact hm12 (c12.mp h.2)
      · have := cz.mp h.2.2; omega
      · have := cb.mp h.2.2.2.2; omega
      · have hh := (c8 x8).mp h.2.2.2.2.2.1
        refine h.2.2.2.2.2.2 ?_
        show nI (n - 10) = nI 8
        congr 1; omega
      · have hh : ¬ 8 ≤ z' - 8 * b' := fun x => h.2.2.2.2.2.1 ((c8 x8).mpr x)
        refine h.2.2.2.2.2.2 ?_
        rw [eL x8]; congr 1; omega
      · exact h.2.2.2 x7
    · have hfit : BK A n m b z := by
        rcases h with h | h
        · obtain ⟨_, _, y3, y4, y5, y6, y7⟩ := h
          have hlt := lt y5
          have h8 := (c8 hlt).mp y6
          have hn := e8 (x := 8) y7 (by decide)
          have hz1 : ¬ z = 0 := fun x => y3 (cz.mpr x)
          exact ⟨e2, hmlt, e5, e21, by omega, hz, y4, hlt, by omega⟩
        · obtain ⟨_, _, y3, y4, y5, y6, y7⟩ := h
          have hlt := lt y5
          have h8 : ¬ 8 ≤ z - 8 * b := fun x => y6 ((c8 hlt).mpr x)
          rw [eL hlt] at y7
          have hn := e8 y7 (by omega)
          have hz1 : ¬ z = 0 := fun x => y3 (cz.mpr x)
          exact ⟨e2, hmlt, e5, e21, by omega, hz, y4, hlt, by omega⟩
      have := h1 m b z hfit
      unfold tbS at this
      rw [e5]
      exact this
-- a section is judged
def JD (A : zm_S) (n kd : Nat) (A' : zm_S) : Prop :=
  (kd = 2 ∧ A' = A ∧ (n < 6 ∨ ¬ ckS (A 26) n)) ∨ (6 ≤ n ∧ ckS (A 26) n ∧ ((∃ k, lsS (A 26) n k ∧ kd = 0 ∧ A' = tlS A k 12) ∨ ((∀ k, ¬ lsS (A 26) n k) ∧ ((A 26 0 = 60 ∧ 11 ≤ n ∧ n ≤ 18 ∧ ∃ m b z, BK A n m b z ∧ kd = 1 ∧ A' = tbS A m b (n - 10)) ∨ (¬ (A 26 0 = 60 ∧ 11 ≤ n ∧ n ≤ 18 ∧ ∃ m b z, BK A n m b z) ∧ kd = 3 ∧ A' = A)))))
theorem c_Rc_judge {d : Nat} {Q : zm_Q} {A : zm_S} {n : Nat} (hB : ∀ i, isB (A 26 i)) (hZ : ∀ m, m < 12 → ∃ z, z ≤ 48 ∧ A 21 m = nI z) (hn : n ≤ 257) (hq : ∀ kd A', kd < 4 → JD A n kd A' → Q (some (nI kd)) GG A') : zc M_Rc_judge (d + 2) [.ref 19, .int (nI n)] A Q := by
  have c6 : nI n < 6 ↔ n < 6 := nI_ltI (b := 6) (by omega) (by decide)
  have q2 : (n < 6 ∨ ¬ ckS (A 26) n) → Q (some 2) GG A := fun h => hq 2 A (by omega) (Or.inl ⟨rfl, rfl, h⟩)
  refine e_Rc_judge (s_Rc_judge_0 (fun h => q2 (Or.inl (c6.mp h))) (fun h => ?_))
  have h6 : 6 ≤ n := by
    have : ¬ n < 6 := fun x => h (c6.mpr x)
    omega
  refine c_Rc_hasCheckDue h6 hn (fun hck => ?_) (fun hck => ?_)
  · refine s_Rc_judge_11 (fun _ => ?_) (fun h => absurd h (by decide))
    have e6 : nI n - 6 = nI (n - 6) := pk_sub (b := 6) h6
    refine c_Rc_isList hB hn (fun k hl => ?_) (fun hnl => ?_)
    · refine s_Rc_judge_21 (fun h => absurd h (by decide)) (fun h => absurd h (by decide)) (fun _ => ?_)
      refine c_Mt_takeList hl.2.2.1 hl.2.2.2.1 ?_
      refine s_Rc_judge_35 ?_
      exact hq 0 _ (by omega) (Or.inr ⟨h6, hck, Or.inl ⟨k, hl, rfl, rfl⟩⟩)
    · have e10 : 10 ≤ n → nI n - 6 - 4 = nI (n - 10) := fun h => by
        rw [e6, show nI (n - 6) - 4 = nI (n - 6 - 4) from pk_sub (b := 4) (by omega)]; congr 1
      have clt : nI n - 6 - 4 < 1 ↔ n < 11 := by
        by_cases h10 : 10 ≤ n
        · have h' : nI (n - 10) < 1 ↔ n - 10 < 1 := nI_ltI (b := 1) (by omega) (by decide)
          rw [e10 h10, h']; omega
        · refine ⟨fun _ => by omega, fun _ => ?_⟩
          have : nI (n - 6) - nI 4 < 0 := pk_sneg (by decide) (by omega)
          have h4 : nI (n - 6) - 4 < 0 := this
          rw [e6]
          rw [Int32.lt_iff_toInt_lt, i0] at h4
          rw [Int32.lt_iff_toInt_lt, i1]; omega
      have cgt : 10 ≤ n → (8 < nI n - 6 - 4 ↔ 18 < n) := fun h10 => by
        have h' : 8 < nI (n - 10) ↔ 8 < n - 10 := nI_ltI (a := 8) (by decide) (by omega)
        rw [e10 h10, h']; omega
      have q3 : (¬ (A 26 0 = 60 ∧ 11 ≤ n ∧ n ≤ 18 ∧ ∃ m b z, BK A n m b z)) → Q (some 3) GG A := fun h => hq 3 A (by omega) (Or.inr ⟨h6, hck, Or.inr ⟨hnl, Or.inr ⟨h, rfl, rfl⟩⟩⟩)
      refine s_Rc_judge_21 (fun _ h => q3 ?_) (fun _ x1 x2 x3 => ?_) (fun h => absurd rfl h)
      · rintro ⟨y1, y2, y3, _⟩
        rcases h with h | h | h
        · exact h y1
        · have := clt.mp h.2; omega
        · have := (cgt (by omega)).mp h.2.2; omega
      · have h11 : 11 ≤ n := by
          have : ¬ n < 11 := fun x => x2 (clt.mpr x)
          omega
        have h18 : n ≤ 18 := by
          have : ¬ 18 < n := fun x => x3 ((cgt (by omega)).mpr x)
          omega
        rw [e10 (by omega)]
        refine c_Mt_takeBlock hB hZ h11 h18 (fun m b z hbk => ?_) (fun hbk => ?_)
        · refine s_Rc_judge_62 (fun h => absurd h (by decide)) (fun _ => ?_)
          exact hq 1 _ (by omega) (Or.inr ⟨h6, hck, Or.inr ⟨hnl, Or.inl ⟨x1, h11, h18, m, b, z, hbk, rfl, rfl⟩⟩⟩)
        · refine s_Rc_judge_62 (fun _ => q3 ?_) (fun h => absurd rfl h)
          rintro ⟨_, _, _, m, b, z, hb⟩
          exact hbk m b z hb
  · exact s_Rc_judge_11 (fun h => absurd rfl h) (fun _ => q2 (Or.inr hck))
-- a byte is collected
def COL (x : Int32) (A A' : zm_S) : Prop := ∃ n, A 19 3 = nI n ∧ n ≤ 256 ∧
  (((n + 1 < 2 ∨ ¬ nI (n + 1) = 2 + upd (A 26) n x 1) ∧ A' = zm_up (zm_up A 26 n x) 19 3 (nI (n + 1))) ∨
   (2 ≤ n + 1 ∧ nI (n + 1) = 2 + upd (A 26) n x 1 ∧ ∃ kd A2, kd < 4 ∧ JD (zm_up (zm_up A 26 n x) 19 3 0) (n + 1) kd A2 ∧ A' = zm_up A2 25 kd (A2 25 kd + 1)))
theorem zm_up_up (S : zm_S) (k i : Nat) (x y : Int32) : zm_up (zm_up S k i x) k i y = zm_up S k i y := by
  funext a
  by_cases h : a = k
  · subst h; rw [zm_up_self, zm_up_self, zm_up_self, upd_upd]
  · rw [zm_up_ne _ _ _ h, zm_up_ne _ _ _ h, zm_up_ne _ _ _ h]
theorem isB_upd {f : Nat → Int32} (h : ∀ i, isB (f i)) (n : Nat) {x : Int32} (hx : isB x) : ∀ i, isB (upd f n x i) := by
  intro i
  by_cases hi : i = n
  · subst hi; rw [upd_self]; exact hx
  · rw [upd_ne _ _ hi]; exact h i
theorem JD.keep {A A' : zm_S} {n kd : Nat} (h : JD A n kd A') : A' 26 = A 26 ∧ A' 19 = A 19 ∧ A' 25 = A 25 ∧ (∀ a, ¬ (19 ≤ a ∧ a ≤ 26) → A' a = A a) := by
  rcases h with ⟨_, rfl, _⟩ | ⟨_, _, ⟨k, _, _, rfl⟩ | ⟨_, ⟨_, _, _, m, b, z, _, _, rfl⟩ | ⟨_, _, rfl⟩⟩⟩
  · exact ⟨rfl, rfl, rfl, fun _ _ => rfl⟩
  · refine ⟨rfl, rfl, rfl, fun a ha => ?_⟩
    unfold tlS
    rw [if_neg (by omega), if_neg (by omega), if_neg (by omega), if_neg (by omega)]
  · refine ⟨rfl, rfl, rfl, fun a ha => ?_⟩
    unfold tbS
    rw [zm_up_ne _ _ _ (by omega), zm_upA_ne _ _ (by omega)]
  · exact ⟨rfl, rfl, rfl, fun _ _ => rfl⟩
theorem JD.sizes {A A' : zm_S} {n kd : Nat} (h : JD A n kd A') (hZ : ∀ m, m < 12 → ∃ z, z ≤ 48 ∧ A 21 m = nI z) : ∀ m, m < 12 → ∃ z, z ≤ 48 ∧ A' 21 m = nI z := by
  rcases h with ⟨_, rfl, _⟩ | ⟨_, _, ⟨k, hl, _, rfl⟩ | ⟨_, ⟨_, _, _, m, b, z, _, _, rfl⟩ | ⟨_, _, rfl⟩⟩⟩
  · exact hZ
  · intro m hm
    show ∃ z, z ≤ 48 ∧ (if m < 12 then nz (A 26) k m else A 21 m) = nI z
    rw [if_pos hm]
    unfold nz
    by_cases hmk : m < k
    · rw [if_pos hmk]
      obtain ⟨z, _, hz, he⟩ := hl.2.2.2.2.2 m hmk
      exact ⟨z, hz, he⟩
    · rw [if_neg hmk]; exact ⟨0, by omega, rfl⟩
  · exact hZ
  · exact hZ
theorem RI.col {x : Int32} {A A' : zm_S} (hI : RI A) (hx : isB x) (h : COL x A A') : RI A' := by
  obtain ⟨hB, ⟨n0, e0, hn0, hb0⟩, hZ⟩ := hI
  obtain ⟨n, e, hn, h⟩ := h
  have : n0 = n := (nI_eq (by omega) (by omega)).mp (e0.symm.trans e)
  subst this
  have hB' := isB_upd hB n0 hx
  rcases h with ⟨hc, rfl⟩ | ⟨h2, hc, kd, A2, hkd, hJ, rfl⟩
  · refine ⟨?_, ⟨n0 + 1, ?_, ?_⟩, ?_⟩
    · intro i
      rw [zm_up_ne _ _ _ (by decide), zm_up_self]; exact hB' i
    · rw [zm_up_self]; exact upd_self _ _ _
    · obtain ⟨b, hb, eb⟩ := hB' 1
      have e1 : zm_up (zm_up A 26 n0 x) 19 3 (nI (n0 + 1)) 26 1 = nI b := by rw [zm_up_ne _ _ _ (by decide), zm_up_self]; exact eb
      by_cases h1 : n0 + 1 < 2
      · exact ⟨by omega, fun h => by omega⟩
      · have hne : ¬ n0 + 1 = 2 + b := by
          intro hh
          rcases hc with hc | hc
          · exact h1 hc
          · apply hc
            rw [eb, show (2 : Int32) + nI b = nI (2 + b) from nI_add 2 b, hh]
        have hlt : n0 + 1 < 2 + b := by
          by_cases hn2 : 2 ≤ n0
          · obtain ⟨b', hb', eb', hlt'⟩ := hb0 hn2
            have : upd (A 26) n0 x 1 = A 26 1 := upd_ne _ _ (by omega)
            rw [this, eb'] at eb
            have : b' = b := (nI_eq (by omega) (by omega)).mp eb
            omega
          · have : n0 = 1 := by omega
            omega
        exact ⟨by omega, fun _ => ⟨b, hb, e1, hlt⟩⟩
    · intro m hm
      rw [zm_up_ne _ _ _ (by decide), zm_up_ne _ _ _ (by decide)]; exact hZ m hm
  · obtain ⟨k26, k19, k25, _⟩ := hJ.keep
    refine ⟨?_, ⟨0, ?_, by omega, fun h => by omega⟩, ?_⟩
    · intro i
      rw [zm_up_ne _ _ _ (by decide), k26, zm_up_ne _ _ _ (by decide), zm_up_self]; exact hB' i
    · rw [zm_up_ne _ _ _ (by decide), k19, zm_up_self]; exact upd_self _ _ _
    · intro m hm
      rw [zm_up_ne _ _ _ (by decide)]
      exact hJ.sizes (fun m hm => by rw [zm_up_ne _ _ _ (by decide), zm_up_ne _ _ _ (by decide)]; exact hZ m hm) m hm
theorem c_Rc_collect {d : Nat} {Q : zm_Q} {A : zm_S} {x : Int32} (hI : RI A) (hx : isB x) (hq : ∀ A', COL x A A' → Q none GG A') : zc M_Rc_collect (d + 3) [.ref 19, .int x] A Q := by
  obtain ⟨hB, ⟨n, e, hn, hb⟩, hZ⟩ := hI
  have hB' := isB_upd hB n hx
  have e26 : (zm_up A 26 n x) 26 1 = upd (A 26) n x 1 := by rw [zm_up_self]
  have c2 : nI (n + 1) < 2 ↔ n + 1 < 2 := nI_ltI (b := 2) (by omega) (by decide)
  refine e_Rc_collect (s_Rc_collect_0 n (by rw [e]; exact zm_ixN (by omega) (by decide)) (fun h => ?_) (fun h1 h2 => ?_))
  · rw [e, nI_1, e26] at h
    rw [e, nI_1]
    refine hq _ ⟨n, e, hn, Or.inl ⟨?_, rfl⟩⟩
    rcases h with h | h
    · exact Or.inl (c2.mp h)
    · exact Or.inr h.2
  · rw [e, nI_1] at h1 h2
    rw [e26] at h2
    rw [e, nI_1, zm_up_up]
    have hn2 : 2 ≤ n + 1 := by
      have : ¬ n + 1 < 2 := fun x => h1 (c2.mpr x)
      omega
    refine c_Rc_judge (n := n + 1) (fun i => ?_) (fun m hm => ?_) (by omega) (fun kd A2 hkd hJ => ?_)
    · rw [zm_up_ne _ _ _ (by decide), zm_up_self]; exact hB' i
    · rw [zm_up_ne _ _ _ (by decide), zm_up_ne _ _ _ (by decide)]; exact hZ m hm
    · refine s_Rc_collect_62 kd (zm_ixN (by omega) (by decide)) ?_
      exact hq _ ⟨n, e, hn, Or.inr ⟨hn2, h2, kd, A2, hkd, hJ, rfl⟩⟩
theorem COL.keep {x : Int32} {A A' : zm_S} (h : COL x A A') : A' 15 = A 15 ∧ (∀ a, ¬ (19 ≤ a ∧ a ≤ 26) → A' a = A a) ∧ A' 19 4 = A 19 4 := by
  obtain ⟨n, e, hn, h⟩ := h
  rcases h with ⟨_, rfl⟩ | ⟨_, _, kd, A2, _, hJ, rfl⟩
  · refine ⟨rfl, fun a ha => ?_, rfl⟩
    rw [zm_up_ne _ _ _ (by omega), zm_up_ne _ _ _ (by omega)]
  · obtain ⟨k26, k19, k25, kf⟩ := hJ.keep
    refine ⟨?_, fun a ha => ?_, ?_⟩
    · rw [zm_up_ne _ _ _ (by decide), kf 15 (by omega)]; rfl
    · rw [zm_up_ne _ _ _ (by omega), kf a ha, zm_up_ne _ _ _ (by omega), zm_up_ne _ _ _ (by omega)]
    · rw [zm_up_ne _ _ _ (by decide), k19]; rfl
-- a section goes on, sections begin
def CON (p : Nat → Int32) : Nat → Nat → zm_S → zm_S → Prop
  | 0, _, A, A' => A' = A
  | n + 1, i, A, A' => (A 19 3 ≤ 0 ∧ A' = A) ∨ (¬ A 19 3 ≤ 0 ∧ ∃ A1, COL (p i) A A1 ∧ CON p n (i + 1) A1 A')
def BEG (p : Nat → Int32) : Nat → Nat → zm_S → zm_S → Prop
  | 0, _, A, A' => A' = A
  | n + 1, i, A, A' => (A 19 3 = 0 ∧ p i = 255 ∧ A' = A) ∨ (¬ (A 19 3 = 0 ∧ p i = 255) ∧ ∃ A1, COL (p i) A A1 ∧ BEG p n (i + 1) A1 A')
theorem l_Rc_continue {d : Nat} {Q : zm_Q} {p : Nat → Int32} {e : Nat} (he : e ≤ 16) (hp : ∀ i, i < 16 → isB (p i)) : ∀ (n i : Nat) (A : zm_S), i + n = e → RI A → A 15 = p → (∀ A', CON p n i A A' → Q none GG A') → zw M_Rc_continueSection (d + 4) Q 3 [some (.ref 19), some (.ref 15), none, some (.int (nI e)), some (.int (nI i))] [] A := by
  intro n
  induction n with
  | zero =>
    intro i A hi _ _ hq
    have hle : nI e ≤ nI i := nI_le (by omega) (by omega)
    exact s_Rc_continueSection_3 0 (fun h => absurd hle h) (fun _ => hq A rfl) (fun h => absurd hle h)
  | succ n ih =>
    intro i A hi hI h15 hq
    have hlt : ¬ nI e ≤ nI i := nI_ge (by omega) (by omega)
    refine s_Rc_continueSection_3 i (fun _ _ => zm_ixN (by omega) (by decide)) (fun h => ?_) (fun _ h => ?_)
    · rcases h with h | h
      · exact absurd h hlt
      · exact hq A (Or.inl ⟨h.2, rfl⟩)
    · rw [h15]
      refine c_Rc_collect hI (hp i (by omega)) (fun A1 hC => ?_)
      refine s_Rc_continueSection_24 ?_
      rw [nI_1]
      refine ih (i + 1) A1 (by omega) (hI.col (hp i (by omega)) hC) (by rw [hC.keep.1]; exact h15) (fun A' hA => hq A' (Or.inr ⟨h, A1, hC, hA⟩))
theorem c_Rc_continueSection {d : Nat} {Q : zm_Q} {A : zm_S} {f e : Nat} (hfe : f ≤ e) (he : e ≤ 16) (hp : ∀ i, i < 16 → isB (A 15 i)) (hI : RI A) (hq : ∀ A', CON (A 15) (e - f) f A A' → Q none GG A') : zc M_Rc_continueSection (d + 4) [.ref 19, .ref 15, .int (nI f), .int (nI e)] A Q :=
  e_Rc_continueSection (s_Rc_continueSection_0 (l_Rc_continue he hp (e - f) f A (by omega) hI rfl hq))
theorem l_Rc_begin {d : Nat} {Q : zm_Q} {p : Nat → Int32} (hp : ∀ i, i < 16 → isB (p i)) : ∀ (n i : Nat) (A : zm_S), i + n = 16 → RI A → A 15 = p → (∀ A', BEG p n i A A' → Q none GG A') → zw M_Rc_beginSections (d + 4) Q 2 [some (.ref 19), some (.ref 15), none, some (.int (nI i))] [] A := by
  intro n
  induction n with
  | zero =>
    intro i A hi _ _ hq
    have : i = 16 := by omega
    subst this
    have hle : (16 : Int32) ≤ nI 16 := by decide
    refine s_Rc_beginSections_2 0 (fun h => absurd hle h) (fun h => absurd hle h) (fun _ => hq A rfl) ?_
    rintro (h | h) <;> exact absurd hle h.1
  | succ n ih =>
    intro i A hi hI h15 hq
    have hlt : ¬ (16 : Int32) ≤ nI i := nI_ge (b := 16) (by omega) (by decide)
    have hix : zm_ix (nI i) i 16 := zm_ixN (by omega) (by decide)
    refine s_Rc_beginSections_2 i (fun _ _ => hix) (fun _ _ => hix) (fun h => ?_) (fun h => ?_)
    · rw [h15] at h
      rcases h with h | h
      · exact absurd h hlt
      · exact hq A (Or.inl ⟨h.2.1, h.2.2, rfl⟩)
    · rw [h15] at h ⊢
      have hne : ¬ (A 19 3 = 0 ∧ p i = 255) := by
        rintro ⟨x, y⟩
        rcases h with h | h
        · exact h.2 x
        · exact h.2.2 y
      refine c_Rc_collect hI (hp i (by omega)) (fun A1 hC => ?_)
      refine s_Rc_beginSections_32 ?_
      rw [nI_1]
      exact ih (i + 1) A1 (by omega) (hI.col (hp i (by omega)) hC) (by rw [hC.keep.1]; exact h15) (fun A' hA => hq A' (Or.inr ⟨hne, A1, hC, hA⟩))
theorem c_Rc_beginSections {d : Nat} {Q : zm_Q} {A : zm_S} {f : Nat} (hf : f ≤ 16) (hp : ∀ i, i < 16 → isB (A 15 i)) (hI : RI A) (hq : ∀ A', BEG (A 15) (16 - f) f A A' → Q none GG A') : zc M_Rc_beginSections (d + 4) [.ref 19, .ref 15, .int (nI f)] A Q :=
  e_Rc_beginSections (s_Rc_beginSections_0 (l_Rc_begin hp (16 - f) f A (by omega) hI rfl hq))
theorem CON.keep {p : Nat → Int32} : ∀ {n i : Nat} {A A' : zm_S}, CON p n i A A' → (∀ j, j < 16 → isB (p j)) → i + n ≤ 16 → RI A → RI A' ∧ A' 15 = A 15 ∧ (∀ a, ¬ (19 ≤ a ∧ a ≤ 26) → A' a = A a) ∧ A' 19 4 = A 19 4
  | 0, _, A, A', h, _, _, hI => by
    have : A' = A := h
    subst this; exact ⟨hI, rfl, fun _ _ => rfl, rfl⟩
  | n + 1, i, A, A', h, hp, hi, hI => by
    rcases h with ⟨_, rfl⟩ | ⟨_, A1, hC, hA⟩
    · exact ⟨hI, rfl, fun _ _ => rfl, rfl⟩
    · obtain ⟨k1, k2, k3⟩ := hC.keep
      obtain ⟨g1, g2, g3, g4⟩ := CON.keep hA hp (by omega) (hI.col (hp i (by omega)) hC)
      exact ⟨g1, g2.trans k1, fun a ha => (g3 a ha).trans (k2 a ha), g4.trans k3⟩
theorem BEG.keep {p : Nat → Int32} : ∀ {n i : Nat} {A A' : zm_S}, BEG p n i A A' → (∀ j, j < 16 → isB (p j)) → i + n ≤ 16 → RI A → RI A' ∧ A' 15 = A 15 ∧ (∀ a, ¬ (19 ≤ a ∧ a ≤ 26) → A' a = A a) ∧ A' 19 4 = A 19 4
  | 0, _, A, A', h, _, _, hI => by
    have : A' = A := h
    subst this; exact ⟨hI, rfl, fun _ _ => rfl, rfl⟩
  | n + 1, i, A, A', h, hp, hi, hI => by
    rcases h with ⟨_, _, rfl⟩ | ⟨_, A1, hC, hA⟩
    · exact ⟨hI, rfl, fun _ _ => rfl, rfl⟩
    · obtain ⟨k1, k2, k3⟩ := hC.keep
      obtain ⟨g1, g2, g3, g4⟩ := BEG.keep hA hp (by omega) (hI.col (hp i (by omega)) hC)
      exact ⟨g1, g2.trans k1, fun a ha => (g3 a ha).trans (k2 a ha), g4.trans k3⟩
