theorem nI_or {x y k : Nat} (hy : y < 2 ^ k) (h : x * 2 ^ k + y < 4294967296) : nI (x * 2 ^ k) ||| nI y = nI (x * 2 ^ k + y) := by
  apply i32ext
  rw [Int32.toBitVec_or, BitVec.toNat_or, pk_tn (by omega), pk_tn (by omega), pk_tn (by omega), ← Nat.shiftLeft_eq, Nat.shiftLeft_add_eq_or_of_lt hy]
theorem nI_shl8 {x : Nat} (h : x * 256 < 4294967296) : nI x <<< ((8 : Int32) &&& 31) = nI (x * 2 ^ 8) := pk_shlN _ 8 (by decide) (by omega)
theorem nI_shl16 {x : Nat} (h : x * 65536 < 4294967296) : nI x <<< ((16 : Int32) &&& 31) = nI (x * 2 ^ 16) := pk_shlN _ 16 (by decide) (by omega)
theorem said4 {a b c d : Nat} (ha : a ≤ 255) (hb : b ≤ 255) (hc : c ≤ 255) (hd : d ≤ 255) : ((((((((0 : Int32) <<< ((8 : Int32) &&& 31)) ||| nI a) <<< ((8 : Int32) &&& 31)) ||| nI b) <<< ((8 : Int32) &&& 31)) ||| nI c) <<< ((8 : Int32) &&& 31)) ||| nI d = ((nI a * 256 + nI b) <<< ((16 : Int32) &&& 31)) ||| (nI c * 256 + nI d) := by
  have e0 : ((0 : Int32) <<< ((8 : Int32) &&& 31)) ||| nI a = nI a := by
    have h := nI_shl8 (x := 0) (by omega)
    have h0 : (0 : Int32) <<< ((8 : Int32) &&& 31) = nI (0 * 2 ^ 8) := h
    rw [h0, nI_or (by omega) (by omega)]; congr 1; omega
  rw [e0, nI_shl8 (by omega), nI_or (by omega) (by omega), nI_shl8 (by omega), nI_or (by omega) (by omega), nI_shl8 (by omega), nI_or (by omega) (by omega)]
  rw [show nI a * 256 = nI (a * 256) from pk_mul a 256, nI_add, show nI c * 256 = nI (c * 256) from pk_mul c 256, nI_add, nI_shl16 (by omega), nI_or (by omega) (by omega)]
  apply congrArg nI
  omega
theorem l_Md_checks {d : Nat} {Q : zm_Q} {S : zm_S} {n : Nat} (hn : n ≤ 257) (h30 : S 27 30 = nI n) (h6 : 6 ≤ n) (hB : ∀ i, isB (S 48 i)) (h1 : ckS (S 48) n → Q (some 1) GG S) (h0 : ¬ ckS (S 48) n → Q (some 0) GG S) : ∀ (t i : Nat) (c : Int32), i + t = n - 4 → crc c ((List.range' i t).map (S 48)) = crc (-1) ((List.range' 0 (n - 4)).map (S 48)) → zw M_Md_checks (d + 1) Q 4 [some (.ref 27), some (.int c), some (.int (nI i)), none] [] S := by
  intro t
  have e4 : S 27 30 - 4 = nI (n - 4) := by rw [h30]; exact pk_sub (b := 4) (by omega)
  induction t with
  | zero =>
    intro i c hi hc
    have hle : S 27 30 - 4 ≤ nI i := by rw [e4]; exact nI_le (by omega) (by omega)
    refine s_Md_checks_4 0 (fun h => absurd hle h) (fun _ => ?_) (fun h => absurd hle h)
    have hc' : c = crc (-1) ((List.range' 0 (n - 4)).map (S 48)) := hc
    rw [e4]
    have st : ∀ (j : Nat) (v : Int32), j < n → zw M_Md_checks (d + 1) Q 40 [some (.ref 27), some (.int c), some (.int ((v <<< ((8 : Int32) &&& 31)) ||| S 48 j)), some (.int (nI (j + 1)))] [] S → zw M_Md_checks (d + 1) Q 40 [some (.ref 27), some (.int c), some (.int v), some (.int (nI j))] [] S := by
      intro j v hj hz
      have hlt : ¬ S 27 30 ≤ nI j := by rw [h30]; exact nI_ge hj (by omega)
      refine s_Md_checks_40 j (fun _ => zm_ixN (by omega) (by decide)) (fun h => absurd h hlt) (fun h => absurd h hlt) (fun _ => ?_)
      rw [nI_1]; exact hz
    refine st (n - 4) _ (by omega) ?_
    rw [show n - 4 + 1 = n - 3 by omega]
    refine st (n - 3) _ (by omega) ?_
    rw [show n - 3 + 1 = n - 2 by omega]
    refine st (n - 2) _ (by omega) ?_
    rw [show n - 2 + 1 = n - 1 by omega]
    refine st (n - 1) _ (by omega) ?_
    rw [show n - 1 + 1 = n by omega]
    have hle2 : S 27 30 ≤ nI n := by rw [h30]; exact Int32.le_refl _
    obtain ⟨a, ha, ea⟩ := hB (n - 4)
    obtain ⟨b, hb, eb⟩ := hB (n - 3)
    obtain ⟨x, hx, ex⟩ := hB (n - 2)
    obtain ⟨y, hy, ey⟩ := hB (n - 1)
    have hs : ckS (S 48) n ↔ c = ((((((((0 : Int32) <<< ((8 : Int32) &&& 31)) ||| S 48 (n - 4)) <<< ((8 : Int32) &&& 31)) ||| S 48 (n - 3)) <<< ((8 : Int32) &&& 31)) ||| S 48 (n - 2)) <<< ((8 : Int32) &&& 31)) ||| S 48 (n - 1) := by
      unfold ckS
      rw [hc', ea, eb, ex, ey, said4 ha hb hx hy]
      exact ⟨fun h => h.symm, fun h => h.symm⟩
    exact s_Md_checks_40 0 (fun h => absurd hle2 h) (fun _ h => h0 (fun x => h (hs.mp x))) (fun _ h => h1 (hs.mpr h)) (fun h => absurd hle2 h)
  | succ t ih =>
    intro i c hi hc
    have hlt : ¬ S 27 30 - 4 ≤ nI i := by rw [e4]; exact nI_ge (by omega) (by omega)
    refine s_Md_checks_4 i (fun _ => zm_ixN (by omega) (by decide)) (fun h => absurd h hlt) (fun _ => ?_)
    refine c_Md_mixed ?_
    refine s_Md_checks_24 ?_
    rw [nI_1]
    refine ih (i + 1) _ (by omega) ?_
    rw [List.range'_succ, List.map_cons] at hc
    simp only [crc, List.foldl_cons] at hc ⊢
    exact hc
theorem c_Md_checks {d : Nat} {Q : zm_Q} {S : zm_S} {n : Nat} (hn : n ≤ 257) (h30 : S 27 30 = nI n) (h6 : 6 ≤ n) (hB : ∀ i, isB (S 48 i)) (h1 : ckS (S 48) n → Q (some 1) GG S) (h0 : ¬ ckS (S 48) n → Q (some 0) GG S) : zc M_Md_checks (d + 1) [.ref 27] S Q :=
  e_Md_checks (s_Md_checks_0 (l_Md_checks hn h30 h6 hB h1 h0 (n - 4) 0 (-1) (by omega) rfl))
theorem l_Md_isList {d : Nat} {Q : zm_Q} {S : zm_S} {k : Nat} (hk : k ≤ 12) (e4 : S 48 4 = nI k) (h1 : (∀ m, m < k → ∃ z, 1 ≤ z ∧ z ≤ 48 ∧ S 48 (5 + 3 * m) = nI z) → Q (some 1) GG S) (h0 : ¬ (∀ m, m < k → ∃ z, 1 ≤ z ∧ z ≤ 48 ∧ S 48 (5 + 3 * m) = nI z) → Q (some 0) GG S) : ∀ (n m : Nat) (v : Int32), m + n = k → ((v = 1 ∧ ∀ j, j < m → ∃ z, 1 ≤ z ∧ z ≤ 48 ∧ S 48 (5 + 3 * j) = nI z) ∨ (v = 0 ∧ ¬ ∀ j, j < m → ∃ z, 1 ≤ z ∧ z ≤ 48 ∧ S 48 (5 + 3 * j) = nI z)) → zw M_Md_isList (d + 1) Q 59 [some (.ref 27), some (.int v), some (.int (nI m))] [] S := by
  intro n
  induction n with
  | zero =>
    intro m v hm hv
    have : m = k := by omega
    subst this
    have hle : S 48 4 ≤ nI m := by rw [e4]; exact Int32.le_refl _
    refine s_Md_isList_59 0 (fun _ => ?_) (fun h => absurd hle h) (fun _ => ?_) ?_ (fun h => absurd hle h)
    · rcases hv with h | h
      · exact Or.inr h.1
      · exact Or.inl h.1
    · rcases hv with ⟨rfl, h⟩ | ⟨rfl, h⟩
      · exact h1 h
      · exact h0 h
    · rintro (h | h) <;> exact absurd hle h.1
  | succ n ih =>
    intro m v hm hv
    have hlt : ¬ S 48 4 ≤ nI m := by rw [e4]; exact nI_ge (by omega) (by omega)
    have e : 5 + 3 * nI m = nI (5 + 3 * m) := by rw [show (3 : Int32) * nI m = nI (3 * m) from pk_mul 3 m, show (5 : Int32) + nI (3 * m) = nI (5 + 3 * m) from nI_add 5 _]
    refine s_Md_isList_59 (5 + 3 * m) (fun h => absurd h hlt) (fun _ _ => by rw [e]; exact zm_ixN (by omega) (by decide)) (fun h => absurd h hlt) (fun h => ?_) (fun _ hv0 a b => ?_)
    · rw [nI_1]
      refine ih (m + 1) 0 (by omega) (Or.inr ⟨rfl, fun hh => ?_⟩)
      rcases hv with ⟨rfl, hb⟩ | ⟨rfl, hb⟩
      · obtain ⟨z, z1, z2, z3⟩ := hh m (by omega)
        obtain ⟨y1, y2⟩ := i48n z1 z2
        rw [z3] at h
        rcases h with h | ⟨_, _, h | h⟩
        · exact absurd h.2 (by decide)
        · exact y1 h
        · exact (Int32.not_lt.mpr y2) h.2
      · exact hb (fun j hj => hh j (by omega))
    · rw [nI_1]
      refine ih (m + 1) 1 (by omega) (Or.inl ⟨rfl, fun j hj => ?_⟩)
      rcases hv with ⟨rfl, hb⟩ | ⟨rfl, hb⟩
      · by_cases hjm : j = m
        · subst hjm; exact i48 a (Int32.not_lt.mp b)
        · exact hb j (by omega)
      · exact absurd rfl hv0
theorem c_Md_isList {d : Nat} {Q : zm_Q} {S : zm_S} {n : Nat} (hB : ∀ i, isB (S 48 i)) (hn : n ≤ 257) (h30 : S 27 30 = nI n) (h1 : ∀ k, lsS (S 48) n k → Q (some 1) GG S) (h0 : (∀ k, ¬ lsS (S 48) n k) → Q (some 0) GG S) : zc M_Md_isList (d + 1) [.ref 27] S Q := by
  obtain ⟨k, hk, e4⟩ := hB 4
  have eS : 9 + 3 * nI k = nI (9 + 3 * k) := by
    rw [show (3 : Int32) * nI k = nI (3 * k) from pk_mul 3 k, show (9 : Int32) + nI (3 * k) = nI (9 + 3 * k) from nI_add 9 _]
  have hneg : (∀ j, lsS (S 48) n j → j = k) := fun j hj => (nI_eq (by have := hj.2.2.1; omega) (by omega)).mp (hj.2.2.2.1.symm.trans e4)
  refine e_Md_isList (s_Md_isList_0 (fun h => h0 (fun j hj => ?_)) (fun x1 x2 x3 x4 x5 => ?_))
  · have := hneg j hj
    subst this
    obtain ⟨y0, y1, y2, y3, y4, _⟩ := hj
    rw [e4, eS, h30] at h
    rcases h with h | h | h | ⟨_, _, _, h | h⟩
    · exact h y0
    · have := (nI_ltI (b := 9) (by omega) (by decide)).mp h.2; omega
    · exact h.2.2 (by rw [y4])
    · have := (nI_ltI (b := 1) (by omega) (by decide)).mp h; omega
    · have := (nI_ltI (a := 12) (by decide) (by omega)).mp h.2; omega
  · rw [e4] at x3 x4 x5
    rw [eS, h30] at x3
    have k12 : k ≤ 12 := by
      have : ¬ 12 < k := fun h => x5 ((nI_ltI (a := 12) (by decide) (by omega)).mpr h)
      omega
    have k1 : 1 ≤ k := by
      by_cases hz : k = 0
      · subst hz; exact absurd (by decide) x4
      · omega
    have en : n = 9 + 3 * k := (nI_eq (by omega) (by omega)).mp x3
    refine l_Md_isList k12 e4 (fun hh => h1 k ⟨x1, k1, k12, e4, en, hh⟩) (fun hh => h0 (fun j hj => ?_)) k 0 1 (by omega) (Or.inl ⟨rfl, fun j hj => by omega⟩)
    have := hneg j hj
    subst this
    exact hh hj.2.2.2.2.2
-- nothing of a module is held
def clr (f : Nat → Int32) (m t : Nat) : Nat → Int32 := fun i => if 6 * m ≤ i ∧ i < t then 0 else f i
theorem l_Md_nothing {d : Nat} {Q : zm_Q} {S : zm_S} {m : Nat} (hm : m < 12) (hq : Q none GG (zm_upA S 46 (clr (S 46) m (6 * m + 6)))) : ∀ (n i : Nat), i + n = 6 * m + 6 → 6 * m ≤ i → zw M_Md_nothing d Q 5 [some (.ref 27), some (.int (nI m)), some (.int (nI i))] [] (zm_upA S 46 (clr (S 46) m i)) := by
  intro n
  have e6 : 6 * nI m + 6 = nI (6 * m + 6) := by rw [show (6 : Int32) * nI m = nI (6 * m) from pk_mul 6 m, show nI (6 * m) + 6 = nI (6 * m + 6) from nI_add _ 6]
  induction n with
  | zero =>
    intro i hi _
    have : i = 6 * m + 6 := by omega
    subst this
    have hle : 6 * nI m + 6 ≤ nI (6 * m + 6) := by rw [e6]; exact Int32.le_refl _
    exact s_Md_nothing_5 0 (fun h => absurd hle h) (fun _ => hq) (fun h => absurd hle h)
  | succ n ih =>
    intro i hi h6
    have hlt : ¬ 6 * nI m + 6 ≤ nI i := by rw [e6]; exact nI_ge (by omega) (by omega)
    refine s_Md_nothing_5 i (fun _ => zm_ixN (by omega) (by decide)) (fun h => absurd h hlt) (fun _ => ?_)
    rw [nI_1, zm_upA_up]
    have e : upd (clr (S 46) m i) i 0 = clr (S 46) m (i + 1) := by
      funext j
      unfold clr
      by_cases hj : j = i
      · subst hj; rw [upd_self, if_pos ⟨h6, Nat.lt_succ_self j⟩]
      · rw [upd_ne _ _ hj]
        by_cases hc : 6 * m ≤ j ∧ j < i
        · rw [if_pos hc, if_pos ⟨hc.1, by omega⟩]
        · rw [if_neg hc, if_neg (fun x => hc ⟨x.1, by omega⟩)]
    rw [e]
    exact ih (i + 1) (by omega) (by omega)
theorem c_Md_nothing {d : Nat} {Q : zm_Q} {S : zm_S} {m : Nat} (hm : m < 12) (hq : Q none GG (zm_upA S 46 (clr (S 46) m (6 * m + 6)))) : zc M_Md_nothing d [.ref 27, .int (nI m)] S Q := by
  refine e_Md_nothing (s_Md_nothing_0 ?_)
  have h := l_Md_nothing (d := d) hm hq 6 (6 * m) (by omega) (Nat.le_refl _)
  have e : zm_upA S 46 (clr (S 46) m (6 * m)) = S := by
    have : clr (S 46) m (6 * m) = S 46 := by
      funext i; unfold clr; rw [if_neg (by omega)]
    rw [this, zm_upA_id]
  rw [e] at h
  rw [show (6 : Int32) * nI m = nI (6 * m) from pk_mul 6 m]
  exact h
