-- the receiver: relations between states (positions 19 .. 26 of the class)
def taS (A : zm_S) : zm_S := if A 19 3 ≤ 0 then A else zm_up (zm_up A 25 4 (A 25 4 + 1)) 19 3 0
theorem c_Rc_throwAway {d : Nat} {Q : zm_Q} {S : zm_S} (hq : Q none GG (taS S)) : zc M_Rc_throwAway d [.ref 19] S Q := by
  refine e_Rc_throwAway (s_Rc_throwAway_0 (fun h => ?_) (fun h => ?_))
  · rw [taS, if_pos h] at hq; exact hq
  · rw [taS, if_neg h] at hq; exact hq
def ckS (s : Nat → Int32) (n : Nat) : Prop := (((s (n - 4) * 256 + s (n - 3)) <<< ((16 : Int32) &&& 31)) ||| (s (n - 2) * 256 + s (n - 1))) = crc (-1) ((List.range' 0 (n - 4)).map s)
theorem c_Rc_hasCheckDue {d : Nat} {Q : zm_Q} {S : zm_S} {n : Nat} (h6 : 6 ≤ n) (h257 : n ≤ 257) (h1 : ckS (S 26) n → Q (some 1) GG S) (h0 : ¬ ckS (S 26) n → Q (some 0) GG S) : zc M_Rc_hasCheckDue (d + 1) [.ref 19, .int (nI n)] S Q := by
  have e4 : nI n - 4 = nI (n - 4) := pk_sub (b := 4) (by omega)
  have e3 : nI n - 4 + 1 = nI (n - 3) := by rw [e4, nI_1]; congr 1; omega
  have e2 : nI n - 4 + 2 = nI (n - 2) := by rw [e4, show nI (n - 4) + 2 = nI (n - 4 + 2) from nI_add _ 2]; congr 1; omega
  have e1 : nI n - 4 + 2 + 1 = nI (n - 1) := by rw [e2, nI_1]; congr 1; omega
  refine e_Rc_hasCheckDue (s_Rc_hasCheckDue_0 (n - 4) (n - 3) (n - 2) (n - 1) (by rw [e4]; exact zm_ixN (by omega) (by decide)) (by rw [e3]; exact zm_ixN (by omega) (by decide)) (by rw [e2]; exact zm_ixN (by omega) (by decide)) (by rw [e1]; exact zm_ixN (by omega) (by decide)) ?_)
  rw [e4]
  refine c_CM_checkOf (b := 0) (e := n - 4) gg_26 (by decide) (by omega) (by omega) ?_
  exact s_Rc_hasCheckDue_37 (fun h => h0 h) (fun h => h1 h)
def lsS (s : Nat → Int32) (n k : Nat) : Prop := s 0 = 59 ∧ 1 ≤ k ∧ k ≤ 12 ∧ s 4 = nI k ∧ n = 9 + 3 * k ∧ ∀ m, m < k → ∃ z, 1 ≤ z ∧ z ≤ 48 ∧ s (5 + 3 * m) = nI z
theorem i48 {x : Int32} (h1 : ¬ x < 1) (h2 : x ≤ 48) : ∃ z, 1 ≤ z ∧ z ≤ 48 ∧ x = nI z := by
  have h0 : ¬ x < 0 := fun h => h1 (by rw [Int32.lt_iff_toInt_lt, i1]; rw [Int32.lt_iff_toInt_lt, i0] at h; omega)
  obtain ⟨j, hj, rfl⟩ := nI_of h0
  have := (nI_leI (b := 48) hj (by decide)).mp h2
  refine ⟨j, ?_, this, rfl⟩
  by_cases hz : j = 0
  · subst hz; exact absurd (by decide) h1
  · omega
theorem i48n {z : Nat} (h1 : 1 ≤ z) (h2 : z ≤ 48) : ¬ nI z < 1 ∧ nI z ≤ 48 := by
  refine ⟨fun h => ?_, nI_le (b := 48) h2 (by decide)⟩
  have := (nI_ltI (b := 1) (by omega) (by decide)).mp h
  omega
theorem l_Rc_isList {d : Nat} {Q : zm_Q} {S : zm_S} {k : Nat} (hk : k ≤ 12) (h1 : (∀ m, m < k → ∃ z, 1 ≤ z ∧ z ≤ 48 ∧ S 26 (5 + 3 * m) = nI z) → Q (some 1) GG S) (h0 : ¬ (∀ m, m < k → ∃ z, 1 ≤ z ∧ z ≤ 48 ∧ S 26 (5 + 3 * m) = nI z) → Q (some 0) GG S) : ∀ (n m : Nat), m + n = k → (∀ j, j < m → ∃ z, 1 ≤ z ∧ z ≤ 48 ∧ S 26 (5 + 3 * j) = nI z) → zw M_Rc_isList d Q 54 [some (.ref 19), none, some (.int (nI k)), some (.int (nI m)), none] [] S := by
  intro n
  induction n with
  | zero =>
    intro m hm hI
    have : m = k := by omega
    subst this
    have hle : nI m ≤ nI m := Int32.le_refl _
    refine s_Rc_isList_54 0 (fun h => absurd hle h) (fun _ => h1 hI) ?_ (fun h => absurd hle h)
    rintro (h | h) <;> exact absurd hle h.1
  | succ n ih =>
    intro m hm hI
    have hlt : ¬ nI k ≤ nI m := nI_ge (by omega) (by omega)
    have e : 5 + 3 * nI m = nI (5 + 3 * m) := by rw [show (3 : Int32) * nI m = nI (3 * m) from pk_mul 3 m, show (5 : Int32) + nI (3 * m) = nI (5 + 3 * m) from nI_add 5 _]
    refine s_Rc_isList_54 (5 + 3 * m) (fun _ => by rw [e]; exact zm_ixN (by omega) (by decide)) (fun h => absurd h hlt) (fun h => h0 (fun hh => ?_)) (fun _ a b => ?_)
    · obtain ⟨z, z1, z2, z3⟩ := hh m (by omega)
      obtain ⟨y1, y2⟩ := i48n z1 z2
      rw [z3] at h
      rcases h with h | h
      · exact y1 h.2
      · exact h.2.2 y2
    · rw [nI_1]
      refine ih (m + 1) (by omega) (fun j hj => ?_)
      by_cases hjm : j = m
      · subst hjm; exact i48 a b
      · exact hI j (by omega)
theorem c_Rc_isList {d : Nat} {Q : zm_Q} {S : zm_S} {n : Nat} (hB : ∀ i, isB (S 26 i)) (hn : n ≤ 257) (h1 : ∀ k, lsS (S 26) n k → Q (some 1) GG S) (h0 : (∀ k, ¬ lsS (S 26) n k) → Q (some 0) GG S) : zc M_Rc_isList d [.ref 19, .int (nI n)] S Q := by
  obtain ⟨k, hk, e4⟩ := hB 4
  have eS : 5 + 3 * nI k + 4 = nI (9 + 3 * k) := by
    rw [show (3 : Int32) * nI k = nI (3 * k) from pk_mul 3 k, show (5 : Int32) + nI (3 * k) = nI (5 + 3 * k) from nI_add 5 _, show nI (5 + 3 * k) + 4 = nI (5 + 3 * k + 4) from nI_add _ 4]; congr 1; omega
  have hneg : (∀ j, lsS (S 26) n j → j = k) := fun j hj => (nI_eq (by have := hj.2.2.1; omega) (by omega)).mp (hj.2.2.2.1.symm.trans e4)
  refine e_Rc_isList (s_Rc_isList_0 (fun h => h0 (fun j hj => ?_)) (fun x1 x2 x3 x4 x5 => ?_))
  · have := hneg j hj
    subst this
    obtain ⟨y0, y1, y2, y3, y4, _⟩ := hj
    rw [e4, eS] at h
    rcases h with h | h | h | h | h
    · exact h y0
    · have := (nI_ltI (b := 1) (by omega) (by decide)).mp h.2.2; omega
    · exact h.2.2.2.2 (by rw [y4])
    · exact h.2.2.2 (nI_le (b := 12) y2 (by decide))
    · exact h.2 (nI_le (a := 9) (by omega) (by omega))
  · rw [e4] at x3 x4 x5 ⊢
    rw [eS] at x5
    have k12 : k ≤ 12 := (nI_leI (b := 12) (by omega) (by decide)).mp x4
    have k1 : 1 ≤ k := by
      by_cases hz : k = 0
      · subst hz; exact absurd (by decide) x3
      · omega
    have en : n = 9 + 3 * k := (nI_eq (by omega) (by omega)).mp x5
    refine l_Rc_isList k12 (fun hh => h1 k ⟨x1, k1, k12, e4, en, hh⟩) (fun hh => h0 (fun j hj => ?_)) k 0 (by omega) (fun j hj => by omega)
    have := hneg j hj
    subst this
    exact hh hj.2.2.2.2.2
-- a list is taken
def nz (s : Nat → Int32) (k m : Nat) : Int32 := if m < k then s (5 + 3 * m) else 0
def nv (s : Nat → Int32) (k m : Nat) : Int32 := if m < k then s (6 + 3 * m) * 256 + s (7 + 3 * m) else 0
def tlS (A : zm_S) (k t : Nat) : zm_S := fun a => if a = 20 then upd (upd (A 20) 0 1) 1 (A 26 2 * 256 + A 26 3) else if a = 21 then (fun m => if m < t then nz (A 26) k m else A 21 m) else if a = 22 then (fun m => if m < t then nv (A 26) k m else A 22 m) else if a = 23 then (fun m => if m < t ∧ ¬ (A 21 m = nz (A 26) k m ∧ A 22 m = nv (A 26) k m) then 0 else A 23 m) else A a
theorem tlS_step {A : zm_S} {k t : Nat} : (A 21 t = nz (A 26) k t ∧ A 22 t = nv (A 26) k t → tlS A k (t + 1) = tlS A k t) ∧ (¬ (A 21 t = nz (A 26) k t ∧ A 22 t = nv (A 26) k t) → tlS A k (t + 1) = zm_up (zm_up (zm_up (tlS A k t) 21 t (nz (A 26) k t)) 22 t (nv (A 26) k t)) 23 t 0) := by
  have lt1 : ∀ j, j ≠ t → ((j < t + 1) ↔ (j < t)) := fun j hj => by omega
  constructor
  · rintro ⟨h1, h2⟩
    funext a
    unfold tlS
    by_cases a20 : a = 20
    · rw [if_pos a20, if_pos a20]
    · rw [if_neg a20, if_neg a20]
      by_cases a21 : a = 21
      · rw [if_pos a21, if_pos a21]
        funext j
        by_cases hj : j = t
        · subst hj; rw [if_pos (Nat.lt_succ_self j), if_neg (Nat.lt_irrefl j)]; exact h1.symm
        · simp only [lt1 j hj]
      · rw [if_neg a21, if_neg a21]
        by_cases a22 : a = 22
        · rw [if_pos a22, if_pos a22]
          funext j
          by_cases hj : j = t
          · subst hj; rw [if_pos (Nat.lt_succ_self j), if_neg (Nat.lt_irrefl j)]; exact h2.symm
          · simp only [lt1 j hj]
        · rw [if_neg a22, if_neg a22]
          by_cases a23 : a = 23
          · rw [if_pos a23, if_pos a23]
            funext j
            by_cases hj : j = t
            · subst hj; rw [if_neg (fun x => x.2 ⟨h1, h2⟩), if_neg (fun x => Nat.lt_irrefl j x.1)]
            · simp only [lt1 j hj]
          · rw [if_neg a23, if_neg a23]
  · intro hn
    funext a
    by_cases a23 : a = 23
    · subst a23
      rw [zm_up_self, zm_up_ne _ _ _ (by decide), zm_up_ne _ _ _ (by decide)]
      show (fun m => if m < t + 1 ∧ _ then (0 : Int32) else A 23 m) = upd (fun m => if m < t ∧ _ then (0 : Int32) else A 23 m) t 0
      funext j
      by_cases hj : j = t
      · subst hj; rw [upd_self, if_pos ⟨Nat.lt_succ_self j, hn⟩]
      · rw [upd_ne _ _ hj]
        simp only [lt1 j hj]
    · rw [zm_up_ne _ _ _ a23]
      by_cases a22 : a = 22
      · subst a22
        rw [zm_up_self, zm_up_ne _ _ _ (by decide)]
        show (fun m => if m < t + 1 then nv (A 26) k m else A 22 m) = upd (fun m => if m < t then nv (A 26) k m else A 22 m) t _
        funext j
        by_cases hj : j = t
        · subst hj; rw [upd_self, if_pos (Nat.lt_succ_self j)]
        · rw [upd_ne _ _ hj]
          simp only [lt1 j hj]
      · rw [zm_up_ne _ _ _ a22]
        by_cases a21 : a = 21
        · subst a21
          rw [zm_up_self]
          show (fun m => if m < t + 1 then nz (A 26) k m else A 21 m) = upd (fun m => if m < t then nz (A 26) k m else A 21 m) t _
          funext j
          by_cases hj : j = t
          · subst hj; rw [upd_self, if_pos (Nat.lt_succ_self j)]
          · rw [upd_ne _ _ hj]
            simp only [lt1 j hj]
        · rw [zm_up_ne _ _ _ a21]
          unfold tlS
          rw [if_neg a21, if_neg a21, if_neg a22, if_neg a22, if_neg a23, if_neg a23]
theorem l_Mt_takeList {d : Nat} {Q : zm_Q} {A : zm_S} {k : Nat} (hk : k ≤ 12) (hq : Q none GG (tlS A k 12)) : ∀ (n m : Nat), m + n = 12 → zw M_Mt_takeList (d + 1) Q 20 [some (.ref 20), some (.ref 26), some (.int (nI k)), some (.int (nI m)), none, none, none] [] (tlS A k m) := by
  intro n
  induction n with
  | zero =>
    intro m hm
    have : m = 12 := by omega
    subst this
    have hle : (12 : Int32) ≤ nI 12 := by decide
    refine s_Mt_takeList_20 0 0 0 0 (fun h => absurd hle h) (fun h => absurd hle h) (fun h => absurd hle h) (fun h => absurd hle h) (fun h => absurd hle h) (fun h => absurd hle h) (fun h => absurd hle h) (fun h => absurd hle h) (fun h => absurd hle h) (fun _ => hq) ?_ ?_ ?_
    · rintro (h | h) <;> exact absurd hle h.1
    · rintro (h | h) <;> exact absurd hle h.1
    · rintro (h | h) <;> exact absurd hle h.1
  | succ n ih =>
    intro m hm
    have hlt : ¬ (12 : Int32) ≤ nI m := nI_ge (b := 12) (by omega) (by decide)
    have hix : zm_ix (nI m) m 12 := zm_ixN (by omega) (by decide)
    have e5 : 5 + 3 * nI m = nI (5 + 3 * m) := by rw [show (3 : Int32) * nI m = nI (3 * m) from pk_mul 3 m, show (5 : Int32) + nI (3 * m) = nI (5 + 3 * m) from nI_add 5 _]
    have e6 : 5 + 3 * nI m + 1 = nI (6 + 3 * m) := by rw [e5, nI_1]; congr 1; omega
    have e7 : 5 + 3 * nI m + 1 + 1 = nI (7 + 3 * m) := by rw [e6, nI_1]; congr 1; omega
    have hkm : nI k ≤ nI m ↔ k ≤ m := nI_leI (by omega) (by omega)
    have a21 : tlS A k m 21 m = A 21 m := if_neg (Nat.lt_irrefl m)
    have a22 : tlS A k m 22 m = A 22 m := if_neg (Nat.lt_irrefl m)
    have a26 : tlS A k m 26 = A 26 := rfl
    refine s_Mt_takeList_20 m (5 + 3 * m) (6 + 3 * m) (7 + 3 * m) (fun _ _ => hix) (fun _ _ _ => hix) (fun _ _ _ _ => hix) (fun _ _ => by rw [e5]; exact zm_ixN (by omega) (by decide)) (fun _ _ => by rw [e6]; exact zm_ixN (by omega) (by decide)) (fun _ _ => by rw [e7]; exact zm_ixN (by omega) (by decide)) (fun _ _ => hix) (fun _ _ _ => hix) (fun _ _ _ _ => hix) (fun h => absurd h hlt) (fun h => ?_) (fun h => ?_) (fun h => ?_)
    · have hk' : k ≤ m := hkm.mp (by rcases h with h | h; exact h.2.1; exact h.2.1)
      have ez : nz (A 26) k m = 0 := if_neg (by omega)
      have ev : nv (A 26) k m = 0 := if_neg (by omega)
      rw [a21, a22] at h
      have hn : ¬ (A 21 m = nz (A 26) k m ∧ A 22 m = nv (A 26) k m) := by
        rw [ez, ev]
        rintro ⟨x, y⟩
        rcases h with h | h
        · exact h.2.2 x
        · exact h.2.2.2 y
      have := tlS_step.2 hn
      rw [ez, ev] at this
      rw [nI_1, ← this]
      exact ih (m + 1) (by omega)
    · have hs : A 21 m = nz (A 26) k m ∧ A 22 m = nv (A 26) k m := by
        rw [a21, a22, a26] at h
        rcases h with h | h
        · have hk' := hkm.mp h.2.1
          rw [show nz (A 26) k m = 0 from if_neg (by omega), show nv (A 26) k m = 0 from if_neg (by omega)]
          exact ⟨h.2.2.1, h.2.2.2⟩
        · have hk' : ¬ k ≤ m := fun x => h.2.1 (hkm.mpr x)
          rw [show nz (A 26) k m = A 26 (5 + 3 * m) from if_pos (by omega), show nv (A 26) k m = A 26 (6 + 3 * m) * 256 + A 26 (7 + 3 * m) from if_pos (by omega)]
          exact ⟨h.2.2.1, h.2.2.2⟩
      rw [nI_1, ← tlS_step.1 hs]
      exact ih (m + 1) (by omega)
    · rw [a21, a22, a26] at h
      rw [a26]
      have hk' : ¬ k ≤ m := fun x => (by rcases h with h | h; exact h.2.1; exact h.2.1 : ¬ nI k ≤ nI m) (hkm.mpr x)
      have ez : nz (A 26) k m = A 26 (5 + 3 * m) := if_pos (by omega)
      have ev : nv (A 26) k m = A 26 (6 + 3 * m) * 256 + A 26 (7 + 3 * m) := if_pos (by omega)
      have hn : ¬ (A 21 m = nz (A 26) k m ∧ A 22 m = nv (A 26) k m) := by
        rw [ez, ev]
        rintro ⟨x, y⟩
        rcases h with h | h
        · exact h.2.2 x
        · exact h.2.2.2 y
      have := tlS_step.2 hn
      rw [ez, ev] at this
      rw [nI_1, ← this]
      exact ih (m + 1) (by omega)
theorem c_Mt_takeList {d : Nat} {Q : zm_Q} {A : zm_S} {k : Nat} (hk : k ≤ 12) (h4 : A 26 4 = nI k) (hq : Q none GG (tlS A k 12)) : zc M_Mt_takeList (d + 1) [.ref 20, .ref 26] A Q := by
  refine e_Mt_takeList (s_Mt_takeList_0 3 (zm_ixN (j := 3) (by decide) (by decide)) ?_)
  rw [h4]
  have e : zm_up (zm_up A 20 0 1) 20 1 ((zm_up A 20 0 1) 26 2 * 256 + (zm_up A 20 0 1) 26 3) = tlS A k 0 := by
    funext a
    unfold tlS
    by_cases a20 : a = 20
    · subst a20; rw [zm_up_self, zm_up_self, if_pos rfl]; rfl
    · rw [zm_up_ne _ _ _ a20, zm_up_ne _ _ _ a20, if_neg a20]
      by_cases a21 : a = 21
      · subst a21; rw [if_pos rfl]; funext j; exact (if_neg (Nat.not_lt_zero j)).symm
      · rw [if_neg a21]
        by_cases a22 : a = 22
        · subst a22; rw [if_pos rfl]; funext j; exact (if_neg (Nat.not_lt_zero j)).symm
        · rw [if_neg a22]
          by_cases a23 : a = 23
          · subst a23; rw [if_pos rfl]; funext j; exact (if_neg (fun x => Nat.not_lt_zero j x.1)).symm
          · rw [if_neg a23]
  rw [e]
  exact l_Mt_takeList hk hq 12 0 (by omega)
