-- lists of keys: the order of publishing, the entries of a directory
def itl (P N : Nat → Int32) : Nat → Int32 → List Nat
  | 0, _ => []
  | n + 1, k => if k = -1 then [] else k.toNatClampNeg :: itl P N n (fo P N k)
def od (P N : Nat → Int32) : List Nat := itl P N 12 0
theorem itl_nil {P N : Nat → Int32} (n : Nat) : itl P N n (-1) = [] := by cases n <;> rfl
theorem itl_cons {P N : Nat → Int32} (n : Nat) {k : Nat} (hk : k < 12) : itl P N (n + 1) (nI k) = k :: itl P N n (fo P N (nI k)) := by
  show (if nI k = -1 then [] else _) = _
  rw [if_neg (nI_nm1 (by omega)), nI_clamp (by omega)]
def vd (K : Nat → Int32) (k : Int32) : Prop := k = -1 ∨ ∃ j, j < 12 ∧ ¬ K j = 0 ∧ k = nI j
theorem fo_vd {K P N : Nat → Int32} {dep : Nat → Nat} (hK : TK K P N) (hD : TD K P dep) {k : Nat} (hk : k < 12) (hl : ¬ K k = 0) : vd K (fo P N (nI k)) := by
  rcases fo_inc hK hD hk hl with h | ⟨j, _, h2, h3, h4, _⟩
  · exact Or.inl h
  · exact Or.inr ⟨j, h2, h3, h4⟩
theorem itl_in {K P N : Nat → Int32} {dep : Nat → Nat} (hK : TK K P N) (hD : TD K P dep) : ∀ (n : Nat) (k : Int32), vd K k → ∀ x ∈ itl P N n k, x < 12 ∧ ¬ K x = 0
  | 0, _, _, x, hx => by simp [itl] at hx
  | n + 1, k, hv, x, hx => by
    rcases hv with rfl | ⟨j, hj, hl, rfl⟩
    · rw [itl_nil] at hx; cases hx
    · rw [itl_cons n hj] at hx
      rcases List.mem_cons.mp hx with rfl | hx
      · exact ⟨hj, hl⟩
      · exact itl_in hK hD n _ (fo_vd hK hD hj hl) x hx
theorem itl_ge {K P N : Nat → Int32} {dep : Nat → Nat} (hK : TK K P N) (hD : TD K P dep) : ∀ (n j : Nat), j < 12 → ¬ K j = 0 → ∀ x ∈ itl P N n (nI j), vv P N dep j ≤ vv P N dep x
  | 0, _, _, _, x, hx => by simp [itl] at hx
  | n + 1, j, hj, hl, x, hx => by
    rw [itl_cons n hj] at hx
    rcases List.mem_cons.mp hx with rfl | hx
    · exact Nat.le_refl _
    · rcases fo_inc hK hD hj hl with h | ⟨i, _, h2, h3, h4, h5⟩
      · rw [h, itl_nil] at hx; cases hx
      · rw [h4] at hx
        exact Nat.le_trans (Nat.le_of_lt h5) (itl_ge hK hD n i h2 h3 x hx)
theorem itl_nodup {K P N : Nat → Int32} {dep : Nat → Nat} (hK : TK K P N) (hD : TD K P dep) : ∀ (n : Nat) (k : Int32), vd K k → (itl P N n k).Nodup
  | 0, _, _ => List.nodup_nil
  | n + 1, k, hv => by
    rcases hv with rfl | ⟨j, hj, hl, rfl⟩
    · rw [itl_nil]; exact List.nodup_nil
    · rw [itl_cons n hj]
      refine List.nodup_cons.mpr ⟨fun hx => ?_, itl_nodup hK hD n _ (fo_vd hK hD hj hl)⟩
      rcases fo_inc hK hD hj hl with h | ⟨i, _, h2, h3, h4, h5⟩
      · rw [h, itl_nil] at hx; cases hx
      · rw [h4] at hx
        have := itl_ge hK hD n i h2 h3 j hx
        omega
theorem itl_len (P N : Nat → Int32) : ∀ (n : Nat) (k : Int32), (itl P N n k).length ≤ n
  | 0, _ => Nat.le_refl _
  | n + 1, k => by
    show (if k = -1 then [] else _).length ≤ _
    split
    · exact Nat.zero_le _
    · have := itl_len P N n (fo P N k)
      simp only [List.length_cons]; omega
theorem vd0 {K P N : Nat → Int32} (hK : TK K P N) : vd K 0 := Or.inr ⟨0, by omega, by rw [hK.1]; decide, rfl⟩
def elg (P N : Nat → Int32) (dir : Int32) : Nat → Int32 → List Nat
  | 0, _ => []
  | n + 1, e => if e = -1 then [] else e.toNatClampNeg :: elg P N dir n (ea P N dir (N e.toNatClampNeg))
def el (P N : Nat → Int32) (dir : Int32) : List Nat := elg P N dir 12 (ea P N dir 0)
theorem elg_nil {P N : Nat → Int32} {dir : Int32} (n : Nat) : elg P N dir n (-1) = [] := by cases n <;> rfl
theorem elg_cons {P N : Nat → Int32} {dir : Int32} (n : Nat) {k : Nat} (hk : k < 12) : elg P N dir (n + 1) (nI k) = k :: elg P N dir n (ea P N dir (N k)) := by
  show (if nI k = -1 then [] else _) = _
  rw [if_neg (nI_nm1 (by omega)), nI_clamp (by omega)]
theorem ea_out {P N : Nat → Int32} {dir ab : Int32} : ea P N dir ab = -1 ∨ ∃ j, 1 ≤ j ∧ j < 12 ∧ ea P N dir ab = nI j ∧ P j = dir ∧ ab.toInt < (N j).toInt := by
  rcases ea_I P N dir ab with ⟨h, _⟩ | ⟨j, h1, h2, h3, h4, h5, _⟩
  · exact Or.inl h
  · refine Or.inr ⟨j, h1, h2, h3, h4, ?_⟩
    rw [Int32.le_iff_toInt_le] at h5; omega
theorem elg_in {P N : Nat → Int32} {dir : Int32} : ∀ (n : Nat) (ab : Int32), ∀ x ∈ elg P N dir n (ea P N dir ab), 1 ≤ x ∧ x < 12 ∧ P x = dir ∧ ab.toInt < (N x).toInt
  | 0, _, x, hx => by simp [elg] at hx
  | n + 1, ab, x, hx => by
    rcases ea_out (P := P) (N := N) (dir := dir) (ab := ab) with h | ⟨j, h1, h2, h3, h4, h5⟩
    · rw [h, elg_nil] at hx; cases hx
    · rw [h3, elg_cons n h2] at hx
      rcases List.mem_cons.mp hx with rfl | hx
      · exact ⟨h1, h2, h4, h5⟩
      · have := elg_in n (N j) x hx
        exact ⟨this.1, this.2.1, this.2.2.1, by omega⟩
theorem elg_nodup {P N : Nat → Int32} {dir : Int32} : ∀ (n : Nat) (ab : Int32), (elg P N dir n (ea P N dir ab)).Nodup
  | 0, _ => List.nodup_nil
  | n + 1, ab => by
    rcases ea_out (P := P) (N := N) (dir := dir) (ab := ab) with h | ⟨j, h1, h2, h3, h4, h5⟩
    · rw [h, elg_nil]; exact List.nodup_nil
    · rw [h3, elg_cons n h2]
      refine List.nodup_cons.mpr ⟨fun hx => ?_, elg_nodup n (N j)⟩
      have := (elg_in n (N j) j hx).2.2.2
      omega
-- a list without repetition is no longer than what it counts
theorem nodup_ec {P : Nat → Int32} {dir : Int32} : ∀ (n : Nat), n ≤ 11 → ∀ l : List Nat, l.Nodup → (∀ x ∈ l, 12 - n ≤ x ∧ x < 12 ∧ P x = dir) → l.length ≤ ec_go P dir n
  | 0, _, l, _, h => by
    cases l with
    | nil => exact Nat.zero_le _
    | cons x t => have := h x List.mem_cons_self; omega
  | n + 1, hn, l, hd, h => by
    have ih := nodup_ec (P := P) (dir := dir) n (by omega) (l.erase (11 - n)) (hd.erase _) (fun x hx => by
      have h1 := h x (List.mem_of_mem_erase hx)
      have h2 : x ≠ 11 - n := fun e => by subst e; exact (List.Nodup.not_mem_erase hd) hx
      exact ⟨by omega, h1.2⟩)
    simp only [ec_go]
    by_cases hm : (11 - n) ∈ l
    · rw [List.length_erase_of_mem hm] at ih
      rw [if_pos (h _ hm).2.2]
      omega
    · rw [List.erase_of_not_mem hm] at ih
      omega
theorem el_len (P N : Nat → Int32) (dir : Int32) : (el P N dir).length ≤ ec P dir :=
  nodup_ec 11 (by omega) _ (elg_nodup 12 0) (fun x hx => by have := elg_in 12 0 x hx; exact ⟨by omega, this.2.1, this.2.2.1⟩)
theorem et_end {P N : Nat → Int32} {dir : Int32} (i : Nat) (hi : 11 ≤ i) : et P N dir i = -1 := by
  rcases et_in (P := P) (N := N) (dir := dir) i with h | ⟨k, hk1, hk2, hk, _⟩
  · exact h
  · exfalso
    have stay : ∀ a m, et P N dir a = -1 → et P N dir (a + m) = -1 := by
      intro a m ha
      induction m with
      | zero => exact ha
      | succ m ih => exact if_pos ih
    have back : ∀ j, j ≤ i → ∃ k, k < 11 ∧ et P N dir j = nI (k + 1) := by
      intro j hj
      rcases et_in (P := P) (N := N) (dir := dir) j with h' | ⟨k', h1, h2, h', _⟩
      · have := stay j (i - j) h'
        rw [show j + (i - j) = i by omega, hk] at this
        exact absurd this (nI_nm1 (by omega))
      · exact ⟨k' - 1, by omega, by rw [h']; congr 1; omega⟩
    obtain ⟨f, hf⟩ : ∃ f : Nat → Nat, ∀ j, j ≤ i → f j < 11 ∧ et P N dir j = nI (f j + 1) :=
      ⟨fun j => if hj : j ≤ i then (back j hj).choose else 0, fun j hj => by
        simp only [dif_pos hj]
        exact (back j hj).choose_spec⟩
    obtain ⟨a, b, hab, hb, he⟩ := php 11 f (fun j hj => (hf j (by omega)).1)
    have := et_up a b (f a + 1) (f b + 1) hab (by have := (hf a (by omega)).1; omega) (by have := (hf b (by omega)).1; omega) (hf a (by omega)).2 (hf b (by omega)).2
    rw [he] at this
    omega
