-- the order of publishing goes up in a measure, so it visits each key once
def vg (P N : Nat → Int32) (dep : Nat → Nat) : Nat → Nat → Nat
  | 0, _ => 0
  | n + 1, k => vg P N dep n (P k).toNatClampNeg + (N k).toNatClampNeg * 256 ^ (11 - dep (P k).toNatClampNeg)
def vv (P N : Nat → Int32) (dep : Nat → Nat) (k : Nat) : Nat := vg P N dep (dep k) k
theorem vv_up {K P N : Nat → Int32} {dep : Nat → Nat} (hD : TD K P dep) {k p n : Nat} (h1 : 1 ≤ k) (hk : k < 12) (hp : p < 12) (hl : ¬ K k = 0) (hP : P k = nI p) (hN : N k = nI n) (hn : n ≤ 255) : vv P N dep k = vv P N dep p + n * 256 ^ (11 - dep p) := by
  have hd := hD.2 k p h1 hk hp hl hP
  unfold vv
  rw [hd]
  simp only [vg]
  rw [hP, hN, nI_clamp (by omega), nI_clamp (by omega)]
theorem pow_pos' (n : Nat) : 1 ≤ 256 ^ n := Nat.le_trans Nat.one_le_two_pow (Nat.pow_le_pow_left (by omega) n)
theorem TK.ofP {K P N : Nat → Int32} (hK : TK K P N) {k : Nat} (h1 : 1 ≤ k) (hk : k < 12) {p : Nat} (hp : p < 2 ^ 31) (h : P k = nI p) : ¬ K k = 0 := by
  rcases hK.2.2 k h1 hk with ⟨_, h2⟩ | ⟨h2, _⟩
  · rw [h2] at h; exact absurd h.symm (nI_nm1 hp)
  · rcases h2 with h2 | h2 <;> rw [h2] <;> decide
theorem fo_up {K P N : Nat → Int32} {dep : Nat → Nat} (hK : TK K P N) (hD : TD K P dep) {V : Nat} : ∀ (n a : Nat) (f : Int32), a < 12 → ¬ K a = 0 → (f = -1 ∨ ∃ j, 1 ≤ j ∧ j < 12 ∧ ¬ K j = 0 ∧ f = nI j ∧ V ≤ vv P N dep j) → V ≤ vv P N dep a + 256 ^ (12 - dep a) →
    (fo_go P N n f (nI a) = -1 ∨ ∃ j, 1 ≤ j ∧ j < 12 ∧ ¬ K j = 0 ∧ fo_go P N n f (nI a) = nI j ∧ V ≤ vv P N dep j) := by
  intro n
  induction n with
  | zero => intro a f _ _ hf _; exact hf
  | succ n ih =>
    intro a f ha hl hf hV
    by_cases hc : f = -1 ∧ ¬ nI a ≤ 0
    · have ha0 : ¬ a = 0 := fun h => hc.2 ((nI_le0 (by omega)).mpr h)
      obtain ⟨_, p, nn, hp, hn1, hn2, h1, h3, h2⟩ := hK.live (by omega) ha hl
      have e1 : fo_go P N (n + 1) f (nI a) = fo_go P N n (ea P N (nI p) (N a)) (nI p) := by
        show (if f = -1 ∧ ¬ nI a ≤ 0 then _ else _) = _
        rw [if_pos hc, nI_clamp (by omega), h1]
      rw [e1]
      have hda := hD.2 a p (by omega) ha hp hl h1
      have hdle := TD.le hK hD ha hl
      have hva := vv_up (N := N) hD (by omega) ha hp hl h1 h3 hn2
      have hpw : 256 ^ (12 - dep p) = 256 * 256 ^ (11 - dep p) := by
        rw [show 12 - dep p = 11 - dep p + 1 by omega, Nat.pow_succ, Nat.mul_comm]
      have hpa : 12 - dep a = 11 - dep p := by omega
      rw [hpa] at hV
      refine ih p _ hp (TK.dirLive h2) ?_ ?_
      · rcases ea_I P N (nI p) (N a) with ⟨h, _⟩ | ⟨j, hj1, hj2, hj3, hj4, hj5, _⟩
        · exact Or.inl h
        · refine Or.inr ⟨j, hj1, hj2, hK.ofP hj1 hj2 (by omega) hj4, hj3, ?_⟩
          have hlj := hK.ofP hj1 hj2 (by omega) hj4
          obtain ⟨_, p', nj, hp', _, hnj, h1', h3', _⟩ := hK.live hj1 hj2 hlj
          have hpp : p' = p := (nI_eq (by omega) (by omega)).mp (h1'.symm.trans hj4)
          subst hpp
          have hvj := vv_up (N := N) hD hj1 hj2 hp hlj h1' h3' hnj
          rw [h3, h3', nI_leI (by omega) (by omega)] at hj5
          have : (nn + 1) * 256 ^ (11 - dep p') ≤ nj * 256 ^ (11 - dep p') := Nat.mul_le_mul_right _ (by omega)
          rw [Nat.add_mul, Nat.one_mul] at this
          omega
      · have : nn * 256 ^ (11 - dep p) ≤ 255 * 256 ^ (11 - dep p) := Nat.mul_le_mul_right _ hn2
        omega
    · rw [fo_go_ne (n + 1) hc]; exact hf
theorem fo_inc {K P N : Nat → Int32} {dep : Nat → Nat} (hK : TK K P N) (hD : TD K P dep) {k : Nat} (hk : k < 12) (hl : ¬ K k = 0) : fo P N (nI k) = -1 ∨ ∃ j, 1 ≤ j ∧ j < 12 ∧ ¬ K j = 0 ∧ fo P N (nI k) = nI j ∧ vv P N dep k < vv P N dep j := by
  refine fo_up hK hD (V := vv P N dep k + 1) 12 k _ hk hl ?_ (Nat.add_le_add_left (pow_pos' _) _)
  rcases ea_I P N (nI k) 0 with ⟨h, _⟩ | ⟨j, hj1, hj2, hj3, hj4, hj5, _⟩
  · exact Or.inl h
  · have hlj := hK.ofP hj1 hj2 (by omega) hj4
    refine Or.inr ⟨j, hj1, hj2, hlj, hj3, ?_⟩
    obtain ⟨_, p', nj, hp', hn1, hnj, h1', h3', _⟩ := hK.live hj1 hj2 hlj
    have hpp : p' = k := (nI_eq (by omega) (by omega)).mp (h1'.symm.trans hj4)
    subst hpp
    have hvj := vv_up (N := N) hD hj1 hj2 hk hlj h1' h3' hnj
    have : 1 ≤ nj * 256 ^ (11 - dep p') := Nat.mul_le_mul hn1 (pow_pos' _)
    omega
-- the order
def it (P N : Nat → Int32) : Nat → Int32
  | 0 => 0
  | i + 1 => if it P N i = -1 then -1 else fo P N (it P N i)
theorem it_live {K P N : Nat → Int32} {dep : Nat → Nat} (hK : TK K P N) (hD : TD K P dep) : ∀ i, it P N i = -1 ∨ ∃ k, k < 12 ∧ ¬ K k = 0 ∧ it P N i = nI k
  | 0 => Or.inr ⟨0, by omega, by rw [hK.1]; decide, rfl⟩
  | i + 1 => by
    rcases it_live hK hD i with h | ⟨k, hk, hl, h⟩
    · exact Or.inl (if_pos h)
    · have e : it P N (i + 1) = fo P N (nI k) := by
        show (if it P N i = -1 then -1 else fo P N (it P N i)) = _
        rw [h, if_neg (nI_nm1 (by omega))]
      rw [e]
      rcases fo_inc hK hD hk hl with h | ⟨j, _, h2, h3, h4, _⟩
      · exact Or.inl h
      · exact Or.inr ⟨j, h2, h3, h4⟩
theorem it_up {K P N : Nat → Int32} {dep : Nat → Nat} (hK : TK K P N) (hD : TD K P dep) : ∀ (i j a b : Nat), i < j → a < 12 → b < 12 → it P N i = nI a → it P N j = nI b → vv P N dep a < vv P N dep b := by
  intro i j
  induction j with
  | zero => intro a b h; omega
  | succ j ih =>
    intro a b hij ha hb hi hj
    rcases it_live hK hD j with h | ⟨c, hc, hl, h⟩
    · have : it P N (j + 1) = -1 := if_pos h
      rw [this] at hj; exact absurd hj.symm (nI_nm1 (by omega))
    · have e : it P N (j + 1) = fo P N (nI c) := by
        show (if it P N j = -1 then -1 else fo P N (it P N j)) = _
        rw [h, if_neg (nI_nm1 (by omega))]
      rw [e] at hj
      have hcb : vv P N dep c < vv P N dep b := by
        rcases fo_inc hK hD hc hl with h' | ⟨b', _, h2, _, h4, h5⟩
        · rw [h'] at hj; exact absurd hj.symm (nI_nm1 (by omega))
        · have : b' = b := (nI_eq (by omega) (by omega)).mp (h4.symm.trans hj)
          subst this; exact h5
      by_cases hij2 : i = j
      · subst hij2
        have : a = c := (nI_eq (by omega) (by omega)).mp (hi.symm.trans h)
        subst this; exact hcb
      · exact Nat.lt_trans (ih a c (by omega) ha hc hi h) hcb
theorem it_end {K P N : Nat → Int32} {dep : Nat → Nat} (hK : TK K P N) (hD : TD K P dep) : it P N 12 = -1 := by
  rcases it_live hK hD 12 with h | ⟨k, hk, hl, h⟩
  · exact h
  · exfalso
    have back : ∀ i, i ≤ 12 → ∃ k, k < 12 ∧ it P N i = nI k := by
      intro i hi
      rcases it_live hK hD i with h' | ⟨k', hk', _, h'⟩
      · have stay : ∀ m, it P N (i + m) = -1 := by
          intro m
          induction m with
          | zero => exact h'
          | succ m ih => exact if_pos ih
        have := stay (12 - i)
        rw [show i + (12 - i) = 12 by omega, h] at this
        exact absurd this (nI_nm1 (by omega))
      · exact ⟨k', hk', h'⟩
    obtain ⟨f, hf⟩ : ∃ f : Nat → Nat, ∀ i, i ≤ 12 → f i < 12 ∧ it P N i = nI (f i) :=
      ⟨fun i => if hi : i ≤ 12 then (back i hi).choose else 0, fun i hi => by
        simp only [dif_pos hi]
        exact (back i hi).choose_spec⟩
    obtain ⟨i, j, hij, hj, he⟩ := php 12 f (fun i hi => (hf i hi).1)
    have := it_up hK hD i j (f i) (f j) hij (hf i (by omega)).1 (hf j hj).1 (hf i (by omega)).2 (hf j hj).2
    rw [he] at this
    exact Nat.lt_irrefl _ this
-- the entries of a directory
def et (P N : Nat → Int32) (dir : Int32) : Nat → Int32
  | 0 => ea P N dir 0
  | i + 1 => if et P N dir i = -1 then -1 else ea P N dir (N (et P N dir i).toNatClampNeg)
theorem et_in {P N : Nat → Int32} {dir : Int32} : ∀ i, et P N dir i = -1 ∨ ∃ k, 1 ≤ k ∧ k < 12 ∧ et P N dir i = nI k ∧ P k = dir
  | 0 => by
    show ea P N dir 0 = -1 ∨ _
    rcases ea_I P N dir 0 with ⟨h, _⟩ | ⟨j, h1, h2, h3, h4, _⟩
    · exact Or.inl h
    · exact Or.inr ⟨j, h1, h2, h3, h4⟩
  | i + 1 => by
    by_cases h : et P N dir i = -1
    · exact Or.inl (if_pos h)
    · have e : et P N dir (i + 1) = ea P N dir (N (et P N dir i).toNatClampNeg) := if_neg h
      rw [e]
      rcases ea_I P N dir (N (et P N dir i).toNatClampNeg) with ⟨h, _⟩ | ⟨j, h1, h2, h3, h4, _⟩
      · exact Or.inl h
      · exact Or.inr ⟨j, h1, h2, h3, h4⟩
theorem et_up {P N : Nat → Int32} {dir : Int32} : ∀ (i j a b : Nat), i < j → a < 12 → b < 12 → et P N dir i = nI a → et P N dir j = nI b → (N a).toInt < (N b).toInt := by
  intro i j
  induction j with
  | zero => intro a b h; omega
  | succ j ih =>
    intro a b hij ha hb hi hj
    rcases et_in (P := P) (N := N) (dir := dir) j with h | ⟨c, _, hc, h, _⟩
    · have : et P N dir (j + 1) = -1 := if_pos h
      rw [this] at hj; exact absurd hj.symm (nI_nm1 (by omega))
    · have e : et P N dir (j + 1) = ea P N dir (N c) := by
        show (if et P N dir j = -1 then -1 else _) = _
        rw [h, if_neg (nI_nm1 (by omega)), nI_clamp (by omega)]
      rw [e] at hj
      have hcb : (N c).toInt < (N b).toInt := by
        rcases ea_I P N dir (N c) with ⟨h', _⟩ | ⟨b', _, h2, h4, _, h5, _⟩
        · rw [h'] at hj; exact absurd hj.symm (nI_nm1 (by omega))
        · have : b' = b := (nI_eq (by omega) (by omega)).mp (h4.symm.trans hj)
          subst this
          rw [Int32.le_iff_toInt_le] at h5
          omega
      by_cases hij2 : i = j
      · subst hij2
        have : a = c := (nI_eq (by omega) (by omega)).mp (hi.symm.trans h)
        subst this; exact hcb
      · exact Int.lt_trans (ih a c (by omega) ha hc hi h) hcb
