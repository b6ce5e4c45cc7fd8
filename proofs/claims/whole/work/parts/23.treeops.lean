-- make, remove, append, empty on both sides
def RT (S : zm_S) : Prop := S 28 = S 2 ∧ S 30 = S 4 ∧ S 31 = S 5 ∧ S 32 = S 6 ∧ (∀ k, 1 ≤ k → k < 12 → ¬ S 2 k = 0 → S 29 k = S 3 k) ∧ TI (S 2) (S 3) (S 4) (S 5) (S 6)
def FT (S S2 : zm_S) : Prop := ∀ a, ¬ (2 ≤ a ∧ a ≤ 6) → ¬ (28 ≤ a ∧ a ≤ 32) → S2 a = S a
theorem RT.rp {S : zm_S} (h : RT S) : RP S (S 3) := by
  obtain ⟨h28, _, _, _, h29, hT⟩ := h
  intro k h1 hk
  rw [h28]
  refine ⟨fun h0 => ?_, fun h0 => h29 k h1 hk h0⟩
  rcases hT.1.2.2 k h1 hk with ⟨_, h2⟩ | ⟨h2, _⟩
  · exact h2
  · rcases h2 with h2 | h2 <;> rw [h2] at h0 <;> exact absurd h0 (by decide)
theorem i0 : (0 : Int32).toInt = 0 := by decide
theorem i1 : (1 : Int32).toInt = 1 := by decide
theorem i11 : (11 : Int32).toInt = 11 := by decide
theorem i12 : (12 : Int32).toInt = 12 := by decide
theorem i255 : (255 : Int32).toInt = 255 := by decide
theorem ix12 {a : Int32} (h0 : ¬ a < 0) (h1 : ¬ 12 ≤ a) : ∃ p, p < 12 ∧ a = nI p := by
  rcases pk_ix a (n := 12) (by decide) with h | h | h
  · exact absurd h h0
  · exact absurd h h1
  · exact h
theorem ixb {b : Int32} (h0 : ¬ b < 0) (h1 : b ≤ 255) : ∃ n, n ≤ 255 ∧ b = nI n := by
  rcases pk_ix b (n := 256) (by decide) with h | h | ⟨n, hn, h⟩
  · exact absurd h h0
  · exfalso
    have h' : (256 : Int32) ≤ b := h
    rw [Int32.le_iff_toInt_le] at h' h1
    rw [i255] at h1
    have : (256 : Int32).toInt = 256 := by decide
    omega
  · exact ⟨n, by omega, h⟩
theorem upd_self (f : Nat → Int32) (k : Nat) (x : Int32) : upd f k x k = x := pk_us
theorem upd_ne (f : Nat → Int32) {k j : Nat} (x : Int32) (h : j ≠ k) : upd f k x j = f j := pk_un h
-- the tree with a new object
theorem TI.make {K P N Ln B : Nat → Int32} (h : TI K P N Ln B) {k p n : Nat} {kd : Int32} (h1 : 1 ≤ k) (hk : k < 12) (h0 : K k = 0) (hp : p < 12) (hpd : K p = 1 ∨ K p = 2) (hn1 : 1 ≤ n) (hn2 : n ≤ 255) (hkd : kd = 2 ∨ kd = 3) : TI (upd K k kd) (upd P k (nI p)) (upd N k (nI n)) (upd Ln k 0) B := by
  obtain ⟨hK, ⟨dep, hD⟩, hL, hB⟩ := h
  have dk : ∀ q, (K q = 1 ∨ K q = 2) → q ≠ k := by
    rintro q hq rfl
    rcases hq with hq | hq <;> rw [h0] at hq <;> exact absurd hq (by decide)
  refine ⟨⟨?_, ?_, ?_⟩, ⟨fun j => if j = k then dep p + 1 else dep j, ?_, ?_⟩, ?_, hB⟩
  · rw [upd_ne _ _ (by omega)]; exact hK.1
  · rw [upd_ne _ _ (by omega)]; exact hK.2.1
  · intro j hj1 hj2
    by_cases hjk : j = k
    · subst hjk
      right
      rw [upd_self]
      refine ⟨hkd, p, n, hp, hn1, hn2, upd_self _ _ _, upd_self _ _ _, ?_⟩
      rw [upd_ne _ _ (dk p hpd)]; exact hpd
    · rw [upd_ne _ _ hjk, upd_ne _ _ hjk, upd_ne _ _ hjk]
      rcases hK.2.2 j hj1 hj2 with h | ⟨ha, q, m, hq, hm1, hm2, hb, hc, hd⟩
      · exact Or.inl h
      · refine Or.inr ⟨ha, q, m, hq, hm1, hm2, hb, hc, ?_⟩
        rw [upd_ne _ _ (dk q hd)]; exact hd
  · show (if 0 = k then dep p + 1 else dep 0) = 0
    rw [if_neg (by omega)]; exact hD.1
  · intro j q hj1 hj2 hq hl hPj
    show (if j = k then dep p + 1 else dep j) = (if q = k then dep p + 1 else dep q) + 1
    by_cases hjk : j = k
    · subst hjk
      rw [upd_self] at hPj
      have : p = q := (nI_eq (by omega) (by omega)).mp hPj
      subst this
      rw [if_pos rfl, if_neg (dk p hpd)]
    · rw [upd_ne _ _ hjk] at hl hPj
      obtain ⟨_, q', m, hq', _, _, hb, _, hd⟩ := hK.live hj1 hj2 hl
      have : q' = q := (nI_eq (by omega) (by omega)).mp (hb.symm.trans hPj)
      subst this
      rw [if_neg hjk, if_neg (dk q' hd)]
      exact hD.2 j q' hj1 hj2 hq hl hPj
  · intro j hj
    by_cases hjk : j = k
    · subst hjk; exact ⟨0, by omega, by rw [upd_self]; rfl⟩
    · rw [upd_ne _ _ hjk]; exact hL j hj
theorem TI.remove {K P N Ln B : Nat → Int32} (h : TI K P N Ln B) {k : Nat} (h1 : 1 ≤ k) (hk : k < 12) (hno : ∀ j, 1 ≤ j → j < 12 → ¬ P j = nI k) : TI (upd K k 0) (upd P k (-1)) N Ln B := by
  obtain ⟨hK, ⟨dep, hD⟩, hL, hB⟩ := h
  refine ⟨⟨?_, ?_, ?_⟩, ⟨dep, hD.1, ?_⟩, hL, hB⟩
  · rw [upd_ne _ _ (by omega)]; exact hK.1
  · rw [upd_ne _ _ (by omega)]; exact hK.2.1
  · intro j hj1 hj2
    by_cases hjk : j = k
    · subst hjk; exact Or.inl ⟨upd_self _ _ _, upd_self _ _ _⟩
    · rw [upd_ne _ _ hjk, upd_ne _ _ hjk]
      rcases hK.2.2 j hj1 hj2 with h | ⟨ha, q, m, hq, hm1, hm2, hb, hc, hd⟩
      · exact Or.inl h
      · refine Or.inr ⟨ha, q, m, hq, hm1, hm2, hb, hc, ?_⟩
        have : q ≠ k := by rintro rfl; exact hno j hj1 hj2 hb
        rw [upd_ne _ _ this]; exact hd
  · intro j q hj1 hj2 hq hl hPj
    by_cases hjk : j = k
    · subst hjk; exact absurd (upd_self _ _ _) hl
    · rw [upd_ne _ _ hjk] at hl hPj
      exact hD.2 j q hj1 hj2 hq hl hPj
theorem TI.len {K P N Ln B : Nat → Int32} (h : TI K P N Ln B) {k l : Nat} (hl : l ≤ 12) : TI K P N (upd Ln k (nI l)) B := by
  refine ⟨h.1, h.2.1, fun j hj => ?_, h.2.2.2⟩
  by_cases hjk : j = k
  · subst hjk; exact ⟨l, hl, upd_self _ _ _⟩
  · rw [upd_ne _ _ hjk]; exact h.2.2.1 j hj
theorem TI.byte {K P N Ln B : Nat → Int32} (h : TI K P N Ln B) {k b : Nat} (hb : b ≤ 255) : TI K P N Ln (upd B k (nI b)) := by
  refine ⟨h.1, h.2.1, h.2.2.1, fun j => ?_⟩
  by_cases hjk : j = k
  · subst hjk; exact ⟨b, hb, upd_self _ _ _⟩
  · rw [upd_ne _ _ hjk]; exact h.2.2.2 j
-- the reference's search of a free key
theorem l_Md_make {d : Nat} {Q : zm_Q} {S : zm_S} {a b c : Int32} {k : Nat} (hk1 : 1 ≤ k) (hk : k ≤ 12) (hI : ∀ i, 1 ≤ i → i < k → ¬ S 28 i = 0) (h0 : k < 12 → S 28 k = 0) (hq : if k = 12 then Q (some (-4)) GG S else Q (some (nI k)) GG (zm_up (zm_up (zm_up (zm_up S 28 k (if c = 0 then 3 else 2)) 29 k a) 30 k b) 31 k 0)) : ∀ n i, i + n = k → 1 ≤ i → zw M_Md_make (d + 1) Q 80 [some (.ref 27), some (.int a), some (.int b), some (.int c), some (.int (nI i))] [] S := by
  intro n
  induction n with
  | zero =>
    intro i hi _
    have : i = k := by omega
    subst this
    by_cases h12 : i = 12
    · subst h12
      rw [if_pos rfl] at hq
      have hle : (12 : Int32) ≤ nI 12 := by decide
      have heq : nI 12 = 12 := rfl
      refine s_Md_make_80 0 (fun _ h => absurd heq h) (fun _ h => absurd heq h) (fun h => absurd hle h) ?_ ?_ (fun _ => hq) (fun h => absurd hle h)
      · rintro (h | h)
        · exact absurd heq h.2.1
        · exact absurd hle h.1
      · rintro (h | h)
        · exact absurd heq h.2.1
        · exact absurd hle h.1
    · rw [if_neg h12] at hq
      have hlt : ¬ (12 : Int32) ≤ nI i := nI_ge (b := 12) (by omega) (by decide)
      have hne : ¬ nI i = 12 := fun h => h12 ((nI_eq (b := 12) (by omega) (by decide)).mp h)
      refine s_Md_make_80 i (fun h => absurd h hlt) (fun h => absurd h hlt) (fun _ => zm_ixN (by omega) (by decide)) ?_ ?_ ?_ (fun _ h => absurd (h0 (by omega)) h)
      · intro h
        have hc : c = 0 := by rcases h with h | h; exact h.2.2; exact h.2.2.2
        rw [if_pos hc] at hq; exact hq
      · intro h
        have hc : ¬ c = 0 := by rcases h with h | h; exact h.2.2; exact h.2.2.2
        rw [if_neg hc] at hq; exact hq
      · rintro (h | h)
        · exact absurd h.1 hlt
        · exact absurd h.2.2 hne
  | succ n ih =>
    intro i hi h1
    have hlt : ¬ (12 : Int32) ≤ nI i := nI_ge (b := 12) (by omega) (by decide)
    have hl := hI i h1 (by omega)
    refine s_Md_make_80 i (fun h => absurd h hlt) (fun h => absurd h hlt) (fun _ => zm_ixN (by omega) (by decide)) ?_ ?_ ?_ (fun _ _ => ?_)
    · rintro (h | h)
      · exact absurd h.1 hlt
      · exact absurd h.2.1 hl
    · rintro (h | h)
      · exact absurd h.1 hlt
      · exact absurd h.2.1 hl
    · rintro (h | h)
      · exact absurd h.1 hlt
      · exact absurd h.2.1 hl
    · rw [nI_1]; exact ih (i + 1) (by omega) (by omega)
