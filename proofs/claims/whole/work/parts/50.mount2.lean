theorem c_Md_first {d : Nat} {Q : zm_Q} {S : zm_S} {b z : Nat} {key r : Int32} (hW : RW S S) (hb : b < 12) (hz : z ≤ 48) (e21 : S 21 b = nI z) (hc : OB S b 0) (hk : isB key) (hS : SC (S 24) b z key 16 0 r) (hq : Q (some r) GG S) : zc M_Md_first (d + 1) [.ref 27, .int (nI b), .int key] S Q := by
  obtain ⟨w1, w2, w3, w4, w5, w6, w7⟩ := hW
  obtain ⟨k, hk255, rfl⟩ := hk
  refine e_Md_first (s_Md_first_0 ?_)
  have e45 : S 45 b = nI z := by
    rcases w5 b hb with ⟨q1, q2, q3, q4, q5⟩ | ⟨z', w, hh, q1, q2, q3, q4, q5, q6, _⟩
    · exfalso
      rcases hc with ⟨_, h⟩ | ⟨_, _, h⟩ | ⟨_, z', hh, h1, h2, h3, h4, _⟩
      · exact absurd h (by decide)
      · exact absurd h (by decide)
      · rw [q1] at h4
        have := (nI_eq0 (by omega)).mp h4.symm
        omega
    · rw [q6, ← q5]; exact e21
  exact l_Md_first hb hz (nI_pos (by omega)) w7 w6 e45 hq 16 0 (by omega) (by omega) hS
-- the gateway
def GW (S : zm_S) (r : Int32) : Prop := ∃ c, OB S 0 c ∧ ((¬ c = 0 ∧ r = c) ∨ (c = 0 ∧ ∃ z, z ≤ 48 ∧ S 21 0 = nI z ∧ ((St (S 24) 0 z 0 ∧ S 24 0 = 1 ∧ r = 0) ∨ (¬ (St (S 24) 0 z 0 ∧ S 24 0 = 1) ∧ r = -2))))
theorem GW.pv {S : zm_S} {r : Int32} (h : GW S r) : PV (S 24) r := by
  obtain ⟨c, hO, ⟨h1, rfl⟩ | ⟨_, z, hz, _, ⟨⟨L, hL, e, hl⟩, _, rfl⟩ | ⟨_, h⟩⟩⟩ := h
  · rcases hO.pv h1 with h | h
    · exact Or.inl h
    · exact Or.inr (Or.inl h)
  · exact Or.inr (Or.inr ⟨0, ⟨L, hL, e, by omega⟩, rfl⟩)
  · exact Or.inl h
theorem St.iff {f : Nat → Int32} {z L : Nat} (hz : z ≤ 48) (hL : L ≤ 255) (e : f 2 = nI L) : St f 0 z 0 ↔ ¬ nI z < 0 + 3 ∧ ¬ nI z < (0 + 3) + f 2 := by
  have c3 : nI z < 0 + 3 ↔ z < 3 := nI_ltI (b := 3) (by omega) (by decide)
  have cL : nI z < (0 + 3) + f 2 ↔ z < 3 + L := by
    rw [e, show ((0 : Int32) + 3) + nI L = nI (3 + L) from nI_add 3 L]; exact nI_ltI (by omega) (by omega)
  constructor
  · rintro ⟨L', hL', e', hl⟩
    have : L' = L := (nI_eq (by omega) (by omega)).mp (e'.symm.trans e)
    subst this
    exact ⟨fun h => by have := c3.mp h; omega, fun h => by have := cL.mp h; omega⟩
  · rintro ⟨_, h2⟩
    refine ⟨L, hL, e, ?_⟩
    have : ¬ z < 3 + L := fun x => h2 (cL.mpr x)
    omega
theorem c_Mt_gateway {d : Nat} {Q : zm_Q} {S : zm_S} (hW : RW S S) (hq : ∀ r, GW S r → Q (some r) GG S) : zc M_Mt_gateway (d + 3) [.ref 20] S Q := by
  have w7 := hW.2.2.2.2.2.2
  refine e_Mt_gateway (s_Mt_gateway_0 (c_Mt_obstacle (b := 0) hW (by omega) (fun c hO => ?_)))
  by_cases hc : c = 0
  · obtain ⟨_, z, hz, e21⟩ := hO.z hc
    obtain ⟨L, hL, eL⟩ := w7 2
    have hs := St.iff (f := S 24) hz hL eL
    rw [← e21] at hs
    refine s_Mt_gateway_5 2 (fun _ _ => zm_ixN (j := 2) (by decide) (by decide)) (fun h => ?_) (fun _ h1 h2 h3 => ?_) (fun h => ?_)
    · refine hq _ ⟨c, hO, Or.inr ⟨hc, z, hz, e21, Or.inr ⟨?_, rfl⟩⟩⟩
      rintro ⟨x1, x2⟩
      have x3 := hs.mp x1
      rcases h with ⟨_, h | h⟩ | h
      · exact x3.1 h
      · exact x3.2 h.2
      · exact h.2.2.2 x2
    · exact hq _ ⟨c, hO, Or.inr ⟨hc, z, hz, e21, Or.inl ⟨hs.mpr ⟨h1, h2⟩, h3, rfl⟩⟩⟩
    · subst hc; exact absurd (by decide) h
  · have ng := neg26 (hO.pv hc)
    refine s_Mt_gateway_5 0 (fun h => absurd h ng.1) (fun h => ?_) (fun h => absurd h ng.1) (fun _ => hq c ⟨c, hO, Or.inl ⟨hc, rfl⟩⟩)
    rcases h with h | h <;> exact absurd h.1 ng.1
theorem c_Md_gateway {d : Nat} {Q : zm_Q} {S : zm_S} {r : Int32} (hW : RW S S) (hG : GW S r) (hq : Q (some r) GG S) : zc M_Md_gateway (d + 2) [.ref 27] S Q := by
  obtain ⟨w1, w2, w3, w4, w5, w6, w7⟩ := id hW
  obtain ⟨c, hO, hG⟩ := hG
  refine e_Md_gateway (s_Md_gateway_0 (c_Md_ready (b := 0) hW (by omega) hO ?_))
  rcases hG with ⟨hc, rfl⟩ | ⟨rfl, z, hz, e21, hr⟩
  · exact s_Md_gateway_5 (fun h => absurd h hc) (fun _ => hq)
  · refine s_Md_gateway_5 (fun _ => ?_) (fun h => absurd rfl h)
    obtain ⟨L, hL, eL⟩ := w7 2
    have hs := St.iff (f := S 24) hz hL eL
    have e45 : S 45 0 = nI z := by
      rcases w5 0 (by omega) with ⟨q1, q2, q3, q4, q5⟩ | ⟨z', w, hh, q1, q2, q3, q4, q5, q6, _⟩
      · exfalso
        rcases hO with ⟨_, h⟩ | ⟨_, _, h⟩ | ⟨_, z', hh, h1, h2, h3, h4, _⟩
        · exact absurd h (by decide)
        · exact absurd h (by decide)
        · rw [q1] at h4
          have := (nI_eq0 (by omega)).mp h4.symm
          omega
      · rw [q6, ← q5]; exact e21
    rw [← e45, ← w6] at hs
    refine e_Md_first (s_Md_first_0 (s_Md_first_2 0 2 0 (zm_ixN (j := 0) (by decide) (by decide)) (fun _ => zm_ixN (j := 2) (by decide) (by decide)) (fun _ _ h => absurd (by decide) h) (fun _ _ h => absurd (by decide) h) (fun h => ?_) (fun h => ?_) (fun _ _ h => absurd (by decide) h)))
    · have hn : ¬ St (S 47) 0 z 0 := fun x => by
        have y := hs.mp x
        rcases h with h | h
        · exact y.1 h
        · exact y.2 h.2
      rw [w6] at hn
      refine s_Md_gateway_18 0 (fun h => absurd (by decide) h) (fun _ => ?_) (fun h => absurd (by decide) h)
      rcases hr with h | h
      · exact absurd h.1 hn
      · rw [h.2] at hq; exact hq
    · have hst : St (S 24) 0 z 0 := by
        rw [← w6]
        refine hs.mpr ?_
        rcases h with h | h
        · exact ⟨h.1, h.2.1⟩
        · exact absurd (by decide) h.2.2.1
      refine s_Md_gateway_18 0 (fun _ => zm_ixN (j := 0) (by decide) (by decide)) (fun h => ?_) (fun _ h => ?_)
      · have hne : ¬ S 24 0 = 1 := by
          rcases h with h | h
          · exact absurd h (by decide)
          · rw [← w6]; exact h.2
        rcases hr with h | h
        · exact absurd h.2.1 hne
        · rw [h.2] at hq; exact hq
      · rw [w6] at h
        rcases hr with g | g
        · rw [g.2.2] at hq; exact hq
        · exact absurd ⟨hst, h⟩ g.1
-- a directory is entered
def ES (S : zm_S) (p : Nat) (a : Int32) : Nat → Nat → Int32 → Prop
  | 0, _, r => r = -2
  | n + 1, i, r => (S 24 (p + 3 + 4 * i) = a ∧ MW S (S 24 (p + 3 + 4 * i + 2)) (S 24 (p + 3 + 4 * i + 3)) r) ∨ (¬ S 24 (p + 3 + 4 * i) = a ∧ ES S p a n (i + 1) r)
def EN (S : zm_S) (q a r : Int32) : Prop := ∃ p L, q = nI p ∧ L ≤ 255 ∧ S 24 (p + 2) = nI L ∧ p + 3 + L ≤ 576 ∧ (((S 24 p = 1 ∨ S 24 p = 2) ∧ ES S p a (L / 4) 0 r) ∨ (¬ (S 24 p = 1 ∨ S 24 p = 2) ∧ r = -2))
theorem ES.pv {S : zm_S} {p : Nat} {a : Int32} : ∀ {n i : Nat} {r : Int32}, ES S p a n i r → PV (S 24) r
  | 0, _, _, h => Or.inl h
  | n + 1, i, r, h => by
    rcases h with h | h
    · exact h.2.pv
    · exact ES.pv h.2
theorem EN.pv {S : zm_S} {q a r : Int32} (h : EN S q a r) : PV (S 24) r := by
  obtain ⟨p, L, _, _, _, _, ⟨_, h⟩ | ⟨_, h⟩⟩ := h
  · exact h.pv
  · exact Or.inl h
theorem l_Mt_enter {d : Nat} {Q : zm_Q} {S : zm_S} {p k : Nat} {a : Int32} (hW : RW S S) (hk : k ≤ 63) (hp : p + 3 + 4 * k ≤ 576) : ∀ (n i : Nat), i + n = k → (∀ r, ES S p a n i r → Q (some r) GG S) → zw M_Mt_enter (d + 4) Q 22 [some (.ref 20), some (.int (nI p)), some (.int a), some (.int (nI k)), some (.int (nI i)), none] [] S := by
  intro n
  have w7 := hW.2.2.2.2.2.2
  have e4 : ∀ i, nI p + 3 + 4 * nI i = nI (p + 3 + 4 * i) := fun i => by rw [show nI p + 3 = nI (p + 3) from nI_add p 3, show (4 : Int32) * nI i = nI (4 * i) from pk_mul 4 i, nI_add]
  induction n with
  | zero =>
    intro i hi hq
    have hle : nI k ≤ nI i := nI_le (by omega) (by omega)
    exact s_Mt_enter_22 0 0 0 (fun h => absurd hle h) (fun h => absurd hle h) (fun h => absurd hle h) (fun _ => hq _ rfl) (fun h => absurd hle h) (fun h => absurd hle h)
  | succ n ih =>
    intro i hi hq
    have hlt : ¬ nI k ≤ nI i := nI_ge (by omega) (by omega)
    refine s_Mt_enter_22 (p + 3 + 4 * i) (p + 3 + 4 * i + 2) (p + 3 + 4 * i + 3) (fun _ => by rw [e4]; exact zm_ixN (by omega) (by decide)) (fun _ _ => by rw [e4, show nI (p + 3 + 4 * i) + 2 = nI (p + 3 + 4 * i + 2) from nI_add _ 2]; exact zm_ixN (by omega) (by decide)) (fun _ _ => by rw [e4, show nI (p + 3 + 4 * i) + 3 = nI (p + 3 + 4 * i + 3) from nI_add _ 3]; exact zm_ixN (by omega) (by decide)) (fun h => absurd h hlt) (fun _ h => ?_) (fun _ h => ?_)
    · rw [nI_1]
      exact ih (i + 1) (by omega) (fun r hr => hq r (Or.inr ⟨h, hr⟩))
    · exact c_Mt_messageWithKey hW (w7 _) (fun r hr => s_Mt_enter_71 (hq r (Or.inl ⟨h, hr⟩)))
theorem c_Mt_enter {d : Nat} {Q : zm_Q} {S : zm_S} {p : Nat} {a : Int32} (hW : RW S S) (hp : VP (S 24) p) (hq : ∀ r, EN S (nI p) a r → Q (some r) GG S) : zc M_Mt_enter (d + 4) [.ref 20, .int (nI p), .int a] S Q := by
  obtain ⟨L, hL, e, hl⟩ := hp
  have ed : S 24 (p + 2) / 4 = nI (L / 4) := by rw [e]; exact pk_div (d := 4) (by omega) (by decide) (by decide)
  refine e_Mt_enter (s_Mt_enter_0 p (p + 2) (zm_ixN (by omega) (by decide)) (fun _ => by rw [show nI p + 2 = nI (p + 2) from nI_add p 2]; exact zm_ixN (by omega) (by decide)) (fun h => ?_) (fun h1 h2 => ?_))
  · have hd : S 24 p = 1 ∨ S 24 p = 2 := by
      rcases h with h | h
      · exact Or.inl h
      · exact Or.inr h.2
    rw [ed]
    exact l_Mt_enter hW (by omega) (by omega) (L / 4) 0 (by omega) (fun r hr => hq r ⟨p, L, rfl, hL, e, hl, Or.inl ⟨hd, hr⟩⟩)
  · refine hq _ ⟨p, L, rfl, hL, e, hl, Or.inr ⟨?_, rfl⟩⟩
    rintro (h | h)
    · exact h1 h
    · exact h2 h
theorem l_Md_enter {d : Nat} {Q : zm_Q} {S : zm_S} {p k : Nat} {a r : Int32} (hW : RW S S) (hk : k ≤ 63) (hp : p + 3 + 4 * k ≤ 576) (hq : Q (some r) GG S) : ∀ (n i : Nat), i + n = k → ES S p a n i r → zw M_Md_enter (d + 2) Q 37 [some (.ref 27), some (.int (nI p)), some (.int a), some (.int (nI k)), some (.int (nI i)), none, none] [] S := by
  intro n
  have w7 := hW.2.2.2.2.2.2
  have w6 := hW.2.2.2.2.2.1
  have e4 : ∀ i, nI p + 3 + 4 * nI i = nI (p + 3 + 4 * i) := fun i => by rw [show nI p + 3 = nI (p + 3) from nI_add p 3, show (4 : Int32) * nI i = nI (4 * i) from pk_mul 4 i, nI_add]
  induction n with
  | zero =>
    intro i hi hE
    have hle : nI k ≤ nI i := nI_le (by omega) (by omega)
    have : r = -2 := hE
    subst this
    exact s_Md_enter_37 0 0 (fun h => absurd hle h) (fun h => absurd hle h) (fun _ => hq) (fun h => absurd hle h) (fun h => absurd hle h)
  | succ n ih =>
    intro i hi hE
    have hlt : ¬ nI k ≤ nI i := nI_ge (by omega) (by omega)
    have i2 : zm_ix (nI p + 3 + 4 * nI i + 2) (p + 3 + 4 * i + 2) 576 := by rw [e4, show nI (p + 3 + 4 * i) + 2 = nI (p + 3 + 4 * i + 2) from nI_add _ 2]; exact zm_ixN (by omega) (by decide)
    have i3 : zm_ix (nI p + 3 + 4 * nI i + 3) (p + 3 + 4 * i + 3) 576 := by rw [e4, show nI (p + 3 + 4 * i) + 3 = nI (p + 3 + 4 * i + 3) from nI_add _ 3]; exact zm_ixN (by omega) (by decide)
    refine s_Md_enter_37 (p + 3 + 4 * i) (p + 3 + 4 * i + 2) (fun _ => by rw [e4]; exact zm_ixN (by omega) (by decide)) (fun _ _ => i2) (fun h => absurd h hlt) (fun _ h => ?_) (fun _ h => ?_)
    · rw [w6] at h
      rw [nI_1]
      rcases hE with hE | hE
      · exact absurd hE.1 h
      · exact ih (i + 1) (by omega) hE.2
    · rw [w6] at h ⊢
      rcases hE with hE | hE
      · obtain ⟨b, hb, eb, c, hO, hc⟩ := hE.2
        rw [eb]
        refine c_Md_ready hW hb hO ?_
        rcases hc with ⟨hc, rfl⟩ | ⟨rfl, z, hb12, hz, e21, hS⟩
        · exact s_Md_enter_77 0 0 (fun h => absurd h hc) (fun h => absurd h hc) (fun h => absurd h hc) (fun _ => hq)
        · refine s_Md_enter_77 (p + 3 + 4 * i + 2) (p + 3 + 4 * i + 3) (fun _ => i2) (fun _ => i3) (fun _ => ?_) (fun h => absurd rfl h)
          rw [w6, eb]
          exact c_Md_first hW hb12 hz e21 hO (w7 _) hS (s_Md_enter_111 hq)
      · exact absurd h hE.1
theorem c_Md_enter {d : Nat} {Q : zm_Q} {S : zm_S} {p : Nat} {a r : Int32} (hW : RW S S) (hp : p < 576) (hE : EN S (nI p) a r) (hq : Q (some r) GG S) : zc M_Md_enter (d + 2) [.ref 27, .int (nI p), .int a] S Q := by
  obtain ⟨p', L, ep, hL, e, hl, hE⟩ := hE
  have : p' = p := (nI_eq (by omega) (by omega)).mp ep.symm
  subst this
  have w6 := hW.2.2.2.2.2.1
  have ed : S 47 (p' + 2) / 4 = nI (L / 4) := by rw [w6, e]; exact pk_div (d := 4) (by omega) (by decide) (by decide)
  have i2 : zm_ix (nI p' + 2) (p' + 2) 576 := by rw [show nI p' + 2 = nI (p' + 2) from nI_add p' 2]; exact zm_ixN (by omega) (by decide)
  refine e_Md_enter (s_Md_enter_0 p' (p' + 2) (zm_ixN (by omega) (by decide)) (fun _ => i2) (fun _ _ => i2) (fun h => ?_) (fun h1 h2 => ?_))
  · rw [w6] at h
    rw [ed]
    rcases hE with hE | hE
    · exact l_Md_enter hW (by omega) (by omega) hq (L / 4) 0 (by omega) hE.2
    · exfalso
      apply hE.1
      rcases h with h | h
      · exact Or.inl h
      · exact Or.inr h.2
  · rw [w6] at h1 h2
    rcases hE with hE | hE
    · rcases hE.1 with h | h
      · exact absurd h h1
      · exact absurd h h2
    · rw [hE.2] at hq; exact hq
-- a path is followed
def by255 (a : Int32) : Prop := ¬ a < 0 ∧ ¬ 255 < a
def FO (S : zm_S) (a b c r : Int32) : Prop := ∃ r0, GW S r0 ∧ (((a = 0 ∨ r0 < 0) ∧ r = r0) ∨ (¬ (a = 0 ∨ r0 < 0) ∧ ∃ r1, EN S r0 a r1 ∧ (((b = 0 ∨ r1 < 0) ∧ r = r1) ∨ (¬ (b = 0 ∨ r1 < 0) ∧ ∃ r2, EN S r1 b r2 ∧ (((c = 0 ∨ r2 < 0) ∧ r = r2) ∨ (¬ (c = 0 ∨ r2 < 0) ∧ EN S r2 c r))))))
def FOL (S : zm_S) (a b c r : Int32) : Prop := (¬ (by255 a ∧ by255 b ∧ by255 c) ∧ r = -1) ∨ ((by255 a ∧ by255 b ∧ by255 c) ∧ FO S a b c r)
theorem FO.pv {S : zm_S} {a b c r : Int32} (h : FO S a b c r) : PV (S 24) r := by
  obtain ⟨r0, h0, ⟨_, rfl⟩ | ⟨_, r1, h1, ⟨_, rfl⟩ | ⟨_, r2, h2, ⟨_, rfl⟩ | ⟨_, h3⟩⟩⟩⟩ := h
  · exact h0.pv
  · exact h1.pv
  · exact h2.pv
  · exact h3.pv
theorem PV.pos {f : Nat → Int32} {r : Int32} (h : PV f r) (hr : ¬ r < 0) : ∃ p, VP f p ∧ r = nI p := by
  rcases h with h | h | h
  · subst h; exact absurd (by decide) hr
  · subst h; exact absurd (by decide) hr
  · exact h
theorem VP.lt {f : Nat → Int32} {p : Nat} (h : VP f p) : p + 2 < 576 := by
  obtain ⟨L, _, _, h⟩ := h
  omega
theorem c_CM_follow {d : Nat} {Q : zm_Q} {S : zm_S} {a b c : Int32} (hW : RW S S) (hq : ∀ r, FOL S a b c r → Q (some r) GG S) : zc M_CM_follow (d + 5) [.ref 0, .int a, .int b, .int c] S Q := by
  refine e_CM_follow (s_CM_follow_0 (fun h => hq _ (Or.inl ⟨?_, rfl⟩)) (fun h1 h2 h3 h4 h5 h6 => ?_))
  · rintro ⟨⟨a1, a2⟩, ⟨b1, b2⟩, c1, c2⟩
    rcases h with (h | h) | ⟨_, _, h | h⟩ | ⟨_, _, _, _, h | h⟩
    · exact a1 h
    · exact a2 h.2
    · exact b1 h
    · exact b2 h.2
    · exact c1 h
    · exact c2 h.2
  · have hG : ∀ r, FO S a b c r → Q (some r) GG S := fun r hr => hq r (Or.inr ⟨⟨⟨h1, h2⟩, ⟨h3, h4⟩, h5, h6⟩, hr⟩)
    refine c_Mt_gateway (d := d + 1) hW (fun r0 g0 => ?_)
    refine s_CM_follow_37 (fun h => hG _ ⟨r0, g0, Or.inl ⟨?_, rfl⟩⟩) (fun x1 x2 => ?_)
    · rcases h with h | h
      · exact Or.inl h
      · exact Or.inr (Int32.not_le.mp h.2)
    have n0 : ¬ (a = 0 ∨ r0 < 0) := by
      rintro (h | h)
      · exact x1 h
      · exact (Int32.not_lt.mpr x2) h
    obtain ⟨p0, v0, e0⟩ := g0.pv.pos (Int32.not_lt.mpr x2)
    rw [e0]
    refine c_Mt_enter hW v0 (fun r1 g1 => ?_)
    rw [← e0] at g1
    refine s_CM_follow_59 (fun h => hG _ ⟨r0, g0, Or.inr ⟨n0, r1, g1, Or.inl ⟨?_, rfl⟩⟩⟩) (fun y1 y2 => ?_)
    · rcases h with h | h
      · exact Or.inl h
      · exact Or.inr (Int32.not_le.mp h.2)
    have n1 : ¬ (b = 0 ∨ r1 < 0) := by
      rintro (h | h)
      · exact y1 h
      · exact (Int32.not_lt.mpr y2) h
    obtain ⟨p1, v1, e1⟩ := g1.pv.pos (Int32.not_lt.mpr y2)
    rw [e1]
    refine c_Mt_enter hW v1 (fun r2 g2 => ?_)
    rw [← e1] at g2
    refine s_CM_follow_81 (fun h => hG _ ⟨r0, g0, Or.inr ⟨n0, r1, g1, Or.inr ⟨n1, r2, g2, Or.inl ⟨?_, rfl⟩⟩⟩⟩) (fun z1 z2 => ?_)
    · rcases h with h | h
      · exact Or.inl h
      · exact Or.inr (Int32.not_le.mp h.2)
    have n2 : ¬ (c = 0 ∨ r2 < 0) := by
      rintro (h | h)
      · exact z1 h
      · exact (Int32.not_lt.mpr z2) h
    obtain ⟨p2, v2, e2⟩ := g2.pv.pos (Int32.not_lt.mpr z2)
    rw [e2]
    refine c_Mt_enter hW v2 (fun r3 g3 => ?_)
    rw [← e2] at g3
    exact s_CM_follow_103 (hG _ ⟨r0, g0, Or.inr ⟨n0, r1, g1, Or.inr ⟨n1, r2, g2, Or.inr ⟨n2, g3⟩⟩⟩⟩)
theorem c_Md_follow {d : Nat} {Q : zm_Q} {S : zm_S} {a b c r : Int32} (hW : RW S S) (hF : FOL S a b c r) (hq : Q (some r) GG S) : zc M_Md_follow (d + 3) [.ref 27, .int a, .int b, .int c] S Q := by
  refine e_Md_follow ?_
  rcases hF with ⟨hn, rfl⟩ | ⟨⟨⟨a1, a2⟩, ⟨b1, b2⟩, c1, c2⟩, r0, g0, hF⟩
  · exact s_Md_follow_0 (fun _ => hq) (fun h1 h2 h3 h4 h5 h6 => absurd ⟨⟨h1, h2⟩, ⟨h3, h4⟩, h5, h6⟩ hn)
  refine s_Md_follow_0 (fun h => ?_) (fun _ _ _ _ _ _ => c_Md_gateway hW g0 ?_)
  · exfalso
    rcases h with (h | h) | ⟨_, _, h | h⟩ | ⟨_, _, _, _, h | h⟩
    · exact a1 h
    · exact a2 h.2
    · exact b1 h
    · exact b2 h.2
    · exact c1 h
    · exact c2 h.2
  rcases hF with ⟨hs, rfl⟩ | ⟨n0, r1, g1, hF⟩
  · refine s_Md_follow_39 (fun _ => hq) (fun h1 h2 => ?_)
    exfalso
    rcases hs with h | h
    · exact h2 h
    · exact h1 h
  obtain ⟨p0, v0, e0⟩ := g0.pv.pos (fun x => n0 (Or.inr x))
  refine s_Md_follow_39 (fun h => ?_) (fun _ _ => ?_)
  · exfalso
    apply n0
    rcases h with h | h
    · exact Or.inr h
    · exact Or.inl h.2
  rw [e0] at g1 ⊢
  refine c_Md_enter hW (by have := v0.lt; omega) g1 ?_
  rcases hF with ⟨hs, rfl⟩ | ⟨n1, r2, g2, hF⟩
  · refine s_Md_follow_57 (fun _ => hq) (fun h1 h2 => ?_)
    exfalso
    rcases hs with h | h
    · exact h2 h
    · exact h1 h
  obtain ⟨p1, v1, e1⟩ := g1.pv.pos (fun x => n1 (Or.inr x))
  refine s_Md_follow_57 (fun h => ?_) (fun _ _ => ?_)
  · exfalso
    apply n1
    rcases h with h | h
    · exact Or.inr h
    · exact Or.inl h.2
  rw [e1] at g2 ⊢
  refine c_Md_enter hW (by have := v1.lt; omega) g2 ?_
  rcases hF with ⟨hs, rfl⟩ | ⟨n2, g3⟩
  · refine s_Md_follow_75 (fun _ => hq) (fun h1 h2 => ?_)
    exfalso
    rcases hs with h | h
    · exact h2 h
    · exact h1 h
  obtain ⟨p2, v2, e2⟩ := g2.pv.pos (fun x => n2 (Or.inr x))
  refine s_Md_follow_75 (fun h => ?_) (fun _ _ => ?_)
  · exfalso
    apply n2
    rcases h with h | h
    · exact Or.inr h
    · exact Or.inl h.2
  rw [e2] at g3 ⊢
  exact c_Md_enter hW (by have := v2.lt; omega) g3 (s_Md_follow_93 hq)
-- kind, size, read
theorem FOL.pos {S : zm_S} {a b c r : Int32} (h : FOL S a b c r) (hr : 0 ≤ r) : ∃ p, VP (S 24) p ∧ r = nI p := by
  rcases h with ⟨_, rfl⟩ | ⟨_, h⟩
  · exact absurd hr (by decide)
  · exact h.pv.pos (Int32.not_lt.mpr hr)
theorem op_kind {d e : Nat} {Q : zm_Q} {S : zm_S} {num : Nat} {a b c : Int32} (hR : RR num S) (hk : ∀ S1 r, CPS M_Md_kind (e + 4) [.ref 27, .int a, .int b, .int c] (RR num) r S1 → Q (some r) GG S1) : zc M_CM_kind (d + 6) [.ref 0, .int a, .int b, .int c] S Q := by
  have hW := hR.2.2.2.2.1
  have w6 := hW.2.2.2.2.2.1
  refine e_CM_kind (s_CM_kind_0 (c_CM_follow hW (fun r hF => ?_)))
  by_cases hr : 0 ≤ r
  · obtain ⟨p, hv, rfl⟩ := hF.pos hr
    have hix : zm_ix (nI p) p 576 := zm_ixN (by have := hv.lt; omega) (by decide)
    refine s_CM_kind_7 p (fun _ => hix) (fun _ => hk S _ (fun Q' hQ' => e_Md_kind (s_Md_kind_0 (c_Md_follow hW hF (s_Md_kind_7 p (fun _ => hix) (fun _ => ?_) (fun h => absurd hr h)))))) (fun h => absurd hr h)
    rw [w6]; exact hQ' S hR
  · exact s_CM_kind_7 0 (fun h => absurd h hr) (fun h => absurd h hr) (fun _ => hk S _ (fun Q' hQ' => e_Md_kind (s_Md_kind_0 (c_Md_follow hW hF (s_Md_kind_7 0 (fun h => absurd h hr) (fun h => absurd h hr) (fun _ => hQ' S hR))))))
theorem op_size {d e : Nat} {Q : zm_Q} {S : zm_S} {num : Nat} {a b c : Int32} (hR : RR num S) (hk : ∀ S1 r, CPS M_Md_size (e + 4) [.ref 27, .int a, .int b, .int c] (RR num) r S1 → Q (some r) GG S1) : zc M_CM_size (d + 6) [.ref 0, .int a, .int b, .int c] S Q := by
  have hW := hR.2.2.2.2.1
  have w6 := hW.2.2.2.2.2.1
  refine e_CM_size (s_CM_size_0 (c_CM_follow hW (fun r hF => ?_)))
  by_cases hr : 0 ≤ r
  · obtain ⟨p, hv, rfl⟩ := hF.pos hr
    have hix : zm_ix (nI p) p 576 := zm_ixN (by have := hv.lt; omega) (by decide)
    have hi2 : zm_ix (nI p + 2) (p + 2) 576 := by rw [show nI p + 2 = nI (p + 2) from nI_add p 2]; exact zm_ixN hv.lt (by decide)
    refine s_CM_size_7 (p + 2) p (fun _ => hi2) (fun _ => hix) (fun _ h => ?_) (fun _ h1 h2 => ?_) (fun h => absurd hr h)
    · refine hk S _ (fun Q' hQ' => e_Md_size (s_Md_size_0 (c_Md_follow hW hF (s_Md_size_7 p (p + 2) (fun _ => hix) (fun _ _ => hi2) (fun _ _ _ => hi2) (fun _ _ _ => hi2) (fun _ => ?_) (fun _ g1 g2 => ?_) (fun h => absurd hr h)))))
      · rw [w6]; exact hQ' S hR
      · rw [w6] at g1 g2
        rcases h with h | h
        · exact absurd h g1
        · exact absurd h.2 g2
    · refine hk S _ (fun Q' hQ' => e_Md_size (s_Md_size_0 (c_Md_follow hW hF (s_Md_size_7 p (p + 2) (fun _ => hix) (fun _ _ => hi2) (fun _ _ _ => hi2) (fun _ _ _ => hi2) (fun g => ?_) (fun _ _ _ => ?_) (fun h => absurd hr h)))))
      · rw [w6] at g
        rcases g with g | g
        · exact absurd g.2 h1
        · exact absurd g.2.2 h2
      · rw [w6]; exact hQ' S hR
  · refine s_CM_size_7 0 0 (fun h => absurd h hr) (fun h => absurd h hr) (fun h => absurd h hr) (fun h => absurd h hr) (fun _ => hk S _ (fun Q' hQ' => e_Md_size (s_Md_size_0 (c_Md_follow hW hF (s_Md_size_7 0 0 (fun h => absurd h hr) (fun h => absurd h hr) (fun h => absurd h hr) (fun h => absurd h hr) (fun h => ?_) (fun h => absurd h hr) (fun _ => hQ' S hR))))))
    rcases h with h | h <;> exact absurd h.1 hr
theorem op_read {d e : Nat} {Q : zm_Q} {S : zm_S} {num : Nat} {a b c i : Int32} (hR : RR num S) (hk : ∀ S1 r, CPS M_Md_read (e + 4) [.ref 27, .int a, .int b, .int c, .int i] (RR num) r S1 → Q (some r) GG S1) : zc M_CM_read (d + 6) [.ref 0, .int a, .int b, .int c, .int i] S Q := by
  have hW := hR.2.2.2.2.1
  have w6 := hW.2.2.2.2.2.1
  refine e_CM_read (s_CM_read_0 (c_CM_follow hW (fun r hF => ?_)))
  by_cases hr : 0 ≤ r
  · obtain ⟨p, hv, rfl⟩ := hF.pos hr
    obtain ⟨L, hL, eL, hl⟩ := id hv
    have hi2 : zm_ix (nI p + 2) (p + 2) 576 := by rw [show nI p + 2 = nI (p + 2) from nI_add p 2]; exact zm_ixN hv.lt (by decide)
    have hi3 : ¬ i < 0 → i < S 24 (p + 2) → zm_ix (nI p + 3 + i) (p + 3 + i.toNatClampNeg) 576 := fun h1 h2 => by
      obtain ⟨j, hj, rfl⟩ := nI_of h1
      rw [nI_clamp hj]
      rw [eL] at h2
      have := (nI_ltI hj (by omega)).mp h2
      rw [show nI p + 3 = nI (p + 3) from nI_add p 3, nI_add]
      exact zm_ixN (by omega) (by decide)
    have e47 : ¬ S 47 (p + 2) ≤ i ↔ i < S 24 (p + 2) := by rw [w6]; exact Int32.not_le
    refine s_CM_read_7 (p + 2) (p + 3 + i.toNatClampNeg) (fun _ _ => hi2) (fun _ h1 h2 => hi3 h1 h2) (fun h => ?_) (fun _ h1 h2 => ?_) (fun h => absurd hr h)
    · refine hk S _ (fun Q' hQ' => e_Md_read (s_Md_read_0 (c_Md_follow hW hF (s_Md_read_7 (p + 2) (p + 3 + i.toNatClampNeg) (fun _ _ => hi2) (fun _ g1 g2 => hi3 g1 (e47.mp g2)) (fun _ => hQ' S hR) (fun _ g1 g2 => ?_) (fun h => absurd hr h)))))
      exfalso
      rcases h with h | h
      · exact g1 h.2
      · exact h.2.2 (e47.mp g2)
    · refine hk S _ (fun Q' hQ' => e_Md_read (s_Md_read_0 (c_Md_follow hW hF (s_Md_read_7 (p + 2) (p + 3 + i.toNatClampNeg) (fun _ _ => hi2) (fun _ g1 g2 => hi3 g1 (e47.mp g2)) (fun g => ?_) (fun _ _ _ => ?_) (fun h => absurd hr h)))))
      · exfalso
        rcases g with g | g
        · exact h1 g.2
        · exact e47.mpr h2 g.2.2
      · rw [w6]; exact hQ' S hR
  · refine s_CM_read_7 0 0 (fun h => absurd h hr) (fun h => absurd h hr) (fun h => ?_) (fun h => absurd h hr) (fun _ => hk S _ (fun Q' hQ' => e_Md_read (s_Md_read_0 (c_Md_follow hW hF (s_Md_read_7 0 0 (fun h => absurd h hr) (fun h => absurd h hr) (fun h => ?_) (fun h => absurd h hr) (fun _ => hQ' S hR))))))
    · rcases h with h | h <;> exact absurd h.1 hr
    · rcases h with h | h <;> exact absurd h.1 hr
