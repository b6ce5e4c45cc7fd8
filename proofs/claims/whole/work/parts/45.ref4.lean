theorem RW.put {A S : zm_S} (h : RW A S) (n : Nat) (x v u : Int32) : RW (zm_up (zm_up A 26 n x) 19 3 v) (zm_up (zm_up S 48 n x) 27 30 u) := by
  obtain ⟨w1, w2, w3, w4, w5, w6, w7⟩ := h
  refine ⟨w1, ?_, w3, w4, w5, w6, w7⟩
  show upd (S 48) n x = upd (A 26) n x
  rw [w2]
theorem RW.g29 {A S : zm_S} (h : RW A S) (u : Int32) : RW A (zm_up S 27 29 u) := by
  obtain ⟨w1, w2, w3, w4, w5, w6, w7⟩ := h
  exact ⟨w1, w2, w3, w4, w5, w6, w7⟩
theorem RW.g30 {A S : zm_S} (h : RW A S) (u : Int32) : RW A (zm_up S 27 30 u) := by
  obtain ⟨w1, w2, w3, w4, w5, w6, w7⟩ := h
  exact ⟨w1, w2, w3, w4, w5, w6, w7⟩
theorem FR.g {S : zm_S} (i : Nat) (hi : i = 22 ∨ i = 23 ∨ i = 29 ∨ i = 30) (v : Int32) : FR S (zm_up S 27 i v) := by
  refine ⟨fun a p _ => zm_up_ne _ _ _ p, fun j a b c e => ?_⟩
  rw [zm_up_self, upd_ne _ _ (by omega)]
theorem FR.s {S : zm_S} (i : Nat) (v : Int32) : FR S (zm_up S 48 i v) := ⟨fun a _ q => zm_up_ne _ _ _ (by omega), fun _ _ _ _ _ => rfl⟩
theorem c_Md_take {d : Nat} {Q : zm_Q} {A A' S : zm_S} {x : Int32} (hI : RI A) (hx : isB x) (hW : RW A S) (h29 : S 27 29 = 1) (h30 : S 27 30 = A 19 3) (hC : COL x A A') (hq : ∀ S', RV A' S' → FR S S' → Q none GG S') : zc M_Md_take (d + 3) [.ref 27, .int x] S Q := by
  obtain ⟨_, ⟨n', en', hn', _⟩, _⟩ := hI.col hx hC
  obtain ⟨n, en, hn, hC⟩ := hC
  have e1 : S 27 30 + 1 = nI (n + 1) := by rw [h30, en, nI_1]
  have c2 : nI (n + 1) < 2 ↔ n + 1 < 2 := nI_ltI (b := 2) (by omega) (by decide)
  have w2 := hW.2.1
  have e48 : (zm_up S 48 n x) 48 1 = upd (A 26) n x 1 := by rw [zm_up_self, w2]
  refine e_Md_take (s_Md_take_0 n (by rw [h30, en]; exact zm_ixN (by omega) (by decide)) (fun h => ?_) (fun h1 h2 => ?_))
  · rw [e1, e48] at h
    rw [e1]
    rcases hC with ⟨_, rfl⟩ | ⟨y1, y2, _⟩
    · have hnn : n' = n + 1 := by
        refine (nI_eq (by omega) (by omega)).mp (en'.symm.trans ?_)
        rw [zm_up_self, upd_self]
      refine hq _ ⟨hW.put n x _ _, n + 1, ?_, by omega, Or.inr ⟨by omega, h29, ?_⟩⟩ ((FR.s n x).trans (FR.g 30 (by omega) _))
      · rw [zm_up_self, upd_self]
      · rw [zm_up_self, upd_self]
    · rcases h with h | h
      · have := c2.mp h; omega
      · exact absurd y2 h.2
  · rw [e1] at h1 h2
    rw [e48] at h2
    rw [e1]
    rcases hC with ⟨y, _⟩ | ⟨y1, y2, kd, A2, hkd, hJ, rfl⟩
    · rcases y with y | y
      · exact absurd (c2.mpr y) h1
      · exact absurd h2 y
    · have k := hJ.keep
      refine c_Md_look (n := n + 1) (isB_upd hI.1 n hx) (by omega) ?_ ((hW.put n x _ _).g29 0) hJ (fun S' hW' hF h29' => s_Md_take_52 (hq S' ⟨hW', 0, ?_, by omega, Or.inl ⟨rfl, ?_⟩⟩ (((FR.s n x).trans (FR.g 30 (by omega) _)).trans ((FR.g 29 (by omega) _).trans hF))))
      · rw [zm_up_self, upd_ne _ _ (by decide), zm_up_self, upd_self]
      · rw [zm_up_ne _ _ _ (by decide), k.2.1, zm_up_self, upd_self]; rfl
      · rw [h29', zm_up_self, upd_self]
theorem l_Md_more {d : Nat} {Q : zm_Q} {p : Nat → Int32} {e : Nat} (he : e ≤ 16) (hp : ∀ i, i < 16 → isB (p i)) : ∀ (n i : Nat) (A A' S : zm_S), i + n = e → RI A → RV A S → (∀ j, j < 16 → S 42 j = p j) → CON p n i A A' → (∀ S', RV A' S' → FR S S' → Q none GG S') → zw M_Md_more (d + 4) Q 2 [some (.ref 27), none, some (.int (nI e)), some (.int (nI i))] [] S := by
  intro n
  induction n with
  | zero =>
    intro i A A' S hi _ hV _ hC hq
    have hle : nI e ≤ nI i := nI_le (by omega) (by omega)
    have : A' = A := hC
    subst this
    exact s_Md_more_2 0 (fun h => absurd hle h) (fun _ => hq S hV (FR.refl S)) (fun h => absurd hle h)
  | succ n ih =>
    intro i A A' S hi hI hV h42 hC hq
    have hlt : ¬ nI e ≤ nI i := nI_ge (by omega) (by omega)
    obtain ⟨hW, m, em, hm, hg⟩ := hV
    have c0 : A 19 3 ≤ 0 ↔ m = 0 := by rw [em]; exact nI_le0 (by omega)
    refine s_Md_more_2 i (fun _ _ => zm_ixN (by omega) (by decide)) (fun h => ?_) (fun _ h => ?_)
    · have h0 : S 27 29 = 0 := by
        rcases h with h | h
        · exact absurd h hlt
        · exact h.2
      have m0 : m = 0 := by
        rcases hg with hg | hg
        · exact hg.1
        · rw [hg.2.1] at h0; exact absurd h0 (by decide)
      rcases hC with ⟨_, rfl⟩ | ⟨hn, _⟩
      · exact hq S ⟨hW, m, em, hm, hg⟩ (FR.refl S)
      · exact absurd (c0.mpr m0) hn
    · rcases hg with hg | hg
      · exact absurd hg.2 h
      rcases hC with ⟨h0, _⟩ | ⟨_, A1, hC1, hC2⟩
      · have := c0.mp h0
        omega
      rw [h42 i (by omega)]
      refine c_Md_take hI (hp i (by omega)) hW hg.2.1 (by rw [hg.2.2, em]) hC1 (fun S1 hV1 hF1 => ?_)
      refine s_Md_more_24 ?_
      rw [nI_1]
      exact ih (i + 1) A1 A' S1 (by omega) (hI.col (hp i (by omega)) hC1) hV1 (fun j hj => by rw [hF1.1 42 (by decide) (by omega)]; exact h42 j hj) hC2 (fun S' hV' hF' => hq S' hV' (hF1.trans hF'))
theorem c_Md_more {d : Nat} {Q : zm_Q} {p : Nat → Int32} {A A' S : zm_S} {f e : Nat} (hfe : f ≤ e) (he : e ≤ 16) (hp : ∀ i, i < 16 → isB (p i)) (hI : RI A) (hV : RV A S) (h42 : ∀ j, j < 16 → S 42 j = p j) (hC : CON p (e - f) f A A') (hq : ∀ S', RV A' S' → FR S S' → Q none GG S') : zc M_Md_more (d + 4) [.ref 27, .int (nI f), .int (nI e)] S Q :=
  e_Md_more (s_Md_more_0 (l_Md_more he hp (e - f) f A A' S (by omega) hI hV h42 hC hq))
theorem l_Md_begin {d : Nat} {Q : zm_Q} {p : Nat → Int32} (hp : ∀ i, i < 16 → isB (p i)) : ∀ (n i : Nat) (A A' S : zm_S), i + n = 16 → RI A → RV A S → (∀ j, j < 16 → S 42 j = p j) → BEG p n i A A' → (∀ S', RV A' S' → FR S S' → Q none GG S') → zw M_Md_receive (d + 5) Q 121 [some (.ref 27), none, none, none, some (.int (nI i))] [] S := by
  intro n
  induction n with
  | zero =>
    intro i A A' S hi _ hV _ hC hq
    have : i = 16 := by omega
    subst this
    have hle : (16 : Int32) ≤ nI 16 := by decide
    have : A' = A := hC
    subst this
    exact s_Md_receive_121 0 (fun h => absurd hle h) (fun h => absurd hle h) (fun _ => hq S hV (FR.refl S)) (fun h => absurd hle h) (fun h => absurd hle h)
  | succ n ih =>
    intro i A A' S hi hI hV h42 hC hq
    have hlt : ¬ (16 : Int32) ≤ nI i := nI_ge (b := 16) (by omega) (by decide)
    have hix : zm_ix (nI i) i 16 := zm_ixN (by omega) (by decide)
    obtain ⟨hW, m, em, hm, hg⟩ := hV
    have c0 : A 19 3 = 0 ↔ m = 0 := by rw [em]; exact nI_eq0 (by omega)
    have nx : ∀ (S0 S1 A1 : zm_S), FR S S0 → COL (p i) A A1 → BEG p n (i + 1) A1 A' → RV A1 S1 → FR S0 S1 → zw M_Md_receive (d + 5) Q 170 [some (.ref 27), none, none, none, some (.int (nI i))] [] S1 := by
      intro S0 S1 A1 hF0 hC1 hC2 hV1 hF1
      refine s_Md_receive_170 ?_
      rw [nI_1]
      exact ih (i + 1) A1 A' S1 (by omega) (hI.col (hp i (by omega)) hC1) hV1 (fun j hj => by rw [(hF0.trans hF1).1 42 (by decide) (by omega)]; exact h42 j hj) hC2 (fun S' hV' hF' => hq S' hV' ((hF0.trans hF1).trans hF'))
    refine s_Md_receive_121 i (fun _ _ => hix) (fun _ _ => hix) (fun h => ?_) (fun _ h => ?_) (fun _ h hb => ?_)
    · rw [h42 i (by omega)] at h
      rcases h with h | h
      · exact absurd h hlt
      have m0 : m = 0 := by
        rcases hg with hg | hg
        · exact hg.1
        · rw [hg.2.1] at h; exact absurd h.2.1 (by decide)
      rcases hC with ⟨_, _, rfl⟩ | ⟨hn, _⟩
      · exact hq S ⟨hW, m, em, hm, hg⟩ (FR.refl S)
      · exact absurd ⟨c0.mpr m0, h.2.2⟩ hn
    · rcases hg with hg | hg
      · exact absurd hg.2 h
      rcases hC with ⟨h0, _⟩ | ⟨_, A1, hC1, hC2⟩
      · have := c0.mp h0
        omega
      rw [h42 i (by omega)]
      exact c_Md_take hI (hp i (by omega)) hW hg.2.1 (by rw [hg.2.2, em]) hC1 (fun S1 hV1 hF1 => nx S S1 A1 (FR.refl S) hC1 hC2 hV1 hF1)
    · rw [h42 i (by omega)] at hb ⊢
      have m0 : m = 0 := by
        rcases hg with hg | hg
        · exact hg.1
        · rw [hg.2.1] at h; exact absurd h (by decide)
      rcases hC with ⟨_, h1, _⟩ | ⟨_, A1, hC1, hC2⟩
      · exact absurd h1 hb
      refine c_Md_take hI (hp i (by omega)) ((hW.g29 1).g30 0) ?_ ?_ hC1 (fun S1 hV1 hF1 => nx _ S1 A1 ((FR.g 29 (by omega) _).trans (FR.g 30 (by omega) _)) hC1 hC2 hV1 hF1)
      · rw [zm_up_self, upd_ne _ _ (by decide), zm_up_self, upd_self]
      · rw [zm_up_self, upd_self]; exact (c0.mpr m0).symm
theorem and15 : ∀ b, b < 256 → nI b &&& 15 = nI (b % 16) := by decide +kernel
theorem next16 : ∀ c, c < 16 → (nI c + 1) - (nI c + 1) / 16 * 16 = ((nI c + 1) &&& 15) ∧ ¬ nI c < 0 ∧ ¬ nI c = -1 := by decide +kernel
theorem RV.hc {A S : zm_S} (h : RV A S) {c : Nat} (hc : c < 16) : RV (zm_up A 19 4 (nI c)) (zm_up S 27 23 (nI c)) := by
  obtain ⟨⟨w1, w2, w3, w4, w5, w6, w7⟩, n, en, hn, hg⟩ := h
  refine ⟨⟨w1, w2, ⟨?_, Or.inr ⟨c, hc, ?_⟩⟩, w4, w5, w6, w7⟩, n, en, hn, hg⟩
  · rw [zm_up_self, upd_self, zm_up_self, upd_self]
  · rw [zm_up_self, upd_self]
theorem c_Md_receive {d : Nat} {Q : zm_Q} {p : Nat → Int32} {A A' S : zm_S} (hp : ∀ i, i < 16 → isB (p i)) (hI : RI A) (hV : RV A S) (h42 : ∀ j, j < 16 → S 42 j = p j) (hT : TP p A A') (hq : ∀ S', RV A' S' → FR S S' → Q none GG S') : zc M_Md_receive (d + 5) [.ref 27] S Q := by
  obtain ⟨r, hr, e2⟩ := hp 2 (by omega)
  obtain ⟨b1, hb1, e1⟩ := hp 1 (by omega)
  have p0 : S 42 0 = p 0 := h42 0 (by omega)
  have p1 : S 42 1 = p 1 := h42 1 (by omega)
  have p2 : S 42 2 = p 2 := h42 2 (by omega)
  have ec : (p 1 &&& 15) = nI (b1 % 16) := by rw [e1]; exact and15 b1 (by omega)
  have hc16 : b1 % 16 < 16 := Nat.mod_lt _ (by decide)
  have c13 : p 2 ≤ 13 ↔ r ≤ 13 := by rw [e2]; exact nI_leI (b := 13) (by omega) (by decide)
  have er : (3 : Int32) + p 2 = nI (3 + r) := by rw [e2]; exact nI_add 3 r
  have hthk := th_keep A (p 1 &&& 15)
  -- behind the counter
  have hIB : RI (zm_up (th A (p 1 &&& 15)) 19 4 (p 1 &&& 15)) := (hthk.1 hI).lc _
  have goA : ∀ S1 : zm_S, p 0 = 71 → (p 1 &&& 176) = 0 → (p 1 &&& 64) = 0 → RV (zm_up (th A (p 1 &&& 15)) 19 4 (p 1 &&& 15)) S1 → FR S S1 → zc M_Md_more (d + 4) [.ref 27, .int 2, .int 16] S1 (fun v G' S' => zm_WP M_Md_receive none (d + 5) 0 0 Q 85 [none, none, none, none, none] (zm_ps v []) G' S' 0 0) := by
    intro S1 h71 h176 h64 hV1 hF1
    rcases hT with ⟨hb, _⟩ | ⟨_, _, ⟨_, hC⟩ | ⟨hn, _⟩⟩
    · rcases hb with hb | hb
      · exact absurd h71 hb
      · exact absurd h176 hb
    · exact c_Md_more (f := 2) (e := 16) (by omega) (by omega) hp hIB hV1 (fun j hj => by rw [hF1.1 42 (by decide) (by omega)]; exact h42 j hj) hC (fun S' hV' hF' => s_Md_receive_85 (hq S' hV' (hF1.trans hF')))
    · exact absurd h64 hn
  have goB : ∀ S1 : zm_S, p 0 = 71 → (p 1 &&& 176) = 0 → ¬ (p 1 &&& 64) = 0 → ¬ p 2 ≤ 13 → RV (zm_up (th A (p 1 &&& 15)) 19 4 (p 1 &&& 15)) S1 → FR S S1 → zc M_Md_throwAway (d + 4) [.ref 27] S1 (fun v G' S' => zm_WP M_Md_receive none (d + 5) 0 0 Q 103 [none, none, none, none, none] (zm_ps v []) G' S' 0 0) := by
    intro S1 h71 h176 h64 h13 hV1 hF1
    rcases hT with ⟨hb, _⟩ | ⟨_, _, ⟨hn, hC⟩ | ⟨_, ⟨_, rfl⟩ | ⟨r', A3, hr', e2', _⟩⟩⟩
    · rcases hb with hb | hb
      · exact absurd h71 hb
      · exact absurd h176 hb
    · exact absurd hn h64
    · exact c_Md_throwAway hV1 (fun S' hV' hF' => s_Md_receive_103 (hq S' hV' (hF1.trans hF')))
    · exfalso
      apply h13
      rw [e2']; exact nI_le (b := 13) hr' (by decide)
  have goC : ∀ S1 : zm_S, p 0 = 71 → (p 1 &&& 176) = 0 → ¬ (p 1 &&& 64) = 0 → p 2 ≤ 13 → RV (zm_up (th A (p 1 &&& 15)) 19 4 (p 1 &&& 15)) S1 → FR S S1 → zc M_Md_more (d + 4) [.ref 27, .int 3, .int (3 + p 2)] S1 (fun v G' S' => zm_WP M_Md_receive none (d + 5) 0 0 Q 112 [some (.ref 27), none, none, some (.int (p 2)), none] (zm_ps v []) G' S' 0 0) := by
    intro S1 h71 h176 h64 h13 hV1 hF1
    rcases hT with ⟨hb, _⟩ | ⟨_, _, ⟨hn, hC⟩ | ⟨_, ⟨h13', _⟩ | ⟨r', A3, hr', e2', hC, hB⟩⟩⟩
    · rcases hb with hb | hb
      · exact absurd h71 hb
      · exact absurd h176 hb
    · exact absurd hn h64
    · exact absurd h13 h13'
    · have hrr : r' = r := (nI_eq (by omega) (by omega)).mp (e2'.symm.trans e2)
      subst hrr
      rw [er]
      obtain ⟨g1, g2, _, _⟩ := hC.keep hp (by omega) hIB
      have t := taS_keep A3
      have hC' : CON p (3 + r' - 3) 3 (zm_up (th A (p 1 &&& 15)) 19 4 (p 1 &&& 15)) A3 := by rw [show 3 + r' - 3 = r' by omega]; exact hC
      refine c_Md_more (f := 3) (e := 3 + r') (by omega) (by omega) hp hIB hV1 (fun j hj => by rw [hF1.1 42 (by decide) (by omega)]; exact h42 j hj) hC' (fun S2 hV2 hF2 => ?_)
      refine s_Md_receive_112 (c_Md_throwAway hV2 (fun S3 hV3 hF3 => ?_))
      refine s_Md_receive_116 ?_
      rw [er]
      exact l_Md_begin hp (13 - r') (3 + r') (taS A3) A' S3 (by omega) (t.1 g1) hV3 (fun j hj => by rw [((hF1.trans hF2).trans hF3).1 42 (by decide) (by omega)]; exact h42 j hj) hB (fun S' hV' hF' => hq S' hV' (((hF1.trans hF2).trans hF3).trans hF'))
  obtain ⟨w3, w3'⟩ := hV.1.2.2.1
  have cneg : S 27 23 < 0 ↔ A 19 4 = -1 := by
    rw [w3]
    rcases w3' with h | ⟨c, hc, h⟩
    · rw [h]; decide
    · rw [h]; exact ⟨fun x => absurd x (next16 c hc).2.1, fun x => absurd x (next16 c hc).2.2⟩
  have cnx : ¬ S 27 23 < 0 → (S 27 23 + 1) - (S 27 23 + 1) / 16 * 16 = ((A 19 4 + 1) &&& 15) := by
    intro hn
    rcases w3' with h | ⟨c, hc, h⟩
    · exact absurd (cneg.mpr h) hn
    · rw [w3, h]; exact (next16 c hc).1
  have same : (S 27 23 < 0 ∨ (¬ S 27 23 < 0 ∧ (p 1 &&& 15) = (S 27 23 + 1) - (S 27 23 + 1) / 16 * 16)) → RV (zm_up (th A (p 1 &&& 15)) 19 4 (p 1 &&& 15)) (zm_up S 27 23 (p 1 &&& 15)) := by
    intro h
    have hth : th A (p 1 &&& 15) = A := if_neg (by
      rintro ⟨y1, y2⟩
      rcases h with h | h
      · exact y1 (cneg.mp h)
      · exact y2 (h.2.trans (cnx h.1)))
    rw [hth, ec]
    exact hV.hc hc16
  refine e_Md_receive (s_Md_receive_0 (fun h => ?_) (fun h => ?_) (fun h => ?_) (fun h => ?_) (fun x1 x2 x3 x4 => ?_))
  · rw [p0, p1] at h
    rcases hT with ⟨_, rfl⟩ | ⟨h71, h176, _⟩
    · refine hq _ ⟨hV.1.cnt 5, hV.2⟩ (FR.cnt _ _)
    · rcases h with h | h
      · exact absurd h71 h
      · exact absurd h176 h.2
  · rw [p0, p1, p2] at h
    rw [p1, p2]
    have hs : (S 27 23 < 0 ∨ (¬ S 27 23 < 0 ∧ (p 1 &&& 15) = (S 27 23 + 1) - (S 27 23 + 1) / 16 * 16)) := by
      rcases h with h | h
      · exact Or.inl h.2.2.1
      · exact Or.inr ⟨h.2.2.1, h.2.2.2.1⟩
    have h71 : p 0 = 71 := by rcases h with h | h; exact h.1; exact h.1
    have h176 : (p 1 &&& 176) = 0 := by rcases h with h | h; exact h.2.1; exact h.2.1
    have h64 : ¬ (p 1 &&& 64) = 0 := by rcases h with h | h; exact h.2.2.2.1; exact h.2.2.2.2.1
    have h13 : p 2 ≤ 13 := by rcases h with h | h; exact h.2.2.2.2; exact h.2.2.2.2.2
    exact goC _ h71 h176 h64 h13 (same hs) (FR.g 23 (by omega) _)
  · rw [p0, p1, p2] at h
    rw [p1]
    have hs : (S 27 23 < 0 ∨ (¬ S 27 23 < 0 ∧ (p 1 &&& 15) = (S 27 23 + 1) - (S 27 23 + 1) / 16 * 16)) := by
      rcases h with h | h
      · exact Or.inl h.2.2.1
      · exact Or.inr ⟨h.2.2.1, h.2.2.2.1⟩
    have h71 : p 0 = 71 := by rcases h with h | h; exact h.1; exact h.1
    have h176 : (p 1 &&& 176) = 0 := by rcases h with h | h; exact h.2.1; exact h.2.1
    have h64 : ¬ (p 1 &&& 64) = 0 := by rcases h with h | h; exact h.2.2.2.1; exact h.2.2.2.2.1
    have h13 : ¬ p 2 ≤ 13 := by rcases h with h | h; exact h.2.2.2.2; exact h.2.2.2.2.2
    exact goB _ h71 h176 h64 h13 (same hs) (FR.g 23 (by omega) _)
  · rw [p0, p1] at h
    rw [p1]
    have hs : (S 27 23 < 0 ∨ (¬ S 27 23 < 0 ∧ (p 1 &&& 15) = (S 27 23 + 1) - (S 27 23 + 1) / 16 * 16)) := by
      rcases h with h | h
      · exact Or.inl h.2.2.1
      · exact Or.inr ⟨h.2.2.1, h.2.2.2.1⟩
    have h71 : p 0 = 71 := by rcases h with h | h; exact h.1; exact h.1
    have h176 : (p 1 &&& 176) = 0 := by rcases h with h | h; exact h.2.1; exact h.2.1
    have h64 : (p 1 &&& 64) = 0 := by rcases h with h | h; exact h.2.2.2; exact h.2.2.2.2
    exact goA _ h71 h176 h64 (same hs) (FR.g 23 (by omega) _)
  · rw [p0] at x1
    rw [p1] at x2 x4 ⊢
    have hth : th A (p 1 &&& 15) = taS A := if_pos ⟨fun x => x3 (cneg.mpr x), fun x => x4 (x.trans (cnx x3).symm)⟩
    refine c_Md_throwAway hV (fun S1 hV1 hF1 => ?_)
    have q2 : S1 42 2 = p 2 := by rw [hF1.1 42 (by decide) (by omega)]; exact p2
    have hV2 : RV (zm_up (th A (p 1 &&& 15)) 19 4 (p 1 &&& 15)) (zm_up S1 27 23 (p 1 &&& 15)) := by
      rw [hth, ec]; exact hV1.hc hc16
    have hF2 : FR S (zm_up S1 27 23 (p 1 &&& 15)) := hF1.trans (FR.g 23 (by omega) _)
    refine s_Md_receive_66 (fun y1 y2 => ?_) (fun y1 y2 => ?_) (fun y1 => ?_)
    · rw [q2] at y2 ⊢
      exact goC _ x1 x2 y1 y2 hV2 hF2
    · rw [q2] at y2
      exact goB _ x1 x2 y1 y2 hV2 hF2
    · exact goA _ x1 x2 y1 hV2 hF2
