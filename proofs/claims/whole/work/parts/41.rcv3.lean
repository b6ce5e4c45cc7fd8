def th (A : zm_S) (c : Int32) : zm_S := if ¬ A 19 4 = -1 ∧ ¬ c = ((A 19 4 + 1) &&& 15) then taS A else A
def TP (p : Nat → Int32) (A A' : zm_S) : Prop :=
  ((¬ p 0 = 71 ∨ ¬ (p 1 &&& 176) = 0) ∧ A' = zm_up A 25 5 (A 25 5 + 1)) ∨
  (p 0 = 71 ∧ (p 1 &&& 176) = 0 ∧ (((p 1 &&& 64) = 0 ∧ CON p 14 2 (zm_up (th A (p 1 &&& 15)) 19 4 (p 1 &&& 15)) A') ∨
    (¬ (p 1 &&& 64) = 0 ∧ ((¬ p 2 ≤ 13 ∧ A' = taS (zm_up (th A (p 1 &&& 15)) 19 4 (p 1 &&& 15))) ∨
      (∃ r A3, r ≤ 13 ∧ p 2 = nI r ∧ CON p r 3 (zm_up (th A (p 1 &&& 15)) 19 4 (p 1 &&& 15)) A3 ∧ BEG p (13 - r) (3 + r) (taS A3) A')))))
theorem taS_keep (A : zm_S) : (RI A → RI (taS A)) ∧ taS A 15 = A 15 ∧ (∀ a, ¬ (19 ≤ a ∧ a ≤ 26) → taS A a = A a) ∧ taS A 19 4 = A 19 4 := by
  unfold taS
  split
  · exact ⟨id, rfl, fun _ _ => rfl, rfl⟩
  · refine ⟨?_, rfl, fun a ha => ?_, rfl⟩
    · rintro ⟨h1, h2, h3⟩
      exact ⟨h1, ⟨0, by rw [zm_up_self]; exact upd_self _ _ _, by omega, fun h => by omega⟩, h3⟩
    · rw [zm_up_ne _ _ _ (by omega), zm_up_ne _ _ _ (by omega)]
theorem th_keep (A : zm_S) (c : Int32) : (RI A → RI (th A c)) ∧ th A c 15 = A 15 ∧ (∀ a, ¬ (19 ≤ a ∧ a ≤ 26) → th A c a = A a) := by
  unfold th
  split
  · exact ⟨(taS_keep A).1, (taS_keep A).2.1, (taS_keep A).2.2.1⟩
  · exact ⟨id, rfl, fun _ _ => rfl⟩
theorem RI.lc {A : zm_S} (h : RI A) (c : Int32) : RI (zm_up A 19 4 c) := by
  obtain ⟨h1, ⟨n, h2, h2'⟩, h3⟩ := h
  exact ⟨h1, ⟨n, by rw [zm_up_self, upd_ne _ _ (by decide)]; exact h2, h2'⟩, h3⟩
theorem c_Rc_takePacket {d : Nat} {Q : zm_Q} {S : zm_S} (hI : RI S) (hp : ∀ i, i < 16 → isB (S 15 i)) (hq : ∀ A', TP (S 15) S A' → Q none GG A') : zc M_Rc_takePacket (d + 5) [.ref 19, .ref 15] S Q := by
  obtain ⟨r, hr, e2⟩ := hp 2 (by omega)
  have c13 : S 15 2 ≤ 13 ↔ r ≤ 13 := by rw [e2]; exact nI_leI (b := 13) (by omega) (by decide)
  have er : (3 : Int32) + S 15 2 = nI (3 + r) := by rw [e2]; exact nI_add 3 r
  -- behind the counter
  have goA : ∀ A : zm_S, RI A → A 15 = S 15 → (∀ A', ((S 15 1 &&& 64) = 0 ∧ CON (S 15) 14 2 A A') → Q none GG A') → (S 15 1 &&& 64) = 0 → zc M_Rc_continueSection (d + 4) [.ref 19, .ref 15, .int 2, .int 16] A (fun v G' S' => zm_WP M_Rc_takePacket none (d + 5) 0 0 Q 86 [none, none, none, none, none, none] (zm_ps v []) G' S' 0 0) := by
    intro A hA h15 hQ h64
    refine c_Rc_continueSection (f := 2) (e := 16) (by omega) (by omega) (by rw [h15]; exact hp) hA (fun A' hC => ?_)
    rw [h15] at hC
    exact s_Rc_takePacket_86 (hQ A' ⟨h64, hC⟩)
  have goB : ∀ A : zm_S, Q none GG (taS A) → zc M_Rc_throwAway (d + 4) [.ref 19] A (fun v G' S' => zm_WP M_Rc_takePacket none (d + 5) 0 0 Q 100 [none, none, none, none, none, none] (zm_ps v []) G' S' 0 0) := by
    intro A hQ
    exact c_Rc_throwAway (s_Rc_takePacket_100 hQ)
  have goC : ∀ A : zm_S, RI A → A 15 = S 15 → r ≤ 13 → (∀ A3 A', CON (S 15) r 3 A A3 → BEG (S 15) (13 - r) (3 + r) (taS A3) A' → Q none GG A') → zc M_Rc_continueSection (d + 4) [.ref 19, .ref 15, .int 3, .int (3 + S 15 2)] A (fun v G' S' => zm_WP M_Rc_takePacket none (d + 5) 0 0 Q 117 [some (.ref 19), some (.ref 15), none, none, none, some (.int (3 + S 15 2))] (zm_ps v []) G' S' 0 0) := by
    intro A hA h15 hr13 hQ
    rw [er]
    refine c_Rc_continueSection (f := 3) (e := 3 + r) (by omega) (by omega) (by rw [h15]; exact hp) hA (fun A3 hC => ?_)
    rw [h15, show 3 + r - 3 = r by omega] at hC
    obtain ⟨k1, k2, _, _⟩ := hC.keep hp (by omega) hA
    refine s_Rc_takePacket_117 (c_Rc_throwAway ?_)
    refine s_Rc_takePacket_121 ?_
    have t := taS_keep A3
    refine c_Rc_beginSections (by omega) (by rw [t.2.1, k2, h15]; exact hp) (t.1 k1) (fun A' hB => ?_)
    rw [t.2.1, k2, h15, show 16 - (3 + r) = 13 - r by omega] at hB
    exact s_Rc_takePacket_128 (hQ A3 A' hC hB)
  have hc : ∀ {X : Prop}, (X → (¬ S 19 4 = -1 ∧ ¬ (S 15 1 &&& 15) = ((S 19 4 + 1) &&& 15)) → False) → X → th S (S 15 1 &&& 15) = S := fun hx x => if_neg (hx x)
  refine e_Rc_takePacket (s_Rc_takePacket_0 (fun h => ?_) (fun h => ?_) (fun h => ?_) (fun h => ?_) (fun x1 x2 x3 x4 => ?_))
  · refine hq _ (Or.inl ⟨?_, rfl⟩)
    rcases h with h | h
    · exact Or.inl h
    · exact Or.inr h.2
  · have hth : th S (S 15 1 &&& 15) = S := if_neg (by
      rintro ⟨y1, y2⟩
      rcases h with h | h
      · exact y1 h.2.2.1
      · exact y2 h.2.2.2.1)
    have h71 : S 15 0 = 71 := by rcases h with h | h; exact h.1; exact h.1
    have h176 : (S 15 1 &&& 176) = 0 := by rcases h with h | h; exact h.2.1; exact h.2.1
    have h64 : ¬ (S 15 1 &&& 64) = 0 := by rcases h with h | h; exact h.2.2.2.1; exact h.2.2.2.2.1
    have hr13 : r ≤ 13 := c13.mp (by rcases h with h | h; exact h.2.2.2.2; exact h.2.2.2.2.2)
    refine goC _ (hI.lc _) rfl hr13 (fun A3 A' hC hB => hq A' (Or.inr ⟨h71, h176, Or.inr ⟨h64, Or.inr ⟨r, A3, hr13, e2, ?_, hB⟩⟩⟩))
    rw [hth]; exact hC
  · have hth : th S (S 15 1 &&& 15) = S := if_neg (by
      rintro ⟨y1, y2⟩
      rcases h with h | h
      · exact y1 h.2.2.1
      · exact y2 h.2.2.2.1)
    have h71 : S 15 0 = 71 := by rcases h with h | h; exact h.1; exact h.1
    have h176 : (S 15 1 &&& 176) = 0 := by rcases h with h | h; exact h.2.1; exact h.2.1
    have h64 : ¬ (S 15 1 &&& 64) = 0 := by rcases h with h | h; exact h.2.2.2.1; exact h.2.2.2.2.1
    have hr13 : ¬ S 15 2 ≤ 13 := by rcases h with h | h; exact h.2.2.2.2; exact h.2.2.2.2.2
    refine goB _ (hq _ (Or.inr ⟨h71, h176, Or.inr ⟨h64, Or.inl ⟨hr13, ?_⟩⟩⟩))
    rw [hth]
  · have hth : th S (S 15 1 &&& 15) = S := if_neg (by
      rintro ⟨y1, y2⟩
      rcases h with h | h
      · exact y1 h.2.2.1
      · exact y2 h.2.2.2.1)
    have h71 : S 15 0 = 71 := by rcases h with h | h; exact h.1; exact h.1
    have h176 : (S 15 1 &&& 176) = 0 := by rcases h with h | h; exact h.2.1; exact h.2.1
    have h64 : (S 15 1 &&& 64) = 0 := by rcases h with h | h; exact h.2.2.2; exact h.2.2.2.2
    refine goA _ (hI.lc _) rfl (fun A' hA => hq A' (Or.inr ⟨h71, h176, Or.inl ?_⟩)) h64
    rw [hth]; exact hA
  · have hth : th S (S 15 1 &&& 15) = taS S := if_pos ⟨x3, x4⟩
    have t := taS_keep S
    refine c_Rc_throwAway ?_
    refine s_Rc_takePacket_61 (fun y1 y2 => ?_) (fun y1 y2 => ?_) (fun y1 => ?_)
    · rw [t.2.1] at y2 ⊢
      refine goC _ ((t.1 hI).lc _) t.2.1 (c13.mp y2) (fun A3 A' hC hB => hq A' (Or.inr ⟨x1, x2, Or.inr ⟨y1, Or.inr ⟨r, A3, c13.mp y2, e2, ?_, hB⟩⟩⟩))
      rw [hth]; exact hC
    · rw [t.2.1] at y2
      refine goB _ (hq _ (Or.inr ⟨x1, x2, Or.inr ⟨y1, Or.inl ⟨y2, ?_⟩⟩⟩))
      rw [hth]
    · refine goA _ ((t.1 hI).lc _) t.2.1 (fun A' hA => hq A' (Or.inr ⟨x1, x2, Or.inl ?_⟩)) y1
      rw [hth]; exact hA
theorem TP.keep {p : Nat → Int32} {A A' : zm_S} (h : TP p A A') (hp : ∀ j, j < 16 → isB (p j)) (hI : RI A) : RI A' ∧ A' 15 = A 15 ∧ ∀ a, ¬ (19 ≤ a ∧ a ≤ 26) → A' a = A a := by
  have hthk := th_keep A (p 1 &&& 15)
  have hI2 : RI (zm_up (th A (p 1 &&& 15)) 19 4 (p 1 &&& 15)) := (hthk.1 hI).lc _
  have f2 : ∀ a, ¬ (19 ≤ a ∧ a ≤ 26) → zm_up (th A (p 1 &&& 15)) 19 4 (p 1 &&& 15) a = A a := fun a ha => by rw [zm_up_ne _ _ _ (by omega)]; exact hthk.2.2 a ha
  rcases h with ⟨_, rfl⟩ | ⟨_, _, ⟨_, hC⟩ | ⟨_, ⟨_, rfl⟩ | ⟨r, A3, hr, _, hC, hB⟩⟩⟩
  · obtain ⟨h1, h2, h3⟩ := hI
    exact ⟨⟨h1, h2, h3⟩, rfl, fun a ha => zm_up_ne _ _ _ (by omega)⟩
  · obtain ⟨g1, g2, g3, _⟩ := hC.keep hp (by omega) hI2
    exact ⟨g1, by rw [g2, f2 15 (by omega)], fun a ha => by rw [g3 a ha, f2 a ha]⟩
  · have t := taS_keep (zm_up (th A (p 1 &&& 15)) 19 4 (p 1 &&& 15))
    exact ⟨t.1 hI2, by rw [t.2.1, f2 15 (by omega)], fun a ha => by rw [t.2.2.1 a ha, f2 a ha]⟩
  · obtain ⟨g1, g2, g3, _⟩ := hC.keep hp (by omega) hI2
    have t := taS_keep A3
    obtain ⟨k1, k2, k3, _⟩ := hB.keep hp (by omega) (t.1 g1)
    exact ⟨k1, by rw [k2, t.2.1, g2, f2 15 (by omega)], fun a ha => by rw [k3 a ha, t.2.2.1 a ha, g3 a ha, f2 a ha]⟩
-- the reference's receiver beside the class's
def RM (A S : zm_S) (m : Nat) : Prop := (A 21 m = 0 ∧ A 22 m = 0 ∧ A 23 m = 0 ∧ S 43 m = 0 ∧ ∀ b, b < 6 → S 46 (6 * m + b) = 0) ∨
  (∃ z w h, 1 ≤ z ∧ z ≤ 48 ∧ w < 65536 ∧ h < 64 ∧ A 21 m = nI z ∧ S 45 m = nI z ∧ A 22 m = nI w ∧ S 44 m = nI w ∧ S 43 m = 1 ∧ A 23 m = nI h ∧ (∀ b, b < 6 → S 46 (6 * m + b) = if h.testBit b then 1 else 0) ∧ ∀ b, b < 6 → h.testBit b = true → b < (z + 7) / 8)
def RW (A S : zm_S) : Prop := S 49 = A 25 ∧ S 48 = A 26 ∧ (S 27 23 = A 19 4 ∧ (A 19 4 = -1 ∨ ∃ c, c < 16 ∧ A 19 4 = nI c)) ∧ ((A 20 0 = 0 ∧ S 27 22 = -1) ∨ (A 20 0 = 1 ∧ S 27 22 = A 20 1 ∧ ∃ t, t < 65536 ∧ A 20 1 = nI t)) ∧ (∀ m, m < 12 → RM A S m) ∧ S 47 = A 24 ∧ ∀ i, isB (A 24 i)
def RG (A S : zm_S) : Prop := ∃ n, A 19 3 = nI n ∧ n ≤ 256 ∧ ((n = 0 ∧ S 27 29 = 0) ∨ (1 ≤ n ∧ S 27 29 = 1 ∧ S 27 30 = nI n))
def RV (A S : zm_S) : Prop := RW A S ∧ RG A S
def FR (S S' : zm_S) : Prop := (∀ a, a ≠ 27 → ¬ (43 ≤ a ∧ a ≤ 49) → S' a = S a) ∧ ∀ i, i ≠ 22 → i ≠ 23 → i ≠ 29 → i ≠ 30 → S' 27 i = S 27 i
theorem FR.refl (S : zm_S) : FR S S := ⟨fun _ _ _ => rfl, fun _ _ _ _ _ => rfl⟩
theorem FR.trans {S S1 S2 : zm_S} (h : FR S S1) (g : FR S1 S2) : FR S S2 := ⟨fun a x y => (g.1 a x y).trans (h.1 a x y), fun i x y z w => (g.2 i x y z w).trans (h.2 i x y z w)⟩
theorem c_Md_throwAway {d : Nat} {Q : zm_Q} {A S : zm_S} (hV : RV A S) (hq : ∀ S', RV (taS A) S' → FR S S' → Q none GG S') : zc M_Md_throwAway d [.ref 27] S Q := by
  obtain ⟨⟨w1, w2, w3, w4, w5, w6, w7⟩, n, en, hn, hg⟩ := hV
  have c0 : A 19 3 ≤ 0 ↔ n = 0 := by rw [en]; exact nI_le0 (by omega)
  refine e_Md_throwAway (s_Md_throwAway_0 (fun h => ?_) (fun h => ?_))
  · have n0 : n = 0 := by
      rcases hg with hg | hg
      · exact hg.1
      · rw [hg.2.1] at h; exact absurd h (by decide)
    have e : zm_up S 49 4 (S 49 4) = S := by
      funext a
      by_cases ha : a = 49
      · subst ha; rw [zm_up_self]; funext i
        by_cases hi : i = 4
        · subst hi; rw [upd_self]
        · rw [upd_ne _ _ hi]
      · rw [zm_up_ne _ _ _ ha]
    rw [e]
    have et : taS A = A := if_pos (c0.mpr n0)
    refine hq _ ?_ ⟨fun a a1 _ => zm_up_ne _ _ _ a1, fun i _ _ i29 _ => by rw [zm_up_self, upd_ne _ _ i29]⟩
    rw [et]
    refine ⟨⟨w1, w2, ?_, ?_, w5, w6, w7⟩, n, en, hn, Or.inl ⟨n0, by rw [zm_up_self]; exact upd_self _ _ _⟩⟩
    · rw [zm_up_self, upd_ne _ _ (by decide)]; exact w3
    · rw [zm_up_self, upd_ne _ _ (by decide)]; exact w4
  · have hn1 : 1 ≤ n := by
      rcases hg with hg | hg
      · exact absurd hg.2 h
      · exact hg.1
    have et : taS A = zm_up (zm_up A 25 4 (A 25 4 + 1)) 19 3 0 := if_neg (fun x => by have := c0.mp x; omega)
    refine hq _ ?_ ⟨fun a a1 a2 => by rw [zm_up_ne _ _ _ a1, zm_up_ne _ _ _ (by omega)], fun i _ _ i29 _ => by rw [zm_up_self, upd_ne _ _ i29]; rfl⟩
    rw [et]
    refine ⟨⟨?_, w2, ?_, ?_, w5, w6, w7⟩, 0, by rw [zm_up_self]; exact upd_self _ _ _, by omega, Or.inl ⟨rfl, by rw [zm_up_self]; exact upd_self _ _ _⟩⟩
    · show upd (S 49) 4 (S 49 4 + 1) = upd (A 25) 4 (A 25 4 + 1)
      rw [w1]
    · show S 27 23 = A 19 4 ∧ _
      exact w3
    · show (A 20 0 = 0 ∧ S 27 22 = -1) ∨ _
      exact w4
