theorem nI_xor {x y : Nat} (hx : x ≤ 255) (hy : y ≤ 255) : isB (nI x ^^^ nI y) := by
  have hlt : x ^^^ y < 2 ^ 8 := Nat.xor_lt_two_pow (by omega) (by omega)
  refine ⟨x ^^^ y, by omega, ?_⟩
  apply i32ext
  rw [Int32.toBitVec_xor, BitVec.toNat_xor, pk_tn (by omega), pk_tn (by omega), pk_tn (by omega)]
theorem op_spoil {d e : Nat} {Q : zm_Q} {S : zm_S} {num : Nat} {a b : Int32} (hR : RR num S) (hnum : num < 60000) (hk : ∀ S1 r, CPS M_Md_spoil (e + 6) [.ref 27, .int a, .int b] (RR num) r S1 → Q (some r) GG S1) : zc M_CM_spoil (d + 6) [.ref 0, .int a, .int b] S Q := by
  obtain ⟨onair, onref⟩ := hR.air hnum
  have c15 : ¬ a < 0 → (15 < a ↔ 16 ≤ a) := fun h1 => by
    obtain ⟨j, hj, rfl⟩ := nI_of h1
    have x : 15 < nI j ↔ 15 < j := nI_ltI (a := 15) (by decide) hj
    have y : 16 ≤ nI j ↔ 16 ≤ j := nI_leI (a := 16) (by decide) hj
    rw [x, y]; omega
  have hix : ¬ a < 0 → ¬ 16 ≤ a → zm_ix a a.toNatClampNeg 16 := fun h1 h2 => by
    obtain ⟨j, hj, rfl⟩ := nI_of h1
    rw [nI_clamp hj]
    have y : 16 ≤ nI j ↔ 16 ≤ j := nI_leI (a := 16) (by decide) hj
    rw [y] at h2
    exact zm_ixN (by omega) (by decide)
  refine e_CM_spoil (s_CM_spoil_0 a.toNatClampNeg (fun h1 h2 _ _ _ => hix h1 h2) (fun h => ?_) (fun h1 h2 h3 h4 h5 => ?_) (fun h1 h2 h3 h4 h5 => ?_))
  · have hb : a < 0 ∨ (¬ a < 0 ∧ 16 ≤ a) ∨ b < 0 ∨ 255 < b := by
      rcases h with h | h | ⟨_, _, h | h⟩
      · exact Or.inl h
      · exact Or.inr (Or.inl h)
      · exact Or.inr (Or.inr (Or.inl h))
      · exact Or.inr (Or.inr (Or.inr h.2))
    have no : ¬ a < 0 → ¬ 15 < a → ¬ b < 0 → ¬ 255 < b → False := fun g1 g2 g3 g4 => by
      rcases hb with h | h | h | h
      · exact g1 h
      · exact g2 ((c15 g1).mpr h.2)
      · exact g3 h
      · exact g4 h
    exact hk S _ (fun Q' hQ' => e_Md_spoil (s_Md_spoil_0 (fun _ => hQ' S hR) (fun g1 g2 g3 g4 _ => (no g1 g2 g3 g4).elim) (fun g1 g2 g3 g4 _ => (no g1 g2 g3 g4).elim)))
  · have g15 : ¬ 15 < a := fun x => h2 ((c15 h1).mp x)
    refine hk S _ (fun Q' hQ' => e_Md_spoil (s_Md_spoil_0 (fun g => ?_) (fun _ _ _ _ g => absurd (onref.mpr (onair.mp h5)) g) (fun _ _ _ _ _ => hQ' S hR)))
    exfalso
    rcases g with (g | g) | ⟨_, _, g | g⟩
    · exact h1 g
    · exact g15 g.2
    · exact h3 g
    · exact h4 g.2
  · have g15 : ¬ 15 < a := fun x => h2 ((c15 h1).mp x)
    have hn0 : ¬ num = 0 := fun x => h5 (onair.mpr x)
    obtain ⟨hT, ⟨M, hE⟩, ⟨xs, pos, c, hS⟩, hI, hV⟩ := id hR
    obtain ⟨hCc, hCr, hX, hc, e2, e3, e20, e19, hx⟩ := id hS
    have hN : SNc S xs pos c := by
      rcases hx with hx | hx
      · exact absurd hx.1 hn0
      · exact hx.2.2
    have hj := hix h1 h2
    generalize a.toNatClampNeg = j at hj ⊢
    have hpk := hN.pk hX
    obtain ⟨y, hy31, ey⟩ := nI_of h3
    have hy : y ≤ 255 := by
      have : ¬ 255 < y := fun x => h4 (by rw [ey]; exact (nI_ltI (a := 255) (by decide) hy31).mpr x)
      omega
    generalize hS0 : zm_up S 15 j (S 15 j ^^^ b) = S0
    have o0 : ∀ a, a ≠ 15 → S0 a = S a := fun a ha => by rw [← hS0, zm_up_ne _ _ _ ha]
    have o15 : S0 15 = upd (S 15) j (S 15 j ^^^ b) := by rw [← hS0, zm_up_self]
    have hp0 : ∀ i, i < 16 → isB (S0 15 i) := by
      intro i hi
      rw [o15]
      by_cases hij : i = j
      · subst hij
        rw [upd_self]
        obtain ⟨x, hx, ex⟩ := hpk i hi
        rw [ex, ey]
        exact nI_xor hx hy
      · rw [upd_ne _ _ hij]; exact hpk i hi
    have hI0 : RI S0 := hI.congr (fun a x y => o0 a (by omega))
    refine c_Rc_takePacket hI0 hp0 (fun A1 hTP => ?_)
    obtain ⟨k1, k2, k3⟩ := hTP.keep hp0 hI0
    obtain ⟨n1, n2, n3, n4, n5, n6, n7⟩ := id hN
    have e14 : A1 14 = S 14 := by rw [k3 14 (by omega), o0 14 (by decide)]
    refine s_CM_spoil_59 (c_Sn_advance (d := d + 3) (hCc.congr (fun a x y => by rw [k3 a (by omega), o0 a (by omega)])) hX n1 n2 (by rw [e14]; exact n3) (by rw [e14]; exact n4) (by rw [e14]; exact n5) n7 (fun A2 f1 _ hN2 => s_CM_spoil_66 (hk A2 _ (fun Q' hQ' => ?_))))
    have hf : ∀ a, 27 ≤ a → A2 a = S a := fun a ha => by rw [f1 a (by omega) (by omega), k3 a (by omega), o0 a (by omega)]
    have hK : FK S A2 := fun a x y => by rw [f1 a (by omega) (by omega), k3 a y, o0 a (by omega)]
    refine e_Md_spoil (s_Md_spoil_0 (fun g => ?_) (fun _ _ _ _ g => ?_) (fun _ _ _ _ g => ?_))
    · exfalso
      rcases g with (g | g) | ⟨_, _, g | g⟩
      · exact h1 g
      · exact g15 g.2
      · exact h3 g
      · exact h4 g.2
    · refine c_Md_sent (d := e + 3) (hCr.congr (fun a x y => hf a (by omega)) (by rw [hf 27 (by omega)])) hX n1 n2 (by rw [hf 27 (by omega)]; exact e19) (by rw [hf 27 (by omega)]; exact e20) (fun S1 g1 g2 g3 => ?_)
      refine s_Md_spoil_37 j hj ?_
      have hVS : RV S0 (zm_up S1 42 j (S1 42 j ^^^ b)) := by
        refine (hV.congrA (fun a x y => o0 a (by omega))).congrS (fun i hi => ?_) (fun a x y => ?_)
        · rw [zm_up_ne _ _ _ (by decide), g2, upd_ne _ _ (by omega), upd_ne _ _ (by omega), hf 27 (by omega)]
        · rw [zm_up_ne _ _ _ (by omega), g1 a (by omega) (by omega), hf a (by omega)]
      have h42 : ∀ i, i < 16 → zm_up S1 42 j (S1 42 j ^^^ b) 42 i = S0 15 i := by
        intro i hi
        rw [zm_up_self, o15]
        by_cases hij : i = j
        · subst hij; rw [upd_self, upd_self, g3 i hi, n6 i hi]
        · rw [upd_ne _ _ hij, upd_ne _ _ hij, g3 i hi, n6 i hi]
      refine c_Md_receive hp0 hI0 hVS h42 hTP (fun S2 hV2 hF => s_Md_spoil_55 (hQ' S2 ?_))
      have hQ1 : FQ A2 (zm_up S1 42 j (S1 42 j ^^^ b)) := ⟨fun a x y => by rw [zm_up_ne _ _ _ (by omega), g1 a (by omega) x], fun i x y _ _ _ _ => by rw [zm_up_ne _ _ _ (by decide), g2, upd_ne _ _ y, upd_ne _ _ x]⟩
      have t19 : S2 27 19 = nI (npF xs pos) := by rw [hF.2 19 (by decide) (by decide) (by decide) (by decide), zm_up_ne _ _ _ (by decide), g2, upd_ne _ _ (by decide), upd_self]
      have t20 : S2 27 20 = nI ((c + 1) % 16) := by rw [hF.2 20 (by decide) (by decide) (by decide) (by decide), zm_up_ne _ _ _ (by decide), g2, upd_self]
      exact hR.of hS (by omega) hK (hQ1.trans hF.fq) hN2 t19 t20 (k1.congr (fun a x y => f1 a (by omega) (by omega))) (hV2.congrA (fun a x y => f1 a (by omega) (by omega)))
    · exfalso
      rw [hf 27 (by omega)] at g
      exact hn0 (onref.mp g)
-- retune
def CPV (Mr : zm_M) (d : Nat) (ar : List Value) (R : zm_S → Prop) (S1 : zm_S) : Prop := ∀ (Q' : zm_Q), (∀ S2, R S2 → Q' none GG S2) → zc Mr d ar S1 Q'
def zf (f : Nat → Int32) (n : Nat) : Nat → Int32 := fun i => if i < n then 0 else f i
theorem zf_step (f : Nat → Int32) (n : Nat) : upd (zf f n) n 0 = zf f (n + 1) := by
  funext i
  unfold zf
  by_cases hi : i = n
  · subst hi; rw [upd_self, if_pos (Nat.lt_succ_self i)]
  · rw [upd_ne _ _ hi]
    by_cases hl : i < n
    · rw [if_pos hl, if_pos (by omega)]
    · rw [if_neg hl, if_neg (by omega)]
theorem zf_zero (f : Nat → Int32) : zf f 0 = f := by
  funext i; exact if_neg (Nat.not_lt_zero i)
theorem zf_in {f : Nat → Int32} {n i : Nat} (h : i < n) : zf f n i = 0 := if_pos h
theorem l_Arr_fill {d : Nat} {Q : zm_Q} {S : zm_S} (hq : Q none GG (zm_upA S 25 (zf (S 25) 6))) : ∀ (n i : Nat), i + n = 6 → zw M_Arr_fill d Q 5 [some (.ref 25), some (.int 0), some (.int (nI i)), some (.int (nI 6))] [] (zm_upA S 25 (zf (S 25) i)) := by
  intro n
  induction n with
  | zero =>
    intro i hi
    have : i = 6 := by omega
    subst this
    exact s_Arr_fill_5 gg_25 0 (fun h => absurd (Int32.le_refl _) h) (fun _ => hq) (fun h => absurd (Int32.le_refl _) h)
  | succ n ih =>
    intro i hi
    have hlt : ¬ nI 6 ≤ nI i := nI_ge (by omega) (by omega)
    refine s_Arr_fill_5 gg_25 i (fun _ => zm_ixN (by omega) (by decide)) (fun h => absurd h hlt) (fun _ => ?_)
    rw [nI_1, zm_upA_up, zf_step]
    exact ih (i + 1) (by omega)
def RS (S1 S : zm_S) (i : Nat) : Prop := (∀ a, a ≠ 21 → a ≠ 22 → a ≠ 23 → S a = S1 a) ∧ ∀ j, j < i → S 21 j = 0 ∧ S 22 j = 0 ∧ S 23 j = 0
theorem l_Mt_reset {d : Nat} {Q : zm_Q} {S1 : zm_S} (hq : ∀ S', RS S1 S' 12 → Q none GG S') : ∀ (n i : Nat) (S : zm_S), i + n = 12 → RS S1 S i → zw M_Mt_reset (d + 1) Q 12 [some (.ref 20), some (.int (nI i))] [] S := by
  intro n
  induction n with
  | zero =>
    intro i S hi hS
    have : i = 12 := by omega
    subst this
    have hle : (12 : Int32) ≤ nI 12 := by decide
    exact s_Mt_reset_12 0 (fun h => absurd hle h) (fun _ => hq S hS) (fun h => absurd hle h)
  | succ n ih =>
    intro i S hi hS
    have hlt : ¬ (12 : Int32) ≤ nI i := nI_ge (b := 12) (by omega) (by decide)
    refine s_Mt_reset_12 i (fun _ => zm_ixN (by omega) (by decide)) (fun h => absurd h hlt) (fun _ => ?_)
    rw [nI_1]
    refine ih (i + 1) _ (by omega) ⟨fun a x y z => ?_, fun j hj => ?_⟩
    · rw [zm_up_ne _ _ _ z, zm_up_ne _ _ _ y, zm_up_ne _ _ _ x]; exact hS.1 a x y z
    · show upd (S 21) i 0 j = 0 ∧ upd (S 22) i 0 j = 0 ∧ upd (S 23) i 0 j = 0
      by_cases hji : j = i
      · subst hji; exact ⟨upd_self _ _ _, upd_self _ _ _, upd_self _ _ _⟩
      · rw [upd_ne _ _ hji, upd_ne _ _ hji, upd_ne _ _ hji]; exact hS.2 j (by omega)
theorem c_Rc_reset {d : Nat} {Q : zm_Q} {S : zm_S} (hq : ∀ S', (∀ a, ¬ (19 ≤ a ∧ a ≤ 23) → a ≠ 25 → S' a = S a) → S' 20 0 = 0 → S' 19 3 = 0 → S' 19 4 = -1 → (∀ j, j < 12 → S' 21 j = 0 ∧ S' 22 j = 0 ∧ S' 23 j = 0) → S' 25 = zf (S 25) 6 → Q none GG S') : zc M_Rc_reset (d + 2) [.ref 19] S Q := by
  refine e_Rc_reset (s_Rc_reset_0 (e_Mt_reset (s_Mt_reset_0 (l_Mt_reset (fun S1 h1 => ?_) 12 0 _ (by omega) ⟨fun _ _ _ _ => rfl, fun j hj => by omega⟩))))
  refine s_Rc_reset_7 (e_Arr_fill (s_Arr_fill_0 gg_25 ?_))
  have hl := l_Arr_fill (d := d + 1) (Q := fun v G' S' => zm_WP M_Rc_reset none (d + 2) 0 0 Q 15 [some (.ref 19)] (zm_ps v []) G' S' 0 0) (S := S1) ?_ 6 0 (by omega)
  · rw [zf_zero, zm_upA_id] at hl
    exact hl
  · refine s_Rc_reset_15 (hq _ (fun a x y => ?_) ?_ ?_ ?_ (fun j hj => ?_) ?_)
    · rw [zm_up_ne _ _ _ (by omega), zm_up_ne _ _ _ (by omega), zm_upA_ne _ _ y, h1.1 a (by omega) (by omega) (by omega), zm_up_ne _ _ _ (by omega), zm_up_ne _ _ _ (by omega)]
    · show S1 20 0 = 0
      rw [h1.1 20 (by decide) (by decide) (by decide)]; rfl
    · rfl
    · rfl
    · exact h1.2 j hj
    · show zf (S1 25) 6 = _
      rw [h1.1 25 (by decide) (by decide) (by decide)]; rfl
def RN (S1 S : zm_S) (i : Nat) : Prop := (∀ a, a ≠ 43 → a ≠ 46 → S a = S1 a) ∧ ∀ j, j < i → S 43 j = 0 ∧ ∀ b, b < 6 → S 46 (6 * j + b) = 0
theorem l_Md_retune2 {d : Nat} {Q : zm_Q} {S : zm_S} (hq : Q none GG (zm_upA S 49 (zf (S 49) 6))) : ∀ (n i : Nat), i + n = 6 → zw M_Md_retune (d + 1) Q 43 [some (.ref 27), some (.int (nI i))] [] (zm_upA S 49 (zf (S 49) i)) := by
  intro n
  induction n with
  | zero =>
    intro i hi
    have : i = 6 := by omega
    subst this
    have hle : (6 : Int32) ≤ nI 6 := by decide
    exact s_Md_retune_43 0 (fun h => absurd hle h) (fun _ => hq) (fun h => absurd hle h)
  | succ n ih =>
    intro i hi
    have hlt : ¬ (6 : Int32) ≤ nI i := nI_ge (b := 6) (by omega) (by decide)
    refine s_Md_retune_43 i (fun _ => zm_ixN (by omega) (by decide)) (fun h => absurd h hlt) (fun _ => ?_)
    rw [nI_1, zm_upA_up, zf_step]
    exact ih (i + 1) (by omega)
theorem l_Md_retune {d : Nat} {Q : zm_Q} {S1 : zm_S} (hq : ∀ S', RN S1 S' 12 → Q none GG (zm_upA S' 49 (zf (S' 49) 6))) : ∀ (n i : Nat) (S : zm_S), i + n = 12 → RN S1 S i → zw M_Md_retune (d + 1) Q 17 [some (.ref 27), some (.int (nI i))] [] S := by
  intro n
  induction n with
  | zero =>
    intro i S hi hS
    have : i = 12 := by omega
    subst this
    have hle : (12 : Int32) ≤ nI 12 := by decide
    refine s_Md_retune_17 0 (fun h => absurd hle h) (fun _ => ?_) (fun h => absurd hle h)
    have := l_Md_retune2 (d := d) (hq S hS) 6 0 (by omega)
    rw [zf_zero, zm_upA_id] at this
    exact this
  | succ n ih =>
    intro i S hi hS
    have hlt : ¬ (12 : Int32) ≤ nI i := nI_ge (b := 12) (by omega) (by decide)
    refine s_Md_retune_17 i (fun _ => zm_ixN (by omega) (by decide)) (fun h => absurd h hlt) (fun _ => ?_)
    refine c_Md_nothing (by omega) (s_Md_retune_35 ?_)
    rw [nI_1]
    refine ih (i + 1) _ (by omega) ⟨fun a x y => ?_, fun j hj => ?_⟩
    · rw [zm_upA_ne _ _ y, zm_up_ne _ _ _ x]; exact hS.1 a x y
    · show upd (S 43) i 0 j = 0 ∧ ∀ b, b < 6 → clr (S 46) i (6 * i + 6) (6 * j + b) = 0
      by_cases hji : j = i
      · subst hji; exact ⟨upd_self _ _ _, fun b hb => clr_in hb⟩
      · obtain ⟨g1, g2⟩ := hS.2 j (by omega)
        exact ⟨by rw [upd_ne _ _ hji]; exact g1, fun b hb => by rw [clr_out hji hb]; exact g2 b hb⟩
theorem op_retune {d e : Nat} {Q : zm_Q} {S : zm_S} {num : Nat} (hR : RR num S) (hk : ∀ S1, CPV M_Md_retune (e + 1) [.ref 27] (RR num) S1 → Q none GG S1) : zc M_CM_retune (d + 3) [.ref 0] S Q := by
  obtain ⟨hT, hE, hS, hI, hV⟩ := id hR
  obtain ⟨⟨w1, w2, w3, w4, w5, w6, w7⟩, _⟩ := hV
  refine e_CM_retune (s_CM_retune_0 (c_Rc_reset (fun A f1 f2 f3 f4 f5 f6 => s_CM_retune_7 (hk A (fun Q' hQ' => ?_)))))
  have hf : ∀ a, 27 ≤ a → A a = S a := fun a ha => f1 a (by omega) (by omega)
  refine e_Md_retune (s_Md_retune_0 ?_)
  generalize hS1 : zm_up (zm_up (zm_up A 27 22 (-1)) 27 23 (-1)) 27 29 0 = S1
  have o1 : ∀ a, a ≠ 27 → S1 a = A a := fun a ha => by rw [← hS1, zm_up_ne _ _ _ ha, zm_up_ne _ _ _ ha, zm_up_ne _ _ _ ha]
  have o27 : S1 27 = upd (upd (upd (A 27) 22 (-1)) 23 (-1)) 29 0 := by rw [← hS1, zm_up_self, zm_up_self, zm_up_self]
  refine l_Md_retune (fun S2 h2 => hQ' _ ?_) 12 0 S1 (by omega) ⟨fun _ _ _ => rfl, fun j hj => by omega⟩
  have h49 : S2 49 = A 49 := by rw [h2.1 49 (by decide) (by decide), o1 49 (by decide)]
  generalize hS3 : zm_upA S2 49 (zf (S2 49) 6) = S3
  have p3 : ∀ a, a ≠ 49 → S3 a = S2 a := fun a ha => by rw [← hS3, zm_upA_ne _ _ ha]
  have p49 : S3 49 = zf (S 49) 6 := by rw [← hS3, zm_upA_self, h49, hf 49 (by omega)]
  have pa : ∀ a, a ≠ 49 → a ≠ 43 → a ≠ 46 → a ≠ 27 → S3 a = A a := fun a x y z w => by rw [p3 a x, h2.1 a y z, o1 a w]
  have p27 : S3 27 = upd (upd (upd (S 27) 22 (-1)) 23 (-1)) 29 0 := by rw [p3 27 (by decide), h2.1 27 (by decide) (by decide), o27, hf 27 (by omega)]
  have hI3 : RI S3 := by
    refine ⟨fun i => ?_, ⟨0, ?_, by omega, fun h => by omega⟩, fun m hm => ⟨0, by omega, ?_⟩⟩
    · rw [pa 26 (by decide) (by decide) (by decide) (by decide), f1 26 (by omega) (by decide)]; exact hI.1 i
    · rw [pa 19 (by decide) (by decide) (by decide) (by decide)]; exact f3
    · rw [pa 21 (by decide) (by decide) (by decide) (by decide)]; exact (f5 m hm).1
  refine hR.of2 hI3 ⟨⟨?_, ?_, ⟨?_, Or.inl ?_⟩, Or.inl ⟨?_, ?_⟩, fun m hm => Or.inl ⟨?_, ?_, ?_, ?_, fun b hb => ?_⟩, ?_, fun i => ?_⟩, 0, ?_, by omega, Or.inl ⟨rfl, ?_⟩⟩ (fun a x y z => ?_) (fun i hi => ?_)
  · rw [p49, pa 25 (by decide) (by decide) (by decide) (by decide), f6, w1]
  · rw [pa 48 (by decide) (by decide) (by decide) (by decide), pa 26 (by decide) (by decide) (by decide) (by decide), hf 48 (by omega), f1 26 (by omega) (by decide)]; exact w2
  · rw [p27, upd_ne _ _ (by decide), upd_self, pa 19 (by decide) (by decide) (by decide) (by decide), f4]
  · rw [pa 19 (by decide) (by decide) (by decide) (by decide), f4]
  · rw [pa 20 (by decide) (by decide) (by decide) (by decide), f2]
  · rw [p27, upd_ne _ _ (by decide), upd_ne _ _ (by decide), upd_self]
  · rw [pa 21 (by decide) (by decide) (by decide) (by decide)]; exact (f5 m hm).1
  · rw [pa 22 (by decide) (by decide) (by decide) (by decide)]; exact (f5 m hm).2.1
  · rw [pa 23 (by decide) (by decide) (by decide) (by decide)]; exact (f5 m hm).2.2
  · rw [p3 43 (by decide)]; exact (h2.2 m hm).1
  · rw [p3 46 (by decide)]; exact (h2.2 m hm).2 b hb
  · rw [pa 47 (by decide) (by decide) (by decide) (by decide), pa 24 (by decide) (by decide) (by decide) (by decide), hf 47 (by omega), f1 24 (by omega) (by decide)]; exact w6
  · rw [pa 24 (by decide) (by decide) (by decide) (by decide), f1 24 (by omega) (by decide)]; exact w7 i
  · rw [pa 19 (by decide) (by decide) (by decide) (by decide), f3]; rfl
  · rw [p27, upd_self]
  · rw [pa a (by omega) (by omega) (by omega) y, f1 a (by omega) (by omega)]
  · rw [p27, upd_ne _ _ (by omega), upd_ne _ _ (by omega), upd_ne _ _ (by omega)]
