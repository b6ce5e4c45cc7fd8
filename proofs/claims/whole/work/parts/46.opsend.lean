-- the packet of a sender is bytes
theorem getD_isB {xs : List (List Int32)} (hX : XS xs) {i : Nat} (hi : i < xs.flatten.length) : isB (xs.flatten.getD i 0) := by
  have e : xs.flatten.getD i 0 = xs.flatten[i] := by rw [List.getD, List.getElem?_eq_getElem hi]; rfl
  rw [e]
  exact hX.2.2.2 _ (List.getElem_mem hi)
theorem pkF_isB {xs : List (List Int32)} {pos c : Nat} (hX : XS xs) (hp : pos < xs.flatten.length) (hc : c < 16) (hv : ∃ v, isNs xs pos v) : ∀ i, i < 16 → isB (pkF xs pos c i) := by
  intro i hi
  obtain ⟨v, hv⟩ := hv
  have hl := hv.1.le
  unfold pkF pkt
  rw [← nsF_eq hv]
  by_cases h0 : i = 0
  · rw [if_pos h0]; exact ⟨71, by omega, rfl⟩
  rw [if_neg h0]
  by_cases h1 : i = 1
  · rw [if_pos h1]
    split
    · exact ⟨c + 64, by omega, rfl⟩
    · exact ⟨c, by omega, rfl⟩
  rw [if_neg h1]
  by_cases hs : pst xs.flatten.length pos v = true
  · rw [if_pos hs]
    unfold pst at hs
    have hs' := of_decide_eq_true hs
    by_cases h2 : i = 2
    · rw [if_pos h2]; exact ⟨v - pos, by omega, rfl⟩
    · rw [if_neg h2]
      by_cases h3 : pos + (i - 3) < xs.flatten.length
      · rw [if_pos h3]; exact getD_isB hX h3
      · rw [if_neg h3]; exact ⟨255, by omega, rfl⟩
  · rw [if_neg hs]
    by_cases h3 : pos + (i - 2) < v
    · rw [if_pos h3]; exact getD_isB hX (by omega)
    · rw [if_neg h3]; exact ⟨255, by omega, rfl⟩
-- congruences
theorem RV.congrA {A A' S : zm_S} (h : RV A S) (e : ∀ a, 19 ≤ a → a ≤ 26 → A' a = A a) : RV A' S := by
  unfold RV RW RG RM at h ⊢
  simp only [e 19 (by decide) (by decide), e 20 (by decide) (by decide), e 21 (by decide) (by decide), e 22 (by decide) (by decide), e 23 (by decide) (by decide), e 24 (by decide) (by decide), e 25 (by decide) (by decide), e 26 (by decide) (by decide)]
  exact h
theorem RI.congr {A A' : zm_S} (h : RI A) (e : ∀ a, 19 ≤ a → a ≤ 26 → A' a = A a) : RI A' := by
  unfold RI at h ⊢
  simp only [e 19 (by decide) (by decide), e 21 (by decide) (by decide), e 26 (by decide) (by decide)]
  exact h
theorem RV.congrS {A S S' : zm_S} (h : RV A S) (e27 : ∀ i, i = 22 ∨ i = 23 ∨ i = 29 ∨ i = 30 → S' 27 i = S 27 i) (e : ∀ a, 43 ≤ a → a ≤ 49 → S' a = S a) : RV A S' := by
  unfold RV RW RG RM at h ⊢
  simp only [e27 22 (by decide), e27 23 (by decide), e27 29 (by decide), e27 30 (by decide), e 43 (by decide) (by decide), e 44 (by decide) (by decide), e 45 (by decide) (by decide), e 46 (by decide) (by decide), e 47 (by decide) (by decide), e 48 (by decide) (by decide), e 49 (by decide) (by decide)]
  exact h
theorem RT.congr {S S' : zm_S} (h : RT S) (e : ∀ a, (2 ≤ a ∧ a ≤ 6) ∨ (28 ≤ a ∧ a ≤ 32) → S' a = S a) : RT S' := by
  unfold RT at h ⊢
  simp only [e 2 (by decide), e 3 (by decide), e 4 (by decide), e 5 (by decide), e 6 (by decide), e 28 (by decide), e 29 (by decide), e 30 (by decide), e 31 (by decide), e 32 (by decide)]
  exact h
theorem REd.congr {S S' : zm_S} {num M : Nat} (h : REd S num M) (e : ∀ a, (7 ≤ a ∧ a ≤ 12) ∨ (33 ≤ a ∧ a ≤ 39) → S' a = S a) (e27 : ∀ i, i = 5 ∨ i = 6 → S' 27 i = S 27 i) : REd S' num M := by
  unfold REd at h ⊢
  simp only [e 7 (by decide), e 8 (by decide), e 9 (by decide), e 10 (by decide), e 12 (by decide), e 33 (by decide), e 34 (by decide), e 35 (by decide), e 39 (by decide), e27 5 (by decide), e27 6 (by decide)]
  exact h
theorem RCc.congr {S S' : zm_S} {xs : List (List Int32)} (h : RCc S xs) (e : ∀ a, 16 ≤ a → a ≤ 18 → S' a = S a) : RCc S' xs := by
  unfold RCc at h ⊢
  simp only [e 16 (by decide) (by decide), e 17 (by decide) (by decide), e 18 (by decide) (by decide)]
  exact h
theorem RCr.congr {S S' : zm_S} {xs : List (List Int32)} (h : RCr S xs) (e : ∀ a, 40 ≤ a → a ≤ 41 → S' a = S a) (e27 : S' 27 17 = S 27 17) : RCr S' xs := by
  unfold RCr at h ⊢
  simp only [e 40 (by decide) (by decide), e 41 (by decide) (by decide), e27]
  exact h
theorem SNc.congr {S S' : zm_S} {xs : List (List Int32)} {pos c : Nat} (h : SNc S xs pos c) (e : ∀ a, 14 ≤ a → a ≤ 15 → S' a = S a) : SNc S' xs pos c := by
  unfold SNc at h ⊢
  simp only [e 14 (by decide) (by decide), e 15 (by decide) (by decide)]
  exact h
-- the whole relation
def RR (num : Nat) (S : zm_S) : Prop := RT S ∧ (∃ M, REd S num M) ∧ (∃ xs pos c, RSn S xs pos c num) ∧ RI S ∧ RV S S
-- what a send may change
def FQ (S S' : zm_S) : Prop := (∀ a, a ≠ 27 → a < 42 → S' a = S a) ∧ ∀ i, i ≠ 19 → i ≠ 20 → i ≠ 22 → i ≠ 23 → i ≠ 29 → i ≠ 30 → S' 27 i = S 27 i
theorem FQ.refl (S : zm_S) : FQ S S := ⟨fun _ _ _ => rfl, fun _ _ _ _ _ _ _ => rfl⟩
theorem FQ.trans {S S1 S2 : zm_S} (h : FQ S S1) (g : FQ S1 S2) : FQ S S2 := ⟨fun a x y => (g.1 a x y).trans (h.1 a x y), fun i x y z w u v => (g.2 i x y z w u v).trans (h.2 i x y z w u v)⟩
theorem FR.fq {S S' : zm_S} (h : FR S S') : FQ S S' := ⟨fun a x y => h.1 a x (by omega), fun i _ _ z w u v => h.2 i z w u v⟩
def FK (S S' : zm_S) : Prop := ∀ a, ¬ (14 ≤ a ∧ a ≤ 15) → ¬ (19 ≤ a ∧ a ≤ 26) → S' a = S a
theorem FK.refl (S : zm_S) : FK S S := fun _ _ _ => rfl
theorem FK.trans {S S1 S2 : zm_S} (h : FK S S1) (g : FK S1 S2) : FK S S2 := fun a x y => (g a x y).trans (h a x y)
-- both sides have gone on: the whole relation holds again
theorem RR.of {num : Nat} {S S1 S2 : zm_S} {xs : List (List Int32)} {pos c pos' c' : Nat} (h : RR num S) (hS : RSn S xs pos c num) (hnum : 0 < num) (hK : FK S S1) (hQ : FQ S1 S2) (hN : SNc S1 xs pos' c') (h19 : S2 27 19 = nI pos') (h20 : S2 27 20 = nI c') (hI : RI S1) (hV : RV S1 S2) : RR num S2 := by
  obtain ⟨hT, ⟨M, hE⟩, _, _, _⟩ := h
  obtain ⟨hCc, hCr, hX, _, _, _, _, _, hx⟩ := hS
  have hf : ∀ a, a ≤ 41 → a ≠ 27 → ¬ (14 ≤ a ∧ a ≤ 15) → ¬ (19 ≤ a ∧ a ≤ 26) → S2 a = S a := fun a x y z w => (hQ.1 a y (by omega)).trans (hK a z w)
  have hf27 : ∀ i, i < 18 → S2 27 i = S 27 i := fun i hi => by rw [hQ.2 i (by omega) (by omega) (by omega) (by omega) (by omega) (by omega), hK 27 (by omega) (by omega)]
  have hx' : 0 < xs.flatten.length := by
    rcases hx with hx | hx
    · omega
    · exact hx.2.1
  have hN2 : SNc S2 xs pos' c' := hN.congr (fun a x y => hQ.1 a (by omega) (by omega))
  refine ⟨hT.congr (fun a ha => hf a (by omega) (by omega) (by omega) (by omega)), ⟨M, hE.congr (fun a ha => hf a (by omega) (by omega) (by omega) (by omega)) (fun i hi => hf27 i (by omega))⟩, ⟨xs, pos', c', hCc.congr (fun a x y => hf a (by omega) (by omega) (by omega) (by omega)), hCr.congr (fun a x y => hf a (by omega) (by omega) (by omega) (by omega)) (hf27 17 (by omega)), hX, hN2.2.1, hN2.2.2.2.1, hN2.2.2.1, h20, h19, Or.inr ⟨hnum, hx', hN2⟩⟩, hI.congr (fun a x y => hQ.1 a (by omega) (by omega)), hV.congrA (fun a x y => hQ.1 a (by omega) (by omega))⟩
-- the class sends
noncomputable def npI (xs : List (List Int32)) : Nat → Nat → Nat
  | 0, pos => pos
  | n + 1, pos => npI xs n (npF xs pos)
def cnI : Nat → Nat → Nat
  | 0, c => c
  | n + 1, c => cnI n ((c + 1) % 16)
def SND (xs : List (List Int32)) : Nat → Nat → Nat → zm_S → zm_S → Prop
  | 0, _, _, A, A' => A' = A
  | n + 1, pos, c, A, A' => ∃ A1 A2, TP (A 15) A A1 ∧ (∀ a, a ≠ 14 → a ≠ 15 → A2 a = A1 a) ∧ SNc A2 xs (npF xs pos) ((c + 1) % 16) ∧ SND xs n (npF xs pos) ((c + 1) % 16) A2 A'
theorem SNc.pk {S : zm_S} {xs : List (List Int32)} {pos c : Nat} (h : SNc S xs pos c) (hX : XS xs) : ∀ i, i < 16 → isB (S 15 i) := by
  obtain ⟨h1, h2, _, _, _, h6, hv⟩ := h
  intro i hi
  rw [h6 i hi]
  exact pkF_isB hX h1 h2 hv i hi
theorem l_CM_send {d : Nat} {Q : zm_Q} {xs : List (List Int32)} {k : Nat} (hX : XS xs) (hk : k ≤ 64) : ∀ (n i : Nat) (A : zm_S) (pos c : Nat), i + n = k → RCc A xs → SNc A xs pos c → RI A → (∀ A', SND xs n pos c A A' → SNc A' xs (npI xs n pos) (cnI n c) → RI A' → FK A A' → Q (some (nI k)) GG A') → zw M_CM_send (d + 6) Q 27 [some (.ref 0), some (.int (nI k)), some (.int (nI i))] [] A := by
  intro n
  induction n with
  | zero =>
    intro i A pos c hi _ hN hI hq
    have hle : nI k ≤ nI i := nI_le (by omega) (by omega)
    exact s_CM_send_27 (fun _ => hq A rfl hN hI (FK.refl A)) (fun h => absurd hle h)
  | succ n ih =>
    intro i A pos c hi hC hN hI hq
    have hlt : ¬ nI k ≤ nI i := nI_ge (by omega) (by omega)
    have hpk := hN.pk hX
    refine s_CM_send_27 (fun h => absurd h hlt) (fun _ => ?_)
    refine c_Rc_takePacket hI hpk (fun A1 hT => ?_)
    obtain ⟨k1, k2, k3⟩ := hT.keep hpk hI
    refine s_CM_send_46 ?_
    obtain ⟨n1, n2, n3, n4, n5, n6, n7⟩ := hN
    have e14 : A1 14 = A 14 := k3 14 (by omega)
    refine c_Sn_advance (d := d + 3) (hC.congr (fun a x y => k3 a (by omega))) hX n1 n2 (by rw [e14]; exact n3) (by rw [e14]; exact n4) (by rw [e14]; exact n5) n7 (fun A2 f1 _ hN2 => ?_)
    refine s_CM_send_53 ?_
    rw [nI_1]
    have hI2 : RI A2 := k1.congr (fun a x y => f1 a (by omega) (by omega))
    refine ih (i + 1) A2 _ _ (by omega) (hC.congr (fun a x y => by rw [f1 a (by omega) (by omega), k3 a (by omega)])) hN2 hI2 (fun A' g1 g2 g3 g4 => hq A' ⟨A1, A2, hT, f1, hN2, g1⟩ g2 g3 (FK.trans (fun a x y => by rw [f1 a (by omega) (by omega), k3 a y]) g4))
theorem l_Md_pass {d : Nat} {Q : zm_Q} {xs : List (List Int32)} {k : Nat} (hX : XS xs) (hk : k ≤ 64) : ∀ (n i : Nat) (A A' S : zm_S) (pos c : Nat), i + n = k → RCr S xs → SNc A xs pos c → RI A → RV A S → S 27 19 = nI pos → S 27 20 = nI c → SND xs n pos c A A' → (∀ S', RV A' S' → FQ S S' → S' 27 19 = nI (npI xs n pos) → S' 27 20 = nI (cnI n c) → Q (some (nI k)) GG S') → zw M_Md_pass (d + 6) Q 24 [some (.ref 27), some (.int (nI k)), some (.int 1), some (.int (nI i))] [] S := by
  intro n
  induction n with
  | zero =>
    intro i A A' S pos c hi _ _ _ hV h19 h20 hS hq
    have hle : nI k ≤ nI i := nI_le (by omega) (by omega)
    have : A' = A := hS
    subst this
    exact s_Md_pass_24 (fun _ => hq S hV (FQ.refl S) h19 h20) (fun h => absurd hle h)
  | succ n ih =>
    intro i A A' S pos c hi hC hN hI hV h19 h20 hS hq
    have hlt : ¬ nI k ≤ nI i := nI_ge (by omega) (by omega)
    have hpk := hN.pk hX
    obtain ⟨A1, A2, hT, f1, hN2, hS2⟩ := hS
    obtain ⟨k1, k2, k3⟩ := hT.keep hpk hI
    obtain ⟨n1, n2, n3, n4, n5, n6, n7⟩ := hN
    refine s_Md_pass_24 (fun h => absurd h hlt) (fun _ => ?_)
    refine c_Md_sent (d := d + 3) hC hX n1 n2 h19 h20 (fun S1 g1 g2 g3 => ?_)
    refine s_Md_pass_33 (fun h => absurd h (by decide)) (fun _ => ?_)
    have hV1 : RV A S1 := hV.congrS (fun i hi => by rw [g2, upd_ne _ _ (by omega), upd_ne _ _ (by omega)]) (fun a x y => g1 a (by omega) (by omega))
    refine c_Md_receive hpk hI hV1 (fun j hj => by rw [g3 j hj, n6 j hj]) hT (fun S2 hV2 hF => ?_)
    refine s_Md_pass_41 ?_
    rw [nI_1]
    have hQ1 : FQ S S1 := ⟨fun a x y => g1 a (by omega) x, fun i x y _ _ _ _ => by rw [g2, upd_ne _ _ y, upd_ne _ _ x]⟩
    have hQ2 : FQ S S2 := hQ1.trans hF.fq
    have t19 : S2 27 19 = nI (npF xs pos) := by rw [hF.2 19 (by decide) (by decide) (by decide) (by decide), g2, upd_ne _ _ (by decide), upd_self]
    have t20 : S2 27 20 = nI ((c + 1) % 16) := by rw [hF.2 20 (by decide) (by decide) (by decide) (by decide), g2, upd_self]
    exact ih (i + 1) A2 A' S2 _ _ (by omega) (hC.congr (fun a x y => hQ2.1 a (by omega) (by omega)) (hQ2.2 17 (by decide) (by decide) (by decide) (by decide) (by decide) (by decide))) hN2 (k1.congr (fun a x y => f1 a (by omega) (by omega))) (hV2.congrA (fun a x y => f1 a (by omega) (by omega))) t19 t20 hS2 (fun S' q1 q2 q3 q4 => hq S' q1 (hQ2.trans q2) q3 q4)
theorem op_send {d e : Nat} {Q : zm_Q} {S : zm_S} {num : Nat} {a : Int32} (hR : RR num S) (hnum : num < 60000) (hk : ∀ S1 r, CPS M_Md_send (e + 7) [.ref 27, .int a] (RR num) r S1 → Q (some r) GG S1) : zc M_CM_send (d + 6) [.ref 0, .int a] S Q := by
  obtain ⟨hT, ⟨M, hE⟩, ⟨xs, pos, c, hS⟩, hI, hV⟩ := id hR
  obtain ⟨hCc, hCr, hX, hc, e2, e3, e20, e19, hx⟩ := id hS
  have h700 := hX.2.1
  have e5 : S 27 5 = nI num := hE.2.1
  have onair : S 16 1 ≤ 0 ↔ num = 0 := by
    rw [hCc.1, nI_le0 (by omega)]
    rcases hx with ⟨h1, h2⟩ | ⟨h1, h2, _⟩
    · subst h2; simp [h1]
    · omega
  have onref : S 27 5 = 0 ↔ num = 0 := by rw [e5]; exact nI_eq0 (by omega)
  refine e_CM_send (s_CM_send_0 (fun h => ?_) (fun h1 h2 h3 => ?_) (fun h1 h2 h3 => ?_))
  · refine hk S (-1) (fun Q' hQ' => e_Md_send (s_Md_send_0 (e_Md_pass (s_Md_pass_0 (fun _ => s_Md_send_6 (hQ' S hR)) (fun g1 g2 => ?_) (fun g1 g2 => ?_)))))
    · exfalso
      rcases h with h | h
      · exact g1 h
      · exact h.2 (Int32.not_lt.mp g2)
    · exfalso
      rcases h with h | h
      · exact g1 h
      · exact h.2 (Int32.not_lt.mp g2)
  · refine hk S (-2) (fun Q' hQ' => e_Md_send (s_Md_send_0 (e_Md_pass (s_Md_pass_0 (fun g => ?_) (fun _ _ g3 => absurd (onref.mpr (onair.mp h3)) g3) (fun _ _ _ => s_Md_send_6 (hQ' S hR))))))
    exfalso
    rcases g with g | g
    · exact h1 g
    · exact (Int32.not_lt.mpr h2) g.2
  · obtain ⟨k, hk31, rfl⟩ := nI_of h1
    have hk64 : k ≤ 64 := (nI_leI (b := 64) hk31 (by decide)).mp h2
    have hn0 : ¬ num = 0 := fun x => h3 (onair.mpr x)
    have hN : SNc S xs pos c := by
      rcases hx with hx | hx
      · exact absurd hx.1 hn0
      · exact hx.2.2
    refine l_CM_send hX hk64 k 0 S pos c (by omega) hCc hN hI (fun A' g1 g2 g3 g4 => ?_)
    refine hk A' (nI k) (fun Q' hQ' => e_Md_send (s_Md_send_0 (e_Md_pass (s_Md_pass_0 (fun g => ?_) (fun _ _ _ => ?_) (fun _ _ x => ?_)))))
    · exfalso
      rcases g with g | g
      · exact h1 g
      · exact (Int32.not_lt.mpr h2) g.2
    · have hf : ∀ a, 27 ≤ a → A' a = S a := fun a ha => g4 a (by omega) (by omega)
      refine l_Md_pass hX hk64 k 0 S A' A' pos c (by omega) (hCr.congr (fun a x y => hf a (by omega)) (by rw [hf 27 (by omega)])) hN hI (hV.congrS (fun i hi => by rw [hf 27 (by omega)]) (fun a x y => hf a (by omega))) (by rw [hf 27 (by omega)]; exact e19) (by rw [hf 27 (by omega)]; exact e20) g1 (fun S2 q1 q2 q3 q4 => s_Md_send_6 (hQ' S2 ?_))
      exact hR.of hS (by omega) g4 q2 g2 q3 q4 g3 q1
    · exfalso
      rw [g4 27 (by omega) (by omega)] at x
      exact hn0 (onref.mp x)
-- packets are lost
theorem l_CM_lose {d : Nat} {Q : zm_Q} {xs : List (List Int32)} {k : Nat} (hX : XS xs) (hk : k ≤ 64) : ∀ (n i : Nat) (A : zm_S) (pos c : Nat), i + n = k → RCc A xs → SNc A xs pos c → (∀ A', SNc A' xs (npI xs n pos) (cnI n c) → (∀ a, a ≠ 14 → a ≠ 15 → A' a = A a) → Q (some (nI k)) GG A') → zw M_CM_lose (d + 3) Q 27 [some (.ref 0), some (.int (nI k)), some (.int (nI i))] [] A := by
  intro n
  induction n with
  | zero =>
    intro i A pos c hi _ hN hq
    have hle : nI k ≤ nI i := nI_le (by omega) (by omega)
    exact s_CM_lose_27 (fun _ => hq A hN (fun _ _ _ => rfl)) (fun h => absurd hle h)
  | succ n ih =>
    intro i A pos c hi hC hN hq
    have hlt : ¬ nI k ≤ nI i := nI_ge (by omega) (by omega)
    obtain ⟨n1, n2, n3, n4, n5, n6, n7⟩ := hN
    refine s_CM_lose_27 (fun h => absurd h hlt) (fun _ => ?_)
    refine c_Sn_advance (d := d) hC hX n1 n2 n3 n4 n5 n7 (fun A2 f1 _ hN2 => ?_)
    refine s_CM_lose_39 ?_
    rw [nI_1]
    exact ih (i + 1) A2 _ _ (by omega) (hC.congr (fun a x y => f1 a (by omega) (by omega))) hN2 (fun A' g1 g2 => hq A' g1 (fun a x y => (g2 a x y).trans (f1 a x y)))
theorem l_Md_pass0 {d : Nat} {Q : zm_Q} {xs : List (List Int32)} {k : Nat} (hX : XS xs) (hk : k ≤ 64) : ∀ (n i : Nat) (S : zm_S) (pos c : Nat), i + n = k → RCr S xs → pos < xs.flatten.length → c < 16 → S 27 19 = nI pos → S 27 20 = nI c → (∀ S', FQ S S' → (∀ i, i = 22 ∨ i = 23 ∨ i = 29 ∨ i = 30 → S' 27 i = S 27 i) → (∀ a, 43 ≤ a → S' a = S a) → S' 27 19 = nI (npI xs n pos) → S' 27 20 = nI (cnI n c) → Q (some (nI k)) GG S') → zw M_Md_pass (d + 6) Q 24 [some (.ref 27), some (.int (nI k)), some (.int 0), some (.int (nI i))] [] S := by
  intro n
  induction n with
  | zero =>
    intro i S pos c hi _ _ _ h19 h20 hq
    have hle : nI k ≤ nI i := nI_le (by omega) (by omega)
    exact s_Md_pass_24 (fun _ => hq S (FQ.refl S) (fun _ _ => rfl) (fun _ _ => rfl) h19 h20) (fun h => absurd hle h)
  | succ n ih =>
    intro i S pos c hi hC hp hc h19 h20 hq
    have hlt : ¬ nI k ≤ nI i := nI_ge (by omega) (by omega)
    refine s_Md_pass_24 (fun h => absurd h hlt) (fun _ => ?_)
    refine c_Md_sent (d := d + 3) hC hX hp hc h19 h20 (fun S1 g1 g2 g3 => ?_)
    refine s_Md_pass_33 (fun _ => ?_) (fun h => absurd rfl h)
    rw [nI_1]
    have hQ1 : FQ S S1 := ⟨fun a x y => g1 a (by omega) x, fun i x y _ _ _ _ => by rw [g2, upd_ne _ _ y, upd_ne _ _ x]⟩
    exact ih (i + 1) S1 _ _ (by omega) (hC.congr (fun a x y => hQ1.1 a (by omega) (by omega)) (hQ1.2 17 (by decide) (by decide) (by decide) (by decide) (by decide) (by decide))) (npF_lt (by omega)) (Nat.mod_lt _ (by decide)) (by rw [g2, upd_ne _ _ (by decide), upd_self]) (by rw [g2, upd_self]) (fun S' q1 q2 q3 q4 q5 => hq S' (hQ1.trans q1) (fun i hi => by rw [q2 i hi, g2, upd_ne _ _ (by omega), upd_ne _ _ (by omega)]) (fun a ha => by rw [q3 a ha, g1 a (by omega) (by omega)]) q4 q5)
theorem op_lose {d e : Nat} {Q : zm_Q} {S : zm_S} {num : Nat} {a : Int32} (hR : RR num S) (hnum : num < 60000) (hk : ∀ S1 r, CPS M_Md_lose (e + 7) [.ref 27, .int a] (RR num) r S1 → Q (some r) GG S1) : zc M_CM_lose (d + 3) [.ref 0, .int a] S Q := by
  obtain ⟨hT, ⟨M, hE⟩, ⟨xs, pos, c, hS⟩, hI, hV⟩ := id hR
  obtain ⟨hCc, hCr, hX, hc, e2, e3, e20, e19, hx⟩ := id hS
  have h700 := hX.2.1
  have e5 : S 27 5 = nI num := hE.2.1
  have onair : S 16 1 ≤ 0 ↔ num = 0 := by
    rw [hCc.1, nI_le0 (by omega)]
    rcases hx with ⟨h1, h2⟩ | ⟨h1, h2, _⟩
    · subst h2; simp [h1]
    · omega
  have onref : S 27 5 = 0 ↔ num = 0 := by rw [e5]; exact nI_eq0 (by omega)
  refine e_CM_lose (s_CM_lose_0 (fun h => ?_) (fun h1 h2 h3 => ?_) (fun h1 h2 h3 => ?_))
  · refine hk S (-1) (fun Q' hQ' => e_Md_lose (s_Md_lose_0 (e_Md_pass (s_Md_pass_0 (fun _ => s_Md_lose_6 (hQ' S hR)) (fun g1 g2 => ?_) (fun g1 g2 => ?_)))))
    · exfalso
      rcases h with h | h
      · exact g1 h
      · exact h.2 (Int32.not_lt.mp g2)
    · exfalso
      rcases h with h | h
      · exact g1 h
      · exact h.2 (Int32.not_lt.mp g2)
  · refine hk S (-2) (fun Q' hQ' => e_Md_lose (s_Md_lose_0 (e_Md_pass (s_Md_pass_0 (fun g => ?_) (fun _ _ g3 => absurd (onref.mpr (onair.mp h3)) g3) (fun _ _ _ => s_Md_lose_6 (hQ' S hR))))))
    exfalso
    rcases g with g | g
    · exact h1 g
    · exact (Int32.not_lt.mpr h2) g.2
  · obtain ⟨k, hk31, rfl⟩ := nI_of h1
    have hk64 : k ≤ 64 := (nI_leI (b := 64) hk31 (by decide)).mp h2
    have hn0 : ¬ num = 0 := fun x => h3 (onair.mpr x)
    have hN : SNc S xs pos c := by
      rcases hx with hx | hx
      · exact absurd hx.1 hn0
      · exact hx.2.2
    refine l_CM_lose hX hk64 k 0 S pos c (by omega) hCc hN (fun A' g2 g4 => ?_)
    refine hk A' (nI k) (fun Q' hQ' => e_Md_lose (s_Md_lose_0 (e_Md_pass (s_Md_pass_0 (fun g => ?_) (fun _ _ _ => ?_) (fun _ _ x => ?_)))))
    · exfalso
      rcases g with g | g
      · exact h1 g
      · exact (Int32.not_lt.mpr h2) g.2
    · have hf : ∀ a, 16 ≤ a → A' a = S a := fun a ha => g4 a (by omega) (by omega)
      refine l_Md_pass0 hX hk64 k 0 A' pos c (by omega) (hCr.congr (fun a x y => hf a (by omega)) (by rw [hf 27 (by omega)])) hN.1 hc (by rw [hf 27 (by omega)]; exact e19) (by rw [hf 27 (by omega)]; exact e20) (fun S2 q2 q5 q6 q3 q4 => s_Md_lose_6 (hQ' S2 ?_))
      exact hR.of hS (by omega) (fun a x y => g4 a (by omega) (by omega)) q2 g2 q3 q4 (hI.congr (fun a x y => hf a (by omega))) (((hV.congrA (fun a x y => hf a (by omega))).congrS (fun i hi => by rw [hf 27 (by omega)]) (fun a x y => hf a (by omega))).congrS q5 (fun a x y => q6 a x))
    · exfalso
      rw [g4 27 (by omega) (by omega)] at x
      exact hn0 (onref.mp x)
