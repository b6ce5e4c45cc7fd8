def REd (S : zm_S) (num M : Nat) : Prop := S 7 0 = nI num ∧ S 27 5 = nI num ∧ M ≤ 12 ∧ S 7 1 = nI M ∧ S 27 6 = nI M ∧ S 8 = S 33 ∧ S 9 = S 34 ∧ S 10 = S 35 ∧ S 12 = S 39 ∧ (∀ i, ∃ q, q < 12 ∧ S 12 i = nI q) ∧ ∀ j, j < M → ∃ v, v ≤ num ∧ S 9 j = nI v
def RSn (S : zm_S) (xs : List (List Int32)) (pos c num : Nat) : Prop := RCc S xs ∧ RCr S xs ∧ XS xs ∧ c < 16 ∧ S 14 2 = nI c ∧ S 14 3 = nI pos ∧ S 27 20 = nI c ∧ S 27 19 = nI pos ∧ ((num = 0 ∧ xs = []) ∨ (0 < num ∧ 0 < xs.flatten.length ∧ SNc S xs pos c))
def FP (S S2 : zm_S) : Prop := (∀ a, (19 ≤ a ∧ a ≤ 26) ∨ 42 ≤ a → S2 a = S a) ∧ ∀ i, 21 ≤ i → S2 27 i = S 27 i
theorem ct_nil (C : Nat → Int32) (g : Nat → List Int32) (h : ∀ j, g j = []) : ct C g = C := by
  funext i; unfold ct; rw [h]; simp
theorem ct_in {C : Nat → Int32} {f : Nat → List Int32} {M m i : Nat} (hm : m < M) (hi : i < (f m).length) (hl : (f m).length ≤ 48) : ct C (fm f M) (m * 48 + i) = (f m).getD i 0 := by
  unfold ct fm
  have hd : (m * 48 + i) / 48 = m := by omega
  have hr : (m * 48 + i) % 48 = i := by omega
  rw [hd, hr, if_pos hm, if_pos hi]
theorem getD_B {l : List Int32} (h : ∀ x ∈ l, isB x) {i : Nat} (hi : i < l.length) : isB (l.getD i 0) := by
  simp only [List.getD, List.getElem?_eq_getElem hi, Option.getD_some]
  exact h _ (List.getElem_mem hi)
theorem st_as_zero (S : zm_S) : zm_up S 27 6 0 = st_as S (S 39) 0 := by
  funext a
  unfold st_as
  by_cases h : a = 27
  · subst h; rw [zm_up_self]; rfl
  · rw [zm_up_ne _ _ _ h]
    by_cases h2 : a = 39
    · subst h2; rw [if_pos rfl]
    · rw [if_neg h2]
      by_cases h3 : a = 33
      · subst h3; rw [if_pos rfl]; funext j; rfl
      · rw [if_neg h3, if_neg h]
theorem st_ct_zero (S : zm_S) (mo : Nat → Int32) (g : Nat → List Int32) (M : Nat) (h : ∀ j, g j = []) : st_ct (st_as S mo M) g M = st_as S mo M := by
  funext a
  unfold st_ct
  by_cases h2 : a = 35
  · subst h2; rw [if_pos rfl, ct_nil _ _ h]
  · rw [if_neg h2]
    by_cases h3 : a = 33
    · subst h3
      rw [if_pos rfl]
      show szs (szs (S 33) (fun _ => []) M) g M = szs (S 33) (fun _ => []) M
      funext j
      unfold szs
      by_cases hj : j < M
      · rw [if_pos hj, if_pos hj, h]
      · rw [if_neg hj, if_neg hj]
    · rw [if_neg h3]
theorem vss_zero (V : Nat → Int32) (num : Int32) (M0 : Nat) (Z0 C0 : Nat → Int32) (f : Nat → List Int32) : vss V num M0 Z0 C0 f 0 = V := by
  funext j; unfold vss; simp
set_option maxHeartbeats 4000000 in
theorem op_publish {d e : Nat} {Q : zm_Q} {S : zm_S} {num M0 : Nat} {xs : List (List Int32)} {pos c : Nat} (hR : RT S) (hE : REd S num M0) (hS : RSn S xs pos c num) (hnum : num < 60000)
    (hk : ∀ S1 r, CPS M_Md_publish (e + 4) [.ref 27] (fun S2 => RT S2 ∧ (∃ M' xs', REd S2 (num + 1) M' ∧ RSn S2 xs' 0 c (num + 1)) ∧ FP S S2) r S1 → Q (some r) GG S1) : zc M_CM_publish (d + 6) [.ref 0] S Q := by
  have hRP := hR.rp
  obtain ⟨h28, h30, h31, h32, h29, hT⟩ := id hR
  obtain ⟨e70, e275, hM0, e71, e276, e8, e9, e10, e12, hmo0, hV0⟩ := id hE
  obtain ⟨hCc, hCr, hX, hc16, e142, e143, e2720, e2719, _⟩ := id hS
  -- what is published
  generalize ho : od (S 3) (S 4) = o
  generalize hmo : (am (lnN (S 2) (S 3) (S 5)) (S 12) o).1 = mo
  generalize hM : (am (lnN (S 2) (S 3) (S 5)) (S 12) o).2 + 1 = M
  generalize hf : msgs (S 2) (S 3) (S 4) (S 5) (S 6) mo o = f
  have hB : PB (S 2) (S 3) (S 4) (S 5) (S 6) (S 12) o mo M f := ⟨ho.symm, hmo.symm, hM.symm, hf.symm⟩
  obtain ⟨hM1, hM12, hmoI, hmoO, hlen, hsm⟩ := hB.facts hT hmo0
  obtain ⟨od1, od2, od3, od4⟩ := od_facts hT
  rw [ho] at od1 od2 od3 od4
  have hsum : sumN (fun m => (f m).length) M ≤ 224 := by
    have h1 : sumN (fun m => (f m).length) M ≤ sumN (fun m => sm (lnN (S 2) (S 3) (S 5)) mo m o) M := sumN_le M (fun m _ => by
      rw [← hf]; exact msgs_len _ _ _ _ _ _ _ _)
    have h2 := sumN_sm (len := lnN (S 2) (S 3) (S 5)) (mo := mo) hM12 o (fun k _ => hmoI k)
    have h3 := od_sum hT od1 od3 (fun x hx => (od4 x hx).1)
    omega
  have hfB : ∀ m, ∀ x ∈ f m, isB x := fun m => by
    rw [← hf]; exact msgs_B hT hmoI (fun x hx => (od4 x hx).1) m
  have hCB : ∀ m i, m < M → i < (f m).length → isB (ct (S 10) (fm f M) (m * 48 + i)) := fun m i hm hi => by
    have := hlen m hm
    rw [ct_in hm hi (by omega)]
    exact getD_B (hfB m) hi
  generalize hVe : vss (S 9) (S 7 0 + 1) M0 (S 8) (S 10) f M = V
  have hVI : ∀ j, j < M → ∃ v, v ≤ num + 1 ∧ V j = nI v := by
    intro j hj
    rw [← hVe]
    unfold vss
    rw [if_pos hj]
    split
    · next hs =>
      obtain ⟨v, hv, he⟩ := hV0 j hs.1
      exact ⟨v, by omega, he⟩
    · exact ⟨num + 1, Nat.le_refl _, by rw [e70, nI_1]⟩
  have hVc : ∀ j, j < M → V j = nI (V j).toNatClampNeg ∧ (V j).toNatClampNeg < 65536 := by
    intro j hj
    obtain ⟨v, hv, he⟩ := hVI j hj
    rw [he, nI_clamp (by omega)]; exact ⟨rfl, by omega⟩
  have hXS : XS (secs (num + 1) M (fun m => (f m).length) (fun j => (V j).toNatClampNeg) (ct (S 10) (fm f M))) :=
    secs_ok hM12 (fun m hm => ⟨Nat.zero_le _, by have := hlen m hm; omega⟩) hCB hsum
  generalize hys : secs (num + 1) M (fun m => (f m).length) (fun j => (V j).toNatClampNeg) (ct (S 10) (fm f M)) = ys at hXS
  have hT0 : 0 < ys.flatten.length := by
    rw [← hys]
    unfold secs
    rw [List.flatten_cons, List.length_append]
    simp only [sec, chk, List.length_append, List.length_cons]; omega
  -- the class
  refine e_CM_publish (s_CM_publish_0 ?_)
  refine c_Ed_renew (d := d + 1) hT hmo0 hM0 e71 hB (fun S' a1 a70 a71 a8 a9 a10 a12 => ?_)
  refine s_CM_publish_11 ?_
  refine e_Sn_beginCycleOf (s_Sn_beginCycleOf_0 ?_)
  rw [hVe] at a9
  have hED : ED S' (num + 1) M (fun m => (f m).length) (fun j => (V j).toNatClampNeg) (ct (S 10) (fm f M)) := by
    refine ⟨by rw [a70, e70, nI_1], by omega, a71, hM1, hM12, a10, fun m hm => ⟨?_, ?_, Nat.zero_le _, Nat.le_trans (hlen m hm) (by decide), (hVc m hm).2, fun i hi => hCB m i hm hi⟩⟩
    · rw [a8]; exact if_pos hm
    · rw [a9]; exact (hVc m hm).1
  refine c_Cy_renew hED (by rw [hys]; exact hXS.1) (by rw [hys]; exact hXS.2.1) ?_
  rw [hys]
  refine s_Sn_beginCycleOf_8 ?_
  have b14 : ∀ i, i ≠ 3 → zm_up (st_cy S' ys.flatten (sts ys)) 14 3 0 14 i = S 14 i := fun i hi => by
    rw [zm_up_self, upd_ne _ _ hi]
    show S' 14 i = _
    rw [a1 14 (by omega)]
  refine c_Sn_prepare (d := d + 3) (xs := ys) (pos := 0) (c := c) (show RCc (zm_up (st_cy S' ys.flatten (sts ys)) 14 3 0) ys from RCc.of) hXS hT0 hc16 (by rw [zm_up_self]; exact upd_self _ _ _) (by rw [b14 2 (by decide)]; exact e142) (fun S1 v hv g1 g2 g3 => ?_)
  refine s_Sn_beginCycleOf_17 ?_
  refine s_CM_publish_22 ?_
  have hvF := nsF_eq hv
  -- what the class has done
  have k1 : ∀ a, 27 ≤ a → S1 a = S a := fun a ha => by
    rw [g1 a (by omega) (by omega), zm_up_ne _ _ _ (by omega)]
    show (if a = 17 then _ else if a = 18 then _ else if a = 16 then _ else S' a) = _
    rw [if_neg (by omega), if_neg (by omega), if_neg (by omega)]
    exact a1 a (by omega)
  have k2 : ∀ a, 19 ≤ a → a ≤ 26 → S1 a = S a := fun a ha hb => by
    rw [g1 a (by omega) (by omega), zm_up_ne _ _ _ (by omega)]
    show (if a = 17 then _ else if a = 18 then _ else if a = 16 then _ else S' a) = _
    rw [if_neg (by omega), if_neg (by omega), if_neg (by omega)]
    exact a1 a (by omega)
  have k3 : ∀ a, a ≤ 13 → S1 a = S' a := fun a ha => by
    rw [g1 a (by omega) (by omega), zm_up_ne _ _ _ (by omega)]
    show (if a = 17 then _ else if a = 18 then _ else if a = 16 then _ else S' a) = _
    rw [if_neg (by omega), if_neg (by omega), if_neg (by omega)]
  have k4 : ∀ a, 2 ≤ a → a ≤ 6 → S1 a = S a := fun a ha hb => by rw [k3 a (by omega)]; exact a1 a (by omega)
  have k5 : RCc S1 ys := by
    have h : RCc (zm_up (st_cy S' ys.flatten (sts ys)) 14 3 0) ys := RCc.of
    have s16 := g1 16 (by decide) (by decide)
    have s17 := g1 17 (by decide) (by decide)
    have s18 := g1 18 (by decide) (by decide)
    unfold RCc at h ⊢
    rw [s16, s17, s18]; exact h
  have k6 : S1 14 2 = nI c ∧ S1 14 3 = nI 0 ∧ S1 14 4 = nI (bhF ys 0) := by
    rw [g2]
    refine ⟨?_, ?_, ?_⟩
    · rw [upd_ne _ _ (by decide), b14 2 (by decide)]; exact e142
    · rw [upd_ne _ _ (by decide), zm_up_self]; exact upd_self _ _ _
    · rw [upd_self]; unfold bhF; rw [hvF]
  have k7 : SNc S1 ys 0 c := ⟨hT0, hc16, k6.2.1, k6.1, k6.2.2, fun i hi => by rw [g3 i hi]; unfold pkF; rw [hvF], v, hv⟩
  have r70 : S1 7 0 = nI (num + 1) := by rw [k3 7 (by omega), a70, e70, nI_1]
  rw [r70]
  refine hk S1 (nI (num + 1)) (fun Q' hq => ?_)
  -- the reference
  obtain ⟨hK, ⟨dep, hD⟩, hL, _⟩ := id hT
  refine e_Md_publish (s_Md_publish_0 ?_)
  refine c_Md_keepOld (fun S3 m1 m27 m36 m37 m38 => ?_)
  refine s_Md_publish_4 ?_
  have m5 : S3 27 5 = nI num := by rw [m27, upd_ne _ _ (by decide), k1 27 (by omega)]; exact e275
  rw [m5, nI_1]
  generalize hSb : zm_up S3 27 5 (nI (num + 1)) = Sb
  have n1 : ∀ a, a ≠ 27 → a ≠ 36 → a ≠ 37 → a ≠ 38 → Sb a = S1 a := fun a x1 x2 x3 x4 => by rw [← hSb, zm_up_ne _ _ _ x1]; exact m1 a x1 x2 x3 x4
  have n27 : Sb 27 = upd (upd (S 27) 10 (S 27 6)) 5 (nI (num + 1)) := by rw [← hSb, zm_up_self, m27, k1 27 (by omega)]
  have n28 : Sb 28 = S 2 := by rw [n1 28 (by decide) (by decide) (by decide) (by decide), k1 28 (by omega)]; exact h28
  have n29 : Sb 29 = S 29 := by rw [n1 29 (by decide) (by decide) (by decide) (by decide), k1 29 (by omega)]
  have n30 : Sb 30 = S 4 := by rw [n1 30 (by decide) (by decide) (by decide) (by decide), k1 30 (by omega)]; exact h30
  have n31 : Sb 31 = S 5 := by rw [n1 31 (by decide) (by decide) (by decide) (by decide), k1 31 (by omega)]; exact h31
  have n32 : Sb 32 = S 6 := by rw [n1 32 (by decide) (by decide) (by decide) (by decide), k1 32 (by omega)]; exact h32
  have n33 : Sb 33 = S 8 := by rw [n1 33 (by decide) (by decide) (by decide) (by decide), k1 33 (by omega)]; exact e8.symm
  have n34 : Sb 34 = S 9 := by rw [n1 34 (by decide) (by decide) (by decide) (by decide), k1 34 (by omega)]; exact e9.symm
  have n35 : Sb 35 = S 10 := by rw [n1 35 (by decide) (by decide) (by decide) (by decide), k1 35 (by omega)]; exact e10.symm
  have n39 : Sb 39 = S 12 := by rw [n1 39 (by decide) (by decide) (by decide) (by decide), k1 39 (by omega)]; exact e12.symm
  have n36 : ∀ j, j < 12 → Sb 36 j = S 8 j := fun j hj => by rw [← hSb, zm_up_ne _ _ _ (by decide), m36 j hj, k1 33 (by omega), e8]
  have n37 : ∀ j, j < 12 → Sb 37 j = S 9 j := fun j hj => by rw [← hSb, zm_up_ne _ _ _ (by decide), m37 j hj, k1 34 (by omega), e9]
  have n38 : ∀ j, j < 576 → Sb 38 j = S 10 j := fun j hj => by rw [← hSb, zm_up_ne _ _ _ (by decide), m38 j hj, k1 35 (by omega), e10]
  have hPb : RP Sb (S 3) := by
    intro k x1 x2
    rw [n28, n29, ← h28]; exact hRP k x1 x2
  have hTb : TI (Sb 28) (S 3) (Sb 30) (Sb 31) (Sb 32) := by rw [n28, n30, n31, n32]; exact hT
  have hDb : TD (Sb 28) (S 3) dep := by rw [n28]; exact hD
  have hl0 : ¬ Sb 28 0 = 0 := by rw [n28, hK.1]; decide
  rw [st_as_zero]
  refine s_Md_publish_23 (fun h => absurd h (by decide)) (fun _ => ?_)
  refine c_Md_payload (P := S 3) (k := 0) (show RP (st_as Sb (Sb 39) 0) (S 3) from hPb) (by omega) ?_
  obtain ⟨hml, hmle⟩ := ml_N (K := Sb 28) (P := S 3) (hTb.2.2.1 0 (by omega))
  rw [show ml (st_as Sb (Sb 39) 0 28) (S 3) (st_as Sb (Sb 39) 0 31) 0 = nI (mlN (Sb 28) (S 3) (Sb 31) 0) from hml]
  have e6 : st_as Sb (Sb 39) 0 27 6 = nI 0 := rfl
  have ez : st_as Sb (Sb 39) 0 27 6 = 0 := rfl
  have hix0 : zm_ix (0 : Int32) 0 12 := zm_ixN (j := 0) (by decide) (by decide)
  have ep : nI 0 + 1 - 1 = nI 0 := by decide
  have e0 : 0 + (3 + nI (mlN (Sb 28) (S 3) (Sb 31) 0)) = nI (lnN (Sb 28) (S 3) (Sb 31) 0) := by
    rw [show (3 : Int32) + nI (mlN (Sb 28) (S 3) (Sb 31) 0) = nI (3 + mlN (Sb 28) (S 3) (Sb 31) 0) from nI_add 3 _]
    have : (0 : Int32) + nI (3 + mlN (Sb 28) (S 3) (Sb 31) 0) = nI (0 + (3 + mlN (Sb 28) (S 3) (Sb 31) 0)) := nI_add 0 _
    rw [this, Nat.zero_add]; rfl
  have hln0 : lnN (Sb 28) (S 3) (Sb 31) 0 ≤ 47 := by unfold lnN; omega
  refine s_Md_publish_33 0 0 (fun _ => by rw [e6, ep]; exact hix0) (fun _ => hix0) (fun h => absurd ez h) (fun h => absurd ez h) (fun h => absurd ez h) (fun _ => ?_) (fun h => absurd ez h)
  rw [e6, ep, st_as_new]
  refine c_Md_next (P := S 3) (k := 0) (show RP (st_as Sb _ _) (S 3) from hPb) (show TI (Sb 28) (S 3) (Sb 30) (Sb 31) (Sb 32) from hTb) (by omega) (show ¬ Sb 28 0 = 0 from hl0) ?_
  refine s_Md_publish_95 ?_
  rw [e0]
  have hit1 : fo (S 3) (st_as Sb (upd (Sb 39) 0 (nI 0)) (0 + 1) 30) (nI 0) = it (S 3) (Sb 30) 1 := (it_s (P := S 3) (N := Sb 30) (i := 0) (k := 0) (by omega) rfl).symm
  rw [hit1]
  have hodc : od (S 3) (Sb 30) = 0 :: itl (S 3) (Sb 30) 11 (it (S 3) (Sb 30) 1) := by
    show itl (S 3) (Sb 30) 12 (nI 0) = _
    rw [itl_cons 11 (by omega)]
    rfl
  have hoo : o = 0 :: itl (S 3) (Sb 30) 11 (it (S 3) (Sb 30) 1) := by rw [← hodc, n30]; exact ho.symm
  have ham : am_go (lnN (Sb 28) (S 3) (Sb 31)) (itl (S 3) (Sb 30) 11 (it (S 3) (Sb 30) 1)) (upd (Sb 39) 0 (nI 0)) 0 (lnN (Sb 28) (S 3) (Sb 31) 0) = am (lnN (S 2) (S 3) (S 5)) (S 12) o := by
    rw [hoo, n28, n31, n39]; rfl
  refine l_Md_pub1 (dep := dep) hPb hTb hDb 11 1 (upd (Sb 39) 0 (nI 0)) 0 _ (by omega) (by omega) (by omega) (by omega) ?_
  rw [ham, hmo, hM]
  have hfm0 : ∀ j, fm (msgs (Sb 28) (S 3) (Sb 30) (Sb 31) (Sb 32) mo []) M j = [] := fun j => by
    unfold fm msgs
    split <;> rfl
  rw [← st_ct_zero Sb mo (fm (msgs (Sb 28) (S 3) (Sb 30) (Sb 31) (Sb 32) mo []) M) M hfm0]
  have hfe : msgs (Sb 28) (S 3) (Sb 30) (Sb 31) (Sb 32) mo o = f := by rw [n28, n30, n31, n32]; exact hf
  refine l_Md_pub2 (S0 := st_as Sb mo M) (P := S 3) (dep := dep) (M := M) (o := o) hPb hTb hDb hM12 (fun k hk => hmoO k hk) (fun m hm => ?_) ?_ 12 0 [] (by omega) ?_
  · show (msgs (Sb 28) (S 3) (Sb 30) (Sb 31) (Sb 32) mo o m).length ≤ 48
    rw [hfe]; have := hlen m hm; omega
  · show zw M_Md_publish (e + 4) Q' 121 _ [] (st_ct (st_as Sb mo M) (fm (msgs (Sb 28) (S 3) (Sb 30) (Sb 31) (Sb 32) mo o) M) M)
    rw [hfe]
    generalize hSc : st_ct (st_as Sb mo M) (fm f M) M = Sc
    have p27 : Sc 27 = upd (Sb 27) 6 (nI M) := by rw [← hSc]; rfl
    have p33 : ∀ m, m < M → Sc 33 m = nI (f m).length := fun m hm => by
      rw [← hSc]
      show szs _ (fm f M) M m = _
      unfold szs fm
      rw [if_pos hm, if_pos hm]
    have p35 : Sc 35 = ct (S 10) (fm f M) := by
      rw [← hSc]
      show ct (Sb 35) (fm f M) = _
      rw [n35]
    have p34 : Sc 34 = S 9 := by rw [← hSc]; exact n34
    have pa : ∀ a, a ≠ 27 → a ≠ 33 → a ≠ 35 → a ≠ 39 → Sc a = Sb a := fun a x1 x2 x3 x4 => by
      rw [← hSc]
      show (if a = 35 then _ else if a = 33 then _ else (if a = 39 then _ else if a = 33 then _ else if a = 27 then _ else Sb a)) = _
      rw [if_neg x3, if_neg x2, if_neg x4, if_neg x2, if_neg x1]
    have p33o : ∀ j, ¬ j < M → Sc 33 j = S 8 j := fun j hj => by
      rw [← hSc]
      show szs (szs (Sb 33) (fun _ => ([] : List Int32)) M) (fm f M) M j = S 8 j
      unfold szs
      rw [if_neg hj, if_neg hj, n33]
    have p39 : Sc 39 = mo := by rw [← hSc]; rfl
    have q5 : Sc 27 5 = nI (num + 1) := by rw [p27, n27]; rfl
    have hVs : vss (S 9) (Sc 27 5) M0 (S 8) (S 10) f M = V := by rw [q5, ← hVe, e70, nI_1]
    have start : Sc = zm_upA Sc 34 (vss (S 9) (Sc 27 5) M0 (S 8) (S 10) f 0) := by rw [vss_zero, ← p34, zm_upA_id]
    rw [start]
    refine l_Md_pub3 (M0 := M0) (f := f) (V0 := S 9) (Z0 := S 8) (C0 := S 10) hM12 hM0 (by rw [p27]; exact upd_self _ _ _) (by rw [p27, n27]; show S 27 6 = _; exact e276) (fun m hm => by have := hlen m hm; omega) p33 (fun m i hm hi => by rw [p35]; exact ct_in hm hi (by have := hlen m hm; omega)) (fun j hj => by rw [pa 36 (by decide) (by decide) (by decide) (by decide)]; exact n36 j hj) (fun j hj => by rw [pa 37 (by decide) (by decide) (by decide) (by decide)]; exact n37 j hj) (fun j hj => by rw [pa 38 (by decide) (by decide) (by decide) (by decide)]; exact n38 j hj) ?_ M 0 (by omega)
    rw [hVs]
    have hEDr : EDr (zm_upA Sc 34 V) (num + 1) M (fun m => (f m).length) (fun j => (V j).toNatClampNeg) (ct (S 10) (fm f M)) :=
      ⟨q5, by omega, by rw [zm_upA_ne _ _ (by decide), p27]; exact upd_self _ _ _, hM1, hM12, p35, fun m hm => ⟨p33 m hm, by rw [zm_upA_self]; exact (hVc m hm).1, Nat.zero_le _, Nat.le_trans (hlen m hm) (by decide), (hVc m hm).2⟩⟩
    refine c_Md_writeCycle hEDr (by rw [hys]; exact hXS.2.1) ?_
    rw [hys]
    refine s_Md_publish_166 ?_
    generalize hSd : zm_upA Sc 34 V = Sd at hEDr
    have t1 : ∀ a, a ≠ 27 → a ≠ 33 → a ≠ 34 → a ≠ 35 → a ≠ 39 → Sd a = Sb a := fun a x1 x2 x3 x4 x5 => by rw [← hSd, zm_upA_ne _ _ x3]; exact pa a x1 x2 x4 x5
    have t27 : Sd 27 = upd (Sb 27) 6 (nI M) := by rw [← hSd]; exact p27
    have w1 : ∀ a, a ≠ 27 → a ≠ 40 → a ≠ 41 → zm_up (st_ep Sd ys []) 27 19 0 a = Sd a := fun a x1 x2 x3 => by
      rw [zm_up_ne _ _ _ x1]
      show (if a = 40 then _ else if a = 41 then _ else if a = 27 then _ else Sd a) = _
      rw [if_neg x2, if_neg x3, if_neg x1]
    have w27 : ∀ i, i ≠ 17 → i ≠ 18 → i ≠ 19 → zm_up (st_ep Sd ys []) 27 19 0 27 i = upd (Sb 27) 6 (nI M) i := fun i x1 x2 x3 => by
      rw [zm_up_self, upd_ne _ _ x3]
      show upd (upd (Sd 27) 17 _) 18 _ i = _
      rw [upd_ne _ _ x2, upd_ne _ _ x1, t27]
    have w5 : st_ep Sd ys [] 27 5 = nI (num + 1) := by
      show Sd 27 5 = _
      rw [t27, n27]; rfl
    rw [w5]
    have z : ∀ a, a < 27 → zm_up (st_ep Sd ys []) 27 19 0 a = S1 a := fun a ha => by
      rw [w1 a (by omega) (by omega) (by omega), t1 a (by omega) (by omega) (by omega) (by omega) (by omega), n1 a (by omega) (by omega) (by omega) (by omega)]
    have z2 : ∀ a, 27 < a → a ≠ 33 → a ≠ 34 → a ≠ 35 → a ≠ 36 → a ≠ 37 → a ≠ 38 → a ≠ 39 → a ≠ 40 → a ≠ 41 → zm_up (st_ep Sd ys []) 27 19 0 a = S a := fun a h0 h3 h4 h5 h6 h7 h8 h9 hA hB' => by
      rw [w1 a (by omega) hA hB', t1 a (by omega) h3 h4 h5 h9, n1 a (by omega) h6 h7 h8, k1 a (by omega)]
    have zRCr : RCr (zm_up (st_ep Sd ys []) 27 19 0) ys := RCr.of
    have zRCc : RCc (zm_up (st_ep Sd ys []) 27 19 0) ys := by
      unfold RCc at k5 ⊢
      rw [z 16 (by omega), z 17 (by omega), z 18 (by omega)]; exact k5
    have z33 : zm_up (st_ep Sd ys []) 27 19 0 33 = szs (S 8) f M := by
      rw [w1 33 (by decide) (by decide) (by decide), ← hSd, zm_upA_ne _ _ (by decide)]
      funext j
      by_cases hj : j < M
      · rw [p33 j hj]; exact (if_pos hj).symm
      · rw [p33o j hj]; exact (if_neg hj).symm
    have z34 : zm_up (st_ep Sd ys []) 27 19 0 34 = V := by
      rw [w1 34 (by decide) (by decide) (by decide), ← hSd, zm_upA_self]
    have z35 : zm_up (st_ep Sd ys []) 27 19 0 35 = ct (S 10) (fm f M) := by
      rw [w1 35 (by decide) (by decide) (by decide), ← hSd, zm_upA_ne _ _ (by decide)]; exact p35
    have z39 : zm_up (st_ep Sd ys []) 27 19 0 39 = mo := by
      rw [w1 39 (by decide) (by decide) (by decide), ← hSd, zm_upA_ne _ _ (by decide)]; exact p39
    refine hq _ ⟨⟨?_, ?_, ?_, ?_, ?_, ?_⟩, ⟨M, ys, ⟨?_, ?_, hM12, ?_, ?_, ?_, ?_, ?_, ?_, ?_, ?_⟩, zRCc, zRCr, hXS, hc16, ?_, ?_, ?_, ?_, Or.inr ⟨by omega, hT0, ?_⟩⟩, ?_, ?_⟩
    · rw [z2 28 (by decide) (by decide) (by decide) (by decide) (by decide) (by decide) (by decide) (by decide) (by decide) (by decide), z 2 (by omega), k4 2 (by omega) (by omega)]; exact h28
    · rw [z2 30 (by decide) (by decide) (by decide) (by decide) (by decide) (by decide) (by decide) (by decide) (by decide) (by decide), z 4 (by omega), k4 4 (by omega) (by omega)]; exact h30
    · rw [z2 31 (by decide) (by decide) (by decide) (by decide) (by decide) (by decide) (by decide) (by decide) (by decide) (by decide), z 5 (by omega), k4 5 (by omega) (by omega)]; exact h31
    · rw [z2 32 (by decide) (by decide) (by decide) (by decide) (by decide) (by decide) (by decide) (by decide) (by decide) (by decide), z 6 (by omega), k4 6 (by omega) (by omega)]; exact h32
    · rw [z2 29 (by decide) (by decide) (by decide) (by decide) (by decide) (by decide) (by decide) (by decide) (by decide) (by decide), z 2 (by omega), z 3 (by omega), k4 2 (by omega) (by omega), k4 3 (by omega) (by omega)]; exact h29
    · rw [z 2 (by omega), z 3 (by omega), z 4 (by omega), z 5 (by omega), z 6 (by omega), k4 2 (by omega) (by omega), k4 3 (by omega) (by omega), k4 4 (by omega) (by omega), k4 5 (by omega) (by omega), k4 6 (by omega) (by omega)]; exact hT
    · rw [z 7 (by omega)]; exact r70
    · rw [w27 5 (by decide) (by decide) (by decide), upd_ne _ _ (by decide), n27]; exact upd_self _ _ _
    · rw [z 7 (by omega), k3 7 (by omega)]; exact a71
    · rw [w27 6 (by decide) (by decide) (by decide)]; exact upd_self _ _ _
    · rw [z 8 (by omega), k3 8 (by omega), a8, z33]
    · rw [z 9 (by omega), k3 9 (by omega), a9, z34]
    · rw [z 10 (by omega), k3 10 (by omega), a10, z35]
    · rw [z 12 (by omega), k3 12 (by omega), a12, z39]
    · intro i; rw [z 12 (by omega), k3 12 (by omega), a12]; exact hmoI i
    · intro j hj; rw [z 9 (by omega), k3 9 (by omega), a9]; exact hVI j hj
    · rw [z 14 (by omega)]; exact k6.1
    · rw [z 14 (by omega)]; exact k6.2.1
    · rw [w27 20 (by decide) (by decide) (by decide), upd_ne _ _ (by decide), n27, upd_ne _ _ (by decide), upd_ne _ _ (by decide)]; exact e2720
    · rw [zm_up_self]; exact upd_self _ _ _
    · obtain ⟨y1, y2, y3, y4, y5, y6, y7⟩ := k7
      refine ⟨y1, y2, ?_, ?_, ?_, ?_, y7⟩
      · rw [z 14 (by omega)]; exact y3
      · rw [z 14 (by omega)]; exact y4
      · rw [z 14 (by omega)]; exact y5
      · intro i hi; rw [z 15 (by omega)]; exact y6 i hi
    · intro a ha
      rcases ha with ha | ha
      · rw [z a (by omega)]; exact k2 a ha.1 ha.2
      · exact z2 a (by omega) (by omega) (by omega) (by omega) (by omega) (by omega) (by omega) (by omega) (by omega) (by omega)
    · intro i hi
      rw [w27 i (by omega) (by omega) (by omega), upd_ne _ _ (by omega), n27, upd_ne _ _ (by omega), upd_ne _ _ (by omega)]
  · show [] ++ itl (S 3) (Sb 30) 12 (nI 0) = o
    rw [List.nil_append, ← ho, n30]; rfl
