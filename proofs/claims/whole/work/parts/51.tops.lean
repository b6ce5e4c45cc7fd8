theorem CPS.mono {Mr : zm_M} {d : Nat} {ar : List Value} {R R' : zm_S → Prop} {r : Int32} {S1 : zm_S} (h : CPS Mr d ar R r S1) (hi : ∀ S2, R S2 → R' S2) : CPS Mr d ar R' r S1 := fun Q' hQ' => h Q' (fun S2 h2 => hQ' S2 (hi S2 h2))
theorem RR.ft {num : Nat} {S S2 : zm_S} (h : RR num S) (hT : RT S2) (hF : FT S S2) : RR num S2 := by
  obtain ⟨_, ⟨M, hE⟩, ⟨xs, pos, c, hS⟩, hI, hV⟩ := h
  refine ⟨hT, ⟨M, hE.congr (fun a ha => hF a (by omega) (by omega)) (fun i hi => by rw [hF 27 (by omega) (by omega)])⟩, ⟨xs, pos, c, hS.congr (fun a ha => hF a (by omega) (by omega)) (fun i _ _ => by rw [hF 27 (by omega) (by omega)])⟩, hI.congr (fun a x y => hF a (by omega) (by omega)), (hV.congrA (fun a x y => hF a (by omega) (by omega))).congrS (fun i _ => by rw [hF 27 (by omega) (by omega)]) (fun a x y => hF a (by omega) (by omega))⟩
theorem RR.fp {num : Nat} {S S2 : zm_S} (h : RR num S) (hT : RT S2) (hE : ∃ M' xs' c, REd S2 (num + 1) M' ∧ RSn S2 xs' 0 c (num + 1)) (hF : FP S S2) : RR (num + 1) S2 := by
  obtain ⟨_, _, _, hI, hV⟩ := h
  obtain ⟨M, xs, c, hE, hS⟩ := hE
  exact ⟨hT, ⟨M, hE⟩, ⟨xs, 0, c, hS⟩, hI.congr (fun a x y => hF.1 a (by omega)), (hV.congrA (fun a x y => hF.1 a (by omega))).congrS (fun i hi => hF.2 i (by omega)) (fun a x y => hF.1 a (by omega))⟩
theorem pp_make {d e : Nat} {Q : zm_Q} {S : zm_S} {num : Nat} {a b c : Int32} (hR : RR num S) (hk : ∀ S1 r, CPS M_Md_make (e + 1) [.ref 27, .int a, .int b, .int c] (RR num) r S1 → Q (some r) GG S1) : zc M_CM_make (d + 2) [.ref 0, .int a, .int b, .int c] S Q :=
  op_make (e := e) hR.1 (fun S1 r h => hk S1 r (h.mono (fun S2 h2 => hR.ft h2.1 h2.2)))
theorem pp_remove {d e : Nat} {Q : zm_Q} {S : zm_S} {num : Nat} {a : Int32} (hR : RR num S) (hk : ∀ S1 r, CPS M_Md_remove (e + 1) [.ref 27, .int a] (RR num) r S1 → Q (some r) GG S1) : zc M_CM_remove (d + 1) [.ref 0, .int a] S Q :=
  op_remove (e := e) hR.1 (fun S1 r h => hk S1 r (h.mono (fun S2 h2 => hR.ft h2.1 h2.2)))
theorem pp_append {d e : Nat} {Q : zm_Q} {S : zm_S} {num : Nat} {a b : Int32} (hR : RR num S) (hk : ∀ S1 r, CPS M_Md_append (e + 1) [.ref 27, .int a, .int b] (RR num) r S1 → Q (some r) GG S1) : zc M_CM_append (d + 1) [.ref 0, .int a, .int b] S Q :=
  op_append (e := e) hR.1 (fun S1 r h => hk S1 r (h.mono (fun S2 h2 => hR.ft h2.1 h2.2)))
theorem pp_empty {d e : Nat} {Q : zm_Q} {S : zm_S} {num : Nat} {a : Int32} (hR : RR num S) (hk : ∀ S1 r, CPS M_Md_empty (e + 1) [.ref 27, .int a] (RR num) r S1 → Q (some r) GG S1) : zc M_CM_empty (d + 1) [.ref 0, .int a] S Q :=
  op_empty (e := e) hR.1 (fun S1 r h => hk S1 r (h.mono (fun S2 h2 => hR.ft h2.1 h2.2)))
theorem pp_publish {d e : Nat} {Q : zm_Q} {S : zm_S} {num : Nat} (hR : RR num S) (hnum : num < 60000) (hk : ∀ S1 r, CPS M_Md_publish (e + 4) [.ref 27] (RR (num + 1)) r S1 → Q (some r) GG S1) : zc M_CM_publish (d + 6) [.ref 0] S Q := by
  obtain ⟨hT, ⟨M, hE⟩, ⟨xs, pos, c, hS⟩, hI, hV⟩ := id hR
  exact op_publish (e := e) hT hE hS hnum (fun S1 r h => hk S1 r (h.mono (fun S2 h2 => by
    obtain ⟨h1, ⟨M', xs', h3, h4⟩, h5⟩ := h2
    exact hR.fp h1 ⟨M', xs', c, h3, h4⟩ h5)))
