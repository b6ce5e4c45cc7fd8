-- the CHECK
def cst (c : Int32) : Int32 := if 0 ≤ c then c <<< ((1 : Int32) &&& 31) else (c <<< ((1 : Int32) &&& 31)) ^^^ 79764919
def csn : Nat → Int32 → Int32
  | 0, c => c
  | n + 1, c => csn n (cst c)
def mix (c b : Int32) : Int32 := csn 8 (c ^^^ (b <<< ((24 : Int32) &&& 31)))
def crc (c : Int32) (l : List Int32) : Int32 := l.foldl mix c
theorem i32ext {x y : Int32} (h : x.toBitVec.toNat = y.toBitVec.toNat) : x = y := Int32.toBitVec_inj.mp (BitVec.eq_of_toNat_eq h)
theorem shl2 (a : Int32) : 2 * a = a <<< ((1 : Int32) &&& 31) := by
  apply i32ext
  rw [pk_shl a _ 1 (by decide), Int32.toBitVec_mul, BitVec.toNat_mul]
  have : (2 : Int32).toBitVec.toNat = 2 := by decide
  rw [this]; omega
theorem l_checkIn {d : Nat} {Q : zm_Q} {S : zm_S} {ra N : Nat} (hg : GG[ra]? = some (.inl (false, N))) {e i : Int32} : ∀ (n b : Nat) (c : Int32), b + n = 8 → zw M_CM_checkOf d Q 5 [some (.ref ra), none, some (.int e), some (.int (csn n c)), some (.int (i + 1)), none] [] S → zw M_CM_checkOf d Q 24 [some (.ref ra), none, some (.int e), some (.int c), some (.int i), some (.int (nI b))] [] S := by
  intro n
  induction n with
  | zero =>
    intro b c hb h
    have : b = 8 := by omega
    subst this
    have hle : (8 : Int32) ≤ nI 8 := by decide
    exact s_CM_checkOf_24 hg (fun _ => h) (fun h => absurd hle h) (fun h => absurd hle h)
  | succ n ih =>
    intro b c hb h
    have hlt : ¬ (8 : Int32) ≤ nI b := nI_ge (b := 8) (by omega) (by decide)
    refine s_CM_checkOf_24 hg (fun h => absurd h hlt) (fun _ hc => ?_) (fun _ hc => ?_)
    · rw [nI_1]
      refine ih (b + 1) _ (by omega) ?_
      rw [csn, cst, if_pos hc] at h; exact h
    · rw [nI_1]
      refine ih (b + 1) _ (by omega) ?_
      rw [csn, cst, if_neg hc] at h; exact h
theorem l_checkOf {d : Nat} {Q : zm_Q} {S : zm_S} {ra N : Nat} (hg : GG[ra]? = some (.inl (false, N))) (hN : N < 2147483648) {e : Nat} (he : e ≤ N) : ∀ (n i : Nat) (c : Int32), i + n = e → Q (some (crc c ((List.range' i n).map (S ra)))) GG S → zw M_CM_checkOf d Q 5 [some (.ref ra), none, some (.int (nI e)), some (.int c), some (.int (nI i)), none] [] S := by
  intro n
  induction n with
  | zero =>
    intro i c hi hq
    have hle : nI e ≤ nI i := nI_le (by omega) (by omega)
    exact s_CM_checkOf_5 hg 0 (fun h => absurd hle h) (fun _ => hq) (fun h => absurd hle h)
  | succ n ih =>
    intro i c hi hq
    have hlt : ¬ nI e ≤ nI i := nI_ge (by omega) (by omega)
    refine s_CM_checkOf_5 hg i (fun _ => zm_ixN (by omega) hN) (fun h => absurd h hlt) (fun _ => ?_)
    refine l_checkIn (b := 0) hg 8 _ (by omega) ?_
    rw [nI_1]
    refine ih (i + 1) _ (by omega) ?_
    rw [List.range'_succ, List.map_cons] at hq
    simp only [crc, List.foldl_cons, mix] at hq ⊢
    exact hq
theorem c_CM_checkOf {d : Nat} {Q : zm_Q} {S : zm_S} {ra N : Nat} (hg : GG[ra]? = some (.inl (false, N))) (hN : N < 2147483648) {b e : Nat} (hbe : b ≤ e) (he : e ≤ N) (hq : Q (some (crc (-1) ((List.range' b (e - b)).map (S ra)))) GG S) : zc M_CM_checkOf d [.ref ra, .int (nI b), .int (nI e)] S Q :=
  e_CM_checkOf (s_CM_checkOf_0 hg (l_checkOf hg hN he (e - b) b (-1) (by omega) hq))
theorem l_Md_mixed {d : Nat} {Q : zm_Q} {S : zm_S} : ∀ (n b : Nat) (c : Int32), b + n = 8 → Q (some (csn n c)) GG S → zw M_Md_mixed d Q 9 [none, none, some (.int c), some (.int (nI b)), none] [] S := by
  intro n
  induction n with
  | zero =>
    intro b c hb h
    have : b = 8 := by omega
    subst this
    have hle : (8 : Int32) ≤ nI 8 := by decide
    exact s_Md_mixed_9 (fun _ => h) (fun h => absurd hle h) (fun h => absurd hle h)
  | succ n ih =>
    intro b c hb h
    have hlt : ¬ (8 : Int32) ≤ nI b := nI_ge (b := 8) (by omega) (by decide)
    refine s_Md_mixed_9 (fun h => absurd h hlt) (fun _ hc => ?_) (fun _ hc => ?_)
    · rw [nI_1, shl2]
      refine ih (b + 1) _ (by omega) ?_
      rw [csn, cst, if_pos hc] at h; exact h
    · rw [nI_1, shl2]
      refine ih (b + 1) _ (by omega) ?_
      rw [csn, cst, if_neg hc] at h; exact h
theorem c_Md_mixed {d : Nat} {Q : zm_Q} {S : zm_S} {c b : Int32} (hq : Q (some (mix c b)) GG S) : zc M_Md_mixed d [.int c, .int b] S Q :=
  e_Md_mixed (s_Md_mixed_0 (l_Md_mixed 8 0 _ (by omega) hq))
-- the bytes of a number
def byt (c : Int32) (k : Nat) : Int32 := nI (c.toBitVec.toNat / 2 ^ k % 256)
def chk (c : Int32) : List Int32 := [byt c 24, byt c 16, byt c 8, byt c 0]
def prl (n : Nat) : List Int32 := [nI (n / 256 % 256), nI (n % 256)]
theorem and255 (x : Int32) : x &&& 255 = nI (x.toBitVec.toNat % 256) := pk_and x 8 (by decide)
theorem tn_lt (c : Int32) : c.toBitVec.toNat < 4294967296 := c.toBitVec.isLt
theorem us24 (c : Int32) : (Int32.toUInt32 c >>> (Int32.toUInt32 24 &&& Int32.toUInt32 31)).toInt32 = byt c 24 := by
  have h := tn_lt c
  apply i32ext
  rw [pk_ushr c 24 24 (by decide), byt, pk_tn (by omega)]
  omega
theorem us16 (c : Int32) : (Int32.toUInt32 c >>> (Int32.toUInt32 16 &&& Int32.toUInt32 31)).toInt32 = nI (c.toBitVec.toNat / 2 ^ 16) := by
  have h := tn_lt c
  apply i32ext
  rw [pk_ushr c 16 16 (by decide), pk_tn (by omega)]
theorem us8 (c : Int32) : (Int32.toUInt32 c >>> (Int32.toUInt32 8 &&& Int32.toUInt32 31)).toInt32 = nI (c.toBitVec.toNat / 2 ^ 8) := by
  have h := tn_lt c
  apply i32ext
  rw [pk_ushr c 8 8 (by decide), pk_tn (by omega)]
theorem nIand {n : Nat} (h : n < 4294967296) : nI n &&& 255 = nI (n % 256) := by rw [and255, pk_tn h]
theorem nIsh8 {n : Nat} (h : n < 2147483648) : nI n >>> ((8 : Int32) &&& 31) = nI (n / 256) := pk_shrN h _ 8 (by decide)
theorem ss8 (c : Int32) : (c >>> ((8 : Int32) &&& 31)) &&& 255 = byt c 8 := by
  rw [and255, byt]
  congr 1
  have h1 := pk_shr c ((8 : Int32) &&& 31) 8 (by decide)
  generalize c >>> ((8 : Int32) &&& 31) = y at h1
  have h2 : y.toInt = y.toBitVec.toInt := rfl
  have h3 : c.toInt = c.toBitVec.toInt := rfl
  rw [h2, h3, BitVec.toInt_eq_toNat_cond, BitVec.toInt_eq_toNat_cond, Int.shiftRight_eq_div_pow] at h1
  have h4 := tn_lt c
  have h5 := tn_lt y
  generalize c.toBitVec.toNat = a at *
  generalize y.toBitVec.toNat = b at *
  split at h1 <;> split at h1 <;> omega
theorem and0 (c : Int32) : c &&& 255 = byt c 0 := by rw [and255, byt]; simp
theorem prl_hi {n : Nat} (h : n < 2147483648) : nI n / 256 - nI n / 256 / 256 * 256 = nI (n / 256 % 256) := by
  have e1 : nI n / 256 = nI (n / 256) := pk_div (d := 256) h (by decide) (by decide)
  rw [e1]
  exact pk_rem (d := 256) (by omega) (by decide) (by decide)
theorem prl_lo {n : Nat} (h : n < 2147483648) : nI n - nI n / 256 * 256 = nI (n % 256) := pk_rem (d := 256) h (by decide) (by decide)
-- the class writes its cycle: bytes l, starts ss
def st_cy (S0 : zm_S) (l : List Int32) (ss : List Nat) : zm_S := fun a => if a = 17 then dr (S0 17) l else if a = 18 then dr (S0 18) (ss.map nI) else if a = 16 then upd (upd (S0 16) 1 (nI l.length)) 3 (nI ss.length) else S0 a
theorem upd_upd (f : Nat → Int32) (k : Nat) (x y : Int32) : upd (upd f k x) k y = upd f k y := by
  funext i; unfold upd
  by_cases h : i = k
  · rw [if_pos h, if_pos h]
  · rw [if_neg h, if_neg h, if_neg h]
theorem upd_comm (f : Nat → Int32) {k j : Nat} (x y : Int32) (h : k ≠ j) : upd (upd f k x) j y = upd (upd f j y) k x := by
  funext i; unfold upd
  by_cases h1 : i = k
  · subst h1; rw [if_neg h, if_pos rfl, if_pos rfl]
  · by_cases h2 : i = j
    · subst h2; rw [if_pos rfl, if_neg h1, if_pos rfl]
    · rw [if_neg h2, if_neg h1, if_neg h1, if_neg h2]
theorem st_cy_push (S0 : zm_S) (l : List Int32) (ss : List Nat) (x : Int32) : zm_up (zm_up (st_cy S0 l ss) 17 l.length x) 16 1 (nI l.length + 1) = st_cy S0 (l ++ [x]) ss := by
  funext a
  by_cases h : a = 16
  · subst h
    rw [zm_up_self]
    show upd (upd (upd (S0 16) 1 (nI l.length)) 3 (nI ss.length)) 1 (nI l.length + 1) = upd (upd (S0 16) 1 (nI (l ++ [x]).length)) 3 (nI ss.length)
    rw [upd_comm _ _ _ (by decide : (1 : Nat) ≠ 3), upd_upd, upd_comm _ _ _ (by decide : (3 : Nat) ≠ 1), nI_1]
    simp
  · rw [zm_up_ne _ _ _ h]
    by_cases h2 : a = 17
    · subst h2
      rw [zm_up_self]
      exact dr_push (S0 17) l x
    · rw [zm_up_ne _ _ _ h2]
      unfold st_cy
      rw [if_neg h2, if_neg h2, if_neg h, if_neg h]
theorem st_cy_begin (S0 : zm_S) (l : List Int32) (ss : List Nat) : zm_up (zm_up (st_cy S0 l ss) 18 ss.length (nI l.length)) 16 3 (nI ss.length + 1) = st_cy S0 l (ss ++ [l.length]) := by
  funext a
  by_cases h : a = 16
  · subst h
    rw [zm_up_self]
    show upd (upd (upd (S0 16) 1 (nI l.length)) 3 (nI ss.length)) 3 (nI ss.length + 1) = upd (upd (S0 16) 1 (nI l.length)) 3 (nI (ss ++ [l.length]).length)
    rw [upd_upd, nI_1]; simp
  · rw [zm_up_ne _ _ _ h]
    by_cases h2 : a = 18
    · subst h2
      rw [zm_up_self]
      have := dr_push (S0 18) (ss.map nI) (nI l.length)
      rw [List.length_map] at this
      show upd (dr (S0 18) (ss.map nI)) ss.length (nI l.length) = dr (S0 18) ((ss ++ [l.length]).map nI)
      rw [this, List.map_append]; rfl
    · rw [zm_up_ne _ _ _ h2]
      unfold st_cy
      rw [if_neg h2, if_neg h2, if_neg h, if_neg h]
theorem c_Cy_write {d : Nat} {Q : zm_Q} {S0 : zm_S} {l : List Int32} {ss : List Nat} {x y : Int32} (hy : x &&& 255 = y) (hl : l.length < 1341) (hq : Q none GG (st_cy S0 (l ++ [y]) ss)) : zc M_Cy_write d [.ref 16, .int x] (st_cy S0 l ss) Q := by
  have h1 : st_cy S0 l ss 16 1 = nI l.length := rfl
  have hlt : ¬ (1341 : Int32) ≤ nI l.length := nI_ge (b := 1341) hl (by decide)
  refine e_Cy_write (s_Cy_write_0 l.length (fun _ => ?_) (fun h => absurd h hlt) (fun _ => ?_))
  · rw [h1]; exact zm_ixN hl (by decide)
  · rw [h1, st_cy_push, hy]; exact hq
theorem c_Cy_writePair {d : Nat} {Q : zm_Q} {S0 : zm_S} {l : List Int32} {ss : List Nat} {v y z : Int32} (hy : (v >>> ((8 : Int32) &&& 31)) &&& 255 = y) (hz : v &&& 255 = z) (hl : l.length + 2 ≤ 1341) (hq : Q none GG (st_cy S0 (l ++ [y, z]) ss)) : zc M_Cy_writePair (d + 1) [.ref 16, .int v] (st_cy S0 l ss) Q := by
  refine e_Cy_writePair (s_Cy_writePair_0 (c_Cy_write hy (by omega) ?_))
  refine s_Cy_writePair_8 (c_Cy_write hz (by simp; omega) ?_)
  refine s_Cy_writePair_13 ?_
  simpa using hq
theorem c_Cy_writePr {d : Nat} {Q : zm_Q} {S0 : zm_S} {l : List Int32} {ss : List Nat} {n : Nat} (hn : n < 2147483648) (hl : l.length + 2 ≤ 1341) (hq : Q none GG (st_cy S0 (l ++ prl n) ss)) : zc M_Cy_writePair (d + 1) [.ref 16, .int (nI n)] (st_cy S0 l ss) Q :=
  c_Cy_writePair (by rw [nIsh8 hn, nIand (by omega)]) (nIand (by omega)) hl hq
theorem c_Cy_begin {d : Nat} {Q : zm_Q} {S0 : zm_S} {l : List Int32} {ss : List Nat} {t b : Nat} (ht : t < 256) (hb2 : 2 ≤ b) (hb : b < 254) (hs : ss.length < 73) (hl : l.length + 2 ≤ 1341) (hq : Q none GG (st_cy S0 (l ++ [nI t, nI (b + 2)]) (ss ++ [l.length]))) : zc M_Cy_begin (d + 1) [.ref 16, .int (nI t), .int (nI b)] (st_cy S0 l ss) Q := by
  have h3 : st_cy S0 l ss 16 3 = nI ss.length := rfl
  have h1 : st_cy S0 l ss 16 1 = nI l.length := rfl
  have hlt : ¬ (73 : Int32) ≤ nI ss.length := nI_ge (b := 73) hs (by decide)
  have eb : nI b - 2 + 4 = nI (b + 2) := by
    rw [show nI b - 2 = nI (b - 2) from pk_sub (b := 2) hb2, show nI (b - 2) + 4 = nI (b - 2 + 4) from nI_add _ 4]
    congr 1; omega
  refine e_Cy_begin (s_Cy_begin_0 ss.length (fun _ => by rw [h3]; exact zm_ixN hs (by decide)) (fun h => absurd h hlt) (fun _ => ?_))
  rw [h3, h1, st_cy_begin]
  refine c_Cy_write (y := nI t) (by rw [nIand (by omega)]; congr 1; omega) (by omega) ?_
  refine s_Cy_begin_40 ?_
  rw [eb]
  refine c_Cy_write (y := nI (b + 2)) (by rw [nIand (by omega)]; congr 1; omega) (by simp; omega) ?_
  refine s_Cy_begin_49 ?_
  simpa using hq
theorem range_dr {f : Nat → Int32} : ∀ (a b : List Int32), (List.range' a.length b.length).map (dr f (a ++ b)) = b := by
  intro a b
  apply List.ext_getElem?
  intro i
  rw [List.getElem?_map]
  by_cases h : i < b.length
  · rw [List.getElem?_range' h]
    simp only [Option.map_some]
    rw [dr_at (by simp; omega)]
    simp [List.getD, List.getElem?_append_right, h]
  · rw [List.getElem?_eq_none (by simp; omega), List.getElem?_eq_none (by omega)]; rfl
theorem c_Cy_writeCheck {d : Nat} {Q : zm_Q} {S0 : zm_S} {a b : List Int32} {ss : List Nat} (hs : ss.length < 73) (hl : (a ++ b).length + 4 ≤ 1341) (hq : Q none GG (st_cy S0 (a ++ (b ++ chk (crc (-1) b))) (ss ++ [a.length]))) : zc M_Cy_writeCheck (d + 2) [.ref 16] (st_cy S0 (a ++ b) (ss ++ [a.length])) Q := by
  have h3 : st_cy S0 (a ++ b) (ss ++ [a.length]) 16 3 = nI (ss.length + 1) := by
    show nI (ss ++ [a.length]).length = _
    simp
  have h18 : st_cy S0 (a ++ b) (ss ++ [a.length]) 18 ss.length = nI a.length := by
    show dr (S0 18) ((ss ++ [a.length]).map nI) ss.length = _
    rw [dr_at (by simp)]
    simp [List.getD]
  have h1 : st_cy S0 (a ++ b) (ss ++ [a.length]) 16 1 = nI (a ++ b).length := rfl
  simp only [List.length_append] at hl
  refine e_Cy_writeCheck (s_Cy_writeCheck_0 ss.length ?_ ?_)
  · rw [h3, nI_pred]; exact zm_ixN hs (by decide)
  · rw [h18, h1]
    refine c_CM_checkOf gg_17 (by decide) (by simp) (by simp; omega) ?_
    have hr : (List.range' a.length ((a ++ b).length - a.length)).map (st_cy S0 (a ++ b) (ss ++ [a.length]) 17) = b := by
      rw [show (a ++ b).length - a.length = b.length by simp]
      exact range_dr a b
    rw [hr]
    refine s_Cy_writeCheck_22 ?_
    have hn := tn_lt (crc (-1) b)
    rw [us16]
    refine c_Cy_writePair (y := byt (crc (-1) b) 24) (z := byt (crc (-1) b) 16) ?_ ?_ (by simp; omega) ?_
    · rw [nIsh8 (by omega), nIand (by omega), byt]; congr 1; omega
    · rw [nIand (by omega), byt]
    · refine s_Cy_writeCheck_31 ?_
      refine c_Cy_writePair (y := byt (crc (-1) b) 8) (z := byt (crc (-1) b) 0) (ss8 _) (and0 _) (by simp; omega) ?_
      refine s_Cy_writeCheck_36 ?_
      simpa [chk] using hq
