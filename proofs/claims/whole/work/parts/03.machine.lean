
-- shapes of cells in the order of making: an int (false) or boolean (true) array of n, or an object of class number ci; a slot is none (an int, kept in S) or some v
abbrev zm_Sh : Type := (Bool × Nat) ⊕ (Nat × List (Option Value))
abbrev zm_S : Type := Nat → Nat → Int32
abbrev zm_L : Type := List (Option Value)
abbrev zm_Q : Type := Option Int32 → List zm_Sh → zm_S → Prop
-- a method: name, (code, locals), return type
abbrev zm_M : Type := MethodName × (ByteArray × Nat) × Option FieldType
def zm_v (ad : Nat → Nat) : Value → Value
  | .ref k => .ref (ad k)
  | v => v
theorem zm_cat (ad : Nat → Nat) (v : Value) : (zm_v ad v).category = v.category := by cases v <;> rfl
def zm_o (ad : Nat → Nat) (S : zm_S) (k i : Nat) : Option Value → Value
  | none => .int (S k i)
  | some v => zm_v ad v
def zm_e (cI cZ : ClassId) (ad : Nat → Nat) (S : zm_S) (k : Nat) : zm_Sh → va_E
  | .inl (b, n) => .inl (cond b cZ cI, n, .inl (S k))
  | .inr (ci, rs) => .inr (ci, rs.mapIdx (fun i o => zm_o ad S k i o))
def zm_w (cI cZ : ClassId) (ad : Nat → Nat) (G : List zm_Sh) (S : zm_S) : va_W := G.mapIdx (fun k sh => (ad k, zm_e cI cZ ad S k sh))
theorem zm_w_at {cI cZ : ClassId} {ad : Nat → Nat} {G : List zm_Sh} {S : zm_S} (k : Nat) : (zm_w cI cZ ad G S)[k]? = (G[k]?).map (fun sh => (ad k, zm_e cI cZ ad S k sh)) := by
  unfold zm_w; rw [List.getElem?_mapIdx]
theorem zm_w_get {cI cZ : ClassId} {ad : Nat → Nat} {G : List zm_Sh} {S : zm_S} {k : Nat} {sh : zm_Sh} (h : G[k]? = some sh) : (zm_w cI cZ ad G S)[k]? = some (ad k, zm_e cI cZ ad S k sh) := by
  rw [zm_w_at, h]; rfl
def zm_up (S : zm_S) (k i : Nat) (x : Int32) : zm_S := fun a => if a = k then upd (S k) i x else S a
def zm_upA (S : zm_S) (k : Nat) (f : Nat → Int32) : zm_S := fun a => if a = k then f else S a
theorem zm_up_self (S : zm_S) (k i : Nat) (x : Int32) : zm_up S k i x k = upd (S k) i x := by simp [zm_up]
theorem zm_up_ne (S : zm_S) {k a : Nat} (i : Nat) (x : Int32) (h : a ≠ k) : zm_up S k i x a = S a := by simp [zm_up, h]
theorem zm_upA_self (S : zm_S) (k : Nat) (f : Nat → Int32) : zm_upA S k f k = f := by simp [zm_upA]
theorem zm_upA_ne (S : zm_S) {k a : Nat} (f : Nat → Int32) (h : a ≠ k) : zm_upA S k f a = S a := by simp [zm_upA, h]
theorem zm_e_congr {cI cZ : ClassId} {ad : Nat → Nat} {S S' : zm_S} {k : Nat} (h : S k = S' k) (sh : zm_Sh) : zm_e cI cZ ad S k sh = zm_e cI cZ ad S' k sh := by
  rcases sh with ⟨b, n⟩ | ⟨ci, rs⟩
  · simp [zm_e, h]
  · have e : (fun (i : Nat) (o : Option Value) => zm_o ad S k i o) = (fun (i : Nat) (o : Option Value) => zm_o ad S' k i o) := by
      funext i o
      cases o with
      | none => show Value.int (S k i) = Value.int (S' k i); rw [h]
      | some v => rfl
    simp only [zm_e, e]
-- one cell changed
theorem zm_w_set {cI cZ : ClassId} {ad : Nat → Nat} {G G' : List zm_Sh} {S S' : zm_S} {k : Nat} {e : va_E} {sh sh' : zm_Sh} (hk : G[k]? = some sh) (hl : ∀ j, j ≠ k → G'[j]? = G[j]?) (hs : ∀ j, j ≠ k → S' j = S j) (hk' : G'[k]? = some sh') (he : zm_e cI cZ ad S' k sh' = e) : (zm_w cI cZ ad G S).set k (ad k, e) = zm_w cI cZ ad G' S' := by
  apply List.ext_getElem?
  intro j
  by_cases hj : j = k
  · subst hj
    have h1 : j < (zm_w cI cZ ad G S).length := (List.getElem?_eq_some_iff.mp (zm_w_get hk)).1
    rw [List.getElem?_set_self h1, zm_w_get hk', he]
  · rw [List.getElem?_set_ne (Ne.symm hj), zm_w_at, zm_w_at, hl j hj]
    cases G[j]? with
    | none => rfl
    | some x => simp only [Option.map_some]; rw [zm_e_congr (hs j hj).symm]
theorem zm_w_up {cI cZ : ClassId} {ad : Nat → Nat} {G : List zm_Sh} {S : zm_S} {k i n : Nat} {b : Bool} {x : Int32} (hk : G[k]? = some (.inl (b, n))) : (zm_w cI cZ ad G S).set k (ad k, .inl (cond b cZ cI, n, .inl (upd (S k) i x))) = zm_w cI cZ ad G (zm_up S k i x) :=
  zm_w_set hk (fun _ _ => rfl) (fun j hj => zm_up_ne S i x hj) hk (by simp [zm_e, zm_up_self])
theorem zm_w_upA {cI cZ : ClassId} {ad : Nat → Nat} {G : List zm_Sh} {S : zm_S} {k n : Nat} {b : Bool} {f : Nat → Int32} (hk : G[k]? = some (.inl (b, n))) : (zm_w cI cZ ad G S).set k (ad k, .inl (cond b cZ cI, n, .inl f)) = zm_w cI cZ ad G (zm_upA S k f) :=
  zm_w_set hk (fun _ _ => rfl) (fun j hj => zm_upA_ne S f hj) hk (by simp [zm_e, zm_upA_self])
theorem zm_w_upo {cI cZ : ClassId} {ad : Nat → Nat} {G : List zm_Sh} {S : zm_S} {k i ci : Nat} {rs : List (Option Value)} {x : Int32} (hk : G[k]? = some (.inr (ci, rs))) (hi : rs[i]? = some none) : (zm_w cI cZ ad G S).set k (ad k, .inr (ci, (rs.mapIdx (fun i o => zm_o ad S k i o)).set i (.int x))) = zm_w cI cZ ad G (zm_up S k i x) := by
  refine zm_w_set hk (fun _ _ => rfl) (fun j hj => zm_up_ne S i x hj) hk ?_
  have e : rs.mapIdx (fun i o => zm_o ad (zm_up S k i x) k i o) = rs.mapIdx (fun i o => zm_o ad (zm_up S k i x) k i o) := rfl
  show Sum.inr (ci, rs.mapIdx (fun a o => zm_o ad (zm_up S k i x) k a o)) = _
  congr 2
  apply List.ext_getElem?
  intro j
  rw [List.getElem?_mapIdx]
  by_cases hj : j = i
  · subst hj
    have h1 : j < (rs.mapIdx (fun i o => zm_o ad S k i o)).length := by rw [List.length_mapIdx]; exact (List.getElem?_eq_some_iff.mp hi).1
    rw [List.getElem?_set_self h1, hi]
    show some (Value.int (zm_up S k j x k j)) = _
    rw [zm_up_self]; simp [upd]
  · rw [List.getElem?_set_ne (Ne.symm hj), List.getElem?_mapIdx]
    cases rs[j]? with
    | none => rfl
    | some o =>
      cases o with
      | none => show some (Value.int (zm_up S k i x k j)) = some (Value.int (S k j)); rw [zm_up_self]; simp [upd, hj]
      | some v => rfl
theorem zm_w_upr {cI cZ : ClassId} {ad : Nat → Nat} {G : List zm_Sh} {S : zm_S} {k i ci : Nat} {rs : List (Option Value)} {o : Value} {v : Value} (hk : G[k]? = some (.inr (ci, rs))) (hi : rs[i]? = some (some o)) : (zm_w cI cZ ad G S).set k (ad k, .inr (ci, (rs.mapIdx (fun i o => zm_o ad S k i o)).set i (zm_v ad v))) = zm_w cI cZ ad (G.set k (.inr (ci, rs.set i (some v)))) S := by
  have hkl := (List.getElem?_eq_some_iff.mp hk).1
  have hil := (List.getElem?_eq_some_iff.mp hi).1
  refine zm_w_set hk (fun j hj => List.getElem?_set_ne (Ne.symm hj)) (fun j hj => rfl) (List.getElem?_set_self hkl) ?_
  show Sum.inr (ci, (rs.set i (some v)).mapIdx (fun a o => zm_o ad S k a o)) = _
  congr 2
  apply List.ext_getElem?
  intro j
  rw [List.getElem?_mapIdx]
  by_cases hj : j = i
  · subst hj
    rw [List.getElem?_set_self hil, List.getElem?_set_self (by rw [List.length_mapIdx]; exact hil)]
    rfl
  · rw [List.getElem?_set_ne (Ne.symm hj), List.getElem?_set_ne (Ne.symm hj), List.getElem?_mapIdx]
-- references below n (or the script's position)
def zm_lt (n : Nat) : Value → Bool
  | .ref k => Nat.blt k n || k == 1000000
  | _ => true
def zm_lto (n : Nat) : Option Value → Bool
  | none => true
  | some v => zm_lt n v
def zm_ltG (n : Nat) (G : List zm_Sh) : Bool := G.all (fun sh => match sh with
  | .inl _ => true
  | .inr (_, rs) => rs.all (zm_lto n))
def zm_ltL (n : Nat) (L : zm_L) : Bool := L.all (zm_lto n)
def zm_ltS (n : Nat) (st : List Value) : Bool := st.all (zm_lt n)
theorem zm_v_eq {ad ad' : Nat → Nat} {n : Nat} (ha : ∀ k, k < n ∨ k = 1000000 → ad' k = ad k) {v : Value} (h : zm_lt n v = true) : zm_v ad' v = zm_v ad v := by
  cases v with
  | ref k =>
    simp only [zm_lt, Bool.or_eq_true, Nat.blt_eq, beq_iff_eq] at h
    show Value.ref (ad' k) = Value.ref (ad k)
    rw [ha k h]
  | _ => rfl
theorem zm_o_eq {ad ad' : Nat → Nat} {n : Nat} (ha : ∀ k, k < n ∨ k = 1000000 → ad' k = ad k) {S : zm_S} {k i : Nat} {o : Option Value} (h : zm_lto n o = true) : zm_o ad' S k i o = zm_o ad S k i o := by
  cases o with
  | none => rfl
  | some v => exact zm_v_eq ha h
theorem zm_S_eq {ad ad' : Nat → Nat} {n : Nat} (ha : ∀ k, k < n ∨ k = 1000000 → ad' k = ad k) {st : List Value} (h : zm_ltS n st = true) : st.map (zm_v ad') = st.map (zm_v ad) := by
  apply List.map_congr_left
  intro v hv
  exact zm_v_eq ha (List.all_eq_true.mp h v hv)
-- a new cell at the end
theorem zm_w_push {cI cZ : ClassId} {ad : Nat → Nat} {G : List zm_Sh} {S S' : zm_S} {q : Nat} {sh : zm_Sh} {e : va_E} {ad' : Nat → Nat} (hG : zm_ltG G.length G = true) (ha : ∀ k, k < G.length ∨ k = 1000000 → ad' k = ad k) (hq : ad' G.length = q) (hS : ∀ k, k < G.length → S' k = S k) (he : zm_e cI cZ ad' S' G.length sh = e) : zm_w cI cZ ad G S ++ [(q, e)] = zm_w cI cZ ad' (G ++ [sh]) S' := by
  apply List.ext_getElem?
  intro j
  have hlen : (zm_w cI cZ ad G S).length = G.length := by unfold zm_w; rw [List.length_mapIdx]
  rw [zm_w_at]
  by_cases hj : j < G.length
  · rw [List.getElem?_append_left (by rw [hlen]; exact hj), List.getElem?_append_left hj, zm_w_at]
    have h1 : G[j]? = some G[j] := List.getElem?_eq_getElem hj
    rw [h1]
    simp only [Option.map_some]
    rw [ha j (Or.inl hj)]
    have h2 := List.all_eq_true.mp hG G[j] (List.getElem_mem hj)
    have h3 : zm_e cI cZ ad S j G[j] = zm_e cI cZ ad' S' j G[j] := by
      rw [zm_e_congr (hS j hj).symm]
      generalize G[j] = x at h2
      rcases x with ⟨b, n⟩ | ⟨ci, rs⟩
      · rfl
      · show Sum.inr (ci, _) = Sum.inr (ci, _)
        congr 2
        apply List.ext_getElem?
        intro i
        rw [List.getElem?_mapIdx, List.getElem?_mapIdx]
        cases hri : rs[i]? with
        | none => rfl
        | some o =>
          simp only [Option.map_some]
          rw [zm_o_eq ha (List.all_eq_true.mp h2 o (List.mem_of_getElem? hri))]
    rw [h3]
  · by_cases hj2 : j = G.length
    · subst hj2
      rw [List.getElem?_append_right (by rw [hlen]; omega), List.getElem?_append_right (by omega), hlen]
      simp [hq, he]
    · rw [List.getElem?_append_right (by rw [hlen]; omega), List.getElem?_append_right (by omega), hlen]
      have h1 : ∃ z, j - G.length = z + 1 := ⟨j - G.length - 1, by omega⟩
      obtain ⟨z, hz⟩ := h1
      rw [hz]; rfl
-- locals
def zm_as (ad : Nat → Nat) (L : zm_L) : List (Nat × Value) := (List.range L.length).filterMap (fun i => (L[i]?.join).map (fun v => (i, zm_v ad v)))
def zm_LV (ad : Nat → Nat) (ls : Array Slot) (L : zm_L) : Prop := ls.size = L.length ∧ lv_wf ls ∧ ∀ (i : Nat) (v : Value), L[i]? = some (some v) → v.category = 1 ∧ ls[i]? = some (.val (zm_v ad v))
theorem zm_as_mem {ad : Nat → Nat} {L : zm_L} {q : Nat × Value} : q ∈ zm_as ad L ↔ ∃ v, L[q.1]? = some (some v) ∧ q.2 = zm_v ad v := by
  constructor
  · intro h
    obtain ⟨i, hi, h2⟩ := List.mem_filterMap.mp h
    cases h3 : L[i]? with
    | none => rw [h3] at h2; cases h2
    | some o =>
      rw [h3] at h2
      cases o with
      | none => cases h2
      | some v => simp only [Option.join_some, Option.map_some, Option.some.injEq] at h2; subst h2; exact ⟨v, h3, rfl⟩
  · rintro ⟨v, h1, h2⟩
    refine List.mem_filterMap.mpr ⟨q.1, List.mem_range.mpr (List.getElem?_eq_some_iff.mp h1).1, ?_⟩
    rw [h1]; simp only [Option.join_some, Option.map_some, ← h2]
theorem zm_LV.has {ad : Nat → Nat} {ls : Array Slot} {L : zm_L} (h : zm_LV ad ls L) : lv_has ls L.length (zm_as ad L) := by
  refine ⟨h.1, h.2.1, fun q hq => ?_⟩
  obtain ⟨v, h1, h2⟩ := zm_as_mem.mp hq
  rw [h2]; exact (h.2.2 q.1 v h1).2
theorem zm_LV.at {ad : Nat → Nat} {ls : Array Slot} {L : zm_L} (h : zm_LV ad ls L) {i : Nat} {v : Value} (hi : L[i]? = some (some v)) : ls[i]? = some (.val (zm_v ad v)) := (h.2.2 i v hi).2
theorem zm_LV.store {ad : Nat → Nat} {ls ls' : Array Slot} {L : zm_L} {i : Nat} {v : Value} (h : zm_LV ad ls L) (hc : v.category = 1) (h2 : lv_has ls' L.length ((i, zm_v ad v) :: (zm_as ad L).filter (fun q => !(q.1 == i) && !(q.1 + 1 == i && q.2.category == 2)))) : zm_LV ad ls' (L.set i (some v)) := by
  refine ⟨by rw [List.length_set]; exact h2.1, h2.2.1, fun j w hj => ?_⟩
  by_cases e : j = i
  · subst e
    rw [List.getElem?_set_self (by rw [← List.length_set]; exact (List.getElem?_eq_some_iff.mp hj).1)] at hj
    cases hj
    exact ⟨hc, h2.2.2 (j, zm_v ad v) List.mem_cons_self⟩
  · rw [List.getElem?_set_ne (Ne.symm e)] at hj
    have hw := h.2.2 j w hj
    refine ⟨hw.1, h2.2.2 (j, zm_v ad w) (List.mem_cons_of_mem _ (List.mem_filter.mpr ⟨zm_as_mem.mpr ⟨w, hj, rfl⟩, ?_⟩))⟩
    have hw1 : (zm_v ad w).category = 1 := by rw [zm_cat]; exact hw.1
    simp [e, hw1]
theorem zm_LV.re {ad ad' : Nat → Nat} {ls : Array Slot} {L : zm_L} {n : Nat} (h : zm_LV ad ls L) (ha : ∀ k, k < n ∨ k = 1000000 → ad' k = ad k) (hn : zm_ltL n L = true) : zm_LV ad' ls L := by
  refine ⟨h.1, h.2.1, fun i v hi => ⟨(h.2.2 i v hi).1, ?_⟩⟩
  rw [zm_v_eq ha (List.all_eq_true.mp hn _ (List.mem_of_getElem? hi))]
  exact (h.2.2 i v hi).2
-- fewer locals
def zm_leL : zm_L → zm_L → Bool
  | [], [] => true
  | none :: a, _ :: b => zm_leL a b
  | some v :: a, some w :: b => decide (v = w) && zm_leL a b
  | _, _ => false
def zm_LE (a b : zm_L) : Prop := a.length = b.length ∧ ∀ (i : Nat) (v : Value), a[i]? = some (some v) → b[i]? = some (some v)
theorem zm_LE.nil : zm_LE [] [] := ⟨rfl, fun i v h => by simp at h⟩
theorem zm_LE.skip {a b : zm_L} {o : Option Value} (h : zm_LE a b) : zm_LE (none :: a) (o :: b) := by
  refine ⟨by simp [h.1], fun i v hi => ?_⟩
  cases i with
  | zero => simp at hi
  | succ i => simpa using h.2 i v (by simpa using hi)
theorem zm_LE.cons {a b : zm_L} {o : Option Value} (h : zm_LE a b) : zm_LE (o :: a) (o :: b) := by
  refine ⟨by simp [h.1], fun i v hi => ?_⟩
  cases i with
  | zero => simpa using hi
  | succ i => simpa using h.2 i v (by simpa using hi)
theorem zm_LV.le {ad : Nat → Nat} {ls : Array Slot} {a b : zm_L} (h : zm_LV ad ls b) (hl : zm_LE a b) : zm_LV ad ls a := ⟨by rw [hl.1]; exact h.1, h.2.1, fun i v hi => h.2.2 i v (hl.2 i v hi)⟩
-- the good words of the tables, and those of nest mates
def zm_all : List Cond := lw_tbl.filter goodWord
def zm_isN : Cond → Bool
  | .methodLinkNest .. => true
  | .fieldLinkNest .. => true
  | _ => false
def zm_N (U : State) : Prop := ∀ w ∈ lw_tbl, zm_isN w = true → va_Nw w U
theorem zm_N.warm {s U : State} (hW : s.WarmedH U.vm) (h : zm_N s) : zm_N U := by
  intro w hw hn
  have h1 := h w hw hn
  cases w <;> first | exact va_Nw.warmM hW h1 | exact va_Nw.warmF hW h1 | exact absurd hn (by simp [zm_isN])
theorem zm_isN_on {w : Cond} (hn : zm_isN w = true) : w.onTables = true := by cases w <;> first | rfl | exact absurd hn (by simp [zm_isN])
theorem zm_N.same {s U : State} (hv : s.vm = U.vm) (h : zm_N s) : zm_N U := fun w hw hn => va_Nw.same (zm_isN_on hn) hv (h w hw hn)
-- the context of a running frame
def zm_ps : Option Int32 → List Value → List Value
  | none, st => st
  | some x, st => .int x :: st
def zm_tys (cI cZ : ClassId) : List (ClassId × FieldType) := [(cI, .int), (cZ, .boolean)]
def zm_room (d mc ms : Nat) : Room := { frames := d, cells := mc, slots := ms, locals := 44 * d }
def zm_rd (M : zm_M) (pc : Nat) : Option Int32 → Prop
  | none => M.2.2 = none ∧ decode M.2.1.1 pc = .ok (.return_, 1)
  | some x => (∃ ty, M.2.2 = some ty ∧ narrow ty (.int x) = .int x) ∧ decode M.2.1.1 pc = .ok (.ireturn, 1)
def zm_Cx (M : zm_M) (sc : Option (Nat × (Nat → Int32))) (d mc ms : Nat) (Q : zm_Q)
    (p : Program) (l : Launch) (e : Env) (R : Room) (s : State) (m : MethodId) (args : Array Value) (below : List Frame) (meth : Method) (c : Code)
    (D : va_G) (cI cZ : ClassId) (A : Nat → Prop) (QM : State → Prop) (ad0 : Nat → Nat) (n0 : Nat) : Prop :=
  p.tables.exec = Jvm.exec ∧ c.code = M.2.1.1 ∧ c.maxLocals = M.2.1.2 ∧ s.vm.findClass M.1.cls = some m.cls ∧ ((∀ w ∈ zm_all, w.before args s = true) ∧ zm_N s) ∧
  va_K D zcl (zm_tys cI cZ) s ∧ (∀ q, s.heap.size ≤ q → A q) ∧ (d ≤ R.frames ∧ 44 * d ≤ R.locals ∧ mc ≤ R.cells ∧ ms ≤ R.slots) ∧ meth.name = M.1.name ∧
  (∀ Lx, sc = some Lx → va_X (ad0 1000000) Lx.1 Lx.2 s s.heap ∧ ad0 1000000 < s.heap.size ∧ ¬ A (ad0 1000000)) ∧
  (∀ (v : Option Int32) (pc : Nat) (ls : Array Slot) (H : Heap) (locs : List Loc) (ad : Nat → Nat) (G : List zm_Sh) (S : zm_S) (nc ns : Nat),
    zm_rd M pc v → (∀ k, k < n0 ∨ k = 1000000 → ad k = ad0 k) → n0 ≤ G.length → va_P D zcl (zm_w cI cZ ad G S) H → va_D A (zm_w cI cZ ad G S) → va_S A s.heap H locs → nc ≤ mc → ns ≤ ms → Q v G S →
    W p l e R s m args below meth c H locs nc ns QM (F0 m pc ls (zm_ps v [])))
def zm_WP (M : zm_M) (sc : Option (Nat × (Nat → Int32))) (d mc ms : Nat) (Q : zm_Q) (pc : Nat) (L : zm_L) (st : List Value) (G : List zm_Sh) (S : zm_S) (nc ns : Nat) : Prop :=
  ∀ (p : Program) (l : Launch) (e : Env) (R : Room) (s : State) (m : MethodId) (args : Array Value) (below : List Frame) (meth : Method) (c : Code) (D : va_G) (cI cZ : ClassId) (A : Nat → Prop) (QM : State → Prop) (ad0 : Nat → Nat) (n0 : Nat),
    zm_Cx M sc d mc ms Q p l e R s m args below meth c D cI cZ A QM ad0 n0 →
    ∀ (ad : Nat → Nat) (H : Heap) (locs : List Loc) (ls : Array Slot), (∀ k, k < n0 ∨ k = 1000000 → ad k = ad0 k) → n0 ≤ G.length → va_P D zcl (zm_w cI cZ ad G S) H → va_D A (zm_w cI cZ ad G S) → va_S A s.heap H locs → zm_LV ad ls L → L.length = M.2.1.2 →
      W p l e R s m args below meth c H locs nc ns QM (F0 m pc ls (st.map (zm_v ad)))
-- contracts
def zm_ws (M : zm_M) : List Cond := .code M.1 M.2.1.1 M.2.1.2 M.2.2 :: zm_all
def zm_Pc (D : va_G) (cI cZ : ClassId) (ad : Nat → Nat) (sz : Nat) (av : List Value) (G : List zm_Sh) (S : zm_S) : Array Value → State → Prop :=
  va_Pc (av.map (zm_v ad)) (fun U => U.heap.size = sz ∧ va_P D zcl (zm_w cI cZ ad G S) U.heap ∧ va_K D zcl (zm_tys cI cZ) U ∧ va_D (fun _ => True) (zm_w cI cZ ad G S) ∧ zm_N U)
def zm_B (D : va_G) (cI cZ : ClassId) (ad : Nat → Nat) (sz : Nat) (G : List zm_Sh) (S : zm_S) (Q : zm_Q) (oc : Outcome) (t : State) : Prop :=
  ∃ (v : Option Int32) (ad' : Nat → Nat) (G' : List zm_Sh) (S' : zm_S), oc = .returned (v.map Value.int) ∧ Q v G' S' ∧ (∀ k, k < G.length ∨ k = 1000000 → ad' k = ad k) ∧ G.length ≤ G'.length ∧ va_P D zcl (zm_w cI cZ ad' G' S') t.heap ∧ va_D (va_A (zm_w cI cZ ad G S) sz) (zm_w cI cZ ad' G' S')
def zm_Qc (D : va_G) (cI cZ : ClassId) (ad : Nat → Nat) (sz : Nat) (G : List zm_Sh) (S : zm_S) (Q : zm_Q) : Array Value → State → Outcome → State → Prop :=
  fun _ st oc t => zm_B D cI cZ ad sz G S Q oc t ∧ va_F (va_A (zm_w cI cZ ad G S) sz) st t
def zm_CC (M : zm_M) (d mc ms : Nat) (av : List Value) (G : List zm_Sh) (S : zm_S) (Q : zm_Q) : Prop :=
  ∀ (l : Launch) (D : va_G) (cI cZ : ClassId) (ad : Nat → Nat) (sz : Nat), Met l M.1 (zm_ws M) (zm_room d mc ms) (zm_Pc D cI cZ ad sz av G S) (zm_Qc D cI cZ ad sz G S Q) mc ms (va_A (zm_w cI cZ ad G S) sz)
-- the entry of a method
def zm_c1 (av : List Value) : Bool := av.all (fun v => v.category == 1)
theorem zm_sl_len : ∀ vs : List Value, (∀ v ∈ vs, v.category = 1) → lg_sl vs = vs.map Slot.val
  | [], _ => rfl
  | v :: vs, h => by
    have h1 := h v List.mem_cons_self
    have ih := zm_sl_len vs (fun w hw => h w (List.mem_cons_of_mem _ hw))
    simp only [lg_sl, List.flatMap_cons, h1, List.map_cons] at ih ⊢
    rw [ih]; simp
theorem zm_args_mem : ∀ (vs : List Value) (k i : Nat) (v : Value), (∀ v ∈ vs, v.category = 1) → vs[i]? = some v → (k + i, v) ∈ lv_args k vs
  | [], _, i, _, _, h => by simp at h
  | w :: vs, k, i, v, hc, h => by
    have h1 := hc w List.mem_cons_self
    have e : lv_args k (w :: vs) = (k, w) :: lv_args (k + 1) vs := by simp [lv_args, h1]
    rw [e]
    cases i with
    | zero => simp at h; subst h; exact List.mem_cons_self
    | succ i =>
      have := zm_args_mem vs (k + 1) i v (fun w hw => hc w (List.mem_cons_of_mem _ hw)) (by simpa using h)
      rw [show k + (i + 1) = k + 1 + i by omega]
      exact List.mem_cons_of_mem _ this
theorem zm_entry {ad : Nat → Nat} {av : List Value} {n : Nat} (hc : zm_c1 av = true) (hn : av.length ≤ n) : zm_LV ad ((lg_sl (av.map (zm_v ad)) ++ List.replicate (n - (lg_sl (av.map (zm_v ad))).length) Slot.unset).toArray) (av.map some ++ List.replicate (n - av.length) none) := by
  have hcv : ∀ v ∈ av, v.category = 1 := fun v hv => by simpa using List.all_eq_true.mp hc v hv
  have hcw : ∀ v ∈ av.map (zm_v ad), v.category = 1 := by
    intro v hv
    obtain ⟨w, hw, rfl⟩ := List.mem_map.mp hv
    rw [zm_cat]; exact hcv w hw
  have hlen : (lg_sl (av.map (zm_v ad))).length = av.length := by rw [zm_sl_len _ hcw]; simp
  have h := lv_entry (av.map (zm_v ad)) (n := n) (by rw [hlen]; exact hn)
  refine ⟨by rw [h.1]; simp; omega, h.2.1, fun i v hi => ?_⟩
  have hi2 : av[i]? = some v := by
    by_cases hlt : i < av.length
    · rw [List.getElem?_append_left (by simpa using hlt), List.getElem?_map] at hi
      cases hh : av[i]? with
      | none => rw [hh] at hi; cases hi
      | some w => rw [hh] at hi; simp only [Option.map_some, Option.some.injEq] at hi; rw [hi]
    · rw [List.getElem?_append_right (by simpa using hlt)] at hi
      have := List.mem_of_getElem? hi
      rw [List.mem_replicate] at this
      cases this.2
  refine ⟨hcv v (List.mem_of_getElem? hi2), ?_⟩
  have hm := zm_args_mem (av.map (zm_v ad)) 0 i (zm_v ad v) hcw (by rw [List.getElem?_map, hi2]; rfl)
  rw [Nat.zero_add] at hm
  exact h.2.2 (i, zm_v ad v) hm
theorem zm_CC_intro {M : zm_M} {d mc ms : Nat} {av : List Value} {G : List zm_Sh} {S : zm_S} {Q : zm_Q} (hy : plainName M.1.cls = true) (hc : zm_c1 av = true) (hn : Nat.ble av.length M.2.1.2 = true) (hw : zm_WP M none d mc ms Q 0 (av.map some ++ List.replicate (M.2.1.2 - av.length) none) [] G S 0 0) : zm_CC M d mc ms av G S Q := by
  intro l D cI cZ ad sz
  refine Met.ofW (cc := M.2.1.1) (maxL := M.2.1.2) (ret := M.2.2) hy rfl ?_
  intro p e s m args below meth c s₁ B hml hv
  obtain ⟨rfl, hsz, hP, hK, hD0, hN⟩ := hv
  have hx := B.exec
  have hb := B.bytes
  have hr := B.returns
  have hts := atoms_spec (ws := zm_ws M) B.pre
  have hown : s.vm.findClass M.1.cls = some m.cls := findClass_of_methodNamed B.named
  have hlocks := B.notSynchronized
  have hin : meth.name = M.1.name := (name_of_methodNamed B.named B.method).1
  subst hsz
  have hD := hD0.self (sz := s.heap.size)
  have hnl := Nat.le_of_ble_eq_true hn
  rw [lg_entry_eq]
  refine hw p l e _ s m _ below meth c D cI cZ (va_A (zm_w cI cZ ad G S) s.heap.size) _ ad G.length ?_ ad s.heap [] _ (fun _ _ => rfl) (Nat.le_refl _) hP hD va_S.rf (zm_entry hc hnl) (by simp; omega)
  refine ⟨hx, hb, hml, hown, ⟨fun w h => hts w (List.mem_cons_of_mem _ h), hN⟩, hK, fun q h => Or.inr h, ⟨Nat.le_refl _, Nat.le_refl _, Nat.le_refl _, Nat.le_refl _⟩, hin, (fun Lx h => by cases h), ?_⟩
  intro v pc ls H locs ad' G' S' nc ns hd ha hG hP1 hD1 hS1 h1 h2 hQ
  refine W.widen (k := mc) (n := ms) h1 h2 ?_
  cases v with
  | none =>
    obtain ⟨hr0, hd⟩ := hd
    exact W.vret hx hb (hr.trans hr0) (fun t ht hW => ⟨⟨none, ad', G', S', rfl, hQ, ha, hG, by rw [ht]; exact hP1, hD1⟩, hS1.F ht⟩) hS1.2.2 hd hlocks
  | some x =>
    obtain ⟨⟨ty, hr0, hnar⟩, hd⟩ := hd
    exact W.zret hx hb (hr.trans hr0) hnar (fun t ht hW => ⟨⟨some x, ad', G', S', rfl, hQ, ha, hG, by rw [ht]; exact hP1, hD1⟩, hS1.F ht⟩) hS1.2.2 hd hlocks
-- behind a call
theorem zm_cont {p : Program} {l : Launch} {e : Env} {R : Room} {s : State} {m : MethodId} {args : Array Value} {below : List Frame} {meth : Method} {c : Code} {H : Heap} {locs : List Loc} {cells slots : Nat} {Q : State → Prop} {pc : Nat} {ls : Array Slot} {rest st0 : List Value} {A0 A1 : Nat → Prop} {H0 : Heap} {mc ms : Nat} {free : Addr → Prop} {B : Outcome → State → Prop} {Qa : State → Outcome → State → Prop}
    (hr : va_Run p l e R s m args below meth c H locs cells slots mc ms (F0 m pc ls st0) rest Qa free) (hQ : ∀ st oc t, Qa st oc t → B oc t ∧ va_F A1 st t) (hS : va_S A0 H0 H locs) (hA : ∀ q, q < H.size → A1 q → A0 q) (hf : ∀ q, free q → A0 q)
    (kk : ∀ (v : Option Value) (t : State) (H1 : Heap) (locs1 : List Loc), t.heap = H1 → s.vm.Alike t.vm → B (.returned v) t → H.size ≤ H1.size → va_S A0 H0 H1 locs1 → W p l e R s m args below meth c H1 locs1 (cells + mc) (slots + ms) Q (F0 m (pc + 3) ls (v.toList ++ rest))) : W p l e R s m args below meth c H locs cells slots Q (F0 m pc ls st0) := by
  intro T hT X
  obtain ⟨v, st₀, t, T', L, h0, X', hL, e1, e2, hq, st⟩ := hr T hT X
  obtain ⟨hb, hz, hk⟩ := hQ _ _ _ hq
  rw [h0] at hz hk
  obtain ⟨t2, a1, b1⟩ := kk v t T'.heap (locs ++ L) e1.symm (by rw [← e2]; exact X'.warmed.alike) hb (by rw [e1]; exact hz)
    ⟨Nat.le_trans hS.1 (by rw [e1]; exact hz), fun q h1 h2 => by rw [e1, hk q (Nat.lt_of_lt_of_le h1 hS.1) (fun z => h2 (hA q (Nat.lt_of_lt_of_le h1 hS.1) z))]; exact hS.2.1 q h1 h2, fun q hq => by
      rcases List.mem_append.mp hq with h | h
      · exact hS.2.2 q h
      · exact hf _ (hL q h)⟩ T' rfl X'
  exact ⟨t2, st t2 a1, b1⟩

section
variable {M : zm_M} {sc : Option (Nat × (Nat → Int32))} {d mc ms : Nat} {Q : zm_Q} {pc : Nat} {L : zm_L} {st : List Value} {G : List zm_Sh} {S : zm_S} {nc ns : Nat}
theorem zr_iadd {x y : Int32} {n : Nat} (hd : decode M.2.1.1 pc = .ok (.iadd, 1)) (hn : pc + 1 = n) (k : zm_WP M sc d mc ms Q n L (.int (x + y) :: st) G S nc ns) : zm_WP M sc d mc ms Q pc L (.int y :: .int x :: st) G S nc ns := by
  subst hn
  intro p l e R s m args below meth c D cI cZ A QM ad0 n0 X ad H locs ls h1 h2 hP hD hS hl hz
  exact lv_iadd X.1 X.2.1 hd (k p l e R s m args below meth c D cI cZ A QM ad0 n0 X ad H locs ls h1 h2 hP hD hS hl hz)
theorem zr_isub {x y : Int32} {n : Nat} (hd : decode M.2.1.1 pc = .ok (.isub, 1)) (hn : pc + 1 = n) (k : zm_WP M sc d mc ms Q n L (.int (x - y) :: st) G S nc ns) : zm_WP M sc d mc ms Q pc L (.int y :: .int x :: st) G S nc ns := by
  subst hn
  intro p l e R s m args below meth c D cI cZ A QM ad0 n0 X ad H locs ls h1 h2 hP hD hS hl hz
  exact lv_isub X.1 X.2.1 hd (k p l e R s m args below meth c D cI cZ A QM ad0 n0 X ad H locs ls h1 h2 hP hD hS hl hz)
theorem zr_imul {x y : Int32} {n : Nat} (hd : decode M.2.1.1 pc = .ok (.imul, 1)) (hn : pc + 1 = n) (k : zm_WP M sc d mc ms Q n L (.int (x * y) :: st) G S nc ns) : zm_WP M sc d mc ms Q pc L (.int y :: .int x :: st) G S nc ns := by
  subst hn
  intro p l e R s m args below meth c D cI cZ A QM ad0 n0 X ad H locs ls h1 h2 hP hD hS hl hz
  exact lv_imul X.1 X.2.1 hd (k p l e R s m args below meth c D cI cZ A QM ad0 n0 X ad H locs ls h1 h2 hP hD hS hl hz)
theorem zr_iand {x y : Int32} {n : Nat} (hd : decode M.2.1.1 pc = .ok (.iand, 1)) (hn : pc + 1 = n) (k : zm_WP M sc d mc ms Q n L (.int (x &&& y) :: st) G S nc ns) : zm_WP M sc d mc ms Q pc L (.int y :: .int x :: st) G S nc ns := by
  subst hn
  intro p l e R s m args below meth c D cI cZ A QM ad0 n0 X ad H locs ls h1 h2 hP hD hS hl hz
  exact lv_iand X.1 X.2.1 hd (k p l e R s m args below meth c D cI cZ A QM ad0 n0 X ad H locs ls h1 h2 hP hD hS hl hz)
theorem zr_ior {x y : Int32} {n : Nat} (hd : decode M.2.1.1 pc = .ok (.ior, 1)) (hn : pc + 1 = n) (k : zm_WP M sc d mc ms Q n L (.int (x ||| y) :: st) G S nc ns) : zm_WP M sc d mc ms Q pc L (.int y :: .int x :: st) G S nc ns := by
  subst hn
  intro p l e R s m args below meth c D cI cZ A QM ad0 n0 X ad H locs ls h1 h2 hP hD hS hl hz
  exact lv_ior X.1 X.2.1 hd (k p l e R s m args below meth c D cI cZ A QM ad0 n0 X ad H locs ls h1 h2 hP hD hS hl hz)
theorem zr_ixor {x y : Int32} {n : Nat} (hd : decode M.2.1.1 pc = .ok (.ixor, 1)) (hn : pc + 1 = n) (k : zm_WP M sc d mc ms Q n L (.int (x ^^^ y) :: st) G S nc ns) : zm_WP M sc d mc ms Q pc L (.int y :: .int x :: st) G S nc ns := by
  subst hn
  intro p l e R s m args below meth c D cI cZ A QM ad0 n0 X ad H locs ls h1 h2 hP hD hS hl hz
  exact lv_ixor X.1 X.2.1 hd (k p l e R s m args below meth c D cI cZ A QM ad0 n0 X ad H locs ls h1 h2 hP hD hS hl hz)
theorem zr_ishl {x y : Int32} {n : Nat} (hd : decode M.2.1.1 pc = .ok (.ishl, 1)) (hn : pc + 1 = n) (k : zm_WP M sc d mc ms Q n L (.int (x <<< (y &&& 31)) :: st) G S nc ns) : zm_WP M sc d mc ms Q pc L (.int y :: .int x :: st) G S nc ns := by
  subst hn
  intro p l e R s m args below meth c D cI cZ A QM ad0 n0 X ad H locs ls h1 h2 hP hD hS hl hz
  exact lv_ishl X.1 X.2.1 hd (k p l e R s m args below meth c D cI cZ A QM ad0 n0 X ad H locs ls h1 h2 hP hD hS hl hz)
theorem zr_ishr {x y : Int32} {n : Nat} (hd : decode M.2.1.1 pc = .ok (.ishr, 1)) (hn : pc + 1 = n) (k : zm_WP M sc d mc ms Q n L (.int (x >>> (y &&& 31)) :: st) G S nc ns) : zm_WP M sc d mc ms Q pc L (.int y :: .int x :: st) G S nc ns := by
  subst hn
  intro p l e R s m args below meth c D cI cZ A QM ad0 n0 X ad H locs ls h1 h2 hP hD hS hl hz
  exact lv_ishr X.1 X.2.1 hd (k p l e R s m args below meth c D cI cZ A QM ad0 n0 X ad H locs ls h1 h2 hP hD hS hl hz)
theorem zr_iushr {x y : Int32} {n : Nat} (hd : decode M.2.1.1 pc = .ok (.iushr, 1)) (hn : pc + 1 = n) (k : zm_WP M sc d mc ms Q n L (.int ((x.toUInt32 >>> (y.toUInt32 &&& Int32.toUInt32 31)).toInt32) :: st) G S nc ns) : zm_WP M sc d mc ms Q pc L (.int y :: .int x :: st) G S nc ns := by
  subst hn
  intro p l e R s m args below meth c D cI cZ A QM ad0 n0 X ad H locs ls h1 h2 hP hD hS hl hz
  exact lv_iushr X.1 X.2.1 hd rfl (k p l e R s m args below meth c D cI cZ A QM ad0 n0 X ad H locs ls h1 h2 hP hD hS hl hz)
theorem zr_idiv {x y : Int32} {n : Nat} (hd : decode M.2.1.1 pc = .ok (.idiv, 1)) (hn : pc + 1 = n) (hne : ¬ y = 0) (k : zm_WP M sc d mc ms Q n L (.int (x / y) :: st) G S nc ns) : zm_WP M sc d mc ms Q pc L (.int y :: .int x :: st) G S nc ns := by
  subst hn
  intro p l e R s m args below meth c D cI cZ A QM ad0 n0 X ad H locs ls h1 h2 hP hD hS hl hz
  exact lv_idiv X.1 X.2.1 hd hne (k p l e R s m args below meth c D cI cZ A QM ad0 n0 X ad H locs ls h1 h2 hP hD hS hl hz)
theorem zr_irem {x y : Int32} {n : Nat} (hd : decode M.2.1.1 pc = .ok (.irem, 1)) (hn : pc + 1 = n) (hne : ¬ y = 0) (k : zm_WP M sc d mc ms Q n L (.int (x - x / y * y) :: st) G S nc ns) : zm_WP M sc d mc ms Q pc L (.int y :: .int x :: st) G S nc ns := by
  subst hn
  intro p l e R s m args below meth c D cI cZ A QM ad0 n0 X ad H locs ls h1 h2 hP hD hS hl hz
  exact lv_irem X.1 X.2.1 hd hne (k p l e R s m args below meth c D cI cZ A QM ad0 n0 X ad H locs ls h1 h2 hP hD hS hl hz)
theorem zr_ineg {x : Int32} {n : Nat} (hd : decode M.2.1.1 pc = .ok (.ineg, 1)) (hn : pc + 1 = n) (k : zm_WP M sc d mc ms Q n L (.int (-x) :: st) G S nc ns) : zm_WP M sc d mc ms Q pc L (.int x :: st) G S nc ns := by
  subst hn
  intro p l e R s m args below meth c D cI cZ A QM ad0 n0 X ad H locs ls h1 h2 hP hD hS hl hz
  exact lv_ineg X.1 X.2.1 hd (k p l e R s m args below meth c D cI cZ A QM ad0 n0 X ad H locs ls h1 h2 hP hD hS hl hz)
theorem zr_iconst {i : Int} {v : Int32} {n : Nat} (hd : decode M.2.1.1 pc = .ok (.iconst i, 1)) (hn : pc + 1 = n) (hv : Int32.ofInt i = v) (k : zm_WP M sc d mc ms Q n L (.int v :: st) G S nc ns) : zm_WP M sc d mc ms Q pc L st G S nc ns := by
  subst hn
  intro p l e R s m args below meth c D cI cZ A QM ad0 n0 X ad H locs ls h1 h2 hP hD hS hl hz
  exact lv_iconst X.1 X.2.1 hd hv (k p l e R s m args below meth c D cI cZ A QM ad0 n0 X ad H locs ls h1 h2 hP hD hS hl hz)
theorem zr_bipush {i : Int} {v : Int32} {n : Nat} (hd : decode M.2.1.1 pc = .ok (.bipush i, 2)) (hn : pc + 2 = n) (hv : (Int8.ofInt i).toInt32 = v) (k : zm_WP M sc d mc ms Q n L (.int v :: st) G S nc ns) : zm_WP M sc d mc ms Q pc L st G S nc ns := by
  subst hn
  intro p l e R s m args below meth c D cI cZ A QM ad0 n0 X ad H locs ls h1 h2 hP hD hS hl hz
  exact lv_bipush X.1 X.2.1 hd hv (k p l e R s m args below meth c D cI cZ A QM ad0 n0 X ad H locs ls h1 h2 hP hD hS hl hz)
theorem zr_sipush {i : Int} {v : Int32} {n : Nat} (hd : decode M.2.1.1 pc = .ok (.sipush i, 3)) (hn : pc + 3 = n) (hv : (Int16.ofInt i).toInt32 = v) (k : zm_WP M sc d mc ms Q n L (.int v :: st) G S nc ns) : zm_WP M sc d mc ms Q pc L st G S nc ns := by
  subst hn
  intro p l e R s m args below meth c D cI cZ A QM ad0 n0 X ad H locs ls h1 h2 hP hD hS hl hz
  exact lv_sipush X.1 X.2.1 hd hv (k p l e R s m args below meth c D cI cZ A QM ad0 n0 X ad H locs ls h1 h2 hP hD hS hl hz)
theorem zr_iload_n {k4 : Fin 4} {i : Nat} {x : Int32} {n : Nat} (hd : decode M.2.1.1 pc = .ok (.iload_n k4, 1)) (hn : pc + 1 = n) (hi : (k4 : Nat) = i) (hx : L[i]? = some (some (.int x))) (k : zm_WP M sc d mc ms Q n L (.int x :: st) G S nc ns) : zm_WP M sc d mc ms Q pc L st G S nc ns := by
  subst hn
  intro p l e R s m args below meth c D cI cZ A QM ad0 n0 X ad H locs ls h1 h2 hP hD hS hl hz
  exact lv_iload_n X.1 X.2.1 hd hi (hl.at hx) (k p l e R s m args below meth c D cI cZ A QM ad0 n0 X ad H locs ls h1 h2 hP hD hS hl hz)
theorem zr_aload_n {k4 : Fin 4} {i : Nat} {x : Nat} {n : Nat} (hd : decode M.2.1.1 pc = .ok (.aload_n k4, 1)) (hn : pc + 1 = n) (hi : (k4 : Nat) = i) (hx : L[i]? = some (some (.ref x))) (k : zm_WP M sc d mc ms Q n L (.ref x :: st) G S nc ns) : zm_WP M sc d mc ms Q pc L st G S nc ns := by
  subst hn
  intro p l e R s m args below meth c D cI cZ A QM ad0 n0 X ad H locs ls h1 h2 hP hD hS hl hz
  exact lv_aload_n X.1 X.2.1 hd hi (hl.at hx) (k p l e R s m args below meth c D cI cZ A QM ad0 n0 X ad H locs ls h1 h2 hP hD hS hl hz)
theorem zr_iload {i : Nat} {x : Int32} {n : Nat} (hd : decode M.2.1.1 pc = .ok (.iload i, 2)) (hn : pc + 2 = n) (hx : L[i]? = some (some (.int x))) (k : zm_WP M sc d mc ms Q n L (.int x :: st) G S nc ns) : zm_WP M sc d mc ms Q pc L st G S nc ns := by
  subst hn
  intro p l e R s m args below meth c D cI cZ A QM ad0 n0 X ad H locs ls h1 h2 hP hD hS hl hz
  exact lv_iload X.1 X.2.1 hd (hl.at hx) (k p l e R s m args below meth c D cI cZ A QM ad0 n0 X ad H locs ls h1 h2 hP hD hS hl hz)
theorem zr_aload {i : Nat} {x : Nat} {n : Nat} (hd : decode M.2.1.1 pc = .ok (.aload i, 2)) (hn : pc + 2 = n) (hx : L[i]? = some (some (.ref x))) (k : zm_WP M sc d mc ms Q n L (.ref x :: st) G S nc ns) : zm_WP M sc d mc ms Q pc L st G S nc ns := by
  subst hn
  intro p l e R s m args below meth c D cI cZ A QM ad0 n0 X ad H locs ls h1 h2 hP hD hS hl hz
  exact lv_aload X.1 X.2.1 hd (hl.at hx) (k p l e R s m args below meth c D cI cZ A QM ad0 n0 X ad H locs ls h1 h2 hP hD hS hl hz)
theorem zr_dup {v : Value} {n : Nat} (hd : decode M.2.1.1 pc = .ok (.dup, 1)) (hn : pc + 1 = n) (hv : v.category = 1) (k : zm_WP M sc d mc ms Q n L (v :: v :: st) G S nc ns) : zm_WP M sc d mc ms Q pc L (v :: st) G S nc ns := by
  subst hn
  intro p l e R s m args below meth c D cI cZ A QM ad0 n0 X ad H locs ls h1 h2 hP hD hS hl hz
  exact lv_dup X.1 X.2.1 hd (by rw [zm_cat]; exact hv) (k p l e R s m args below meth c D cI cZ A QM ad0 n0 X ad H locs ls h1 h2 hP hD hS hl hz)
theorem zr_dup2 {v w : Value} {n : Nat} (hd : decode M.2.1.1 pc = .ok (.dup2, 1)) (hn : pc + 1 = n) (hv : v.category = 1) (hw : w.category = 1) (k : zm_WP M sc d mc ms Q n L (v :: w :: v :: w :: st) G S nc ns) : zm_WP M sc d mc ms Q pc L (v :: w :: st) G S nc ns := by
  subst hn
  intro p l e R s m args below meth c D cI cZ A QM ad0 n0 X ad H locs ls h1 h2 hP hD hS hl hz
  exact lv_dup2_11 X.1 X.2.1 hd (by rw [zm_cat]; exact hv) (by rw [zm_cat]; exact hw) (k p l e R s m args below meth c D cI cZ A QM ad0 n0 X ad H locs ls h1 h2 hP hD hS hl hz)
theorem zr_dup_x1 {v w : Value} {n : Nat} (hd : decode M.2.1.1 pc = .ok (.dup_x1, 1)) (hn : pc + 1 = n) (hv : v.category = 1) (hw : w.category = 1) (k : zm_WP M sc d mc ms Q n L (v :: w :: v :: st) G S nc ns) : zm_WP M sc d mc ms Q pc L (v :: w :: st) G S nc ns := by
  subst hn
  intro p l e R s m args below meth c D cI cZ A QM ad0 n0 X ad H locs ls h1 h2 hP hD hS hl hz
  exact lv_dup_x1 X.1 X.2.1 hd (by rw [zm_cat]; exact hv) (by rw [zm_cat]; exact hw) (k p l e R s m args below meth c D cI cZ A QM ad0 n0 X ad H locs ls h1 h2 hP hD hS hl hz)
theorem zr_pop {v : Value} {n : Nat} (hd : decode M.2.1.1 pc = .ok (.pop, 1)) (hn : pc + 1 = n) (hv : v.category = 1) (k : zm_WP M sc d mc ms Q n L st G S nc ns) : zm_WP M sc d mc ms Q pc L (v :: st) G S nc ns := by
  subst hn
  intro p l e R s m args below meth c D cI cZ A QM ad0 n0 X ad H locs ls h1 h2 hP hD hS hl hz
  exact lv_pop X.1 X.2.1 hd (by rw [zm_cat]; exact hv) (k p l e R s m args below meth c D cI cZ A QM ad0 n0 X ad H locs ls h1 h2 hP hD hS hl hz)
theorem zr_istore_n {k4 : Fin 4} {i : Nat} {x : Int32} {n : Nat} {L' : zm_L} (hd : decode M.2.1.1 pc = .ok (.istore_n k4, 1)) (hn : pc + 1 = n) (hi : (k4 : Nat) = i) (hb : Nat.ble (i + 1) L.length = true) (hL : L.set i (some (.int x)) = L') (k : zm_WP M sc d mc ms Q n L' st G S nc ns) : zm_WP M sc d mc ms Q pc L (.int x :: st) G S nc ns := by
  subst hn hL
  intro p l e R s m args below meth c D cI cZ A QM ad0 n0 X ad H locs ls h1 h2 hP hD hS hl hz
  exact lv_istore_n X.1 X.2.1 hd hi hl.has (Nat.le_of_ble_eq_true hb) rfl (fun ls' hls => k p l e R s m args below meth c D cI cZ A QM ad0 n0 X ad H locs ls' h1 h2 hP hD hS (hl.store (v := .int x) rfl hls) (by rw [List.length_set]; exact hz))
theorem zr_istore {i : Nat} {x : Int32} {n : Nat} {L' : zm_L} (hd : decode M.2.1.1 pc = .ok (.istore i, 2)) (hn : pc + 2 = n) (hb : Nat.ble (i + 1) L.length = true) (hL : L.set i (some (.int x)) = L') (k : zm_WP M sc d mc ms Q n L' st G S nc ns) : zm_WP M sc d mc ms Q pc L (.int x :: st) G S nc ns := by
  subst hn hL
  intro p l e R s m args below meth c D cI cZ A QM ad0 n0 X ad H locs ls h1 h2 hP hD hS hl hz
  exact lv_istore X.1 X.2.1 hd hl.has (Nat.le_of_ble_eq_true hb) rfl (fun ls' hls => k p l e R s m args below meth c D cI cZ A QM ad0 n0 X ad H locs ls' h1 h2 hP hD hS (hl.store (v := .int x) rfl hls) (by rw [List.length_set]; exact hz))
theorem zr_astore_n {k4 : Fin 4} {i : Nat} {x : Nat} {n : Nat} {L' : zm_L} (hd : decode M.2.1.1 pc = .ok (.astore_n k4, 1)) (hn : pc + 1 = n) (hi : (k4 : Nat) = i) (hb : Nat.ble (i + 1) L.length = true) (hL : L.set i (some (.ref x)) = L') (k : zm_WP M sc d mc ms Q n L' st G S nc ns) : zm_WP M sc d mc ms Q pc L (.ref x :: st) G S nc ns := by
  subst hn hL
  intro p l e R s m args below meth c D cI cZ A QM ad0 n0 X ad H locs ls h1 h2 hP hD hS hl hz
  exact lv_astore_n X.1 X.2.1 hd hi hl.has (Nat.le_of_ble_eq_true hb) rfl (fun ls' hls => k p l e R s m args below meth c D cI cZ A QM ad0 n0 X ad H locs ls' h1 h2 hP hD hS (hl.store (v := .ref x) rfl hls) (by rw [List.length_set]; exact hz))
theorem zr_astore {i : Nat} {x : Nat} {n : Nat} {L' : zm_L} (hd : decode M.2.1.1 pc = .ok (.astore i, 2)) (hn : pc + 2 = n) (hb : Nat.ble (i + 1) L.length = true) (hL : L.set i (some (.ref x)) = L') (k : zm_WP M sc d mc ms Q n L' st G S nc ns) : zm_WP M sc d mc ms Q pc L (.ref x :: st) G S nc ns := by
  subst hn hL
  intro p l e R s m args below meth c D cI cZ A QM ad0 n0 X ad H locs ls h1 h2 hP hD hS hl hz
  exact lv_astore X.1 X.2.1 hd hl.has (Nat.le_of_ble_eq_true hb) rfl (fun ls' hls => k p l e R s m args below meth c D cI cZ A QM ad0 n0 X ad H locs ls' h1 h2 hP hD hS (hl.store (v := .ref x) rfl hls) (by rw [List.length_set]; exact hz))
theorem zr_iinc {i : Nat} {c0 : Int} {x w : Int32} {n : Nat} {L' : zm_L} (hd : decode M.2.1.1 pc = .ok (.iinc i c0, 3)) (hn : pc + 3 = n) (hw : Int32.ofInt c0 = w) (hx : L[i]? = some (some (.int x))) (hL : L.set i (some (.int (x + w))) = L') (k : zm_WP M sc d mc ms Q n L' st G S nc ns) : zm_WP M sc d mc ms Q pc L st G S nc ns := by
  subst hn hL hw
  intro p l e R s m args below meth c D cI cZ A QM ad0 n0 X ad H locs ls h1 h2 hP hD hS hl hz
  obtain ⟨kq, hq⟩ := List.getElem?_of_mem (zm_as_mem (ad := ad) (L := L) (q := (i, Value.int x)) |>.mpr ⟨.int x, hx, rfl⟩)
  exact lv_iinc X.1 X.2.1 hd hl.has hq rfl (List.getElem?_eq_some_iff.mp hx).1 rfl (fun ls' hls => k p l e R s m args below meth c D cI cZ A QM ad0 n0 X ad H locs ls' h1 h2 hP hD hS (hl.store (v := .int _) rfl hls) (by rw [List.length_set]; exact hz))
theorem zr_weak {L' : zm_L} (h : zm_LE L' L) (k : zm_WP M sc d mc ms Q pc L' st G S nc ns) : zm_WP M sc d mc ms Q pc L st G S nc ns := by
  intro p l e R s m args below meth c D cI cZ A QM ad0 n0 X ad H locs ls h1 h2 hP hD hS hl hz
  exact k p l e R s m args below meth c D cI cZ A QM ad0 n0 X ad H locs ls h1 h2 hP hD hS (hl.le h) (h.1.trans hz)
theorem zr_icmp_eq {x y : Int32} {off : Int} {tgt n : Nat} (hd : decode M.2.1.1 pc = .ok (.if_icmp .eq off, 3)) (hn : pc + 3 = n) (ht : (pc : Int) + off = (tgt : Int)) (kt : x = y → zm_WP M sc d mc ms Q tgt L st G S nc ns) (kf : ¬ x = y → zm_WP M sc d mc ms Q n L st G S nc ns) : zm_WP M sc d mc ms Q pc L (.int y :: .int x :: st) G S nc ns := by
  subst hn
  intro p l e R s m args below meth c D cI cZ A QM ad0 n0 X ad H locs ls h1 h2 hP hD hS hl hz
  exact lv_icmp_eq X.1 X.2.1 hd ht (fun h => kt h p l e R s m args below meth c D cI cZ A QM ad0 n0 X ad H locs ls h1 h2 hP hD hS hl hz) (fun h => kf h p l e R s m args below meth c D cI cZ A QM ad0 n0 X ad H locs ls h1 h2 hP hD hS hl hz)
theorem zr_if_eq {x : Int32} {off : Int} {tgt n : Nat} (hd : decode M.2.1.1 pc = .ok (.ifCond .eq off, 3)) (hn : pc + 3 = n) (ht : (pc : Int) + off = (tgt : Int)) (kt : x = 0 → zm_WP M sc d mc ms Q tgt L st G S nc ns) (kf : ¬ x = 0 → zm_WP M sc d mc ms Q n L st G S nc ns) : zm_WP M sc d mc ms Q pc L (.int x :: st) G S nc ns := by
  subst hn
  intro p l e R s m args below meth c D cI cZ A QM ad0 n0 X ad H locs ls h1 h2 hP hD hS hl hz
  exact lv_if_eq X.1 X.2.1 hd ht (fun h => kt h p l e R s m args below meth c D cI cZ A QM ad0 n0 X ad H locs ls h1 h2 hP hD hS hl hz) (fun h => kf h p l e R s m args below meth c D cI cZ A QM ad0 n0 X ad H locs ls h1 h2 hP hD hS hl hz)
theorem zr_icmp_ne {x y : Int32} {off : Int} {tgt n : Nat} (hd : decode M.2.1.1 pc = .ok (.if_icmp .ne off, 3)) (hn : pc + 3 = n) (ht : (pc : Int) + off = (tgt : Int)) (kt : ¬ x = y → zm_WP M sc d mc ms Q tgt L st G S nc ns) (kf : x = y → zm_WP M sc d mc ms Q n L st G S nc ns) : zm_WP M sc d mc ms Q pc L (.int y :: .int x :: st) G S nc ns := by
  subst hn
  intro p l e R s m args below meth c D cI cZ A QM ad0 n0 X ad H locs ls h1 h2 hP hD hS hl hz
  exact lv_icmp_ne X.1 X.2.1 hd ht (fun h => kt h p l e R s m args below meth c D cI cZ A QM ad0 n0 X ad H locs ls h1 h2 hP hD hS hl hz) (fun h => kf h p l e R s m args below meth c D cI cZ A QM ad0 n0 X ad H locs ls h1 h2 hP hD hS hl hz)
theorem zr_if_ne {x : Int32} {off : Int} {tgt n : Nat} (hd : decode M.2.1.1 pc = .ok (.ifCond .ne off, 3)) (hn : pc + 3 = n) (ht : (pc : Int) + off = (tgt : Int)) (kt : ¬ x = 0 → zm_WP M sc d mc ms Q tgt L st G S nc ns) (kf : x = 0 → zm_WP M sc d mc ms Q n L st G S nc ns) : zm_WP M sc d mc ms Q pc L (.int x :: st) G S nc ns := by
  subst hn
  intro p l e R s m args below meth c D cI cZ A QM ad0 n0 X ad H locs ls h1 h2 hP hD hS hl hz
  exact lv_if_ne X.1 X.2.1 hd ht (fun h => kt h p l e R s m args below meth c D cI cZ A QM ad0 n0 X ad H locs ls h1 h2 hP hD hS hl hz) (fun h => kf h p l e R s m args below meth c D cI cZ A QM ad0 n0 X ad H locs ls h1 h2 hP hD hS hl hz)
theorem zr_icmp_lt {x y : Int32} {off : Int} {tgt n : Nat} (hd : decode M.2.1.1 pc = .ok (.if_icmp .lt off, 3)) (hn : pc + 3 = n) (ht : (pc : Int) + off = (tgt : Int)) (kt : x < y → zm_WP M sc d mc ms Q tgt L st G S nc ns) (kf : ¬ x < y → zm_WP M sc d mc ms Q n L st G S nc ns) : zm_WP M sc d mc ms Q pc L (.int y :: .int x :: st) G S nc ns := by
  subst hn
  intro p l e R s m args below meth c D cI cZ A QM ad0 n0 X ad H locs ls h1 h2 hP hD hS hl hz
  exact lv_icmp_lt X.1 X.2.1 hd ht (fun h => kt h p l e R s m args below meth c D cI cZ A QM ad0 n0 X ad H locs ls h1 h2 hP hD hS hl hz) (fun h => kf h p l e R s m args below meth c D cI cZ A QM ad0 n0 X ad H locs ls h1 h2 hP hD hS hl hz)
theorem zr_if_lt {x : Int32} {off : Int} {tgt n : Nat} (hd : decode M.2.1.1 pc = .ok (.ifCond .lt off, 3)) (hn : pc + 3 = n) (ht : (pc : Int) + off = (tgt : Int)) (kt : x < 0 → zm_WP M sc d mc ms Q tgt L st G S nc ns) (kf : ¬ x < 0 → zm_WP M sc d mc ms Q n L st G S nc ns) : zm_WP M sc d mc ms Q pc L (.int x :: st) G S nc ns := by
  subst hn
  intro p l e R s m args below meth c D cI cZ A QM ad0 n0 X ad H locs ls h1 h2 hP hD hS hl hz
  exact lv_if_lt X.1 X.2.1 hd ht (fun h => kt h p l e R s m args below meth c D cI cZ A QM ad0 n0 X ad H locs ls h1 h2 hP hD hS hl hz) (fun h => kf h p l e R s m args below meth c D cI cZ A QM ad0 n0 X ad H locs ls h1 h2 hP hD hS hl hz)
theorem zr_icmp_ge {x y : Int32} {off : Int} {tgt n : Nat} (hd : decode M.2.1.1 pc = .ok (.if_icmp .ge off, 3)) (hn : pc + 3 = n) (ht : (pc : Int) + off = (tgt : Int)) (kt : y ≤ x → zm_WP M sc d mc ms Q tgt L st G S nc ns) (kf : ¬ y ≤ x → zm_WP M sc d mc ms Q n L st G S nc ns) : zm_WP M sc d mc ms Q pc L (.int y :: .int x :: st) G S nc ns := by
  subst hn
  intro p l e R s m args below meth c D cI cZ A QM ad0 n0 X ad H locs ls h1 h2 hP hD hS hl hz
  exact lv_icmp_ge X.1 X.2.1 hd ht (fun h => kt h p l e R s m args below meth c D cI cZ A QM ad0 n0 X ad H locs ls h1 h2 hP hD hS hl hz) (fun h => kf h p l e R s m args below meth c D cI cZ A QM ad0 n0 X ad H locs ls h1 h2 hP hD hS hl hz)
theorem zr_if_ge {x : Int32} {off : Int} {tgt n : Nat} (hd : decode M.2.1.1 pc = .ok (.ifCond .ge off, 3)) (hn : pc + 3 = n) (ht : (pc : Int) + off = (tgt : Int)) (kt : 0 ≤ x → zm_WP M sc d mc ms Q tgt L st G S nc ns) (kf : ¬ 0 ≤ x → zm_WP M sc d mc ms Q n L st G S nc ns) : zm_WP M sc d mc ms Q pc L (.int x :: st) G S nc ns := by
  subst hn
  intro p l e R s m args below meth c D cI cZ A QM ad0 n0 X ad H locs ls h1 h2 hP hD hS hl hz
  exact lv_if_ge X.1 X.2.1 hd ht (fun h => kt h p l e R s m args below meth c D cI cZ A QM ad0 n0 X ad H locs ls h1 h2 hP hD hS hl hz) (fun h => kf h p l e R s m args below meth c D cI cZ A QM ad0 n0 X ad H locs ls h1 h2 hP hD hS hl hz)
theorem zr_icmp_gt {x y : Int32} {off : Int} {tgt n : Nat} (hd : decode M.2.1.1 pc = .ok (.if_icmp .gt off, 3)) (hn : pc + 3 = n) (ht : (pc : Int) + off = (tgt : Int)) (kt : y < x → zm_WP M sc d mc ms Q tgt L st G S nc ns) (kf : ¬ y < x → zm_WP M sc d mc ms Q n L st G S nc ns) : zm_WP M sc d mc ms Q pc L (.int y :: .int x :: st) G S nc ns := by
  subst hn
  intro p l e R s m args below meth c D cI cZ A QM ad0 n0 X ad H locs ls h1 h2 hP hD hS hl hz
  exact lv_icmp_gt X.1 X.2.1 hd ht (fun h => kt h p l e R s m args below meth c D cI cZ A QM ad0 n0 X ad H locs ls h1 h2 hP hD hS hl hz) (fun h => kf h p l e R s m args below meth c D cI cZ A QM ad0 n0 X ad H locs ls h1 h2 hP hD hS hl hz)
theorem zr_if_gt {x : Int32} {off : Int} {tgt n : Nat} (hd : decode M.2.1.1 pc = .ok (.ifCond .gt off, 3)) (hn : pc + 3 = n) (ht : (pc : Int) + off = (tgt : Int)) (kt : 0 < x → zm_WP M sc d mc ms Q tgt L st G S nc ns) (kf : ¬ 0 < x → zm_WP M sc d mc ms Q n L st G S nc ns) : zm_WP M sc d mc ms Q pc L (.int x :: st) G S nc ns := by
  subst hn
  intro p l e R s m args below meth c D cI cZ A QM ad0 n0 X ad H locs ls h1 h2 hP hD hS hl hz
  exact lv_if_gt X.1 X.2.1 hd ht (fun h => kt h p l e R s m args below meth c D cI cZ A QM ad0 n0 X ad H locs ls h1 h2 hP hD hS hl hz) (fun h => kf h p l e R s m args below meth c D cI cZ A QM ad0 n0 X ad H locs ls h1 h2 hP hD hS hl hz)
theorem zr_icmp_le {x y : Int32} {off : Int} {tgt n : Nat} (hd : decode M.2.1.1 pc = .ok (.if_icmp .le off, 3)) (hn : pc + 3 = n) (ht : (pc : Int) + off = (tgt : Int)) (kt : x ≤ y → zm_WP M sc d mc ms Q tgt L st G S nc ns) (kf : ¬ x ≤ y → zm_WP M sc d mc ms Q n L st G S nc ns) : zm_WP M sc d mc ms Q pc L (.int y :: .int x :: st) G S nc ns := by
  subst hn
  intro p l e R s m args below meth c D cI cZ A QM ad0 n0 X ad H locs ls h1 h2 hP hD hS hl hz
  exact lv_icmp_le X.1 X.2.1 hd ht (fun h => kt h p l e R s m args below meth c D cI cZ A QM ad0 n0 X ad H locs ls h1 h2 hP hD hS hl hz) (fun h => kf h p l e R s m args below meth c D cI cZ A QM ad0 n0 X ad H locs ls h1 h2 hP hD hS hl hz)
theorem zr_if_le {x : Int32} {off : Int} {tgt n : Nat} (hd : decode M.2.1.1 pc = .ok (.ifCond .le off, 3)) (hn : pc + 3 = n) (ht : (pc : Int) + off = (tgt : Int)) (kt : x ≤ 0 → zm_WP M sc d mc ms Q tgt L st G S nc ns) (kf : ¬ x ≤ 0 → zm_WP M sc d mc ms Q n L st G S nc ns) : zm_WP M sc d mc ms Q pc L (.int x :: st) G S nc ns := by
  subst hn
  intro p l e R s m args below meth c D cI cZ A QM ad0 n0 X ad H locs ls h1 h2 hP hD hS hl hz
  exact lv_if_le X.1 X.2.1 hd ht (fun h => kt h p l e R s m args below meth c D cI cZ A QM ad0 n0 X ad H locs ls h1 h2 hP hD hS hl hz) (fun h => kf h p l e R s m args below meth c D cI cZ A QM ad0 n0 X ad H locs ls h1 h2 hP hD hS hl hz)
theorem zr_goto {off : Int} {tgt : Nat} (hd : decode M.2.1.1 pc = .ok (.goto off, 3)) (ht : (pc : Int) + off = (tgt : Int)) (k : zm_WP M sc d mc ms Q tgt L st G S nc ns) : zm_WP M sc d mc ms Q pc L st G S nc ns := by
  intro p l e R s m args below meth c D cI cZ A QM ad0 n0 X ad H locs ls h1 h2 hP hD hS hl hz
  exact lv_goto X.1 X.2.1 hd ht (k p l e R s m args below meth c D cI cZ A QM ad0 n0 X ad H locs ls h1 h2 hP hD hS hl hz)
theorem zr_tableIn {x : Int32} {dflt lo hi off : Int} {offs : Array Int} {len tgt : Nat} (hd : decode M.2.1.1 pc = .ok (.tableswitch dflt lo hi offs, len)) (ha : ¬ x.toInt < lo) (hb : ¬ hi < x.toInt) (ho : offs[(x.toInt - lo).toNat]? = some off) (ht : (pc : Int) + off = (tgt : Int)) (k : zm_WP M sc d mc ms Q tgt L st G S nc ns) : zm_WP M sc d mc ms Q pc L (.int x :: st) G S nc ns := by
  intro p l e R s m args below meth c D cI cZ A QM ad0 n0 X ad H locs ls h1 h2 hP hD hS hl hz
  exact lv_tableIn X.1 X.2.1 hd ha hb ho ht (k p l e R s m args below meth c D cI cZ A QM ad0 n0 X ad H locs ls h1 h2 hP hD hS hl hz)
theorem zr_tableOut {x : Int32} {dflt lo hi : Int} {offs : Array Int} {len tgt : Nat} (hd : decode M.2.1.1 pc = .ok (.tableswitch dflt lo hi offs, len)) (ha : x.toInt < lo ∨ hi < x.toInt) (ht : (pc : Int) + dflt = (tgt : Int)) (k : zm_WP M sc d mc ms Q tgt L st G S nc ns) : zm_WP M sc d mc ms Q pc L (.int x :: st) G S nc ns := by
  intro p l e R s m args below meth c D cI cZ A QM ad0 n0 X ad H locs ls h1 h2 hP hD hS hl hz
  exact lv_tableOut X.1 X.2.1 hd ha ht (k p l e R s m args below meth c D cI cZ A QM ad0 n0 X ad H locs ls h1 h2 hP hD hS hl hz)
theorem zr_ldc {i : Nat} {v : Int32} {n : Nat} (hd : decode M.2.1.1 pc = .ok (.ldc i, 2)) (hn : pc + 2 = n) (hc : Cond.constant M.1.cls i v ∈ zm_all) (k : zm_WP M sc d mc ms Q n L (.int v :: st) G S nc ns) : zm_WP M sc d mc ms Q pc L st G S nc ns := by
  subst hn
  intro p l e R s m args below meth c D cI cZ A QM ad0 n0 X ad H locs ls h1 h2 hP hD hS hl hz
  exact lv_ldc X.1 X.2.1 X.2.2.2.1 (X.2.2.2.2.1.1 _ hc) hd (k p l e R s m args below meth c D cI cZ A QM ad0 n0 X ad H locs ls h1 h2 hP hD hS hl hz)
def zm_ix (i : Int32) (j n : Nat) : Prop := i.toNatClampNeg = j ∧ vp_in i n
end
theorem zm_ixN {j N : Nat} (h : j < N) (hN : N < 2147483648) : zm_ix (nI j) j N := ⟨nI_clamp (by omega), vp_in_nI h hN⟩
theorem zm_nz {x : Int32} (h : x = 0 ∨ x = 1) : narrow .boolean (.int x) = .int x := by rcases h with rfl | rfl <;> rfl
theorem zm_fz {x : Int32} (h : x = 0 ∨ x = 1) : fits .boolean (.int x) = true := by rcases h with rfl | rfl <;> rfl
theorem zm_vz {x : Int32} (h : x = 0 ∨ x = 1) : vp_nar .boolean x = x := by rcases h with rfl | rfl <;> rfl
theorem zm_tyI {cI cZ : ClassId} : (zm_tys cI cZ)[0]? = some (cI, FieldType.int) := rfl
theorem zm_tyZ {cI cZ : ClassId} : (zm_tys cI cZ)[1]? = some (cZ, FieldType.boolean) := rfl
section
variable {M : zm_M} {sc : Option (Nat × (Nat → Int32))} {d mc ms : Nat} {Q : zm_Q} {pc : Nat} {L : zm_L} {st : List Value} {G : List zm_Sh} {S : zm_S} {nc ns : Nat}
theorem zr_iaload {a N : Nat} {i : Int32} (j : Nat) {n : Nat} (hd : decode M.2.1.1 pc = .ok (.iaload, 1)) (hn : pc + 1 = n) (hg : G[a]? = some (.inl (false, N))) (hi : zm_ix i j N) (k : zm_WP M sc d mc ms Q n L (.int (S a j) :: st) G S nc ns) : zm_WP M sc d mc ms Q pc L (.int i :: .ref a :: st) G S nc ns := by
  subst hn
  obtain ⟨rfl, hi⟩ := hi
  intro p l e R s m args below meth c D cI cZ A QM ad0 n0 X ad H locs ls h1 h2 hP hD hS hl hz
  exact va_iald X.1 X.2.1 X.2.2.2.2.2.1 hP a 0 (zm_w_get hg) zm_tyI hi hd (k p l e R s m args below meth c D cI cZ A QM ad0 n0 X ad H locs ls h1 h2 hP hD hS hl hz)
theorem zr_baload {a N : Nat} {i : Int32} (j : Nat) {n : Nat} (hd : decode M.2.1.1 pc = .ok (.baload, 1)) (hn : pc + 1 = n) (hg : G[a]? = some (.inl (true, N))) (hi : zm_ix i j N) (k : zm_WP M sc d mc ms Q n L (.int (S a j) :: st) G S nc ns) : zm_WP M sc d mc ms Q pc L (.int i :: .ref a :: st) G S nc ns := by
  subst hn
  obtain ⟨rfl, hi⟩ := hi
  intro p l e R s m args below meth c D cI cZ A QM ad0 n0 X ad H locs ls h1 h2 hP hD hS hl hz
  exact va_zald X.1 X.2.1 X.2.2.2.2.2.1 hP a 1 (zm_w_get hg) zm_tyZ hi hd (k p l e R s m args below meth c D cI cZ A QM ad0 n0 X ad H locs ls h1 h2 hP hD hS hl hz)
theorem zr_iastore {a N : Nat} {i x : Int32} (j : Nat) {n : Nat} (hd : decode M.2.1.1 pc = .ok (.iastore, 1)) (hn : pc + 1 = n) (hg : G[a]? = some (.inl (false, N))) (hi : zm_ix i j N) (k : zm_WP M sc d mc ms Q n L st G (zm_up S a j x) nc ns) : zm_WP M sc d mc ms Q pc L (.int x :: .int i :: .ref a :: st) G S nc ns := by
  subst hn
  obtain ⟨rfl, hi⟩ := hi
  intro p l e R s m args below meth c D cI cZ A QM ad0 n0 X ad H locs ls h1 h2 hP hD hS hl hz
  refine va_iast X.1 X.2.1 X.2.2.2.2.2.1 hP hD hS a 0 (zm_w_get hg) zm_tyI hi hd (fun H1 locs1 hP1 hD1 hS1 => ?_)
  have eW := zm_w_up (cI := cI) (cZ := cZ) (ad := ad) (i := i.toNatClampNeg) (x := x) (S := S) hg
  exact k p l e R s m args below meth c D cI cZ A QM ad0 n0 X ad H1 locs1 ls h1 h2 (eW ▸ hP1) (eW ▸ hD1) hS1 hl hz
theorem zr_bastore {a N : Nat} {i x : Int32} (j : Nat) {n : Nat} (hd : decode M.2.1.1 pc = .ok (.bastore, 1)) (hn : pc + 1 = n) (hg : G[a]? = some (.inl (true, N))) (hi : zm_ix i j N) (k : zm_WP M sc d mc ms Q n L st G (zm_up S a j (vp_nar .boolean x)) nc ns) : zm_WP M sc d mc ms Q pc L (.int x :: .int i :: .ref a :: st) G S nc ns := by
  subst hn
  obtain ⟨rfl, hi⟩ := hi
  intro p l e R s m args below meth c D cI cZ A QM ad0 n0 X ad H locs ls h1 h2 hP hD hS hl hz
  refine va_zast X.1 X.2.1 X.2.2.2.2.2.1 hP hD hS a 1 (zm_w_get hg) zm_tyZ hi hd (fun H1 locs1 hP1 hD1 hS1 => ?_)
  have eW := zm_w_up (cI := cI) (cZ := cZ) (ad := ad) (i := i.toNatClampNeg) (x := (vp_nar .boolean x)) (S := S) hg
  exact k p l e R s m args below meth c D cI cZ A QM ad0 n0 X ad H1 locs1 ls h1 h2 (eW ▸ hP1) (eW ▸ hD1) hS1 hl hz
theorem zr_alen {a N : Nat} {b : Bool} {v : Int32} {n : Nat} (hd : decode M.2.1.1 pc = .ok (.arraylength, 1)) (hn : pc + 1 = n) (hg : G[a]? = some (.inl (b, N))) (hv : Int32.ofNat N = v) (k : zm_WP M sc d mc ms Q n L (.int v :: st) G S nc ns) : zm_WP M sc d mc ms Q pc L (.ref a :: st) G S nc ns := by
  subst hn
  intro p l e R s m args below meth c D cI cZ A QM ad0 n0 X ad H locs ls h1 h2 hP hD hS hl hz
  cases b with
  | false => exact va_alen X.1 X.2.1 X.2.2.2.2.2.1 hP a 0 (zm_w_get hg) zm_tyI hv hd (k p l e R s m args below meth c D cI cZ A QM ad0 n0 X ad H locs ls h1 h2 hP hD hS hl hz)
  | true => exact va_alen X.1 X.2.1 X.2.2.2.2.2.1 hP a 1 (zm_w_get hg) zm_tyZ hv hd (k p l e R s m args below meth c D cI cZ A QM ad0 n0 X ad H locs ls h1 h2 hP hD hS hl hz)
theorem zr_bastoreV {a N : Nat} {i x : Int32} {n : Nat} (j : Nat) (hd : decode M.2.1.1 pc = .ok (.bastore, 1)) (hn : pc + 1 = n) (hg : G[a]? = some (.inl (true, N))) (hi : zm_ix i j N) (hx : vp_nar .boolean x = x) (k : zm_WP M sc d mc ms Q n L st G (zm_up S a j x) nc ns) : zm_WP M sc d mc ms Q pc L (.int x :: .int i :: .ref a :: st) G S nc ns := zr_bastore j hd hn hg hi (by rw [hx]; exact k)
theorem zr_top {x v : Int32} (h : x = v) (k : zm_WP M sc d mc ms Q pc L (.int v :: st) G S nc ns) : zm_WP M sc d mc ms Q pc L (.int x :: st) G S nc ns := by rw [h]; exact k
theorem zr_ldcw {i : Nat} {v : Int32} {n : Nat} (hd : decode M.2.1.1 pc = .ok (.ldc_w i, 3)) (hn : pc + 3 = n) (hc : Cond.constant M.1.cls i v ∈ zm_all) (k : zm_WP M sc d mc ms Q n L (.int v :: st) G S nc ns) : zm_WP M sc d mc ms Q pc L st G S nc ns := by
  subst hn
  intro p l e R s m args below meth c D cI cZ A QM ad0 n0 X ad H locs ls h1 h2 hP hD hS hl hz
  exact lv_ldcw X.1 X.2.1 X.2.2.2.1 (X.2.2.2.2.1.1 _ hc) hd (k p l e R s m args below meth c D cI cZ A QM ad0 n0 X ad H locs ls h1 h2 hP hD hS hl hz)
theorem zr_sload {N : Nat} {xs : Nat → Int32} {i : Int32} (j : Nat) {n : Nat} (hd : decode M.2.1.1 pc = .ok (.iaload, 1)) (hn : pc + 1 = n) (hi : zm_ix i j N) (k : zm_WP M (some (N, xs)) d mc ms Q n L (.int (xs j) :: st) G S nc ns) : zm_WP M (some (N, xs)) d mc ms Q pc L (.int i :: .ref 1000000 :: st) G S nc ns := by
  subst hn
  obtain ⟨rfl, hi⟩ := hi
  intro p l e R s m args below meth c D cI cZ A QM ad0 n0 X ad H locs ls h1 h2 hP hD hS hl hz
  obtain ⟨hX, hb, hA⟩ := X.2.2.2.2.2.2.2.2.2.1 _ rfl
  rw [← h1 1000000 (Or.inr rfl)] at hX hb hA
  exact va_sld X.1 X.2.1 hX hb hA hS hi hd (k p l e R s m args below meth c D cI cZ A QM ad0 n0 X ad H locs ls h1 h2 hP hD hS hl hz)
theorem zr_slen {N : Nat} {xs : Nat → Int32} {n : Nat} (hd : decode M.2.1.1 pc = .ok (.arraylength, 1)) (hn : pc + 1 = n) (k : zm_WP M (some (N, xs)) d mc ms Q n L (.int (nI N) :: st) G S nc ns) : zm_WP M (some (N, xs)) d mc ms Q pc L (.ref 1000000 :: st) G S nc ns := by
  subst hn
  intro p l e R s m args below meth c D cI cZ A QM ad0 n0 X ad H locs ls h1 h2 hP hD hS hl hz
  obtain ⟨hX, hb, hA⟩ := X.2.2.2.2.2.2.2.2.2.1 _ rfl
  rw [← h1 1000000 (Or.inr rfl)] at hX hb hA
  exact va_slen X.1 X.2.1 hX hb hA hS hd (k p l e R s m args below meth c D cI cZ A QM ad0 n0 X ad H locs ls h1 h2 hP hD hS hl hz)
end
def zm_fw (own : String) (index ci f : Nat) (C : String) (T : u_T) (N : Nat) : Prop :=
  zcl[ci]? = some (C, T, N) ∧ f < N ∧ (∀ w ∈ u_ws C T N, w ∈ zm_all) ∧ (Cond.fieldLink own index (T f).1 (T f).2.1 (T f).2.2.1 ∈ zm_all ∨ ∃ host, Cond.fieldLinkNest own index (T f).1 (T f).2.1 (T f).2.2.1 host ∈ lw_tbl)
def zm_tw (T : u_T) (N : Nat) (ty0 : Nat → FieldType) : Prop := (∀ k, k < N → parseFieldDescriptor (T k).2.2.1 = some (ty0 k)) ∧ ∀ a, a < N → ∀ b, b < N → a ≠ b → (T a).2.1 ≠ (T b).2.1
section
variable {M : zm_M} {sc : Option (Nat × (Nat → Int32))} {d mc ms : Nat} {Q : zm_Q} {pc : Nat} {L : zm_L} {st : List Value} {G : List zm_Sh} {S : zm_S} {nc ns : Nat}
theorem zr_geti {index ci f a : Nat} {C : String} {T : u_T} {N : Nat} {rs : List (Option Value)} {n : Nat} (hd : decode M.2.1.1 pc = .ok (.getfield index, 3)) (hn : pc + 3 = n) (hf : zm_fw M.1.cls index ci f C T N) (hg : G[a]? = some (.inr (ci, rs))) (hv : rs[f]? = some none) (k : zm_WP M sc d mc ms Q n L (.int (S a f) :: st) G S nc ns) : zm_WP M sc d mc ms Q pc L (.ref a :: st) G S nc ns := by
  subst hn
  obtain ⟨hc, hfN, hin, hlink⟩ := hf
  intro p l e R s m args below meth c D cI cZ A QM ad0 n0 X ad H locs ls h1 h2 hP hD hS hl hz
  have hv2 : (rs.mapIdx (fun i o => zm_o ad S a i o))[f]? = some (zm_o ad S a f none) := by rw [List.getElem?_mapIdx, hv]; rfl
  rcases hlink with hlink | ⟨host, hlink⟩
  · exact va_get X.1 X.2.1 X.2.2.2.2.1.1 hin X.2.2.2.1 X.2.2.2.2.2.1 hP a (zm_w_get hg) hc f hfN (X.2.2.2.2.1.1 _ hlink) (fun _ h => h) hv2 hd (k p l e R s m args below meth c D cI cZ A QM ad0 n0 X ad H locs ls h1 h2 hP hD hS hl hz)
  · exact va_getN X.1 X.2.1 X.2.2.2.2.1.1 hin X.2.2.2.1 X.2.2.2.2.2.1 hP a (zm_w_get hg) hc f hfN (va_Nw.use rfl (X.2.2.2.2.1.2 _ hlink rfl)) (fun _ h => h) hv2 hd (k p l e R s m args below meth c D cI cZ A QM ad0 n0 X ad H locs ls h1 h2 hP hD hS hl hz)
theorem zr_getr {index ci f a : Nat} {C : String} {T : u_T} {N : Nat} {rs : List (Option Value)} {v : Value} {n : Nat} (hd : decode M.2.1.1 pc = .ok (.getfield index, 3)) (hn : pc + 3 = n) (hf : zm_fw M.1.cls index ci f C T N) (hg : G[a]? = some (.inr (ci, rs))) (hv : rs[f]? = some (some v)) (k : zm_WP M sc d mc ms Q n L (v :: st) G S nc ns) : zm_WP M sc d mc ms Q pc L (.ref a :: st) G S nc ns := by
  subst hn
  obtain ⟨hc, hfN, hin, hlink⟩ := hf
  intro p l e R s m args below meth c D cI cZ A QM ad0 n0 X ad H locs ls h1 h2 hP hD hS hl hz
  have hv2 : (rs.mapIdx (fun i o => zm_o ad S a i o))[f]? = some (zm_o ad S a f (some v)) := by rw [List.getElem?_mapIdx, hv]; rfl
  rcases hlink with hlink | ⟨host, hlink⟩
  · exact va_get X.1 X.2.1 X.2.2.2.2.1.1 hin X.2.2.2.1 X.2.2.2.2.2.1 hP a (zm_w_get hg) hc f hfN (X.2.2.2.2.1.1 _ hlink) (fun _ h => h) hv2 hd (k p l e R s m args below meth c D cI cZ A QM ad0 n0 X ad H locs ls h1 h2 hP hD hS hl hz)
  · exact va_getN X.1 X.2.1 X.2.2.2.2.1.1 hin X.2.2.2.1 X.2.2.2.2.2.1 hP a (zm_w_get hg) hc f hfN (va_Nw.use rfl (X.2.2.2.2.1.2 _ hlink rfl)) (fun _ h => h) hv2 hd (k p l e R s m args below meth c D cI cZ A QM ad0 n0 X ad H locs ls h1 h2 hP hD hS hl hz)
theorem zr_puti {index ci f a : Nat} {C : String} {T : u_T} {N : Nat} {rs : List (Option Value)} {x : Int32} {ty0 : Nat → FieldType} {ty : FieldType} {n : Nat} (hd : decode M.2.1.1 pc = .ok (.putfield index, 3)) (hn : pc + 3 = n) (hf : zm_fw M.1.cls index ci f C T N) (ht : zm_tw T N ty0) (hfin : (T f).2.2.2 = false) (hty : parseFieldDescriptor (T f).2.2.1 = some ty) (hnar : narrow ty (.int x) = .int x) (hfit : fits ty (.int x) = true) (hg : G[a]? = some (.inr (ci, rs))) (hv : rs[f]? = some none) (k : zm_WP M sc d mc ms Q n L st G (zm_up S a f x) nc ns) : zm_WP M sc d mc ms Q pc L (.int x :: .ref a :: st) G S nc ns := by
  subst hn
  obtain ⟨hc, hfN, hin, hlink⟩ := hf
  intro p l e R s m args below meth c D cI cZ A QM ad0 n0 X ad H locs ls h1 h2 hP hD hS hl hz
  have hl2 : f < (rs.mapIdx (fun i o => zm_o ad S a i o)).length := by rw [List.length_mapIdx]; exact (List.getElem?_eq_some_iff.mp hv).1
  have eW := zm_w_upo (cI := cI) (cZ := cZ) (ad := ad) (x := x) (S := S) hg hv
  rcases hlink with hlink | ⟨host, hlink⟩
  · refine va_put X.1 X.2.1 X.2.2.2.2.1.1 hin ty0 ht.1 ht.2 X.2.2.2.1 X.2.2.2.2.2.1 hP hD hS a (zm_w_get hg) hc f hfN (X.2.2.2.2.1.1 _ hlink) (fun _ h => h) hfin hty hnar hfit hl2 hd (fun H1 locs1 hP1 hD1 hS1 => ?_)
    exact k p l e R s m args below meth c D cI cZ A QM ad0 n0 X ad H1 locs1 ls h1 h2 (eW ▸ hP1) (eW ▸ hD1) hS1 hl hz
  · refine va_putN X.1 X.2.1 X.2.2.2.2.1.1 hin ty0 ht.1 ht.2 X.2.2.2.1 X.2.2.2.2.2.1 hP hD hS a (zm_w_get hg) hc f hfN (va_Nw.use rfl (X.2.2.2.2.1.2 _ hlink rfl)) (fun _ h => h) hfin hty hnar hfit hl2 hd (fun H1 locs1 hP1 hD1 hS1 => ?_)
    exact k p l e R s m args below meth c D cI cZ A QM ad0 n0 X ad H1 locs1 ls h1 h2 (eW ▸ hP1) (eW ▸ hD1) hS1 hl hz
theorem zr_putF {index ci f a r : Nat} {C : String} {T : u_T} {N : Nat} {rs : List (Option Value)} {o : Value} {ty0 : Nat → FieldType} {ty : FieldType} {n : Nat} {G' : List zm_Sh} (hd : decode M.2.1.1 pc = .ok (.putfield index, 3)) (hn : pc + 3 = n) (hf : zm_fw M.1.cls index ci f C T N) (hlk : Cond.fieldLink M.1.cls index (T f).1 (T f).2.1 (T f).2.2.1 ∈ zm_all) (ht : zm_tw T N ty0) (hfin : (T f).2.2.2 = true) (hini : M.1.name = "<init>") (hdecl : (T f).1 = M.1.cls) (hty : parseFieldDescriptor (T f).2.2.1 = some ty) (hnar : ∀ q, narrow ty (.ref q) = .ref q) (hfit : ∀ q, fits ty (.ref q) = true) (hg : G[a]? = some (.inr (ci, rs))) (hv : rs[f]? = some (some o)) (hG : G.set a (.inr (ci, rs.set f (some (.ref r)))) = G') (k : zm_WP M sc d mc ms Q n L st G' S nc ns) : zm_WP M sc d mc ms Q pc L (.ref r :: .ref a :: st) G S nc ns := by
  subst hn hG
  obtain ⟨hc, hfN, hin, hlink⟩ := hf
  intro p l e R s m args below meth c D cI cZ A QM ad0 n0 X ad H locs ls h1 h2 hP hD hS hl hz
  have hl2 : f < (rs.mapIdx (fun i o => zm_o ad S a i o)).length := by rw [List.length_mapIdx]; exact (List.getElem?_eq_some_iff.mp hv).1
  have eW := zm_w_upr (cI := cI) (cZ := cZ) (ad := ad) (v := .ref r) (S := S) hg hv
  refine va_putF X.1 X.2.1 X.2.2.2.2.1.1 hin ty0 ht.1 ht.2 X.2.2.2.1 X.2.2.2.2.2.1 hP hD hS a (zm_w_get hg) hc f hfN (X.2.2.2.2.1.1 _ hlk) (fun _ h => h) hfin (X.2.2.2.2.2.2.2.2.1.trans hini) hdecl hty (hnar _) (hfit _) hl2 hd (fun H1 locs1 hP1 hD1 hS1 => ?_)
  exact k p l e R s m args below meth c D cI cZ A QM ad0 n0 X ad H1 locs1 ls h1 (by rw [List.length_set]; exact h2) (eW ▸ hP1) (eW ▸ hD1) hS1 hl hz
theorem zr_ireturn {x : Int32} {ty : FieldType} (hd : decode M.2.1.1 pc = .ok (.ireturn, 1)) (hr : M.2.2 = some ty) (hnar : narrow ty (.int x) = .int x) (hc : nc ≤ mc) (hs : ns ≤ ms) (hq : Q (some x) G S) : zm_WP M sc d mc ms Q pc L [.int x] G S nc ns := by
  intro p l e R s m args below meth c D cI cZ A QM ad0 n0 X ad H locs ls h1 h2 hP hD hS hl hz
  exact X.2.2.2.2.2.2.2.2.2.2 (some x) pc ls H locs ad G S nc ns ⟨⟨ty, hr, hnar⟩, hd⟩ h1 h2 hP hD hS hc hs hq
theorem zr_return (hd : decode M.2.1.1 pc = .ok (.return_, 1)) (hr : M.2.2 = none) (hc : nc ≤ mc) (hs : ns ≤ ms) (hq : Q none G S) : zm_WP M sc d mc ms Q pc L [] G S nc ns := by
  intro p l e R s m args below meth c D cI cZ A QM ad0 n0 X ad H locs ls h1 h2 hP hD hS hl hz
  exact X.2.2.2.2.2.2.2.2.2.2 none pc ls H locs ad G S nc ns ⟨hr, hd⟩ h1 h2 hP hD hS hc hs hq
theorem zr_newI {x : Int32} {atype : ArrayType} {N g n : Nat} {G' : List zm_Sh} (hd : decode M.2.1.1 pc = .ok (.newarray atype, 2)) (hn : pc + 2 = n) (hat : newarray.typeOf atype = .int) (hcw : Cond.arrayClass .int ∈ zm_all) (hx : ¬ x < 0) (hN : x.toNatClampNeg = N) (hby : N * componentBytes .int ≤ 536870912) (hcs : nc + 1 ≤ mc) (hss : ns + N ≤ ms) (hg : G.length = g) (hG1 : G ++ [.inl (false, N)] = G') (hG : zm_ltG g G = true) (hL : zm_ltL g L = true) (hst : zm_ltS g st = true) (hlen : Nat.blt g 1000000 = true) (k : zm_WP M sc d mc ms Q n L (.ref g :: st) G' (zm_upA S g (fun _ => 0)) (nc + 1) (ns + N)) : zm_WP M sc d mc ms Q pc L (.int x :: st) G S nc ns := by
  subst hn hG1 hg
  intro p l e R s m args below meth c D cI cZ A QM ad0 n0 X ad H locs ls h1 h2 hP hD hS hl hz
  have hlt : G.length < 1000000 := by simpa using hlen
  refine va_newa X.1 X.2.1 (atype := atype) (by rw [hat]; exact X.2.2.2.2.1.1 _ hcw) hat X.2.2.2.2.2.1 hP hD hS X.2.2.2.2.2.2.1 (a0 := (N, .inl (fun _ => 0))) (fun cA => rfl) hx hN hby (Nat.le_trans hcs X.2.2.2.2.2.2.2.1.2.2.1) (Nat.le_trans hss X.2.2.2.2.2.2.2.1.2.2.2) hd (fun q cA H1 hK1 hP1 hD1 hS1 => ?_)
  have e0 : cA = cI := by
    have a1 := (hK1.2 2 (cA, .int) rfl).2
    have a2 := (X.2.2.2.2.2.1.2 0 (cI, .int) rfl).2
    exact Option.some.inj (a1.symm.trans a2)
  rw [e0] at hP1 hD1
  let ad' : Nat → Nat := fun k => if k = G.length then q else ad k
  have ha : ∀ k, k < G.length ∨ k = 1000000 → ad' k = ad k := fun k hk => if_neg (by omega)
  have hq : ad' G.length = q := if_pos rfl
  have eW := zm_w_push (cI := cI) (cZ := cZ) (ad := ad) (ad' := ad') (S := S) (S' := zm_upA S G.length (fun _ => 0)) (q := q) (sh := .inl (false, N)) hG ha hq (fun k hk => zm_upA_ne S _ (by omega)) rfl
  have e1 : zm_e cI cZ ad' (zm_upA S G.length (fun _ => 0)) G.length (.inl (false, N)) = .inl (cI, N, .inl (fun _ => 0)) := by simp [zm_e, zm_upA_self]
  rw [e1] at eW
  have e2 : (Value.ref G.length :: st).map (zm_v ad') = .ref q :: st.map (zm_v ad) := by
    rw [List.map_cons, zm_S_eq ha hst]; show Value.ref (ad' G.length) :: _ = _; rw [hq]
  rw [← e2]
  exact k p l e R s m args below meth c D cI cZ A QM ad0 n0 X ad' H1 locs ls (fun k hk => (ha k (by omega)).trans (h1 k hk)) (by rw [List.length_append]; omega) (eW ▸ hP1) (eW ▸ hD1) hS1 (hl.re ha hL) hz
theorem zr_newZ {x : Int32} {atype : ArrayType} {N g n : Nat} {G' : List zm_Sh} (hd : decode M.2.1.1 pc = .ok (.newarray atype, 2)) (hn : pc + 2 = n) (hat : newarray.typeOf atype = .boolean) (hcw : Cond.arrayClass .boolean ∈ zm_all) (hx : ¬ x < 0) (hN : x.toNatClampNeg = N) (hby : N * componentBytes .boolean ≤ 536870912) (hcs : nc + 1 ≤ mc) (hss : ns + N ≤ ms) (hg : G.length = g) (hG1 : G ++ [.inl (true, N)] = G') (hG : zm_ltG g G = true) (hL : zm_ltL g L = true) (hst : zm_ltS g st = true) (hlen : Nat.blt g 1000000 = true) (k : zm_WP M sc d mc ms Q n L (.ref g :: st) G' (zm_upA S g (fun _ => 0)) (nc + 1) (ns + N)) : zm_WP M sc d mc ms Q pc L (.int x :: st) G S nc ns := by
  subst hn hG1 hg
  intro p l e R s m args below meth c D cI cZ A QM ad0 n0 X ad H locs ls h1 h2 hP hD hS hl hz
  have hlt : G.length < 1000000 := by simpa using hlen
  refine va_newa X.1 X.2.1 (atype := atype) (by rw [hat]; exact X.2.2.2.2.1.1 _ hcw) hat X.2.2.2.2.2.1 hP hD hS X.2.2.2.2.2.2.1 (a0 := (N, .inl (fun _ => 0))) (fun cA => rfl) hx hN hby (Nat.le_trans hcs X.2.2.2.2.2.2.2.1.2.2.1) (Nat.le_trans hss X.2.2.2.2.2.2.2.1.2.2.2) hd (fun q cA H1 hK1 hP1 hD1 hS1 => ?_)
  have e0 : cA = cZ := by
    have a1 := (hK1.2 2 (cA, .boolean) rfl).2
    have a2 := (X.2.2.2.2.2.1.2 1 (cZ, .boolean) rfl).2
    exact Option.some.inj (a1.symm.trans a2)
  rw [e0] at hP1 hD1
  let ad' : Nat → Nat := fun k => if k = G.length then q else ad k
  have ha : ∀ k, k < G.length ∨ k = 1000000 → ad' k = ad k := fun k hk => if_neg (by omega)
  have hq : ad' G.length = q := if_pos rfl
  have eW := zm_w_push (cI := cI) (cZ := cZ) (ad := ad) (ad' := ad') (S := S) (S' := zm_upA S G.length (fun _ => 0)) (q := q) (sh := .inl (true, N)) hG ha hq (fun k hk => zm_upA_ne S _ (by omega)) rfl
  have e1 : zm_e cI cZ ad' (zm_upA S G.length (fun _ => 0)) G.length (.inl (true, N)) = .inl (cZ, N, .inl (fun _ => 0)) := by simp [zm_e, zm_upA_self]
  rw [e1] at eW
  have e2 : (Value.ref G.length :: st).map (zm_v ad') = .ref q :: st.map (zm_v ad) := by
    rw [List.map_cons, zm_S_eq ha hst]; show Value.ref (ad' G.length) :: _ = _; rw [hq]
  rw [← e2]
  exact k p l e R s m args below meth c D cI cZ A QM ad0 n0 X ad' H1 locs ls (fun k hk => (ha k (by omega)).trans (h1 k hk)) (by rw [List.length_append]; omega) (eW ▸ hP1) (eW ▸ hD1) hS1 (hl.re ha hL) hz
end
def zm_dv : Option Value → Value
  | none => .int 0
  | some v => v
def zm_nl : Option Value → Bool
  | none => true
  | some .null => true
  | _ => false
section
variable {M : zm_M} {sc : Option (Nat × (Nat → Int32))} {d mc ms : Nat} {Q : zm_Q} {pc : Nat} {L : zm_L} {st : List Value} {G : List zm_Sh} {S : zm_S} {nc ns : Nat}
theorem zr_new {index ci N g n : Nat} {C : String} {T : u_T} {ty0 : Nat → FieldType} {rs : List (Option Value)} {G' : List zm_Sh} (hd : decode M.2.1.1 pc = .ok (.new index, 3)) (hn : pc + 3 = n) (hc : zcl[ci]? = some (C, T, N)) (hin : ∀ w ∈ u_ws C T N, w ∈ zm_all) (ht : zm_tw T N ty0) (hw : Cond.classLink M.1.cls index C ∈ zm_all ∧ Cond.instantiable C N ∈ zm_all ∧ Cond.initialized C ∈ zm_all) (hdf : ∀ j, j < N → defaultValue (ty0 j) = vp_V (rs.map zm_dv) j) (hnl : rs.all zm_nl = true) (hcs : nc + 1 ≤ mc) (hss : ns + N ≤ ms) (hg : G.length = g) (hG1 : G ++ [.inr (ci, rs)] = G') (hG : zm_ltG g G = true) (hL : zm_ltL g L = true) (hst : zm_ltS g st = true) (hlen : Nat.blt g 1000000 = true) (k : zm_WP M sc d mc ms Q n L (.ref g :: st) G' (zm_upA S g (fun _ => 0)) (nc + 1) (ns + N)) : zm_WP M sc d mc ms Q pc L st G S nc ns := by
  subst hn hG1 hg
  intro p l e R s m args below meth c D cI cZ A QM ad0 n0 X ad H locs ls h1 h2 hP hD hS hl hz
  have hlt : G.length < 1000000 := by simpa using hlen
  refine va_new X.1 X.2.1 X.2.2.2.2.1.1 hin ty0 ht.1 X.2.2.2.1 (X.2.2.2.2.1.1 _ hw.1) (X.2.2.2.2.1.1 _ hw.2.1) (X.2.2.2.2.1.1 _ hw.2.2) X.2.2.2.2.2.1 hP hD hS X.2.2.2.2.2.2.1 hc (fs := rs.map zm_dv) hdf (Nat.le_trans hcs X.2.2.2.2.2.2.2.1.2.2.1) (Nat.le_trans hss X.2.2.2.2.2.2.2.1.2.2.2) hd (fun q H1 hP1 hD1 hS1 => ?_)
  let ad' : Nat → Nat := fun k => if k = G.length then q else ad k
  have ha : ∀ k, k < G.length ∨ k = 1000000 → ad' k = ad k := fun k hk => if_neg (by omega)
  have hq : ad' G.length = q := if_pos rfl
  have eW := zm_w_push (cI := cI) (cZ := cZ) (ad := ad) (ad' := ad') (S := S) (S' := zm_upA S G.length (fun _ => 0)) (q := q) (sh := .inr (ci, rs)) hG ha hq (fun k hk => zm_upA_ne S _ (by omega)) rfl
  have e1 : zm_e cI cZ ad' (zm_upA S G.length (fun _ => 0)) G.length (.inr (ci, rs)) = .inr (ci, rs.map zm_dv) := by
    show Sum.inr (ci, _) = Sum.inr (ci, _)
    congr 2
    apply List.ext_getElem?
    intro j
    rw [List.getElem?_mapIdx, List.getElem?_map]
    cases hj : rs[j]? with
    | none => rfl
    | some o =>
      have ho := List.all_eq_true.mp hnl o (List.mem_of_getElem? hj)
      cases o with
      | none => show some (Value.int (zm_upA S G.length (fun _ => 0) G.length j)) = some (Value.int 0); rw [zm_upA_self]
      | some v => cases v with
        | null => rfl
        | _ => cases ho
  rw [e1] at eW
  have e2 : (Value.ref G.length :: st).map (zm_v ad') = .ref q :: st.map (zm_v ad) := by
    rw [List.map_cons, zm_S_eq ha hst]; show Value.ref (ad' G.length) :: _ = _; rw [hq]
  rw [← e2]
  exact k p l e R s m args below meth c D cI cZ A QM ad0 n0 X ad' H1 locs ls (fun k hk => (ha k (by omega)).trans (h1 k hk)) (by rw [List.length_append]; omega) (eW ▸ hP1) (eW ▸ hD1) hS1 (hl.re ha hL) hz
end
theorem zm_sum (ad : Nat → Nat) (st : List Value) : ((st.map (zm_v ad)).map fun v => v.category).sum = (st.map fun v => v.category).sum := by rw [List.map_map]; congr 1; apply List.map_congr_left; intro v _; exact zm_cat ad v
theorem zm_goodIn {M' : zm_M} (h : Cond.code M'.1 M'.2.1.1 M'.2.1.2 M'.2.2 ∈ zm_all) : GoodIn zm_all (zm_ws M') := by
  intro w hw
  have hm : w ∈ zm_all := by
    rcases List.mem_cons.mp hw with rfl | hw
    · exact h
    · exact hw
  exact ⟨hm, good_of_word (List.mem_filter.mp hm).2⟩
def zm_cw (own : String) (index : Nat) (M' : zm_M) (np : Nat) : Prop :=
  Cond.code M'.1 M'.2.1.1 M'.2.1.2 M'.2.2 ∈ zm_all ∧ Cond.initialized M'.1.cls ∈ zm_all ∧ (M'.1.cls ≠ "java/lang/invoke/MethodHandle" ∧ M'.1.cls ≠ "java/lang/invoke/VarHandle" ∧ (parseMethodDescriptor M'.1.desc).map (fun d => d.parameters.length) = some np) ∧ M'.2.1.2 ≤ 25 ∧ (Cond.methodLink own index M'.1 ∈ zm_all ∨ ∃ host, Cond.methodLinkNest own index M'.1 host ∈ lw_tbl)
theorem zm_fb {D : va_G} {cI cZ : ClassId} {ad : Nat → Nat} {sz : Nat} {av : List Value} {G : List zm_Sh} {S : zm_S} : FrameBlind (zm_Pc D cI cZ ad sz av G S) := fun a U g mk q => by
  obtain ⟨q0, q1, qP, qK, qD, qN⟩ := q
  exact ⟨q0, q1, qP, va_K.moved (u := U) (U := U.calling g mk a) (Vm.Alike.refl U.vm) qK, qD, zm_N.same (s := U) (U := U.calling g mk a) rfl qN⟩
theorem zm_pre {D : va_G} {cI cZ : ClassId} {ad : Nat → Nat} {A : Nat → Prop} {av : List Value} {G : List zm_Sh} {S : zm_S} {s : State} {H : Heap} (hK : va_K D zcl (zm_tys cI cZ) s) (hP : va_P D zcl (zm_w cI cZ ad G S) H) (hD : va_D A (zm_w cI cZ ad G S)) (hN : zm_N s) : PreS s H (zm_Pc D cI cZ ad H.size av G S) (av.map (zm_v ad)) :=
  ⟨zm_fb, fun U hU hW => ⟨rfl, by rw [hU], by rw [hU]; exact hP, va_K.moved hW.alike hK, hD.weaken (fun _ _ _ _ => trivial), zm_N.warm hW hN⟩⟩
theorem zm_callB {s : State} {args : Array Value} {R : Room} {own : String} {index np d mc' ms' : Nat} {M' : zm_M} (hts : ∀ w ∈ zm_all, w.before args s = true) (hw : zm_cw own index M' np) (hl : Cond.methodLink own index M'.1 ∈ zm_all) (hR : d + 1 ≤ R.frames ∧ 44 * (d + 1) ≤ R.locals) : CallB R s args own index M'.1 M'.2.1.1 M'.2.1.2 M'.2.2 (zm_ws M') (zm_room d mc' ms') mc' ms' np :=
  callB_of np hts (zm_goodIn hw.1) rfl rfl rfl (hts _ hw.2.1) (hts _ hl) hw.2.2.1 ⟨hR.1, by have := hw.2.2.2.1; show 8 + (M'.2.1.2 + 11) + 44 * d ≤ R.locals; omega⟩
theorem zm_callN {s : State} {args : Array Value} {R : Room} {own host : String} {index np d mc' ms' : Nat} {M' : zm_M} (hts : ∀ w ∈ zm_all, w.before args s = true) (hN : zm_N s) (hw : zm_cw own index M' np) (hl : Cond.methodLinkNest own index M'.1 host ∈ lw_tbl) (hR : d + 1 ≤ R.frames ∧ 44 * (d + 1) ≤ R.locals) : va_CN R s args own index M'.1 host M'.2.1.1 M'.2.1.2 M'.2.2 (zm_ws M') (zm_room d mc' ms') mc' ms' np := by
  refine ⟨⟨rfl, rfl, hR.1, by have := hw.2.2.2.1; show 8 + (M'.2.1.2 + 11) + 44 * d ≤ R.locals; omega, pay_in hts (zm_goodIn hw.1), List.mem_cons_self⟩, hts _ hw.1, hts _ hw.2.1, ⟨hw.2.2.1.1, hw.2.2.1.2.1⟩, fun sig h => ?_, va_Nw.use rfl (hN _ hl rfl)⟩
  have h2 := hw.2.2.1.2.2
  rw [h] at h2
  exact (Option.some.inj h2).symm
section
variable {M : zm_M} {sc : Option (Nat × (Nat → Int32))} {d mc ms : Nat} {Q : zm_Q} {pc : Nat} {L : zm_L} {st : List Value} {G : List zm_Sh} {S : zm_S} {nc ns : Nat}
theorem zm_after {Q' : zm_Q} {mc' ms' n : Nat} {rest : List Value} (hn : pc + 3 = n) (hL : zm_ltL G.length L = true) (hst : zm_ltS G.length rest = true)
    (hk : ∀ v G' S', Q' v G' S' → zm_WP M sc (d + 1) mc ms Q n L (zm_ps v rest) G' S' (nc + mc') (ns + ms'))
    {p : Program} {l : Launch} {e : Env} {R : Room} {s : State} {m : MethodId} {args : Array Value} {below : List Frame} {meth : Method} {c : Code} {D : va_G} {cI cZ : ClassId} {A : Nat → Prop} {QM : State → Prop} {ad0 : Nat → Nat} {n0 : Nat} (X : zm_Cx M sc (d + 1) mc ms Q p l e R s m args below meth c D cI cZ A QM ad0 n0)
    {ad : Nat → Nat} {H : Heap} {locs : List Loc} {ls : Array Slot} {a : Array Value} {st0 : List Value} (h1 : ∀ k, k < n0 ∨ k = 1000000 → ad k = ad0 k) (h2 : n0 ≤ G.length) (hD : va_D A (zm_w cI cZ ad G S)) (hS : va_S A s.heap H locs) (hl : zm_LV ad ls L) (hz : L.length = M.2.1.2)
    (hr : va_Run p l e R s m args below meth c H locs nc ns mc' ms' (F0 m pc ls st0) (rest.map (zm_v ad)) (zm_Qc D cI cZ ad H.size G S Q' a) (va_A (zm_w cI cZ ad G S) H.size)) : W p l e R s m args below meth c H locs nc ns QM (F0 m pc ls st0) := by
  subst hn
  have hFc : ∀ q, va_A (zm_w cI cZ ad G S) H.size q → A q := by
    rintro q (⟨k, e, h⟩ | h)
    · exact hD.2 k _ h
    · exact X.2.2.2.2.2.2.1 q (Nat.le_trans hS.1 h)
  refine zm_cont hr (fun st oc t h => h) hS (fun q _ h => hFc q h) hFc (fun v t H1 locs1 ht hvm hB hz1 hS1 => ?_)
  obtain ⟨v', ad', G', S', hv, hQ, ha, hGl, hP1, hD1⟩ := hB
  have hv2 : v = v'.map Value.int := by injection hv
  subst hv2
  rw [ht] at hP1
  have := hk v' G' S' hQ p l e R s m args below meth c D cI cZ A QM ad0 n0 X ad' H1 locs1 ls (fun k hk => (ha k (by omega)).trans (h1 k hk)) (Nat.le_trans h2 hGl) hP1 (hD1.weaken (fun _ q _ h => hFc q.1 h)) hS1 (hl.re ha hL) hz
  cases v' with
  | none =>
    have e3 : (zm_ps none rest).map (zm_v ad') = rest.map (zm_v ad) := zm_S_eq ha hst
    rw [e3] at this; exact this
  | some x =>
    have e3 : (zm_ps (some x) rest).map (zm_v ad') = .int x :: rest.map (zm_v ad) := by
      show (Value.int x :: rest).map (zm_v ad') = _
      rw [List.map_cons, zm_S_eq ha hst]; rfl
    rw [e3] at this; exact this
theorem zr_callV {M' : zm_M} {mc' ms' index np n b ci N : Nat} {T : u_T} {rs : List (Option Value)} {av rest : List Value} (hd : decode M.2.1.1 pc = .ok (.invokevirtual index, 3)) (hn : pc + 3 = n) (hw : zm_cw M.1.cls index M' np) (hw2 : Cond.instanceMethod M'.1 ∈ zm_all ∧ Cond.selects M'.1.cls M'.1 M'.1 ∈ zm_all) (hg : G[b]? = some (.inr (ci, rs))) (hc : zcl[ci]? = some (M'.1.cls, T, N)) (hst : st = av.reverse ++ .ref b :: rest) (hav : av.length = np) (hL : zm_ltL G.length L = true) (hr : zm_ltS G.length rest = true) (hs : Nat.ble (rest.map fun v => v.category).sum 8 = true) (hcs : nc + mc' ≤ mc) (hss : ns + ms' ≤ ms) (k : zm_CC M' d mc' ms' (.ref b :: av) G S (fun v G' S' => zm_WP M sc (d + 1) mc ms Q n L (zm_ps v rest) G' S' (nc + mc') (ns + ms'))) : zm_WP M sc (d + 1) mc ms Q pc L st G S nc ns := by
  intro p l e R s m args below meth c D cI cZ A QM ad0 n0 X ad H locs ls h1 h2 hP hD hS hl hz
  have hroom : 2 * (F0 m pc ls (st.map (zm_v ad))).monitorRoom + ((rest.map (zm_v ad)).map fun v => v.category).sum ≤ 8 := lv_room (by rw [zm_sum]; exact Nat.le_of_ble_eq_true hs)
  have hsz : ls.size = M.2.1.2 := hl.1.trans hz
  have hst2 : st.map (zm_v ad) = (av.map (zm_v ad)).reverse ++ .ref (ad b) :: rest.map (zm_v ad) := by rw [hst, List.map_append, List.map_reverse]; rfl
  have hp : PreV s H M'.1.cls (ad b) (zm_Pc D cI cZ ad H.size (.ref b :: av) G S) (av.map (zm_v ad)) := ⟨zm_fb, va_recv X.2.2.2.2.2.1 hP hc (zm_w_get hg), (zm_pre (av := .ref b :: av) X.2.2.2.2.2.1 hP hD X.2.2.2.2.1.2).2⟩
  rcases hw.2.2.2.2 with hlk | ⟨host, hlk⟩
  · exact zm_after hn hL hr (fun v G' S' h => h) X h1 h2 hD hS hl hz (va_runV ⟨X.1, X.2.1, X.2.2.1, X.2.2.2.1, X.2.2.2.2.1.1⟩ (k l D cI cZ ad H.size) ⟨zm_callB X.2.2.2.2.1.1 hw hlk ⟨X.2.2.2.2.2.2.2.1.1, X.2.2.2.2.2.2.2.1.2.1⟩, X.2.2.2.2.1.1 _ hw2.1, X.2.2.2.2.1.1 _ hw2.2⟩ hp rfl (by rw [List.length_map]; exact hav) hsz hst2 hroom hd ⟨Nat.le_trans hcs X.2.2.2.2.2.2.2.1.2.2.1, Nat.le_trans hss X.2.2.2.2.2.2.2.1.2.2.2⟩)
  · exact zm_after hn hL hr (fun v G' S' h => h) X h1 h2 hD hS hl hz (va_runVN ⟨X.1, X.2.1, X.2.2.1, X.2.2.2.1, X.2.2.2.2.1.1⟩ (k l D cI cZ ad H.size) ⟨zm_callN X.2.2.2.2.1.1 X.2.2.2.2.1.2 hw hlk ⟨X.2.2.2.2.2.2.2.1.1, X.2.2.2.2.2.2.2.1.2.1⟩, X.2.2.2.2.1.1 _ hw2.1, X.2.2.2.2.1.1 _ hw2.2⟩ hp rfl (by rw [List.length_map]; exact hav) hsz hst2 hroom hd ⟨Nat.le_trans hcs X.2.2.2.2.2.2.2.1.2.2.1, Nat.le_trans hss X.2.2.2.2.2.2.2.1.2.2.2⟩)
theorem zr_callS {M' : zm_M} {mc' ms' index np n : Nat} {av rest : List Value} (hd : decode M.2.1.1 pc = .ok (.invokestatic index, 3)) (hn : pc + 3 = n) (hw : zm_cw M.1.cls index M' np) (hw2 : Cond.static M'.1 ∈ zm_all) (hst : st = av.reverse ++ rest) (hav : av.length = np) (hL : zm_ltL G.length L = true) (hr : zm_ltS G.length rest = true) (hs : Nat.ble (rest.map fun v => v.category).sum 8 = true) (hcs : nc + mc' ≤ mc) (hss : ns + ms' ≤ ms) (k : zm_CC M' d mc' ms' av G S (fun v G' S' => zm_WP M sc (d + 1) mc ms Q n L (zm_ps v rest) G' S' (nc + mc') (ns + ms'))) : zm_WP M sc (d + 1) mc ms Q pc L st G S nc ns := by
  intro p l e R s m args below meth c D cI cZ A QM ad0 n0 X ad H locs ls h1 h2 hP hD hS hl hz
  have hroom : 2 * (F0 m pc ls (st.map (zm_v ad))).monitorRoom + ((rest.map (zm_v ad)).map fun v => v.category).sum ≤ 8 := lv_room (by rw [zm_sum]; exact Nat.le_of_ble_eq_true hs)
  have hsz : ls.size = M.2.1.2 := hl.1.trans hz
  have hst2 : st.map (zm_v ad) = (av.map (zm_v ad)).reverse ++ rest.map (zm_v ad) := by rw [hst, List.map_append, List.map_reverse]
  rcases hw.2.2.2.2 with hlk | ⟨host, hlk⟩
  · exact zm_after hn hL hr (fun v G' S' h => h) X h1 h2 hD hS hl hz (va_runS ⟨X.1, X.2.1, X.2.2.1, X.2.2.2.1, X.2.2.2.2.1.1⟩ (k l D cI cZ ad H.size) ⟨zm_callB X.2.2.2.2.1.1 hw hlk ⟨X.2.2.2.2.2.2.2.1.1, X.2.2.2.2.2.2.2.1.2.1⟩, X.2.2.2.2.1.1 _ hw2⟩ (zm_pre X.2.2.2.2.2.1 hP hD X.2.2.2.2.1.2) rfl (by rw [List.length_map]; exact hav) hsz hst2 hroom hd ⟨Nat.le_trans hcs X.2.2.2.2.2.2.2.1.2.2.1, Nat.le_trans hss X.2.2.2.2.2.2.2.1.2.2.2⟩)
  · exact zm_after hn hL hr (fun v G' S' h => h) X h1 h2 hD hS hl hz (va_runSN ⟨X.1, X.2.1, X.2.2.1, X.2.2.2.1, X.2.2.2.2.1.1⟩ (k l D cI cZ ad H.size) ⟨zm_callN X.2.2.2.2.1.1 X.2.2.2.2.1.2 hw hlk ⟨X.2.2.2.2.2.2.2.1.1, X.2.2.2.2.2.2.2.1.2.1⟩, X.2.2.2.2.1.1 _ hw2, trivial⟩ (zm_pre X.2.2.2.2.2.1 hP hD X.2.2.2.2.1.2) rfl (by rw [List.length_map]; exact hav) hsz hst2 hroom hd ⟨Nat.le_trans hcs X.2.2.2.2.2.2.2.1.2.2.1, Nat.le_trans hss X.2.2.2.2.2.2.2.1.2.2.2⟩)
theorem zr_callI {M' : zm_M} {mc' ms' index np n b : Nat} {av rest : List Value} (hd : decode M.2.1.1 pc = .ok (.invokespecial index, 3)) (hn : pc + 3 = n) (hw : zm_cw M.1.cls index M' np) (hret : M'.2.2 = none) (hin : M'.1.name = "<init>") (hw2 : Cond.instanceMethod M'.1 ∈ zm_all) (hst : st = av.reverse ++ .ref b :: rest) (hav : av.length = np) (hL : zm_ltL G.length L = true) (hr : zm_ltS G.length rest = true) (hs : Nat.ble (rest.map fun v => v.category).sum 8 = true) (hcs : nc + mc' ≤ mc) (hss : ns + ms' ≤ ms) (k : zm_CC M' d mc' ms' (.ref b :: av) G S (fun v G' S' => zm_WP M sc (d + 1) mc ms Q n L (zm_ps v rest) G' S' (nc + mc') (ns + ms'))) : zm_WP M sc (d + 1) mc ms Q pc L st G S nc ns := by
  intro p l e R s m args below meth c D cI cZ A QM ad0 n0 X ad H locs ls h1 h2 hP hD hS hl hz
  have hroom : 2 * (F0 m pc ls (st.map (zm_v ad))).monitorRoom + ((rest.map (zm_v ad)).map fun v => v.category).sum ≤ 8 := lv_room (by rw [zm_sum]; exact Nat.le_of_ble_eq_true hs)
  have hsz : ls.size = M.2.1.2 := hl.1.trans hz
  have hst2 : st.map (zm_v ad) = (av.map (zm_v ad)).reverse ++ .ref (ad b) :: rest.map (zm_v ad) := by rw [hst, List.map_append, List.map_reverse]; rfl
  rcases hw.2.2.2.2 with hlk | ⟨host, hlk⟩
  · have cb := zm_callB (mc' := mc') (ms' := ms') (d := d) (R := R) (s := s) (args := args) X.2.2.2.2.1.1 hw hlk ⟨X.2.2.2.2.2.2.2.1.1, X.2.2.2.2.2.2.2.1.2.1⟩
    rw [hret] at cb
    exact zm_after hn hL hr (fun v G' S' h => h) X h1 h2 hD hS hl hz (va_runI ⟨X.1, X.2.1, X.2.2.1, X.2.2.2.1, X.2.2.2.2.1.1⟩ (k l D cI cZ ad H.size) ⟨cb, hin, X.2.2.2.2.1.1 _ hw2⟩ (zm_pre (av := .ref b :: av) X.2.2.2.2.2.1 hP hD X.2.2.2.2.1.2) rfl (by rw [List.length_map]; exact hav) hsz hst2 hroom hd ⟨Nat.le_trans hcs X.2.2.2.2.2.2.2.1.2.2.1, Nat.le_trans hss X.2.2.2.2.2.2.2.1.2.2.2⟩)
  · have cb := zm_callN (mc' := mc') (ms' := ms') (d := d) (R := R) (s := s) (args := args) X.2.2.2.2.1.1 X.2.2.2.2.1.2 hw hlk ⟨X.2.2.2.2.2.2.2.1.1, X.2.2.2.2.2.2.2.1.2.1⟩
    rw [hret] at cb
    exact zm_after hn hL hr (fun v G' S' h => h) X h1 h2 hD hS hl hz (va_runIN ⟨X.1, X.2.1, X.2.2.1, X.2.2.2.1, X.2.2.2.2.1.1⟩ (k l D cI cZ ad H.size) ⟨cb, hin, X.2.2.2.2.1.1 _ hw2⟩ (zm_pre (av := .ref b :: av) X.2.2.2.2.2.1 hP hD X.2.2.2.2.1.2) rfl (by rw [List.length_map]; exact hav) hsz hst2 hroom hd ⟨Nat.le_trans hcs X.2.2.2.2.2.2.2.1.2.2.1, Nat.le_trans hss X.2.2.2.2.2.2.2.1.2.2.2⟩)
theorem zr_objInit {index n a : Nat} (hd : decode M.2.1.1 pc = .ok (.invokespecial index, 3)) (hn : pc + 3 = n) (hw : Cond.methodLink M.1.cls index Lib.objectInit ∈ zm_all ∧ Cond.instanceMethod Lib.objectInit ∈ zm_all ∧ Cond.code Lib.objectInit ⟨#[0xb1]⟩ 1 none ∈ zm_all) (hs : Nat.ble (st.map fun v => v.category).sum 8 = true) (k : zm_WP M sc (d + 1) mc ms Q n L st G S nc ns) : zm_WP M sc (d + 1) mc ms Q pc L (.ref a :: st) G S nc ns := by
  subst hn
  intro p l e R s m args below meth c D cI cZ A QM ad0 n0 X ad H locs ls h1 h2 hP hD hS hl hz
  have hroom : 2 * (F0 m pc ls (st.map (zm_v ad))).monitorRoom + ((st.map (zm_v ad)).map fun v => v.category).sum ≤ 8 := lv_room (by rw [zm_sum]; exact Nat.le_of_ble_eq_true hs)
  have hR := X.2.2.2.2.2.2.2.1
  exact W.objInit X.1 X.2.1 X.2.2.2.1 (X.2.2.2.2.1.1 _ hw.1) (X.2.2.2.2.1.1 _ hw.2.1) (X.2.2.2.2.1.1 _ hw.2.2) rfl (by rw [X.2.2.1, ← hz]; exact hl.1) rfl hd (by omega) (Nat.le_trans (Nat.add_le_add_right hroom 12) (by omega)) (k p l e R s m args below meth c D cI cZ A QM ad0 n0 X ad H locs ls h1 h2 hP hD hS hl hz)
theorem zr_copy {index n a0 a1 N0 N1 : Nat} {sp dp w : Int32} (j0 j1 jn : Nat) (hd : decode M.2.1.1 pc = .ok (.invokestatic index, 3)) (hn : pc + 3 = n) (hw : Cond.methodLink M.1.cls index arraycopyName ∈ zm_all ∧ Cond.native arraycopyName ∈ zm_all ∧ Cond.static arraycopyName ∈ zm_all ∧ Cond.initialized "java/lang/System" ∈ zm_all) (hg0 : G[a0]? = some (.inl (false, N0))) (hg1 : G[a1]? = some (.inl (false, N1))) (hsp : ¬ sp < 0 ∧ sp.toNatClampNeg = j0) (hdp : ¬ dp < 0 ∧ dp.toNatClampNeg = j1) (hwn : ¬ w < 0 ∧ w.toNatClampNeg = jn) (hb0 : j0 + jn ≤ N0) (hb1 : j1 + jn ≤ N1) (hs : Nat.ble (st.map fun v => v.category).sum 8 = true) (k : zm_WP M sc (d + 1) mc ms Q n L st G (zm_upA S a1 (va_cpy (S a0) (S a1) j0 j1 jn)) nc ns) : zm_WP M sc (d + 1) mc ms Q pc L (.int w :: .int dp :: .ref a1 :: .int sp :: .ref a0 :: st) G S nc ns := by
  subst hn
  obtain ⟨hsp, rfl⟩ := hsp
  obtain ⟨hdp, rfl⟩ := hdp
  obtain ⟨hwn, rfl⟩ := hwn
  intro p l e R s m args below meth c D cI cZ A QM ad0 n0 X ad H locs ls h1 h2 hP hD hS hl hz
  have hR := X.2.2.2.2.2.2.2.1
  have hs8 := Nat.le_of_ble_eq_true hs
  have hnf : nativeFrameWords "java/lang/System" "arraycopy" 5 + 11 ≤ 36 := by decide +kernel
  have eW := zm_w_upA (cI := cI) (cZ := cZ) (ad := ad) (f := va_cpy (S a0) (S a1) sp.toNatClampNeg dp.toNatClampNeg w.toNatClampNeg) (S := S) hg1
  refine va_copyi X.1 X.2.1 (X.2.2.1.trans (hl.1.trans hz).symm) X.2.2.2.1 (X.2.2.2.2.1.1 _ hw.1) (X.2.2.2.2.1.1 _ hw.2.1) (X.2.2.2.2.1.1 _ hw.2.2.1) (X.2.2.2.2.1.1 _ hw.2.2.2) X.2.2.2.2.2.1 hP hD hS a0 a1 0 0 (zm_w_get hg0) (zm_w_get hg1) zm_tyI zm_tyI rfl hsp hdp hwn hb0 hb1 (fun _ _ => rfl) (by omega) (by rw [zm_sum]; omega) hd (fun H1 locs1 hP1 hD1 hS1 => ?_)
  exact k p l e R s m args below meth c D cI cZ A QM ad0 n0 X ad H1 locs1 ls h1 h2 (eW ▸ hP1) (eW ▸ hD1) hS1 hl hz
end
