def SI (S : zm_S) : zm_S := NS_Md (zm_upA (NS_CM (zm_upA S 0 (fun _ => 0))) 27 (fun _ => 0))
theorem si_2 (S : zm_S) : SI S 2 = upd (fun _ => 0) 0 1 := rfl
theorem si_3 (S : zm_S) : SI S 3 = fl (fun _ => 0) 12 (-1) := rfl
theorem si_4 (S : zm_S) : SI S 4 = fun _ => 0 := rfl
theorem si_28 (S : zm_S) : SI S 28 = upd (fun _ => 0) 0 1 := rfl
theorem si_19 (S : zm_S) : SI S 19 4 = -1 := rfl
theorem si_27 (S : zm_S) : SI S 27 22 = -1 ∧ SI S 27 23 = -1 ∧ SI S 27 5 = 0 := ⟨rfl, rfl, rfl⟩
theorem si_k (S : zm_S) {k : Nat} (h : 1 ≤ k) : SI S 2 k = 0 := by rw [si_2, upd_ne _ _ (by omega)]
theorem si_p (S : zm_S) {k : Nat} (h : k < 12) : SI S 3 k = -1 := by rw [si_3]; exact if_pos h
theorem RT.first (S : zm_S) : RT (SI S) := by
  refine ⟨rfl, rfl, rfl, rfl, fun k h1 _ hn => absurd (si_k S h1) hn, ⟨rfl, si_p S (by omega), fun k h1 h2 => Or.inl ⟨si_k S h1, si_p S h2⟩⟩, ⟨fun _ => 0, rfl, fun k p h1 _ _ hn _ => absurd (si_k S h1) hn⟩, fun k _ => ⟨0, by omega, rfl⟩, fun i => ⟨0, by omega, rfl⟩⟩
theorem RR.first (S : zm_S) : RR 0 (SI S) := by
  refine ⟨RT.first S, ⟨0, rfl, rfl, by omega, rfl, rfl, rfl, rfl, rfl, rfl, fun i => ⟨0, by omega, rfl⟩, fun j hj => absurd hj (Nat.not_lt_zero j)⟩, ⟨[], 0, 0, ⟨rfl, rfl, fun i hi => absurd hi (Nat.not_lt_zero i), fun i hi => absurd hi (Nat.not_lt_zero i)⟩, ⟨rfl, fun i hi => absurd hi (Nat.not_lt_zero i), fun i hi => absurd hi (Nat.not_lt_zero i)⟩, ⟨Nat.zero_le _, Nat.zero_le _, fun y hy => absurd hy List.not_mem_nil, fun x hx => absurd hx List.not_mem_nil⟩, by omega, rfl, rfl, rfl, rfl, Or.inl ⟨rfl, rfl⟩⟩, ⟨fun i => ⟨0, by omega, rfl⟩, ⟨0, rfl, by omega, fun h => by omega⟩, fun m hm => ⟨0, by omega, rfl⟩⟩, ⟨rfl, rfl, ⟨rfl, Or.inl rfl⟩, Or.inl ⟨rfl, rfl⟩, fun m hm => Or.inl ⟨rfl, rfl, rfl, rfl, fun b hb => rfl⟩, rfl, fun i => ⟨0, by omega, rfl⟩⟩, 0, rfl, by omega, Or.inl ⟨rfl, rfl⟩⟩
