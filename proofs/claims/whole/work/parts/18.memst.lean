/-- what the tables of arrays say -/
theorem m2_alok : ∀ t, t < 90 → (match m2_al t with
  | none => true
  | some (ty, n, kd, g, f) => dm_tyl.contains ty && (decide (kd ≠ 2) || (List.range (m2_n t)).all (fun i => (List.range (n i)).all (fun j => decide (f i j < m2_n g))))) = true := by decide +kernel
theorem m2_al_hi : ∀ t, 90 ≤ t → m2_al t = none := by
  intro t h
  have hb : ∀ k, k ≤ 90 → Nat.blt t k = false := fun k hk => by
    cases hh : Nat.blt t k with
    | false => rfl
    | true => have := Nat.le_of_ble_eq_true hh; omega
  have he : ∀ k, k < 90 → Nat.beq t k = false := fun k hk => by
    cases hh : Nat.beq t k with
    | false => rfl
    | true => have := Nat.eq_of_beq_eq_true hh; omega
  unfold m2_al
  simp only [hb _ (Nat.le_of_ble_eq_true (rfl : Nat.ble 52 90 = true)), hb, he, cond, Nat.reduceLeDiff, Nat.reduceLT]
theorem m2_cell_a {σ : M2} {t i : Nat} {e : FieldType × (Nat → Nat) × Nat × Nat × (Nat → Nat → Nat)} (h : m2_al t = some e) : m2_cell σ (t, i) = .inr (m2_bl σ t i e) := by
  unfold m2_cell m2_aw
  rw [h]
  rfl
theorem m2_harr (L : Nat) (xs : Nat → Int32) {ad : Nat → Nat → Nat} {B : Nat} {s : State} (hL : L < 2 ^ 31) (h92 : va_X (ad 92 0) 9 (fun j => m2_room.getD j 0) s s.heap ∧ ad 92 0 < s.heap.size ∧ ¬ B ≤ ad 92 0) (h93 : va_X (ad 93 0) L xs s s.heap ∧ ad 93 0 < s.heap.size ∧ ¬ B ≤ ad 93 0) : dm_harr (m2O L xs) m2_ok ad B m2_tl m2_okM s := by
  intro σ r ty n x ho hr h0
  obtain ⟨t, i⟩ := r
  have hi : i < m2_n t := hr
  have h : m2_ar L xs σ t i = some (ty, n, x) := h0
  clear h0
  unfold m2_ar at h
  cases hb : Nat.blt t 90 with
  | true =>
    have ht : t < 90 := Nat.le_of_ble_eq_true hb
    rw [hb] at h
    have h : m2_aw σ t i = some (ty, n, x) := h
    unfold m2_aw at h
    have hal := m2_alok t ht
    cases he : m2_al t with
    | none => rw [he] at h; cases h
    | some e =>
      rw [he] at h hal
      have h := Option.some.inj h
      obtain ⟨q, hq, hq2⟩ := m2_tl_at (σ := σ) ht hi
      rw [m2_cell_a he, h] at hq2
      obtain ⟨ty', n', kd, g, f⟩ := e
      simp only [Bool.and_eq_true] at hal
      have hty : ty' = ty ∧ n' i = n := by
        unfold m2_bl at h
        split at h <;> (rename_i e9; cases e9; cases h; exact ⟨rfl, rfl⟩)
      refine ⟨Or.inl ⟨q, hq2⟩, ?_, ?_⟩
      · have := List.contains_iff_mem.mp hal.1
        rw [hty.1] at this
        exact List.getElem?_of_mem this
      · intro f2 hf2 j hj
        unfold m2_bl at h
        split at h
        · rename_i e9; cases e9; cases h; cases hf2
        · rename_i e9; cases e9; cases h; cases hf2
        · rename_i e9 e1 e2
          cases e2
          cases h
          cases hf2
          have h3 := hal.2
          simp only [Bool.or_eq_true, decide_eq_true_eq, List.all_eq_true, List.mem_range] at h3
          rcases h3 with h3 | h3
          · by_cases hk : kd = 2
            · exact absurd hk h3
            · exfalso
              sorry
          · exact h3 i hi j hj
  | false =>
    rw [hb] at h
    have h : cond (Nat.beq t 92) (some (FieldType.int, 9, (Sum.inl (fun j => m2_room.getD j 0) : dm_X))) (cond (Nat.beq t 93) (some (.int, L, .inl xs)) none) = some (ty, n, x) := h
    cases h2 : Nat.beq t 92 with
    | true =>
      obtain rfl := Nat.eq_of_beq_eq_true h2
      rw [h2] at h
      cases h
      have hi : i < 1 := hi
      obtain rfl : i = 0 := by omega
      exact ⟨Or.inr ⟨rfl, _, rfl, by decide, h92.1, h92.2.1, h92.2.2⟩, ⟨0, rfl⟩, fun f hf => by cases hf⟩
    | false =>
      rw [h2] at h
      cases h3 : Nat.beq t 93 with
      | true =>
        obtain rfl := Nat.eq_of_beq_eq_true h3
        rw [h3] at h
        cases h
        have hi : i < 1 := hi
        obtain rfl : i = 0 := by omega
        exact ⟨Or.inr ⟨rfl, _, rfl, hL, h93.1, h93.2.1, h93.2.2⟩, ⟨0, rfl⟩, fun f hf => by cases hf⟩
      | false => rw [h3] at h; cases h
