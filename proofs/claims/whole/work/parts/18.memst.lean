/-- what the tables of arrays say -/
theorem m2_alok : ∀ t, t < 90 → (match m2_al t with
  | none => true
  | some (ty, n, kd, g, f) => dm_tyl.contains ty && decide (kd ≤ 2) && (decide (kd ≠ 2) || (List.range (m2_n t)).all (fun i => (List.range (n i)).all (fun j => decide (f i j < m2_n g))))) = true := by decide +kernel
theorem m2_al_hi : ∀ t, 90 ≤ t → m2_al t = none := by
  intro t h
  have hb : ∀ k, k ≤ 90 → Nat.blt t k = false := fun k hk => by
    cases hh : Nat.blt t k with
    | false => rfl
    | true => have := Nat.le_of_ble_eq_true hh; omega
  have he : ∀ k, k < 90 → Nat.beq t k = false := fun k hk => by
    cases hh : Nat.beq t k with
    | false => rfl
    | true => have := Nat.eq_of_beq_eq_true hh; omega
  unfold m2_al
  simp only [hb _ (Nat.le_of_ble_eq_true (rfl : Nat.ble 52 90 = true)), hb, he, cond, Nat.reduceLeDiff, Nat.reduceLT]
theorem m2_cell_a {σ : M2} {t i : Nat} {e : FieldType × (Nat → Nat) × Nat × Nat × (Nat → Nat → Nat)} (h : m2_al t = some e) : m2_cell σ (t, i) = .inr (m2_bl σ t i e) := by
  unfold m2_cell m2_aw
  rw [h]
  rfl
theorem m2_harr (L : Nat) (xs : Nat → Int32) {ad : Nat → Nat → Nat} {B : Nat} {s : State} (hL : L < 2 ^ 31) (h92 : va_X (ad 92 0) 9 (fun j => m2_room.getD j 0) s s.heap ∧ ad 92 0 < s.heap.size ∧ ¬ B ≤ ad 92 0) (h93 : va_X (ad 93 0) L xs s s.heap ∧ ad 93 0 < s.heap.size ∧ ¬ B ≤ ad 93 0) : dm_harr (m2O L xs) m2_ok ad B m2_tl m2_okM s := by
  intro σ r ty n x ho hr h0
  obtain ⟨t, i⟩ := r
  have hi : i < m2_n t := hr
  have h : m2_ar L xs σ t i = some (ty, n, x) := h0
  clear h0
  unfold m2_ar at h
  cases hb : Nat.blt t 90 with
  | true =>
    have ht : t < 90 := Nat.le_of_ble_eq_true hb
    rw [hb] at h
    have h : m2_aw σ t i = some (ty, n, x) := h
    unfold m2_aw at h
    have hal := m2_alok t ht
    cases he : m2_al t with
    | none => rw [he] at h; cases h
    | some e =>
      rw [he] at h hal
      have h := Option.some.inj h
      obtain ⟨q, hq, hq2⟩ := m2_tl_at (σ := σ) ht hi
      rw [m2_cell_a he, h] at hq2
      obtain ⟨ty', n', kd, g, f⟩ := e
      simp only [Bool.and_eq_true] at hal
      obtain ⟨⟨z1, z2⟩, z3⟩ := hal
      have z2 : kd ≤ 2 := by simpa using z2
      have hkd : kd = 0 ∨ kd = 1 ∨ kd = 2 := by omega
      have hmem := List.contains_iff_mem.mp z1
      rcases hkd with rfl | rfl | rfl
      · cases h
        exact ⟨Or.inl ⟨q, hq2⟩, List.getElem?_of_mem hmem, fun f2 hf2 => by cases hf2⟩
      · cases h
        exact ⟨Or.inl ⟨q, hq2⟩, List.getElem?_of_mem hmem, fun f2 hf2 => by cases hf2⟩
      · cases h
        refine ⟨Or.inl ⟨q, hq2⟩, List.getElem?_of_mem hmem, fun f2 hf2 j hj => ?_⟩
        cases hf2
        simp only [Bool.or_eq_true, decide_eq_true_eq, List.all_eq_true, List.mem_range] at z3
        rcases z3 with z3 | z3
        · exact absurd rfl z3
        · exact z3 i hi j hj
  | false =>
    rw [hb] at h
    have h : cond (Nat.beq t 92) (some (FieldType.int, 9, (Sum.inl (fun j => m2_room.getD j 0) : dm_X))) (cond (Nat.beq t 93) (some (.int, L, .inl xs)) none) = some (ty, n, x) := h
    cases h2 : Nat.beq t 92 with
    | true =>
      obtain rfl := Nat.eq_of_beq_eq_true h2
      rw [h2] at h
      cases h
      have hi : i < 1 := hi
      obtain rfl : i = 0 := by omega
      exact ⟨Or.inr ⟨rfl, _, rfl, by decide, h92.1, h92.2.1, h92.2.2⟩, ⟨0, rfl⟩, fun f hf => by cases hf⟩
    | false =>
      rw [h2] at h
      cases h3 : Nat.beq t 93 with
      | true =>
        obtain rfl := Nat.eq_of_beq_eq_true h3
        rw [h3] at h
        cases h
        have hi : i < 1 := hi
        obtain rfl : i = 0 := by omega
        exact ⟨Or.inr ⟨rfl, _, rfl, hL, h93.1, h93.2.1, h93.2.2⟩, ⟨0, rfl⟩, fun f hf => by cases hf⟩
      | false => rw [h3] at h; cases h
theorem m2_hsta (L : Nat) (xs : Nat → Int32) : dm_hsta (m2O L xs) m2_ok vwCl m2_tl (fun _ _ => True) m2_okM (fun _ => (0, 0)) (fun _ => (0, 0)) := by
  intro σ r ty n x j v σ' ho hr hv h0 hj h1
  obtain ⟨t, i⟩ := r
  have hi : i < m2_n t := hr
  have ha : m2_ar L xs σ t i = some (ty, n, x) := h0
  have hs : m2_sta σ (t, i) j v = some σ' := h1
  clear h0 h1
  cases he : m2_al t with
  | none =>
    unfold m2_sta at hs
    dsimp only at hs
    rw [he] at hs
    cases hs
  | some e =>
    have ht : t < 90 := Nat.not_le.mp fun hh => by rw [m2_al_hi t hh] at he; cases he
    have hb : Nat.blt t 90 = true := by
      cases hh : Nat.blt t 90 with
      | true => rfl
      | false => exact absurd (show Nat.ble (t + 1) 90 = true from Nat.ble_eq_true_of_le ht) (by rw [show Nat.ble (t + 1) 90 = Nat.blt t 90 from rfl, hh]; exact fun h => by cases h)
    have hx : m2_bl σ t i e = (ty, n, x) := by
      unfold m2_ar at ha
      rw [hb] at ha
      have ha : m2_aw σ t i = some (ty, n, x) := ha
      unfold m2_aw at ha
      rw [he] at ha
      exact Option.some.inj ha
    obtain ⟨q, hq, hq2⟩ := m2_tl_at (σ := σ) ht hi
    rw [m2_cell_a he, hx] at hq2
    have fin : ∀ (x' : dm_X), m2_bl σ' t i e = (ty, n, x') → (∀ t' i', ¬ (t' = t ∧ i' = i) → σ'.1 t' i' = σ.1 t' i' ∧ σ'.2.1 t' i' = σ.2.1 t' i' ∧ σ'.2.2 t' i' = σ.2.2 t' i') → m2_tl σ' = (m2_tl σ).set q ((t, i), .inr (ty, n, x')) := by
      intro x' hx' hoff
      have h1 := m2_set_map m2_ids (fun r => (r, m2_cell σ r)) (fun r => (r, m2_cell σ' r)) q (t, i) m2_ids_nd hq (fun y _ hy => by
        obtain ⟨t', i'⟩ := y
        obtain ⟨g1, g2, g3⟩ := hoff t' i' (fun e => hy (by rw [e.1, e.2]))
        show ((t', i'), m2_cell σ' (t', i')) = _
        rw [m2_cell_ne g1 g2 g3])
      show m2_ids.map _ = (m2_ids.map _).set q _
      rw [h1]
      show (m2_ids.map _).set q ((t, i), m2_cell σ' (t, i)) = _
      rw [m2_cell_a he, hx']
    unfold m2_sta at hs
    dsimp only at hs
    rw [he] at hs
    obtain ⟨ty', n', kd, g, f⟩ := e
    split at hs
    · rename_i e9
      cases e9
      cases hs
      cases hx
      refine ⟨fun t' ht' k' hk' h3 i' hi' => ho t' ht' k' hk' h3 i' hi', fun _ _ => trivial, rfl, rfl, ⟨q, hq2, ?_⟩, fun _ h => by cases h⟩
      refine fin _ ?_ (fun t' i' hne => ⟨m2_wI_off hne, rfl, rfl⟩)
      show (_, _, (Sum.inl _ : dm_X)) = (_, _, Sum.inl _)
      congr 3
      funext k'
      show (if t = t ∧ i = i ∧ k' = j then _ else _) = upd _ _ _ _
      by_cases hk : k' = j
      · rw [if_pos ⟨rfl, rfl, hk⟩, hk, pk_us]
      · rw [if_neg (fun q => hk q.2.2), pk_un hk]
    · rename_i e9
      cases e9
      cases hs
      cases hx
      refine ⟨fun t' ht' k' hk' h3 i' hi' => ho t' ht' k' hk' h3 i' hi', fun _ _ => trivial, rfl, rfl, ⟨q, hq2, ?_⟩, fun _ h => by cases h⟩
      refine fin _ ?_ (fun t' i' hne => ⟨rfl, m2_wJ_off hne, rfl⟩)
      show (_, _, (Sum.inr (Sum.inl _) : dm_X)) = (_, _, Sum.inr (Sum.inl _))
      congr 4
      funext k'
      show (if t = t ∧ i = i ∧ k' = j then _ else _) = vp_updL _ _ _ _
      by_cases hk : k' = j
      · rw [if_pos ⟨rfl, rfl, hk⟩, hk, pk_uLs]
      · rw [if_neg (fun q => hk q.2.2), pk_uLn hk]
    · cases hs
