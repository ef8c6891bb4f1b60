theorem m1_get_i {σ : M1} {r : dm_R} {ci k : Nat} {v : dm_V} (h : m1_get σ r ci k = some v) : r.1 = 100 ∧ ∃ fs, σ.1[r.2]? = some (.inl (ci, fs)) ∧ fs[k]? = some v := by
  unfold m1_get at h
  cases hb : Nat.beq r.1 100 with
  | false => rw [hb] at h; cases h
  | true =>
    rw [hb] at h
    dsimp only [cond] at h
    split at h
    · rename_i c fs hc
      cases hq : Nat.beq c ci with
      | false => rw [hq] at h; cases h
      | true =>
        rw [hq] at h
        obtain rfl := Nat.eq_of_beq_eq_true hq
        exact ⟨Nat.eq_of_beq_eq_true hb, fs, hc, h⟩
    · cases h
theorem m1_hget : dm_hget m1O m1_ok m1_tl m1_okM := by
  intro σ r ci k v ho hr h
  obtain ⟨t, i⟩ := r
  obtain ⟨e1, fs, e2, e3⟩ := m1_get_i h
  have e1 : t = 100 := e1
  subst e1
  have hc := ho.1 _ (List.mem_of_getElem? e2)
  exact ⟨hc v (List.mem_of_getElem? e3), i, fs, m1_tl_at e2, e3⟩
theorem m1_nar {ty : FieldType} {v : dm_V} (h : m1_fit ty v = true) (ad : Nat → Nat → Nat) : narrow ty (dm_cv ad v) = dm_cv ad v ∧ fits ty (dm_cv ad v) = true ∧ m1_ok v := by
  unfold m1_fit at h
  split at h
  · exact ⟨rfl, rfl, trivial⟩
  · rename_i z
    have hz : z = 0 ∨ z = 1 := by simpa using h
    rcases hz with rfl | rfl <;> exact ⟨rfl, rfl, trivial⟩
  · exact ⟨rfl, rfl, trivial⟩
  · obtain rfl := Nat.eq_of_beq_eq_true h
    exact ⟨rfl, rfl, fun q => by cases q⟩
  · obtain rfl := Nat.eq_of_beq_eq_true h
    exact ⟨rfl, rfl, fun q => by cases q⟩
  · cases h
theorem m1_types : ∀ ci, ci < 14 → ∀ k, k < m2_nf ci → m2_ft ci k = some (m1_ty ci k) := by decide +kernel
theorem m1_set_ok {l : List dm_C} {k : Nat} {c : dm_C} (h : ∀ c ∈ l, m1_cok c) (hc : m1_cok c) : ∀ d ∈ l.set k c, m1_cok d := by
  intro d hd
  rcases List.mem_or_eq_of_mem_set hd with h1 | h1
  · exact h d h1
  · rw [h1]; exact hc
theorem m1_hput (ad : Nat → Nat → Nat) (B : Nat) : dm_hput m1O m1_ok vwCl ad m1_tl (m1_sz B) m1_okM (fun σ => σ.2.1) (fun σ => σ.2.2) := by
  intro σ r ci k v σ' ho hr hv h0
  have h : m1_put σ r ci k v = some σ' := h0
  clear h0
  obtain ⟨t, i⟩ := r
  unfold m1_put at h
  cases hb : (Nat.beq t 100 && Nat.blt k (m2_nf ci) && m1_fit (m1_ty ci k) v) with
  | false => rw [hb] at h; cases h
  | true =>
    rw [hb] at h
    rw [Bool.and_eq_true, Bool.and_eq_true] at hb
    obtain ⟨⟨b1, b2⟩, b3⟩ := hb
    obtain rfl := Nat.eq_of_beq_eq_true b1
    have hk : k < m2_nf ci := Nat.le_of_ble_eq_true b2
    obtain ⟨n1, n2, n3⟩ := m1_nar b3 ad
    dsimp only [cond] at h
    split at h
    · rename_i c fs hc
      cases hq : (Nat.beq c ci && Nat.blt k fs.length) with
      | false => rw [hq] at h; cases h
      | true =>
        rw [hq] at h
        cases h
        rw [Bool.and_eq_true] at hq
        obtain rfl := Nat.eq_of_beq_eq_true hq.1
        have hkl : k < fs.length := Nat.le_of_ble_eq_true hq.2
        have hil : i < σ.1.length := (List.getElem?_eq_some_iff.mp hc).1
        have hci := m2_nf_lt hk
        refine ⟨⟨m1_set_ok ho.1 (fun w hw => ?_), ho.2⟩, fun n hn => ?_, rfl, rfl, ⟨i, fs, m1_tl_at hc, hkl, m1_tl_set hil⟩, m2_fits hci hk (m1_types _ hci k hk) n1 n2⟩
        · rcases List.mem_or_eq_of_mem_set hw with h1 | h1
          · exact ho.1 _ (List.mem_of_getElem? hc) w h1
          · rw [h1]; exact n3
        · show n = B + (σ.1.set i _).length
          rw [List.length_set]; exact hn
    · cases h
theorem m1_harr {ad : Nat → Nat → Nat} {B : Nat} {s : State} (h92 : va_X (ad 92 0) 9 (fun j => m2_room.getD j 0) s s.heap ∧ ad 92 0 < s.heap.size ∧ ¬ B ≤ ad 92 0) : dm_harr m1O m1_ok ad B m1_tl m1_okM s := by
  intro σ r ty n x ho hr h0
  obtain ⟨t, i⟩ := r
  have h : m1_arr σ (t, i) = some (ty, n, x) := h0
  clear h0
  unfold m1_arr at h
  cases hb : Nat.beq t 100 with
  | true =>
    obtain rfl := Nat.eq_of_beq_eq_true hb
    rw [hb] at h
    dsimp only [cond] at h
    split at h
    · rename_i y hc
      cases h
      obtain ⟨c1, c2⟩ := ho.1 _ (List.mem_of_getElem? hc)
      exact ⟨Or.inl ⟨i, m1_tl_at hc⟩, List.getElem?_of_mem c1, fun f hf j _ => c2 f hf j⟩
    · cases h
  | false =>
    rw [hb] at h
    have h : cond (Nat.beq t 92 && Nat.beq i 0) (some (FieldType.int, 9, (Sum.inl (fun j => m2_room.getD j 0) : dm_X))) none = some (ty, n, x) := h
    cases h2 : (Nat.beq t 92 && Nat.beq i 0) with
    | true =>
      rw [h2] at h
      cases h
      rw [Bool.and_eq_true] at h2
      obtain rfl := Nat.eq_of_beq_eq_true h2.1
      obtain rfl := Nat.eq_of_beq_eq_true h2.2
      exact ⟨Or.inr ⟨rfl, _, rfl, by decide, h92.1, h92.2.1, h92.2.2⟩, ⟨0, rfl⟩, fun f hf => by cases hf⟩
    | false => rw [h2] at h; cases h
theorem m1_hsta (B : Nat) : dm_hsta m1O m1_ok vwCl m1_tl (m1_sz B) m1_okM (fun σ => σ.2.1) (fun σ => σ.2.2) := by
  intro σ r ty n x j v σ' ho hr hv h0 hj h1
  obtain ⟨t, i⟩ := r
  have ha : m1_arr σ (t, i) = some (ty, n, x) := h0
  have hs : m1_sta σ (t, i) j v = some σ' := h1
  clear h0 h1
  unfold m1_sta at hs
  cases hb : Nat.beq t 100 with
  | false => rw [hb] at hs; cases hs
  | true =>
    obtain rfl := Nat.eq_of_beq_eq_true hb
    rw [hb] at hs
    unfold m1_arr at ha
    rw [hb] at ha
    dsimp only [cond] at hs ha
    split at hs
    · rename_i ty' n' x' hc
      rw [hc] at ha
      cases ha
      cases he : m1_el σ ty v with
      | false => rw [he] at hs; cases hs
      | true =>
        rw [he] at hs
        cases hs
        have hil : i < σ.1.length := (List.getElem?_eq_some_iff.mp hc).1
        obtain ⟨c1, c2⟩ := ho.1 _ (List.mem_of_getElem? hc)
        refine ⟨⟨m1_set_ok ho.1 ⟨c1, ?_⟩, ho.2⟩, fun n hn => ?_, rfl, rfl, ⟨i, m1_tl_at hc, m1_tl_set hil⟩, ?_⟩
        · intro f hf k
          match x, v, hf with
          | .inl _, .inl _, hf => cases hf
          | .inl _, .inr _, hf => cases hf
          | .inr (.inl _), .inl _, hf => cases hf
          | .inr (.inl _), .inr (.inl _), hf => cases hf
          | .inr (.inl _), .inr (.inr _), hf => cases hf
          | .inr (.inr g), .inl _, hf => exact c2 f hf k
          | .inr (.inr g), .inr (.inl _), hf => exact c2 f hf k
          | .inr (.inr g), .inr (.inr z), hf =>
            cases hf
            show m1_ok (.inr (.inr (if k = j then z else g k)))
            by_cases hk : k = j
            · rw [if_pos hk]; exact hv
            · rw [if_neg hk]; exact c2 g rfl k
        · show n = B + (σ.1.set i _).length
          rw [List.length_set]; exact hn
        · intro q hq
          subst hq
          obtain ⟨tq, iq⟩ := q
          unfold m1_el at he
          dsimp only at he
          rw [Bool.and_eq_true] at he
          obtain rfl := Nat.eq_of_beq_eq_true he.1
          have he2 := he.2
          split at he2
          · rename_i c vs hcq
            rw [Bool.and_eq_true, decide_eq_true_eq] at he2
            have hc14 : c < 14 := Nat.le_of_ble_eq_true he2.1
            have hcl : ∀ c, c < 14 → ∃ w, vwCl[c]? = some w ∧ w.1 = dm_cn c := by
              intro c hc
              have : ∀ c, c < 14 → (vwCl[c]?).map (fun q => q.1) = some (dm_cn c) := by decide +kernel
              have h9 := this c hc
              cases hv : vwCl[c]? with
              | none => rw [hv] at h9; cases h9
              | some w => rw [hv] at h9; exact ⟨w, rfl, Option.some.inj h9⟩
            obtain ⟨w, hw1, hw2⟩ := hcl c hc14
            exact ⟨iq, c, vs, w, m1_tl_at hcq, hw1, by rw [hw2]; exact he2.2⟩
          · cases he2
    · cases hs
theorem m1_IF (ad : Nat → Nat → Nat) (B : Nat) {St : State → Heap → Prop} (hSt : dm_hSt B St) : dm_IF m1O m1_mc vwCl ad m1_ok B m1_tl (m1_sz B) m1_okM (fun σ => σ.2.1) (fun σ => σ.2.2) St := by
  refine ⟨fun x => trivial, fun x => trivial, m1_hget, m1_hput ad B, m1_hsta B, hSt, fun σ h => h.2, ?_, ?_⟩
  · intro σ y ho hck
    have hck : (Nat.ble (σ.2.1.1 + (m1_mc y).1) σ.2.2.1 && Nat.ble (σ.2.1.2 + (m1_mc y).2) σ.2.2.2) = true := hck
    rw [Bool.and_eq_true] at hck
    exact ⟨⟨ho.1, Nat.le_add_right _ _, Nat.le_add_right _ _⟩, rfl, fun n h => h, rfl, rfl, Nat.le_of_ble_eq_true hck.1, Nat.le_of_ble_eq_true hck.2⟩
  · intro σ σ' y ho ho' hck
    have hck : (Nat.ble (σ.2.1.1 + (m1_mc y).1) σ.2.2.1 && Nat.ble (σ.2.1.2 + (m1_mc y).2) σ.2.2.2) = true := hck
    rw [Bool.and_eq_true] at hck
    exact ⟨⟨ho'.1, Nat.le_of_ble_eq_true hck.1, Nat.le_of_ble_eq_true hck.2⟩, rfl, fun n h => h, rfl, rfl⟩
theorem m2_IF (L : Nat) (xs : Nat → Int32) (ad : Nat → Nat → Nat) (B : Nat) {St : State → Heap → Prop} (hSt : dm_hSt B St) : dm_IF (m2O L xs) (fun _ => (0, 0)) vwCl ad m2_ok B m2_tl (fun _ _ => True) m2_okM (fun _ => (0, 0)) (fun _ => (0, 0)) St :=
  ⟨fun x => trivial, fun x => trivial, m2_hget L xs, m2_hput L xs ad, m2_hsta L xs, hSt, fun σ _ => ⟨Nat.le_refl 0, Nat.le_refl 0⟩, fun σ y ho _ => ⟨ho, rfl, fun n h => h, rfl, rfl, Nat.le_refl 0, Nat.le_refl 0⟩, fun σ σ' y ho ho' _ => ⟨ho', rfl, fun n h => h, rfl, rfl⟩⟩
