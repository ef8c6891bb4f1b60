/-! the memory keeps the machine's interface -/
theorem m2_set_map {α β : Type} (l : List α) (f f' : α → β) (q : Nat) (r : α) (hn : l.Nodup) (hq : l[q]? = some r) (h : ∀ x ∈ l, x ≠ r → f' x = f x) : l.map f' = (l.map f).set q (f' r) := by
  apply List.ext_getElem?
  intro k
  rw [List.getElem?_set, List.getElem?_map, List.getElem?_map, List.length_map]
  have hql : q < l.length := (List.getElem?_eq_some_iff.mp hq).1
  by_cases hk : q = k
  · subst hk
    rw [if_pos rfl, hq, if_pos hql]
    rfl
  · rw [if_neg hk]
    cases hx : l[k]? with
    | none => rfl
    | some x =>
      have hxl := List.mem_of_getElem? hx
      have hne : x ≠ r := fun e => by
        subst e
        exact hk ((List.getElem?_inj hql hn).mp (hq.trans hx.symm))
      simp [h x hxl hne]
theorem m2_ids_nd : m2_ids.Nodup := by decide +kernel
theorem m2_ids_mem {t i : Nat} (ht : t < 90) (hi : i < m2_n t) : (t, i) ∈ m2_ids :=
  List.mem_flatMap.mpr ⟨t, List.mem_range.mpr ht, List.mem_map.mpr ⟨i, List.mem_range.mpr hi, rfl⟩⟩
theorem m2_tl_at {σ : M2} {t i : Nat} (ht : t < 90) (hi : i < m2_n t) : ∃ q : Nat, m2_ids[q]? = some (t, i) ∧ (m2_tl σ)[q]? = some ((t, i), m2_cell σ (t, i)) := by
  obtain ⟨q, hq⟩ := List.getElem?_of_mem (m2_ids_mem ht hi)
  refine ⟨q, hq, ?_⟩
  unfold m2_tl
  rw [List.getElem?_map, hq]
  rfl
theorem m2_nf_lt {t k : Nat} (h : k < m2_nf t) : t < 14 := by
  unfold m2_nf at h
  by_cases ht : t < 14
  · exact ht
  · rw [List.getD_eq_getElem?_getD, List.getElem?_eq_none (by show m2_FL.length ≤ t; exact Nat.le_trans (Nat.le_of_ble_eq_true rfl) (Nat.not_lt.mp ht))] at h
    exact absurd h (Nat.not_lt_zero _)
theorem m2_obj : ∀ t, t < 14 → m2_al t = none := by
  intro t h
  match t, h with
  | 0, _ => rfl
  | 1, _ => rfl
  | 2, _ => rfl
  | 3, _ => rfl
  | 4, _ => rfl
  | 5, _ => rfl
  | 6, _ => rfl
  | 7, _ => rfl
  | 8, _ => rfl
  | 9, _ => rfl
  | 10, _ => rfl
  | 11, _ => rfl
  | 12, _ => rfl
  | 13, _ => rfl
  | n + 14, h => exact absurd h (by omega)
theorem m2_cell_o {σ : M2} {t i : Nat} (ht : t < 14) : m2_cell σ (t, i) = .inl (t, (List.range (m2_nf t)).map (m2_fv σ t i)) := by
  unfold m2_cell m2_aw
  rw [m2_obj t ht]
  rfl
/-- references that stand still are good ones -/
theorem m2_still : ∀ t, t < 14 → ∀ k, k < m2_nf t → (m2_F t k).1 = 2 → ∀ i, i < m2_n t → (m2_F t k).2.2 i < m2_n (m2_F t k).2.1 := by decide +kernel
theorem m2_kinds : ∀ t, t < 14 → ∀ k, k < m2_nf t → (m2_F t k).1 ≤ 4 := by decide +kernel
theorem m2_fv_ok {σ : M2} {t i k : Nat} (ho : m2_okM σ) (hk : k < m2_nf t) (hi : i < m2_n t) : m2_ok (m2_fv σ t i k) := by
  have ht := m2_nf_lt hk
  have h2 := m2_still t ht k hk
  have h3 := ho t ht k hk
  unfold m2_fv
  generalize m2_F t k = e at h2 h3 ⊢
  obtain ⟨a, g, f⟩ := e
  split
  · trivial
  · trivial
  · rename_i e9; cases e9; exact h2 rfl i hi
  · rename_i e9; cases e9; exact h3 rfl i hi
  · trivial
theorem m2_get_i {σ : M2} {r : dm_R} {ci k : Nat} {v : dm_V} (h : m2_get σ r ci k = some v) : r.1 = ci ∧ k < m2_nf ci ∧ v = m2_fv σ r.1 r.2 k := by
  unfold m2_get at h
  cases hb : (Nat.beq r.1 ci && Nat.blt k (m2_nf ci)) with
  | false => rw [hb] at h; cases h
  | true =>
    rw [hb] at h
    rw [Bool.and_eq_true] at hb
    exact ⟨Nat.eq_of_beq_eq_true hb.1, Nat.le_of_ble_eq_true hb.2, (Option.some.inj h).symm⟩
theorem m2_hget (L : Nat) (xs : Nat → Int32) : dm_hget (m2O L xs) m2_ok m2_tl m2_okM := by
  intro σ r ci k v ho hr h
  obtain ⟨rfl, h2, rfl⟩ := m2_get_i h
  obtain ⟨t, i⟩ := r
  have hi : i < m2_n t := hr
  have ht := m2_nf_lt h2
  refine ⟨m2_fv_ok ho h2 hi, ?_⟩
  obtain ⟨q, hq, hq2⟩ := m2_tl_at (σ := σ) (Nat.lt_trans ht (Nat.le_of_ble_eq_true rfl)) hi
  rw [m2_cell_o ht] at hq2
  refine ⟨q, _, hq2, ?_⟩
  rw [List.getElem?_map, List.getElem?_range h2]
  rfl
/-- the types of the fields -/
def m2_ft (ci k : Nat) : Option FieldType := parseFieldDescriptor (((vwCl[ci]?).map (fun q => (q.2.1 k).2.2.1)).getD "")
theorem m2_ftk : ∀ ci, ci < 14 → ∀ k, k < m2_nf ci → ((m2_F ci k).1 = 0 → m2_ft ci k = some .int) ∧ ((m2_F ci k).1 = 4 → m2_ft ci k = some .boolean) ∧ ((m2_F ci k).1 = 1 → m2_ft ci k = some .long) ∧ ((m2_F ci k).1 = 3 → (m2_ft ci k).any (fun ty => ty.isReference) = true) ∧ (vwCl[ci]?).isSome = true := by decide +kernel
theorem m2_fits {ad : Nat → Nat → Nat} {ci k : Nat} {v : dm_V} {ty : FieldType} (hci : ci < 14) (hk : k < m2_nf ci) (ht : m2_ft ci k = some ty) (hn : narrow ty (dm_cv ad v) = dm_cv ad v) (hf : fits ty (dm_cv ad v) = true) : ∃ (C : String) (T : u_T) (N : Nat) (ty : FieldType), vwCl[ci]? = some (C, T, N) ∧ parseFieldDescriptor (T k).2.2.1 = some ty ∧ narrow ty (dm_cv ad v) = dm_cv ad v ∧ fits ty (dm_cv ad v) = true := by
  have h5 := (m2_ftk ci hci k hk).2.2.2.2
  obtain ⟨⟨C, T, N⟩, hq⟩ := Option.isSome_iff_exists.mp h5
  refine ⟨C, T, N, ty, hq, ?_, hn, hf⟩
  unfold m2_ft at ht
  rw [hq] at ht
  exact ht
theorem m2_ref_fit {ty : FieldType} (h : ty.isReference = true) (a : Nat) : narrow ty (.ref a) = .ref a ∧ fits ty (.ref a) = true := by
  cases ty <;> first | (cases h; done) | exact ⟨rfl, rfl⟩
theorem m2_cell_ne {σ σ' : M2} {t i : Nat} (h1 : σ'.1 t i = σ.1 t i) (h2 : σ'.2.1 t i = σ.2.1 t i) (h3 : σ'.2.2 t i = σ.2.2 t i) : m2_cell σ' (t, i) = m2_cell σ (t, i) := by
  have ha : m2_aw σ' t i = m2_aw σ t i := by
    unfold m2_aw
    cases m2_al t with
    | none => rfl
    | some e =>
      obtain ⟨ty, n, kd, g, f⟩ := e
      show some _ = some _
      congr 1
      unfold m2_bl
      split
      · rename_i e9; cases e9; simp only [h1]
      · rename_i e9; cases e9; simp only [h2]
      · rfl
  have hf : m2_fv σ' t i = m2_fv σ t i := by
    funext k
    unfold m2_fv
    rw [h1, h2, h3]
  unfold m2_cell
  dsimp only
  rw [ha, hf]
theorem m2_wI_off {σ : M2} {t i k : Nat} {z : Int32} {t' i' : Nat} (h : ¬ (t' = t ∧ i' = i)) : (m2_wI σ t i k z).1 t' i' = σ.1 t' i' := by
  funext k'
  show (if t' = t ∧ i' = i ∧ k' = k then z else σ.1 t' i' k') = _
  rw [if_neg (fun q => h ⟨q.1, q.2.1⟩)]
theorem m2_wJ_off {σ : M2} {t i k : Nat} {z : Int64} {t' i' : Nat} (h : ¬ (t' = t ∧ i' = i)) : (m2_wJ σ t i k z).2.1 t' i' = σ.2.1 t' i' := by
  funext k'
  show (if t' = t ∧ i' = i ∧ k' = k then z else σ.2.1 t' i' k') = _
  rw [if_neg (fun q => h ⟨q.1, q.2.1⟩)]
theorem m2_wD_off {σ : M2} {t i k : Nat} {z : Nat} {t' i' : Nat} (h : ¬ (t' = t ∧ i' = i)) : (m2_wD σ t i k z).2.2 t' i' = σ.2.2 t' i' := by
  funext k'
  show (if t' = t ∧ i' = i ∧ k' = k then z else σ.2.2 t' i' k') = _
  rw [if_neg (fun q => h ⟨q.1, q.2.1⟩)]
/-- a field is written: the world's list -/
theorem m2_tl_put {σ σ' : M2} {t i k : Nat} {v : dm_V} (ht : t < 14) (hi : i < m2_n t) (hk : k < m2_nf t) (hoff : ∀ t' i', ¬ (t' = t ∧ i' = i) → σ'.1 t' i' = σ.1 t' i' ∧ σ'.2.1 t' i' = σ.2.1 t' i' ∧ σ'.2.2 t' i' = σ.2.2 t' i') (hon : m2_fv σ' t i k = v) (hof : ∀ k', k' ≠ k → m2_fv σ' t i k' = m2_fv σ t i k') :
    ∃ (q0 : Nat) (fs : List dm_V), (m2_tl σ)[q0]? = some ((t, i), Sum.inl (t, fs)) ∧ k < fs.length ∧ m2_tl σ' = (m2_tl σ).set q0 ((t, i), .inl (t, fs.set k v)) := by
  obtain ⟨q, hq, hq2⟩ := m2_tl_at (σ := σ) (Nat.lt_trans ht (Nat.le_of_ble_eq_true rfl)) hi
  rw [m2_cell_o ht] at hq2
  refine ⟨q, _, hq2, by rw [List.length_map, List.length_range]; exact hk, ?_⟩
  have h1 := m2_set_map m2_ids (fun r => (r, m2_cell σ r)) (fun r => (r, m2_cell σ' r)) q (t, i) m2_ids_nd hq (fun x _ hx => by
    obtain ⟨t', i'⟩ := x
    obtain ⟨g1, g2, g3⟩ := hoff t' i' (fun e => hx (by rw [e.1, e.2]))
    show ((t', i'), m2_cell σ' (t', i')) = _
    rw [m2_cell_ne g1 g2 g3])
  show m2_ids.map _ = (m2_ids.map _).set q _
  rw [h1]
  show (m2_ids.map _).set q ((t, i), m2_cell σ' (t, i)) = _
  rw [m2_cell_o ht]
  have h2 := m2_set_map (List.range (m2_nf t)) (m2_fv σ t i) (m2_fv σ' t i) k k List.nodup_range (List.getElem?_range hk) (fun x _ hx => hof x hx)
  rw [h2, hon]
theorem m2_hput (L : Nat) (xs : Nat → Int32) (ad : Nat → Nat → Nat) : dm_hput (m2O L xs) m2_ok vwCl ad m2_tl (fun _ _ => True) m2_okM (fun _ => (0, 0)) (fun _ => (0, 0)) := by
  intro σ r ci k v σ' ho hr hv h0
  have h : m2_put σ r ci k v = some σ' := h0
  clear h0
  obtain ⟨t, i⟩ := r
  unfold m2_put at h
  cases hb : (Nat.beq t ci && Nat.blt k (m2_nf ci)) with
  | false => rw [hb] at h; cases h
  | true =>
    rw [hb] at h
    rw [Bool.and_eq_true] at hb
    obtain rfl := Nat.eq_of_beq_eq_true hb.1
    have hk : k < m2_nf t := Nat.le_of_ble_eq_true hb.2
    have ht := m2_nf_lt hk
    have hi : i < m2_n t := hr
    have hty := m2_ftk t ht k hk
    have hF : ∀ {e : Nat × Nat × (Nat → Nat)}, m2_F t k = e → m2_F t k = e := fun h => h
    dsimp only [cond] at h
    split at h
    · rename_i g f z hkk
      cases h
      have e0 : (m2_F t k).1 = 0 := by rw [hkk]
      refine ⟨fun t' ht' k' hk' h3 i' hi' => ho t' ht' k' hk' h3 i' hi', fun _ _ => trivial, rfl, rfl, ?_, m2_fits ht hk (hty.1 e0) rfl rfl⟩
      refine m2_tl_put ht hi hk (fun t' i' hne => ⟨m2_wI_off hne, rfl, rfl⟩) ?_ (fun k' hne => ?_)
      · unfold m2_fv; rw [hkk]; show vi (if _ then _ else _) = _; rw [if_pos ⟨rfl, rfl, rfl⟩]
      · unfold m2_fv
        have : (m2_wI σ t i k z).1 t i k' = σ.1 t i k' := if_neg (fun q => hne q.2.2)
        rw [this]; rfl
    · rename_i g f z hkk
      cases hz : (z == 0 || z == 1) with
      | false => rw [hz] at h; cases h
      | true =>
        rw [hz] at h
        cases h
        have e0 : (m2_F t k).1 = 4 := by rw [hkk]
        have hz' : z = 0 ∨ z = 1 := by simpa using hz
        refine ⟨fun t' ht' k' hk' h3 i' hi' => ho t' ht' k' hk' h3 i' hi', fun _ _ => trivial, rfl, rfl, ?_, m2_fits ht hk (hty.2.1 e0) ?_ ?_⟩
        · refine m2_tl_put ht hi hk (fun t' i' hne => ⟨m2_wI_off hne, rfl, rfl⟩) ?_ (fun k' hne => ?_)
          · unfold m2_fv; rw [hkk]; show vi (if _ then _ else _) = _; rw [if_pos ⟨rfl, rfl, rfl⟩]
          · unfold m2_fv
            have : (m2_wI σ t i k z).1 t i k' = σ.1 t i k' := if_neg (fun q => hne q.2.2)
            rw [this]; rfl
        · rcases hz' with rfl | rfl <;> rfl
        · rcases hz' with rfl | rfl <;> rfl
    · rename_i g f z hkk
      cases h
      have e0 : (m2_F t k).1 = 1 := by rw [hkk]
      refine ⟨fun t' ht' k' hk' h3 i' hi' => ho t' ht' k' hk' h3 i' hi', fun _ _ => trivial, rfl, rfl, ?_, m2_fits ht hk (hty.2.2.1 e0) rfl rfl⟩
      refine m2_tl_put ht hi hk (fun t' i' hne => ⟨rfl, m2_wJ_off hne, rfl⟩) ?_ (fun k' hne => ?_)
      · unfold m2_fv; rw [hkk]; show vl (if _ then _ else _) = _; rw [if_pos ⟨rfl, rfl, rfl⟩]
      · unfold m2_fv
        have : (m2_wJ σ t i k z).2.1 t i k' = σ.2.1 t i k' := if_neg (fun q => hne q.2.2)
        rw [this]; rfl
    · rename_i g f t' i' hkk
      cases hz : Nat.beq t' g with
      | false => rw [hz] at h; cases h
      | true =>
        rw [hz] at h
        cases h
        obtain rfl := Nat.eq_of_beq_eq_true hz
        have e0 : (m2_F t k).1 = 3 := by rw [hkk]
        have eg : (m2_F t k).2.1 = t' := by rw [hkk]
        have hv' : i' < m2_n t' := hv
        obtain ⟨ty, hty1, hty2⟩ : ∃ ty, m2_ft t k = some ty ∧ ty.isReference = true := by
          have h9 := hty.2.2.2.1 e0
          cases h8 : m2_ft t k with
          | none => rw [h8] at h9; cases h9
          | some ty => rw [h8] at h9; exact ⟨ty, rfl, h9⟩
        obtain ⟨n1, n2⟩ := m2_ref_fit hty2 (ad t' i')
        refine ⟨fun t2 ht2 k2 hk2 h3 i2 hi2 => ?_, fun _ _ => trivial, rfl, rfl, ?_, m2_fits ht hk hty1 n1 n2⟩
        · show (if _ then _ else _) < _
          split
          · rename_i hh
            obtain ⟨rfl, rfl, rfl⟩ := hh
            rw [eg]; exact hv'
          · exact ho t2 ht2 k2 hk2 h3 i2 hi2
        · refine m2_tl_put ht hi hk (fun t2 i2 hne => ⟨rfl, rfl, m2_wD_off hne⟩) ?_ (fun k' hne => ?_)
          · unfold m2_fv; rw [hkk]; show vr t' (if _ then _ else _) = _; rw [if_pos ⟨rfl, rfl, rfl⟩]
          · unfold m2_fv
            have : (m2_wD σ t i k i').2.2 t i k' = σ.2.2 t i k' := if_neg (fun q => hne q.2.2)
            rw [this]; rfl
    · cases h
