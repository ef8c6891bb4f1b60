/-! from the memory of making to that of the running system -/
def m2_posl : List (List Nat) := [[22, 26, 30, 34, 38, 42, 46, 50, 105, 109, 113, 117, 121, 125, 129, 133], [73, 159, 162, 165, 168, 171, 174, 177, 180, 183, 186, 189, 192, 195, 198, 201], [156], [215], [204], [3, 86], [16, 17, 18, 19, 20, 21, 99, 100, 101, 102, 103, 104, 25, 29, 33, 37, 41, 45, 49, 53, 108, 112, 116, 120, 124, 128, 132, 136], [80], [2], [66, 67, 68, 69, 70, 71, 72, 149, 150, 151, 152, 153, 154, 155], [54, 57, 60, 63, 137, 140, 143, 146, 76, 205, 208], [81], [0], [224], [], [], [], [], [], [], [23, 27, 31, 35, 39, 43, 47, 51, 106, 110, 114, 118, 122, 126, 130, 134], [24, 28, 32, 36, 40, 44, 48, 52, 107, 111, 115, 119, 123, 127, 131, 135], [74, 160, 163, 166, 169, 172, 175, 178, 181, 184, 187, 190, 193, 196, 199, 202], [75, 161, 164, 167, 170, 173, 176, 179, 182, 185, 188, 191, 194, 197, 200, 203], [157], [158], [216], [217], [218], [219], [220], [221], [211], [212], [213], [214], [4, 87], [5, 88], [6, 89], [7, 90], [8, 91], [9, 92], [10, 93], [11, 94], [12, 95], [13, 96], [14, 97], [15, 98], [83], [84], [85], [79], [55, 58, 61, 64, 138, 141, 144, 147, 77, 206, 209], [56, 59, 62, 65, 139, 142, 145, 148, 78, 207, 210], [1, 82], [222], [223], [], [], [], [225], [226], [227], [228], [229], [230], [231], [232], [233], [234], [235], [236], [237], [238], [239], [240], [], [], [], [], [241]]
def m2_pos (t i : Nat) : Nat := (m2_posl.getD t []).getD i 0
def m2_names0 : List Int64 := [458856109, 21243335, 263757, 136356, 536622, 635184, 542723566, 52595, 178323, 294]
/-- the memory when all is made -/
def m2_0 : M2 := (fun t _ k => cond (Nat.beq t 8 && Nat.beq k 4) (-2) (cond (Nat.beq t 3 && Nat.beq k 0) (-1) (cond (Nat.beq t 13 && Nat.beq k 10) (-1) 0)), fun t _ k => cond (Nat.beq t 48) (m2_names0.getD k 0) 0, fun t _ k => cond ((Nat.beq t 7 && Nat.beq k 5) || (Nat.beq t 11 && Nat.beq k 0)) 1 0)
def m12_v (v : dm_V) : dm_V := match v with
  | .inr (.inr (some (t, i))) => vr 100 (m2_pos t i)
  | v => v
def m12_x (n : Nat) (x x' : dm_X) : Bool := match x, x' with
  | .inl f, .inl g => (List.range n).all (fun j => f j == g j)
  | .inr (.inl f), .inr (.inl g) => (List.range n).all (fun j => f j == g j)
  | .inr (.inr f), .inr (.inr g) => (List.range n).all (fun j => decide ((f j) = (g j).map (fun p => (100, m2_pos p.1 p.2))))
  | _, _ => false
def m12_c (c c' : dm_C) : Bool := match c, c' with
  | .inl (k, fs), .inl (k', fs') => Nat.beq k k' && decide (fs = fs'.map m12_v)
  | .inr (ty, n, x), .inr (ty', n', x') => decide (ty = ty') && Nat.beq n n' && m12_x n x x'
  | _, _ => false
def m12_all (l : List dm_C) (σ : M2) : Bool := m2_ids.all (fun r => match l[m2_pos r.1 r.2]? with
  | some c => m12_c c (m2_cell σ r)
  | none => false)
theorem m2_pos_inj : (m2_ids.map (fun r => m2_pos r.1 r.2)).Nodup := by decide +kernel
section BRG
variable {D : va_G} {dA : FieldType → ClassId} {ad : Nat → Nat → Nat} {B : Nat}
/-- where the cells of the running system lie -/
def m2_adok (ad : Nat → Nat → Nat) (B : Nat) : Prop := (∀ k, ad 100 k = B + k) ∧ ∀ t i, t < 90 → i < m2_n t → ad t i = B + m2_pos t i
theorem m12_cv (had : m2_adok ad B) {v : dm_V} (hv : m2_ok v) (ht : ∀ t i, v = vr t i → t < 90) : dm_cv ad (m12_v v) = dm_cv ad v := by
  match v, hv, ht with
  | .inl x, _, _ => rfl
  | .inr (.inl x), _, _ => rfl
  | .inr (.inr none), _, _ => rfl
  | .inr (.inr (some (t, i))), hv, ht =>
    show Value.ref (ad 100 (m2_pos t i)) = Value.ref (ad t i)
    rw [had.1, had.2 t i (ht t i rfl) hv]
/-- all references of the cells are among them -/
theorem m2_low : ∀ t, t < 14 → ∀ k, k < m2_nf t → ((m2_F t k).1 = 2 ∨ (m2_F t k).1 = 3) → (m2_F t k).2.1 < 90 := by decide +kernel
theorem m2_fv_low {σ : M2} {t i k t' i' : Nat} (hk : k < m2_nf t) (h : m2_fv σ t i k = vr t' i') : t' < 90 := by
  have ht := m2_nf_lt hk
  have h2 := m2_low t ht k hk
  unfold m2_fv at h
  generalize m2_F t k = e at h h2
  obtain ⟨a, g, f⟩ := e
  split at h
  · cases h
  · cases h
  · rename_i e9; cases e9; cases h; exact h2 (Or.inl rfl)
  · rename_i e9; cases e9; cases h; exact h2 (Or.inr rfl)
  · cases h
theorem m2_allow : ∀ t, t < 90 → (match m2_al t with
  | none => true
  | some (_, _, kd, g, _) => decide (kd ≠ 2) || decide (g < 90)) = true := by decide +kernel
/-- one cell -/
theorem m12_at (had : m2_adok ad B) {σ : M2} (ho : m2_okM σ) {t i : Nat} (ht : t < 90) (hi : i < m2_n t) {c : dm_C} (h : m12_c c (m2_cell σ (t, i)) = true) {H : Heap} (hat : va_at D vwCl (B + m2_pos t i, dm_cc ad dA c) H) : va_at D vwCl (ad t i, dm_cc ad dA (m2_cell σ (t, i))) H := by
  rw [had.2 t i ht hi]
  cases hal : m2_al t with
  | none =>
    have ht14 : t < 14 ∨ ¬ t < 14 := Nat.lt_or_ge t 14 |>.imp id Nat.not_lt.mpr
    have hc : m2_cell σ (t, i) = .inl (t, (List.range (m2_nf t)).map (m2_fv σ t i)) := by
      unfold m2_cell m2_aw; rw [hal]; rfl
    rw [hc] at h ⊢
    match c, h, hat with
    | .inr _, h, _ => cases h
    | .inl (k, fs), h, hat =>
      unfold m12_c at h
      simp only [Bool.and_eq_true, decide_eq_true_eq] at h
      obtain ⟨h1, h2⟩ := h
      obtain rfl := Nat.eq_of_beq_eq_true h1
      have e : fs.map (dm_cv ad) = ((List.range (m2_nf k)).map (m2_fv σ k i)).map (dm_cv ad) := by
        rw [h2, List.map_map]
        apply List.map_congr_left
        intro v hv
        obtain ⟨q, hq, rfl⟩ := List.mem_map.mp hv
        have hq := List.mem_range.mp hq
        exact m12_cv had (m2_fv_ok ho hq hi) (fun t' i' h9 => m2_fv_low hq h9)
      have hat : va_at D vwCl (B + m2_pos k i, .inr (k, fs.map (dm_cv ad))) H := hat
      rw [e] at hat
      exact hat
  | some e =>
    rw [m2_cell_a hal] at h ⊢
    have hlow := m2_allow t ht
    rw [hal] at hlow
    have hok := m2_alok t ht
    rw [hal] at hok
    obtain ⟨ty', n', kd, g, f'⟩ := e
    match c, h, hat with
    | .inl _, h, _ => cases h
    | .inr (ty, n, x), h, hat =>
      unfold m12_c at h
      simp only [Bool.and_eq_true, decide_eq_true_eq] at h
      obtain ⟨⟨h1, h2⟩, h3⟩ := h
      have h2 := Nat.eq_of_beq_eq_true h2
      simp only [Bool.and_eq_true, decide_eq_true_eq] at hok
      obtain ⟨⟨z1, z2⟩, z3⟩ := hok
      have hkd : kd = 0 ∨ kd = 1 ∨ kd = 2 := by omega
      rcases hkd with rfl | rfl | rfl
      · have h1 : ty = ty' := h1
        have h2 : n = n' i := h2
        subst h1; subst h2
        match x, h3, hat with
        | .inr (.inl _), h3, _ => cases h3
        | .inr (.inr _), h3, _ => cases h3
        | .inl f, h3, hat =>
          have h3 : ∀ j, j < n' i → f j = σ.1 t i j := fun j hj => by
            have := List.all_eq_true.mp h3 j (List.mem_range.mpr hj)
            simpa using this
          have hat : H[B + m2_pos t i]? = some (vp_cell (dA ty) (n' i, .inl f)) := hat
          show H[B + m2_pos t i]? = some (vp_cell (dA ty) (n' i, .inl (fun j => σ.1 t i j)))
          rw [hat, vp_cell_i, vp_cell_i]
          congr 1
          unfold arrV
          congr 2
          funext j
          show Value.int (f j.val) = Value.int (σ.1 t i j.val)
          rw [h3 j.val j.isLt]
      · have h1 : ty = ty' := h1
        have h2 : n = n' i := h2
        subst h1; subst h2
        match x, h3, hat with
        | .inl _, h3, _ => cases h3
        | .inr (.inr _), h3, _ => cases h3
        | .inr (.inl f), h3, hat =>
          have h3 : ∀ j, j < n' i → f j = σ.2.1 t i j := fun j hj => by
            have := List.all_eq_true.mp h3 j (List.mem_range.mpr hj)
            simpa using this
          have hat : H[B + m2_pos t i]? = some (vp_cell (dA ty) (n' i, .inr (.inl f))) := hat
          show H[B + m2_pos t i]? = some (vp_cell (dA ty) (n' i, .inr (.inl (fun j => σ.2.1 t i j))))
          rw [hat, vp_cell_l, vp_cell_l]
          congr 1
          unfold arrV
          congr 2
          funext j
          show Value.long (f j.val) = Value.long (σ.2.1 t i j.val)
          rw [h3 j.val j.isLt]
      · have h1 : ty = ty' := h1
        have h2 : n = n' i := h2
        subst h1; subst h2
        match x, h3, hat with
        | .inl _, h3, _ => cases h3
        | .inr (.inl _), h3, _ => cases h3
        | .inr (.inr f), h3, hat =>
          have h3 : ∀ j, j < n' i → f j = some (100, m2_pos g (f' i j)) := fun j hj => by
            have := List.all_eq_true.mp h3 j (List.mem_range.mpr hj)
            simpa using this
          have hg : g < 90 := by
            simp only [Bool.or_eq_true, decide_eq_true_eq] at hlow
            exact hlow.resolve_left (fun q => q rfl)
          have hfi : ∀ j, j < n' i → f' i j < m2_n g := by
            simp only [Bool.or_eq_true, decide_eq_true_eq, List.all_eq_true, List.mem_range] at z3
            exact fun j hj => z3.resolve_left (fun q => q rfl) i hi j hj
          have hat : H[B + m2_pos t i]? = some (vp_cell (dA ty) (n' i, .inr (.inr (.inr (.inr (fun j => (f j).map (fun p : Nat × Nat => ad p.1 p.2))))))) := hat
          show H[B + m2_pos t i]? = some (vp_cell (dA ty) (n' i, .inr (.inr (.inr (.inr (fun j => (some (g, f' i j)).map (fun p : Nat × Nat => ad p.1 p.2)))))))
          rw [hat, vp_cell_q, vp_cell_q]
          congr 1
          unfold arrV
          congr 2
          funext j
          show va_rf ((f j.val).map (fun p : Nat × Nat => ad p.1 p.2)) = va_rf ((some (g, f' i j.val)).map (fun p : Nat × Nat => ad p.1 p.2))
          rw [h3 j.val j.isLt]
          show va_rf (some (ad 100 (m2_pos g (f' i j.val)))) = va_rf (some (ad g (f' i j.val)))
          rw [had.1, had.2 g _ hg (hfi j.val j.isLt)]
/-- the whole world -/
theorem m12_world (had : m2_adok ad B) {σ1 : M1} {σ : M2} (ho : m2_okM σ) (h : m12_all σ1.1 σ = true) {H : Heap} (hP : va_P D vwCl (dm_wd ad dA (m1_tl σ1)) H) : va_P D vwCl (dm_wd ad dA (m2_tl σ)) H ∧ va_D (fun q => B ≤ q) (dm_wd ad dA (m2_tl σ)) := by
  have hids : ∀ (k : Nat) (q : Nat × va_E), (dm_wd ad dA (m2_tl σ))[k]? = some q → ∃ t i, m2_ids[k]? = some (t, i) ∧ t < 90 ∧ i < m2_n t ∧ q = (ad t i, dm_cc ad dA (m2_cell σ (t, i))) := by
    intro k q hq
    unfold dm_wd m2_tl at hq
    rw [List.getElem?_map, List.getElem?_map] at hq
    cases hk : m2_ids[k]? with
    | none => rw [hk] at hq; cases hq
    | some r =>
      rw [hk] at hq
      obtain ⟨t, i⟩ := r
      have hm := List.mem_of_getElem? hk
      obtain ⟨t', ht', h2⟩ := List.mem_flatMap.mp hm
      obtain ⟨i', hi', e9⟩ := List.mem_map.mp h2
      cases e9
      exact ⟨t, i, rfl, List.mem_range.mp ht', List.mem_range.mp hi', (Option.some.inj hq).symm⟩
  refine ⟨fun k q hq => ?_, fun a b p q hp hq he => ?_, fun k q hq => ?_⟩
  · obtain ⟨t, i, h1, h2, h3, rfl⟩ := hids k q hq
    have h4 := List.all_eq_true.mp h (t, i) (List.mem_of_getElem? h1)
    dsimp only at h4
    cases hc : σ1.1[m2_pos t i]? with
    | none => rw [hc] at h4; cases h4
    | some c =>
      rw [hc] at h4
      refine m12_at had ho h2 h3 h4 ?_
      have h5 := hP _ _ (dm_wd_at (ad := ad) (dA := dA) (m1_tl_at hc))
      have h5 : va_at D vwCl (ad 100 (m2_pos t i), dm_cc ad dA c) H := h5
      rw [had.1] at h5
      exact h5
  · obtain ⟨t, i, h1, h2, h3, rfl⟩ := hids a p hp
    obtain ⟨t', i', h1', h2', h3', rfl⟩ := hids b q hq
    have he : ad t i = ad t' i' := he
    rw [had.2 t i h2 h3, had.2 t' i' h2' h3'] at he
    have hpos : m2_pos t i = m2_pos t' i' := by omega
    have ha : a < (m2_ids.map (fun r => m2_pos r.1 r.2)).length := by rw [List.length_map]; exact (List.getElem?_eq_some_iff.mp h1).1
    refine (List.getElem?_inj ha m2_pos_inj).mp ?_
    rw [List.getElem?_map, List.getElem?_map, h1, h1']
    show some (m2_pos t i) = some (m2_pos t' i')
    rw [hpos]
  · obtain ⟨t, i, h1, h2, h3, rfl⟩ := hids k q hq
    show B ≤ ad t i
    rw [had.2 t i h2 h3]
    exact Nat.le_add_right _ _
end BRG
theorem m2_0_ok : m2_okM m2_0 := by
  have h : ∀ t, t < 14 → ∀ k, k < m2_nf t → (m2_F t k).1 = 3 → ∀ i, i < m2_n t → m2_0.2.2 t i k < m2_n (m2_F t k).2.1 := by decide +kernel
  exact h
