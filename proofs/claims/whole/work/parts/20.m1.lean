/-! THE MEMORY while the system is being made: a list of cells; references are (100, place); what is made is counted -/
abbrev M1 : Type := List dm_C × (Nat × Nat) × (Nat × Nat)
def m1_tyl : List (Nat → FieldType) := [tyX0, tyX1, tyX2, tyX3, tyX4, tyX5, tyX6, tyX7, tyX8, tyX9, tyX10, tyX11, tyX12, tyX13]
def m1_ty (ci k : Nat) : FieldType := (m1_tyl.getD ci (fun _ => .int)) k
def m1_fit (ty : FieldType) (v : dm_V) : Bool := match ty, v with
  | .int, .inl _ => true
  | .boolean, .inl z => z == 0 || z == 1
  | .long, .inr (.inl _) => true
  | .object _, .inr (.inr (some (t, _))) => Nat.beq t 100
  | .array _, .inr (.inr (some (t, _))) => Nat.beq t 100
  | _, _ => false
def m1_dv (ty : FieldType) : dm_V := match ty with
  | .long => vl 0
  | .object _ => .inr (.inr none)
  | .array _ => .inr (.inr none)
  | _ => vi 0
def m1_zero (ty : FieldType) : dm_X := match ty with
  | .long => .inr (.inl (fun _ => 0))
  | .object _ => .inr (.inr (fun _ => none))
  | _ => .inl (fun _ => 0)
def m1_get (σ : M1) (r : dm_R) (ci k : Nat) : Option dm_V := cond (Nat.beq r.1 100) (match σ.1[r.2]? with
  | some (.inl (c, fs)) => cond (Nat.beq c ci) (fs[k]?) none
  | _ => none) none
def m1_put (σ : M1) (r : dm_R) (ci k : Nat) (v : dm_V) : Option M1 := cond (Nat.beq r.1 100 && Nat.blt k (m2_nf ci) && m1_fit (m1_ty ci k) v) (match σ.1[r.2]? with
  | some (.inl (c, fs)) => cond (Nat.beq c ci && Nat.blt k fs.length) (some (σ.1.set r.2 (.inl (c, fs.set k v)), σ.2)) none
  | _ => none) none
def m1_arr (σ : M1) (r : dm_R) : Option (FieldType × Nat × dm_X) := cond (Nat.beq r.1 100) (match σ.1[r.2]? with
  | some (.inr x) => some x
  | _ => none) (cond (Nat.beq r.1 92 && Nat.beq r.2 0) (some (.int, 9, .inl (fun j => m2_room.getD j 0))) none)
/-- whether a value may stand in an array -/
def m1_el (σ : M1) (ty : FieldType) (v : dm_V) : Bool := match v with
  | .inl _ => true
  | .inr (.inl _) => true
  | .inr (.inr (some (t, q))) => Nat.beq t 100 && (match σ.1[q]? with
    | some (.inl (c, _)) => Nat.blt c 14 && decide (ty = .object (dm_cn c))
    | _ => false)
  | _ => false
def m1_sta (σ : M1) (r : dm_R) (j : Nat) (v : dm_V) : Option M1 := cond (Nat.beq r.1 100) (match σ.1[r.2]? with
  | some (.inr (ty, n, x)) => cond (m1_el σ ty v) (some (σ.1.set r.2 (.inr (ty, n, dm_xs x j v)), σ.2)) none
  | _ => none) none
def m1_nwo (σ : M1) (ci : Nat) : Option (dm_R × M1) := cond (Nat.blt ci 14 && Nat.ble (σ.2.1.1 + 1) σ.2.2.1 && Nat.ble (σ.2.1.2 + m2_nf ci) σ.2.2.2) (some ((100, σ.1.length), (σ.1 ++ [.inl (ci, (List.range (m2_nf ci)).map (fun k => m1_dv (m1_ty ci k)))], (σ.2.1.1 + 1, σ.2.1.2 + m2_nf ci), σ.2.2))) none
def m1_nwa (σ : M1) (ty : FieldType) (n : Nat) : Option (dm_R × M1) := cond (dm_tyl.contains ty && Nat.ble n 2000 && Nat.ble (σ.2.1.1 + 1) σ.2.2.1 && Nat.ble (σ.2.1.2 + n) σ.2.2.2) (some ((100, σ.1.length), (σ.1 ++ [.inr (ty, n, m1_zero ty)], (σ.2.1.1 + 1, σ.2.1.2 + n), σ.2.2))) none
/-- what each constructor makes: cells and slots -/
def m1_cl : List (Nat × Nat × Nat) := [(0, 3, 7), (2, 2, 14), (8, 47, 300), (14, 6, 35), (18, 10, 70), (24, 69, 324), (27, 75, 463), (52, 77, 393), (64, 2, 24), (69, 1, 0), (75, 223, 2378), (148, 16, 2346)]
def m1_mc (y : Nat) : Nat × Nat := (dm_lk m1_cl y).getD (0, 0)
def m1O : dm_O M1 := (m1_get, m1_put, m1_arr, m1_sta, m1_nwo, m1_nwa, fun σ y => Nat.ble (σ.2.1.1 + (m1_mc y).1) σ.2.2.1 && Nat.ble (σ.2.1.2 + (m1_mc y).2) σ.2.2.2, fun σ y => (σ.1, σ.2.1, (σ.2.1.1 + (m1_mc y).1, σ.2.1.2 + (m1_mc y).2)), fun σ σ' y => (σ'.1, (σ.2.1.1 + (m1_mc y).1, σ.2.1.2 + (m1_mc y).2), σ.2.2))
def m1_tl (σ : M1) : List (dm_R × dm_C) := (List.range σ.1.length).map (fun k => ((100, k), σ.1.getD k (.inl (0, []))))
def m1_sz (B : Nat) (σ : M1) (n : Nat) : Prop := n = B + σ.1.length
def m1_ok (v : dm_V) : Prop := match v with
  | .inr (.inr (some (t, i))) => t = 90 → i < 29
  | _ => True
/-- a cell is a good one -/
def m1_cok (c : dm_C) : Prop := match c with
  | .inl (_, fs) => ∀ v ∈ fs, m1_ok v
  | .inr (ty, _, x) => ty ∈ dm_tyl ∧ ∀ f, x = .inr (.inr f) → ∀ j, m1_ok (.inr (.inr (f j)))
def m1_okM (σ : M1) : Prop := (∀ c ∈ σ.1, m1_cok c) ∧ σ.2.1.1 ≤ σ.2.2.1 ∧ σ.2.1.2 ≤ σ.2.2.2
theorem m1_tl_len (σ : M1) : (m1_tl σ).length = σ.1.length := by
  unfold m1_tl; rw [List.length_map, List.length_range]
theorem m1_tl_eq (σ : M1) : m1_tl σ = (List.range σ.1.length).map (fun k => ((100, k), σ.1.getD k (.inl (0, [])))) := rfl
theorem m1_tl_at {σ : M1} {k : Nat} {c : dm_C} (h : σ.1[k]? = some c) : (m1_tl σ)[k]? = some ((100, k), c) := by
  have hk : k < σ.1.length := (List.getElem?_eq_some_iff.mp h).1
  rw [m1_tl_eq, List.getElem?_map, List.getElem?_range hk]
  simp [List.getD_eq_getElem?_getD, h]
theorem m1_tl_set {l : List dm_C} {a b : (Nat × Nat) × (Nat × Nat)} {k : Nat} {c : dm_C} (hk : k < l.length) : m1_tl (l.set k c, b) = (m1_tl (l, a)).set k ((100, k), c) := by
  apply List.ext_getElem?
  intro j
  rw [List.getElem?_set, m1_tl_len]
  by_cases hj : k = j
  · subst hj
    rw [if_pos rfl, if_pos hk]
    exact m1_tl_at (by show (l.set k c)[k]? = some c; rw [List.getElem?_set, if_pos rfl, if_pos hk])
  · rw [if_neg hj]
    cases h : l[j]? with
    | none =>
      have h1 : l.length ≤ j := List.getElem?_eq_none_iff.mp h
      rw [List.getElem?_eq_none (by rw [m1_tl_len]; show (l.set k c).length ≤ j; rw [List.length_set]; exact h1), List.getElem?_eq_none (by rw [m1_tl_len]; exact h1)]
    | some d =>
      rw [m1_tl_at (σ := (l.set k c, b)) (c := d) (by show (l.set k c)[j]? = some d; rw [List.getElem?_set, if_neg hj, h]), m1_tl_at (σ := (l, a)) h]
theorem m1_tl_push {l : List dm_C} {a b : (Nat × Nat) × (Nat × Nat)} {c : dm_C} : m1_tl (l ++ [c], b) = m1_tl (l, a) ++ [((100, l.length), c)] := by
  apply List.ext_getElem?
  intro j
  by_cases hj : j < l.length
  · rw [List.getElem?_append_left (by rw [m1_tl_len]; exact hj), m1_tl_at (σ := (l, a)) (List.getElem?_eq_getElem hj)]
    exact m1_tl_at (by show (l ++ [c])[j]? = _; rw [List.getElem?_append_left hj]; exact List.getElem?_eq_getElem hj)
  · rw [List.getElem?_append_right (by rw [m1_tl_len]; exact Nat.not_lt.mp hj), m1_tl_len]
    by_cases h2 : j = l.length
    · subst h2
      show _ = [((100, l.length), c)][l.length - l.length]?
      rw [Nat.sub_self]
      exact m1_tl_at (by show (l ++ [c])[l.length]? = _; simp)
    · rw [List.getElem?_eq_none (by rw [m1_tl_len]; show (l ++ [c]).length ≤ j; rw [List.length_append]; show l.length + 1 ≤ j; omega), List.getElem?_eq_none (by show 1 ≤ j - l.length; omega)]
