/-! THE MEMORY of the running system: ints, longs and the references that change, each by tag, number and place; all other references stand still -/
abbrev M2 : Type := (Nat → Nat → Nat → Int32) × (Nat → Nat → Nat → Int64) × (Nat → Nat → Nat → Nat)
def m2_FL : List (List (Nat × Nat × (Nat → Nat))) := [
  [(0, 0, fun _ => 0), (2, 20, fun i => i), (2, 21, fun i => i), (4, 0, fun _ => 0), (2, 6, fun i => i + 12)],
  [(2, 22, fun i => i), (2, 23, fun i => i), (0, 0, fun _ => 0), (0, 0, fun _ => 0), (0, 0, fun _ => 0)],
  [(2, 24, fun _ => 0), (0, 0, fun _ => 0), (0, 0, fun _ => 0), (2, 25, fun _ => 0), (0, 0, fun _ => 0)],
  [(0, 0, fun _ => 0), (2, 26, fun _ => 0), (2, 27, fun _ => 0), (2, 28, fun _ => 0), (2, 29, fun _ => 0), (2, 30, fun _ => 0), (2, 31, fun _ => 0), (0, 0, fun _ => 0)],
  [(2, 10, fun _ => 9), (2, 10, fun _ => 10), (2, 32, fun _ => 0), (2, 33, fun _ => 0), (2, 34, fun _ => 0), (2, 35, fun _ => 0)],
  [(2, 36, fun i => i), (0, 0, fun _ => 0), (0, 0, fun _ => 0), (0, 0, fun _ => 0), (0, 0, fun _ => 0), (2, 37, fun i => i), (2, 38, fun i => i), (2, 39, fun i => i), (2, 40, fun i => i), (2, 41, fun i => i), (2, 42, fun i => i), (2, 43, fun i => i), (2, 44, fun i => i), (2, 45, fun i => i), (2, 46, fun i => i), (2, 47, fun i => i), (0, 0, fun _ => 0), (0, 0, fun _ => 0)],
  [(0, 0, fun _ => 0), (4, 0, fun _ => 0), (0, 0, fun _ => 0)],
  [(2, 11, fun _ => 0), (2, 48, fun _ => 0), (2, 49, fun _ => 0), (2, 50, fun _ => 0), (0, 0, fun _ => 0), (3, 5, fun _ => 0), (0, 0, fun _ => 0), (0, 0, fun _ => 0), (0, 0, fun _ => 0), (0, 0, fun _ => 0)],
  [(3, 5, fun _ => 0), (2, 1, fun _ => 0), (2, 10, fun _ => 8), (2, 51, fun _ => 0), (0, 0, fun _ => 0), (0, 0, fun _ => 0)],
  [(0, 0, fun _ => 0), (0, 0, fun _ => 0), (0, 0, fun _ => 0), (0, 0, fun _ => 0)],
  [(0, 0, fun _ => 0), (2, 52, fun i => i), (2, 53, fun i => i)],
  [(3, 54, fun _ => 0), (0, 0, fun _ => 0), (0, 0, fun _ => 0), (0, 0, fun _ => 0), (0, 0, fun _ => 0), (0, 0, fun _ => 0), (1, 0, fun _ => 0)],
  [(2, 54, fun _ => 0), (0, 0, fun _ => 0), (2, 8, fun _ => 0), (2, 1, fun _ => 0), (3, 5, fun _ => 0), (4, 0, fun _ => 0), (2, 7, fun _ => 0), (2, 2, fun _ => 0), (2, 4, fun _ => 0), (2, 3, fun _ => 0), (2, 55, fun _ => 0), (2, 56, fun _ => 0), (0, 0, fun _ => 0), (0, 0, fun _ => 0), (0, 0, fun _ => 0), (0, 0, fun _ => 0)],
  [(0, 0, fun _ => 0), (2, 60, fun _ => 0), (0, 0, fun _ => 0), (0, 0, fun _ => 0), (0, 0, fun _ => 0), (0, 0, fun _ => 0), (0, 0, fun _ => 0), (0, 0, fun _ => 0), (0, 0, fun _ => 0), (0, 0, fun _ => 0), (0, 0, fun _ => 0), (0, 0, fun _ => 0), (2, 61, fun _ => 0), (4, 0, fun _ => 0), (4, 0, fun _ => 0), (2, 62, fun _ => 0), (2, 63, fun _ => 0), (2, 64, fun _ => 0), (2, 65, fun _ => 0), (2, 66, fun _ => 0), (0, 0, fun _ => 0), (0, 0, fun _ => 0), (2, 67, fun _ => 0), (2, 68, fun _ => 0), (0, 0, fun _ => 0), (0, 0, fun _ => 0), (2, 69, fun _ => 0), (0, 0, fun _ => 0), (2, 70, fun _ => 0), (0, 0, fun _ => 0), (2, 71, fun _ => 0), (2, 72, fun _ => 0), (2, 73, fun _ => 0), (2, 74, fun _ => 0), (2, 75, fun _ => 0), (0, 0, fun _ => 0), (0, 0, fun _ => 0)]]
def m2_F (t k : Nat) : Nat × Nat × (Nat → Nat) := (m2_FL.getD t []).getD k (9, 0, fun _ => 0)
def m2_nf (t : Nat) : Nat := (m2_FL.getD t []).length
/-- how many of each tag there are -/
def m2_nl : List Nat := [16, 16, 1, 1, 1, 2, 28, 1, 1, 14, 11, 1, 1, 1, 0, 0, 0, 0, 0, 0, 16, 16, 16, 16, 1, 1, 1, 1, 1, 1, 1, 1, 1, 1, 1, 1, 2, 2, 2, 2, 2, 2, 2, 2, 2, 2, 2, 2, 1, 1, 1, 1, 11, 11, 2, 1, 1, 0, 0, 0, 1, 1, 1, 1, 1, 1, 1, 1, 1, 1, 1, 1, 1, 1, 1, 1, 0, 0, 0, 0, 1, 0, 0, 0, 0, 0, 0, 0, 0, 0, 29, 0, 1, 1, 0]
def m2_n (t : Nat) : Nat := m2_nl.getD t 0
def m2_fv (σ : M2) (t i k : Nat) : dm_V := match m2_F t k with
  | (0, _, _) => vi (σ.1 t i k)
  | (1, _, _) => vl (σ.2.1 t i k)
  | (2, g, f) => vr g (f i)
  | (3, g, _) => vr g (σ.2.2 t i k)
  | _ => vi (σ.1 t i k)
def m2_room : List Int32 := [1, 5, 6, 8, 4, 7, 4, 7, 1]
/-- the arrays: type, length, kind (0 ints, 1 longs, 2 references), what they refer to -/
def m2_al (t : Nat) : Option (FieldType × (Nat → Nat) × Nat × Nat × (Nat → Nat → Nat)) := cond (Nat.blt t 47) (cond (Nat.blt t 33) (cond (Nat.blt t 26) (cond (Nat.blt t 23) (cond (Nat.blt t 21) (cond (Nat.beq t 20) (some (.int, fun _ => 2, 0, 0, fun _ _ => 0)) none) (cond (Nat.blt t 22) (cond (Nat.beq t 21) (some (.int, fun _ => 2, 0, 0, fun _ _ => 0)) none) (cond (Nat.beq t 22) (some (.int, fun _ => 7, 0, 0, fun _ _ => 0)) none))) (cond (Nat.blt t 24) (cond (Nat.beq t 23) (some (.int, fun _ => 7, 0, 0, fun _ _ => 0)) none) (cond (Nat.blt t 25) (cond (Nat.beq t 24) (some (.object "MistakesLent$Desk", fun _ => 12, 2, 1, fun _ j => j + 1)) none) (cond (Nat.beq t 25) (some (.object "MistakesLent$Desk", fun _ => 3, 2, 1, fun _ j => j + 13)) none)))) (cond (Nat.blt t 29) (cond (Nat.blt t 27) (cond (Nat.beq t 26) (some (.int, fun _ => 7, 0, 0, fun _ _ => 0)) none) (cond (Nat.blt t 28) (cond (Nat.beq t 27) (some (.int, fun _ => 8, 0, 0, fun _ _ => 0)) none) (cond (Nat.beq t 28) (some (.int, fun _ => 3, 0, 0, fun _ _ => 0)) none))) (cond (Nat.blt t 31) (cond (Nat.blt t 30) (cond (Nat.beq t 29) (some (.int, fun _ => 3, 0, 0, fun _ _ => 0)) none) (cond (Nat.beq t 30) (some (.int, fun _ => 7, 0, 0, fun _ _ => 0)) none)) (cond (Nat.blt t 32) (cond (Nat.beq t 31) (some (.int, fun _ => 7, 0, 0, fun _ _ => 0)) none) (cond (Nat.beq t 32) (some (.int, fun _ => 4, 0, 0, fun _ _ => 0)) none))))) (cond (Nat.blt t 40) (cond (Nat.blt t 36) (cond (Nat.blt t 34) (cond (Nat.beq t 33) (some (.int, fun _ => 4, 0, 0, fun _ _ => 0)) none) (cond (Nat.blt t 35) (cond (Nat.beq t 34) (some (.int, fun _ => 4, 0, 0, fun _ _ => 0)) none) (cond (Nat.beq t 35) (some (.int, fun _ => 4, 0, 0, fun _ _ => 0)) none))) (cond (Nat.blt t 38) (cond (Nat.blt t 37) (cond (Nat.beq t 36) (some (.int, fun _ => 9, 0, 0, fun _ _ => 0)) none) (cond (Nat.beq t 37) (some (.int, fun _ => 5, 0, 0, fun _ _ => 0)) none)) (cond (Nat.blt t 39) (cond (Nat.beq t 38) (some (.object "MistakesLent$Need", fun _ => 6, 2, 6, fun i j => 6 * i + j)) none) (cond (Nat.beq t 39) (some (.int, fun _ => 6, 0, 0, fun _ _ => 0)) none)))) (cond (Nat.blt t 43) (cond (Nat.blt t 41) (cond (Nat.beq t 40) (some (.object "MistakesLent$Deed", fun _ => 8, 2, 0, fun i j => 8 * i + j)) none) (cond (Nat.blt t 42) (cond (Nat.beq t 41) (some (.object "MistakesLent$Steps", fun _ => 4, 2, 10, fun i j => 4 * i + j)) none) (cond (Nat.beq t 42) (some (.object "MistakesLent$Slip", fun _ => 7, 2, 9, fun i j => 7 * i + j)) none))) (cond (Nat.blt t 45) (cond (Nat.blt t 44) (cond (Nat.beq t 43) (some (.int, fun _ => 4, 0, 0, fun _ _ => 0)) none) (cond (Nat.beq t 44) (some (.int, fun _ => 4, 0, 0, fun _ _ => 0)) none)) (cond (Nat.blt t 46) (cond (Nat.beq t 45) (some (.int, fun _ => 7, 0, 0, fun _ _ => 0)) none) (cond (Nat.beq t 46) (some (.int, fun _ => 7, 0, 0, fun _ _ => 0)) none)))))) (cond (Nat.blt t 63) (cond (Nat.blt t 53) (cond (Nat.blt t 50) (cond (Nat.blt t 48) (cond (Nat.beq t 47) (some (.int, fun _ => 7, 0, 0, fun _ _ => 0)) none) (cond (Nat.blt t 49) (cond (Nat.beq t 48) (some (.long, fun _ => 38, 1, 0, fun _ _ => 0)) none) (cond (Nat.beq t 49) (some (.int, fun _ => 38, 0, 0, fun _ _ => 0)) none))) (cond (Nat.blt t 51) (cond (Nat.beq t 50) (some (.int, fun _ => 38, 0, 0, fun _ _ => 0)) none) (cond (Nat.blt t 52) (cond (Nat.beq t 51) (some (.int, fun _ => 5, 0, 0, fun _ _ => 0)) none) (cond (Nat.beq t 52) (some (.int, fun _ => 12, 0, 0, fun _ _ => 0)) none)))) (cond (Nat.blt t 56) (cond (Nat.blt t 54) (cond (Nat.beq t 53) (some (.boolean, fun _ => 12, 0, 0, fun _ _ => 0)) none) (cond (Nat.blt t 55) (cond (Nat.beq t 54) (some (.byte, fun i => (cond (Nat.beq i 0) 1000 0), 0, 0, fun _ _ => 0)) none) (cond (Nat.beq t 55) (some (.int, fun _ => 32, 0, 0, fun _ _ => 0)) none))) (cond (Nat.blt t 61) (cond (Nat.blt t 60) (cond (Nat.beq t 56) (some (.int, fun _ => 50, 0, 0, fun _ _ => 0)) none) (cond (Nat.beq t 60) (some (.int, fun _ => 1000, 0, 0, fun _ _ => 0)) none)) (cond (Nat.blt t 62) (cond (Nat.beq t 61) (some (.int, fun _ => 8, 0, 0, fun _ _ => 0)) none) (cond (Nat.beq t 62) (some (.int, fun _ => 439, 0, 0, fun _ _ => 0)) none))))) (cond (Nat.blt t 70) (cond (Nat.blt t 66) (cond (Nat.blt t 64) (cond (Nat.beq t 63) (some (.int, fun _ => 439, 0, 0, fun _ _ => 0)) none) (cond (Nat.blt t 65) (cond (Nat.beq t 64) (some (.int, fun _ => 23, 0, 0, fun _ _ => 0)) none) (cond (Nat.beq t 65) (some (.int, fun _ => 276, 0, 0, fun _ _ => 0)) none))) (cond (Nat.blt t 68) (cond (Nat.blt t 67) (cond (Nat.beq t 66) (some (.int, fun _ => 69, 0, 0, fun _ _ => 0)) none) (cond (Nat.beq t 67) (some (.int, fun _ => 12, 0, 0, fun _ _ => 0)) none)) (cond (Nat.blt t 69) (cond (Nat.beq t 68) (some (.int, fun _ => 5, 0, 0, fun _ _ => 0)) none) (cond (Nat.beq t 69) (some (.int, fun _ => 8, 0, 0, fun _ _ => 0)) none)))) (cond (Nat.blt t 73) (cond (Nat.blt t 71) (cond (Nat.beq t 70) (some (.int, fun _ => 12, 0, 0, fun _ _ => 0)) none) (cond (Nat.blt t 72) (cond (Nat.beq t 71) (some (.int, fun _ => 2, 0, 0, fun _ _ => 0)) none) (cond (Nat.beq t 72) (some (.int, fun _ => 32, 0, 0, fun _ _ => 0)) none))) (cond (Nat.blt t 75) (cond (Nat.blt t 74) (cond (Nat.beq t 73) (some (.int, fun _ => 7, 0, 0, fun _ _ => 0)) none) (cond (Nat.beq t 74) (some (.int, fun _ => 7, 0, 0, fun _ _ => 0)) none)) (cond (Nat.blt t 80) (cond (Nat.beq t 75) (some (.int, fun _ => 7, 0, 0, fun _ _ => 0)) none) (cond (Nat.beq t 80) (some (.long, fun _ => 1, 1, 0, fun _ _ => 0)) none))))))
def m2_bl (σ : M2) (t i : Nat) (e : FieldType × (Nat → Nat) × Nat × Nat × (Nat → Nat → Nat)) : FieldType × Nat × dm_X := match e with
  | (ty, n, 0, _, _) => (ty, n i, .inl (fun j => σ.1 t i j))
  | (ty, n, 1, _, _) => (ty, n i, .inr (.inl (fun j => σ.2.1 t i j)))
  | (ty, n, _, g, f) => (ty, n i, .inr (.inr (fun j => some (g, f i j))))
def m2_aw (σ : M2) (t i : Nat) : Option (FieldType × Nat × dm_X) := (m2_al t).map (m2_bl σ t i)
def m2_ar (L : Nat) (xs : Nat → Int32) (σ : M2) (t i : Nat) : Option (FieldType × Nat × dm_X) := cond (Nat.blt t 90) (m2_aw σ t i) (cond (Nat.beq t 92) (some (.int, 9, .inl (fun j => m2_room.getD j 0))) (cond (Nat.beq t 93) (some (.int, L, .inl xs)) none))
def m2_wI (σ : M2) (t i k : Nat) (z : Int32) : M2 := (fun t' i' k' => if t' = t ∧ i' = i ∧ k' = k then z else σ.1 t' i' k', σ.2)
def m2_wJ (σ : M2) (t i k : Nat) (z : Int64) : M2 := (σ.1, fun t' i' k' => if t' = t ∧ i' = i ∧ k' = k then z else σ.2.1 t' i' k', σ.2.2)
def m2_wD (σ : M2) (t i k : Nat) (z : Nat) : M2 := (σ.1, σ.2.1, fun t' i' k' => if t' = t ∧ i' = i ∧ k' = k then z else σ.2.2 t' i' k')
def m2_get (σ : M2) (r : dm_R) (ci k : Nat) : Option dm_V := cond (Nat.beq r.1 ci && Nat.blt k (m2_nf ci)) (some (m2_fv σ r.1 r.2 k)) none
def m2_put (σ : M2) (r : dm_R) (ci k : Nat) (v : dm_V) : Option M2 := cond (Nat.beq r.1 ci && Nat.blt k (m2_nf ci)) (match m2_F ci k, v with
  | (0, _, _), .inl z => some (m2_wI σ r.1 r.2 k z)
  | (4, _, _), .inl z => cond (z == 0 || z == 1) (some (m2_wI σ r.1 r.2 k z)) none
  | (1, _, _), .inr (.inl z) => some (m2_wJ σ r.1 r.2 k z)
  | (3, g, _), .inr (.inr (some (t, i))) => cond (Nat.beq t g) (some (m2_wD σ r.1 r.2 k i)) none
  | _, _ => none) none
def m2_sta (σ : M2) (r : dm_R) (j : Nat) (v : dm_V) : Option M2 := match m2_al r.1, v with
  | some (_, _, 0, _, _), .inl z => some (m2_wI σ r.1 r.2 j z)
  | some (_, _, 1, _, _), .inr (.inl z) => some (m2_wJ σ r.1 r.2 j z)
  | _, _ => none
/-- the operations, with the law's script (L ints xs) -/
def m2O (L : Nat) (xs : Nat → Int32) : dm_O M2 := (m2_get, m2_put, fun σ r => m2_ar L xs σ r.1 r.2, m2_sta, fun _ _ => none, fun _ _ _ => none, fun _ _ => true, fun σ _ => σ, fun _ σ' _ => σ')
def m2_ok (v : dm_V) : Prop := match v with
  | .inr (.inr (some (t, i))) => i < m2_n t
  | _ => True
def m2_okM (σ : M2) : Prop := ∀ t, t < 14 → ∀ k, k < m2_nf t → (m2_F t k).1 = 3 → ∀ i, i < m2_n t → σ.2.2 t i k < m2_n (m2_F t k).2.1
def m2_ids : List dm_R := (List.range 90).flatMap (fun t => (List.range (m2_n t)).map (fun i => (t, i)))
def m2_cell (σ : M2) (r : dm_R) : dm_C := match m2_aw σ r.1 r.2 with
  | some x => .inr x
  | none => .inl (r.1, (List.range (m2_nf r.1)).map (m2_fv σ r.1 r.2))
def m2_tl (σ : M2) : List (dm_R × dm_C) := m2_ids.map (fun r => (r, m2_cell σ r))
