/-! every method is as its tables have it -/
def dm_fck (c : Nat) (e : Nat × Nat × Nat × Nat) : Bool := match vwCl[e.2.1]? with
  | some (_, T, N) => decide (e.2.2.1 < N) && dm_at e.2.2.2 (.fieldLink (dm_cn c) e.1 (T e.2.2.1).1 (T e.2.2.1).2.1 (T e.2.2.1).2.2.1)
  | none => false
theorem dm_flok : ∀ c, c < 16 → ∀ e ∈ dm_fl c, dm_fck c e = true := by decide +kernel
theorem dm_flhi (c : Nat) (h : 16 ≤ c) : dm_fl c = [] ∧ dm_ml c = [] ∧ dm_kl c = [] ∧ dm_cl c = [] ∧ dm_sl c = [] := by
  obtain ⟨n, rfl⟩ : ∃ n, c = n + 16 := ⟨c - 16, by omega⟩
  exact ⟨rfl, rfl, rfl, rfl, rfl⟩
theorem dm_clT : ∀ (ci : Nat) (C : String) (T : u_T) (N : Nat), vwCl[ci]? = some (C, T, N) → (∀ w ∈ u_ws C T N, w ∈ dm_tb) ∧ ∃ ty0 : Nat → FieldType, (∀ k, k < N → parseFieldDescriptor (T k).2.2.1 = some (ty0 k)) ∧ ∀ a, a < N → ∀ b, b < N → a ≠ b → (T a).2.1 ≠ (T b).2.1
  | 0, _, _, _, h => by cases h; exact ⟨ixX0, tyX0, tyX0_ok, nmX0⟩
  | 1, _, _, _, h => by cases h; exact ⟨ixX1, tyX1, tyX1_ok, nmX1⟩
  | 2, _, _, _, h => by cases h; exact ⟨ixX2, tyX2, tyX2_ok, nmX2⟩
  | 3, _, _, _, h => by cases h; exact ⟨ixX3, tyX3, tyX3_ok, nmX3⟩
  | 4, _, _, _, h => by cases h; exact ⟨ixX4, tyX4, tyX4_ok, nmX4⟩
  | 5, _, _, _, h => by cases h; exact ⟨ixX5, tyX5, tyX5_ok, nmX5⟩
  | 6, _, _, _, h => by cases h; exact ⟨ixX6, tyX6, tyX6_ok, nmX6⟩
  | 7, _, _, _, h => by cases h; exact ⟨ixX7, tyX7, tyX7_ok, nmX7⟩
  | 8, _, _, _, h => by cases h; exact ⟨ixX8, tyX8, tyX8_ok, nmX8⟩
  | 9, _, _, _, h => by cases h; exact ⟨ixX9, tyX9, tyX9_ok, nmX9⟩
  | 10, _, _, _, h => by cases h; exact ⟨ixX10, tyX10, tyX10_ok, nmX10⟩
  | 11, _, _, _, h => by cases h; exact ⟨ixX11, tyX11, tyX11_ok, nmX11⟩
  | 12, _, _, _, h => by cases h; exact ⟨ixX12, tyX12, tyX12_ok, nmX12⟩
  | 13, _, _, _, h => by cases h; exact ⟨ixX13, tyX13, tyX13_ok, nmX13⟩
  | n + 14, _, _, _, h => by simp [vwCl] at h
/-- the calls' links, but for the bytes -/
def dm_mck (c : Nat) (e : Nat × (Nat × Nat × Nat × Nat) × Nat × Nat × Nat × Nat × Nat × Nat) : Bool :=
  decide (3000 ≤ e.2.1.1) || (
  decide (e.2.1.1 < 280) && dm_at e.2.2.2.2.2.2.2 (.initialized (dmN e.2.1.1).cls) && decide ((dmN e.2.1.1).cls ≠ "java/lang/invoke/MethodHandle") && decide ((dmN e.2.1.1).cls ≠ "java/lang/invoke/VarHandle") &&
  decide ((dmP e.2.1.1).2.1 ≤ 21) && decide (e.2.1.2.1 ≤ (dmP e.2.1.1).2.1) &&
  (match e.2.2.1 with
  | 0 => decide (1 ≤ e.2.1.2.1) && decide ((parseMethodDescriptor (dmN e.2.1.1).desc).map (fun d => d.parameters.length) = some (e.2.1.2.1 - 1)) && decide (e.2.1.2.2.2 ≠ 99) && decide ((dmN e.2.1.1).cls = dm_cn e.2.1.2.2.2) && decide ((vwCl[e.2.1.2.2.2]?).map (fun q => q.1) = some (dmN e.2.1.1).cls) && dm_at e.2.2.2.1 (.methodLink (dm_cn c) e.1 (dmN e.2.1.1)) && dm_at e.2.2.2.2.1 (.instanceMethod (dmN e.2.1.1)) && dm_at e.2.2.2.2.2.1 (.selects (dmN e.2.1.1).cls (dmN e.2.1.1) (dmN e.2.1.1))
  | 1 => decide ((parseMethodDescriptor (dmN e.2.1.1).desc).map (fun d => d.parameters.length) = some e.2.1.2.1) && dm_at e.2.2.2.1 (.methodLink (dm_cn c) e.1 (dmN e.2.1.1)) && dm_at e.2.2.2.2.1 (.static (dmN e.2.1.1))
  | _ => decide (1 ≤ e.2.1.2.1) && decide ((parseMethodDescriptor (dmN e.2.1.1).desc).map (fun d => d.parameters.length) = some (e.2.1.2.1 - 1)) && decide (e.2.1.2.2.2 ≠ 99) && decide ((dmN e.2.1.1).name = "<init>") && decide ((dmP e.2.1.1).2.2.1 = none) && dm_at e.2.2.2.2.1 (.instanceMethod (dmN e.2.1.1)) && (dm_at e.2.2.2.1 (.methodLink (dm_cn c) e.1 (dmN e.2.1.1)) || decide (lw_tbl[e.2.2.2.1]? = some (.methodLinkNest (dm_cn c) e.1 (dmN e.2.1.1) "MistakesLent")))))
theorem dm_mlok0 : ∀ c, c < 8 → ∀ e ∈ dm_ml c, dm_mck c e = true := by decide +kernel
theorem dm_mlok1 : ∀ c, c < 5 → ∀ e ∈ dm_ml (c + 8), dm_mck (c + 8) e = true := by decide +kernel
theorem dm_mlok2 : ∀ e ∈ dm_ml 13, dm_mck 13 e = true := by decide +kernel
theorem dm_mlok3 : ∀ e ∈ dm_ml 14, dm_mck 14 e = true := by decide +kernel
