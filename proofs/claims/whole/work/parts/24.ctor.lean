/-! the constructors, run -/
def m1_s0 : M1 := ([.inl (12, (List.range 16).map (fun k => m1_dv (m1_ty 12 k)))], (1, 16), (224, 2394))
set_option maxRecDepth 1000000 in
theorem m1_t25 : @decide (dm_run dmE m1O dmP 400 0 25 [vr 100 0] ([.inl (6, [vi 0, vi 0, vi 0])], (1, 3), (1, 3)) (fun r σ => r.isNone = true ∧ σ.1.length = 1)) (dm_run_d _ _ _ _ _ (fun _ _ => inferInstance)) = false := by decide +kernel
set_option maxRecDepth 1000000 in
theorem m1_t2 : @decide (dm_run dmE m1O dmP 400 5 2 [vr 100 0] ([.inl (1, [.inr (.inr none), .inr (.inr none), vi 0, vi 0, vi 0])], (1, 5), (3, 19)) (fun r σ => r.isNone = true ∧ σ.1.length = 3)) (dm_run_d _ _ _ _ _ (fun _ _ => inferInstance)) = true := by decide +kernel
