/-! the constructors, run -/
def m1_s0 : M1 := ([.inl (12, (List.range 16).map (fun k => m1_dv (m1_ty 12 k)))], (1, 16), (224, 2394))
set_option maxRecDepth 1000000 in
theorem m1_t75 : @decide (dm_run dmE m1O dmP 3000 10 75 [vr 100 0] m1_s0 (fun r σ => r.isNone = true ∧ σ.1.length = 224)) (dm_run_d _ _ _ _ _ (fun _ _ => inferInstance)) = true := by decide +kernel
