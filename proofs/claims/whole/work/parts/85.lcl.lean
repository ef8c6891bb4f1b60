/-! THE LAW'S FRAME is closed under its code while nothing is made -/
section LCL
variable {D : va_G} {dA : FieldType → ClassId} {ad : Nat → Nat → Nat} {adV : Nat → Nat} {B L : Nat} {xs : Nat → Int32}
variable {p : Program} {l : Launch} {e : Env} {R : Room} {s : State} {m : MethodId} {args : Array Value} {below : List Frame} {meth : Method} {c : Code} {Qw : State → Prop} {Q : Option dm_V → M2 → Prop} {d : Nat} {K : Nat × Nat}
abbrev lwP (D : va_G) (dA : FieldType → ClassId) (ad : Nat → Nat → Nat) (B : Nat) (p : Program) (l : Launch) (e : Env) (R : Room) (s : State) (m : MethodId) (args : Array Value) (below : List Frame) (meth : Method) (c : Code) (Qw : State → Prop) (K : Nat × Nat) : Nat → dm_L → List dm_V → M2 → Prop := dm_P p l e R s m args below meth c Qw ad m2_ok (dmP 281).2.1 (dm_Am D dA vwCl ad B m2_tl (fun _ _ => True) m2_okM (fun _ => K) (fun _ => (0 + R.cells, 0 + R.slots)) (0, 0) (0 + R.cells, 0 + R.slots) s)
set_option maxHeartbeats 4000000 in
theorem law_cl (hL : L < 2 ^ 31) (hctx : dm_ctx dmP dmN dmB dm_tb D dA vwCl B (dm_St ad adV B L xs) 281 p s m args c) (hname : meth.name = (dmN 281).name) (hf : d + 1 ≤ R.frames) (hl : 40 * (d + 1) ≤ R.locals) (hd : 4 ≤ d) (hK : K.1 ≤ R.cells ∧ K.2 ≤ R.slots)
    (hret : ∀ {pc : Nat} {ls : dm_L} {st : List dm_V} {σ : M2} (i : Instr), (dmP 281).2.2.2 pc = some i → (i = .ireturn ∨ i = .lreturn ∨ i = .areturn ∨ i = .return_) → dm_FC dmE (m2O L xs) (CL L xs d) true (dmP 281) Q (lwP D dA ad B p l e R s m args below meth c Qw K) pc ls st σ i → lwP D dA ad B p l e R s m args below meth c Qw K pc ls st σ) :
    l281_cl L xs (CL L xs d) Q (lwP D dA ad B p l e R s m args below meth c Qw K) := by
  have hIF : dm_IFw (m2O L xs) (fun _ => (0, 0)) vwCl ad m2_ok B m2_tl (fun _ _ => True) m2_okM (fun _ => K) (fun _ => (0 + R.cells, 0 + R.slots)) (dm_St ad adV B L xs) := m2_IFw L xs ad B (dm_St_ok ad adV B L xs) ⟨by show K.1 ≤ 0 + R.cells; omega, by show K.2 ≤ 0 + R.slots; omega⟩
  refine ⟨fun pc ls st σ h => ?_, fun pc ls0 ls st σ hle hP H locs lsC cells slots hA hLc hS => hP H locs lsC cells slots hA (hLc.weak hle) hS⟩
  refine dm_innerL (c0 := (0, 0)) hIF hctx (dm_mok (fun s hs => hs.2.2.2.2.2.2.1) 281) (m2_xoka hL 281) hname (fun _ => ⟨by omega, by omega⟩) ?_ (fun i hi h2 h3 => hret i hi h2 h3) h
  intro pc ls st σ i k y n rk cr hd9 hq hy hlk h9
  exact dm_simIL (d := d) (c0 := (0, 0)) hIF dm_tb_ok hf hl hctx (fun y av σ Q hc h1 h2 h3 h4 => m2_sim l hL d y av σ Q hc h1 h2 h3 h4) hd9 hq hy hlk h9
end LCL
