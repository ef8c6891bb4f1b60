/-! A FRAME of any method is closed under its code while nothing is made; led of the class throws -/
section FCL
variable {D : va_G} {dA : FieldType → ClassId} {ad : Nat → Nat → Nat} {adV : Nat → Nat} {B L : Nat} {xs : Nat → Int32}
variable {p : Program} {l : Launch} {e : Env} {R : Room} {s : State} {m : MethodId} {args : Array Value} {below : List Frame} {meth : Method} {c : Code} {Qw : State → Prop} {Q : Option dm_V → M2 → Prop} {d y0 : Nat} {K : Nat × Nat}
abbrev frP (y0 : Nat) (D : va_G) (dA : FieldType → ClassId) (ad : Nat → Nat → Nat) (B : Nat) (p : Program) (l : Launch) (e : Env) (R : Room) (s : State) (m : MethodId) (args : Array Value) (below : List Frame) (meth : Method) (c : Code) (Qw : State → Prop) (K : Nat × Nat) : Nat → dm_L → List dm_V → M2 → Prop := dm_P p l e R s m args below meth c Qw ad m2_ok (dmP y0).2.1 (dm_Am D dA vwCl ad B m2_tl (fun _ _ => True) m2_okM (fun _ => K) (fun _ => (0 + R.cells, 0 + R.slots)) (0, 0) (0 + R.cells, 0 + R.slots) s)
def frCl (M : dm_M) (L : Nat) (xs : Nat → Int32) (call : Nat → List dm_V → M2 → (Option dm_V → M2 → Prop) → Prop) (Q : Option dm_V → M2 → Prop) (P : Nat → dm_L → List dm_V → M2 → Prop) : Prop := (∀ pc ls st σ, dm_F dmE (m2O L xs) call true M Q P pc ls st σ → P pc ls st σ) ∧ ∀ pc ls0 ls st σ, dm_le ls0 ls → P pc ls0 st σ → P pc ls st σ
set_option maxHeartbeats 4000000 in
theorem fr_cl (hL : L < 2 ^ 31) (hctx : dm_ctx dmP dmN dmB dm_tb D dA vwCl B (dm_St ad adV B L xs) y0 p s m args c) (hname : meth.name = (dmN y0).name) (hf : d + 1 ≤ R.frames) (hl : 40 * (d + 1) ≤ R.locals) (hd : 4 ≤ d) (hK : K.1 ≤ R.cells ∧ K.2 ≤ R.slots)
    (hret : ∀ {pc : Nat} {ls : dm_L} {st : List dm_V} {σ : M2} (i : Instr), (dmP y0).2.2.2 pc = some i → (i = .ireturn ∨ i = .lreturn ∨ i = .areturn ∨ i = .return_) → dm_FC dmE (m2O L xs) (CL L xs d) true (dmP y0) Q (frP y0 D dA ad B p l e R s m args below meth c Qw K) pc ls st σ i → frP y0 D dA ad B p l e R s m args below meth c Qw K pc ls st σ) :
    frCl (dmP y0) L xs (CL L xs d) Q (frP y0 D dA ad B p l e R s m args below meth c Qw K) := by
  have hIF : dm_IFw (m2O L xs) (fun _ => (0, 0)) vwCl ad m2_ok B m2_tl (fun _ _ => True) m2_okM (fun _ => K) (fun _ => (0 + R.cells, 0 + R.slots)) (dm_St ad adV B L xs) := m2_IFw L xs ad B (dm_St_ok ad adV B L xs) ⟨by show K.1 ≤ 0 + R.cells; omega, by show K.2 ≤ 0 + R.slots; omega⟩
  refine ⟨fun pc ls st σ h => ?_, fun pc ls0 ls st σ hle hP H locs lsC cells slots hA hLc hS => hP H locs lsC cells slots hA (hLc.weak hle) hS⟩
  refine dm_innerL (c0 := (0, 0)) hIF hctx (dm_mok (fun s hs => hs.2.2.2.2.2.2.1) y0) (m2_xoka hL y0) hname (fun _ => ⟨by omega, by omega⟩) ?_ (fun i hi h2 h3 => hret i hi h2 h3) h
  intro pc ls st σ i k y n rk cr hd9 hq hy hlk h9
  exact dm_simIL (d := d) (c0 := (0, 0)) hIF dm_tb_ok hf hl hctx (fun y av σ Q hc h1 h2 h3 h4 => m2_sim l hL d y av σ Q hc h1 h2 h3 h4) hd9 hq hy hlk h9
/-- into a frame -/
theorem fr_in {av : List dm_V} {σ : M2} (u1 : va_P D vwCl (dm_wd ad dA (m2_tl σ)) s.heap) (u2 : va_D (fun q => B ≤ q) (dm_wd ad dA (m2_tl σ))) (u5 : m2_okM σ) (hav : ∀ v ∈ av, m2_ok v) (hlen : av.length ≤ (dmP y0).2.1) (hcat : dm_cat av = av.length)
    (key : frP y0 D dA ad B p l e R s m ((av.map (dm_cv ad)).toArray) below meth c Qw (0, 0) 0 (dm_ent (dmP y0).2.1 av) [] σ) : W p l e R s m ((av.map (dm_cv ad)).toArray) below meth c s.heap [] 0 0 Qw (entryFrame m ((av.map (dm_cv ad)).toArray) (dmP y0).2.1) := by
  have hle : (lg_sl (av.map (dm_cv ad))).length ≤ (dmP y0).2.1 := by
    have := dm_lgl ad av
    omega
  have hl := lv_entry (av.map (dm_cv ad)) hle
  rw [lg_entry_eq]
  refine key s.heap [] _ 0 0 ⟨u1, u2, va_S.rf, trivial, u5, rfl, rfl, rfl⟩ ⟨?_, dm_ent_len hlen, fun v hv => ?_⟩ (fun v hv => by cases hv)
  · unfold dm_ent
    rw [dm_as_ent ad _ av 0 hcat]
    exact hl
  · unfold dm_ent at hv
    rcases List.mem_append.mp hv with h | h
    · obtain ⟨w, hw, e9⟩ := List.mem_map.mp h
      cases e9
      exact hav _ hw
    · cases (List.mem_replicate.mp h).2
end FCL
/-! the words of the throw -/
def ledW : List Cond := vy_at "MistakesLent" 350 "java/util/NoSuchElementException" "java/lang/RuntimeException" ["java/lang/Exception"] 13 prog_29_method_4_code
def ledB : List Cond := ledW.filter (fun w => !goodWord w)
def isDC : Cond → Bool
  | .declares _ => true
  | .castable _ _ => true
  | _ => false
theorem ledB_dc : ∀ w ∈ ledB, isDC w = true := by decide +kernel
theorem ledG_in : ∀ w ∈ ledW.filter goodWord, w ∈ lw_tbl := by decide +kernel
theorem ledB_in : ∀ w ∈ ledB, w ∈ lw_tbl := by decide +kernel
theorem ledW_ot : ∀ w ∈ Cond.classLink "MistakesLent" 346 "java/util/NoSuchElementException" :: Cond.initialized "java/util/NoSuchElementException" :: ledW, vx_ot w = true := by decide +kernel
theorem ledK_in : Cond.castable "java/util/NoSuchElementException" "java/util/NoSuchElementException" ∈ ledB := by decide +kernel
theorem dc_warm {w : Cond} (h : isDC w = true) {s U : State} (hW : s.WarmedH U.vm) (hZ : va_Nw w s) : va_Nw w U := by
  cases w <;> first | (cases h; done) | exact va_Nw.warmD hW hZ | exact va_Nw.warmC hW hZ
theorem dc_tab {w : Cond} (h : isDC w = true) : w.onTables = true := by
  cases w <;> first | (cases h; done) | rfl
theorem tL_cl : Cond.classLink "MistakesLent" 346 "java/util/NoSuchElementException" ∈ dm_tb := List.mem_filter.mpr ⟨by decide +kernel, rfl⟩
theorem tL_in : Cond.initialized "java/util/NoSuchElementException" ∈ dm_tb := List.mem_filter.mpr ⟨by decide +kernel, rfl⟩
theorem tL_ct : Cond.classLink "MistakesLentLaw" 13 "java/util/NoSuchElementException" ∈ dm_tb := List.mem_filter.mpr ⟨by decide +kernel, rfl⟩
abbrev w280 : Cond := Cond.codeWith ⟨"MistakesLentLaw", "led", "(LMistakesLent;I[J)I"⟩ method_3_code 4 (some .int) [(0, 9, 12, 13)]
theorem tL_cw : w280 ∈ dm_tb := List.mem_filter.mpr ⟨by decide +kernel, rfl⟩
theorem tL_145 : Cond.code (dmN 145) (dmB 145) 4 (some .int) ∈ dm_tb ∧ Cond.initialized "MistakesLent" ∈ dm_tb ∧ Cond.methodLink "MistakesLentLaw" 7 (dmN 145) ∈ dm_tb ∧ Cond.instanceMethod (dmN 145) ∈ dm_tb ∧ Cond.selects "MistakesLent" (dmN 145) (dmN 145) ∈ dm_tb := ⟨List.mem_filter.mpr ⟨by decide +kernel, rfl⟩, List.mem_filter.mpr ⟨by decide +kernel, rfl⟩, List.mem_filter.mpr ⟨by decide +kernel, rfl⟩, List.mem_filter.mpr ⟨by decide +kernel, rfl⟩, List.mem_filter.mpr ⟨by decide +kernel, rfl⟩⟩
theorem tL_280 : Cond.initialized "MistakesLentLaw" ∈ dm_tb ∧ Cond.methodLink "MistakesLentLaw" 200 (dmN 280) ∈ dm_tb ∧ Cond.static (dmN 280) ∈ dm_tb := ⟨List.mem_filter.mpr ⟨by decide +kernel, rfl⟩, List.mem_filter.mpr ⟨by decide +kernel, rfl⟩, List.mem_filter.mpr ⟨by decide +kernel, rfl⟩⟩
/-- what is always there, and what a throw needs -/
def dm_StX (ad : Nat → Nat → Nat) (adV : Nat → Nat) (B L : Nat) (xs : Nat → Int32) (U : State) (H : Heap) : Prop :=
  dm_St ad adV B L xs U H ∧ vx_Zq Bundle.tN "UNASSIGNED_STACK" Bundle.steD (fun q => B ≤ q) U H ∧ vx_Zq Bundle.tN "SUPPRESSED_SENTINEL" Bundle.listD (fun q => B ≤ q) U H ∧ ∀ w ∈ ledB, va_Nw w U
theorem dm_StX_ok (ad : Nat → Nat → Nat) (adV : Nat → Nat) (B L : Nat) (xs : Nat → Int32) : dm_hSt B (dm_StX ad adV B L xs) :=
  ⟨fun u U H hW h => ⟨(dm_St_ok ad adV B L xs).1 u U H hW h.1, vx_Zq.moved hW.alike h.2.1, vx_Zq.moved hW.alike h.2.2.1, fun w hw => dc_warm (ledB_dc w hw) hW (h.2.2.2 w hw)⟩, fun U H H1 hq h => ⟨(dm_St_ok ad adV B L xs).2 U H H1 hq h.1, h.2.1.kept hq, h.2.2.1.kept hq, h.2.2.2⟩⟩
theorem ledW_at {args : Array Value} {s : State} (hts : ∀ w ∈ dm_tb, w.before args s = true) (h : ∀ w ∈ ledB, va_Nw w s) : ∀ w ∈ ledW, w.before args s = true := by
  intro w hw
  cases g : goodWord w with
  | true => exact hts w (List.mem_filter.mpr ⟨ledG_in w (List.mem_filter.mpr ⟨hw, g⟩), g⟩)
  | false =>
    have hb : w ∈ ledB := List.mem_filter.mpr ⟨hw, by rw [g]; rfl⟩
    exact va_Nw.use (dc_tab (ledB_dc w hb)) (h w hb)
/-! rules of 145 and 280 towards any closed P -/
section RUL
variable {L : Nat} {xs : Nat → Int32} {call : Nat → List dm_V → M2 → (Option dm_V → M2 → Prop) → Prop} {Q : Option dm_V → M2 → Prop} {P : Nat → dm_L → List dm_V → M2 → Prop}
set_option maxRecDepth 100000 in
theorem x145_0 (hc : dm_cm call) (hp : frCl mt_145 L xs call Q P) {x1 : Int32} {σ : M2} (h : P 4 [some (vr 12 0), some (vi x1), some (vi 0), some (vi 0)] [] σ) : P 0 [some (vr 12 0), some (vi x1), none, none] [] σ := dm_xP.at hc hp.1 hp.2 [(4, [true, true, true, true]), (44, [true, true, true, true])] 5 h
set_option maxRecDepth 100000 in
theorem x145_4 (hc : dm_cm call) (hp : frCl mt_145 L xs call Q P) {x1 : Int32} {x2 : Int32} {x3 : Int32} {σ : M2} (h : (if x3 < (σ.1 36 (σ.2.2 12 0 4) 5) then call 6 [vr 1 0, vi x3] σ (fun r σ1 => ∃ v2 : Int32, r = some (vi v2) ∧ ((if v2 = 0 then P 4 [some (vr 12 0), some (vi x1), some (vi x2), some (vi (x3 + 1))] [] σ1 else (if x2 = x1 then Q (some (vi x3)) σ1 else P 4 [some (vr 12 0), some (vi x1), some (vi (x2 + 1)), some (vi (x3 + 1))] [] σ1)))) else P 44 [some (vr 12 0), some (vi x1), some (vi x2), some (vi x3)] [] σ)) : P 4 [some (vr 12 0), some (vi x1), some (vi x2), some (vi x3)] [] σ := dm_xP.at hc hp.1 hp.2 [(4, [true, true, true, true]), (44, [true, true, true, true])] 19 h
set_option maxRecDepth 100000 in
theorem x280_0 (hc : dm_cm call) (hp : frCl mt_280 L xs call Q P) {x1 : Int32} {σ : M2} (h : P 4 [some (vr 12 0), some (vi x1), some (vr 80 0), none] [vi x1, vr 12 0, vi 0, vr 80 0] σ) : P 0 [some (vr 12 0), some (vi x1), some (vr 80 0), none] [] σ := dm_xP.at hc hp.1 hp.2 [(4, [true, true, true, false])] 5 h
set_option maxRecDepth 100000 in
theorem x280_4 (hc : dm_cm call) (hp : frCl mt_280 L xs call Q P) {x1 : Int32} {σ : M2} (h : call 145 [vr 12 0, vi x1] σ (fun r σ1 => ∃ v2 : Int32, r = some (vi v2) ∧ Q (some (vi 0)) (m2_wJ σ1 80 0 0 v2.toInt64))) : P 4 [some (vr 12 0), some (vi x1), some (vr 80 0), none] [vi x1, vr 12 0, vi 0, vr 80 0] σ := dm_xP.at hc hp.1 hp.2 [] 7 h
end RUL
