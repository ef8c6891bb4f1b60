/-! MAKING: M1 and the methods; the law's frame while the system is made; what is made, by computation -/
section M1X
variable {D : va_G} {dA : FieldType → ClassId} {ad : Nat → Nat → Nat} {adV : Nat → Nat} {B L : Nat} {xs : Nat → Int32}
theorem m1_xok (had : ∀ k, ad 100 k = B + k) {y : Nat} (hy : y < 282) : dm_XOK dmE m1O dmP dmN dmB dm_tb D dA vwCl ad m1_ok B m1_tl (m1_sz B) m1_okM (fun σ => σ.2.1) (fun σ => σ.2.2) (dm_St ad adV B L xs) y := by
  intro p l e R s m args below meth c Qw c0 hctx
  refine ⟨dm_x1 hy (fun _ => trivial) (fun _ => trivial) (fun j hj _ => hj) hctx, dm_x2 hy (fun q => absurd q (by decide)) hctx, ?_, dm_x4 hy (fun _ => trivial) (fun j hj => hj rfl) hctx, m1_x5 hy had hctx⟩
  obtain ⟨hx, hb, hml, hown, hts, hK, hs, hBs⟩ := hctx
  exact m1_harr ⟨hs.1.1, hs.1.lt, hs.1.2⟩
theorem m1_xoka (had : ∀ k, ad 100 k = B + k) (y : Nat) : dm_XOK dmE m1O dmP dmN dmB dm_tb D dA vwCl ad m1_ok B m1_tl (m1_sz B) m1_okM (fun σ => σ.2.1) (fun σ => σ.2.2) (dm_St ad adV B L xs) y := by
  by_cases hy : y < 282
  · exact m1_xok had hy
  obtain ⟨n, rfl⟩ : ∃ n, y = n + 282 := ⟨y - 282, by omega⟩
  have hn := dm_none n
  intro p l e R s m args below meth c Qw c0 hctx
  obtain ⟨hx, hb, hml, hown, hts, hK, hs, hBs⟩ := hctx
  rw [hn]
  refine ⟨fun k n i v hi hv => ?_, fun k v hv => ?_, m1_harr ⟨hs.1.1, hs.1.lt, hs.1.2⟩, fun call bi pc ls st σ i k q _ _ hi => ?_, fun pc ls st σ i hi => ?_⟩
  · cases hv
  · cases hv
  · cases hi
  · cases hi
theorem m1_sim (l : Launch) (had : ∀ k, ad 100 k = B + k) (d y : Nat) (av : List dm_V) (σ : M1) (Q : Option dm_V → M1 → Prop) (h : dm_Call dmE m1O dmP d y av σ Q) (h1 : m1_okM σ) (h2 : ∀ v ∈ av, m1_ok v) (hlim : σ.2.2 = (σ.2.1.1 + (m1_mc y).1, σ.2.1.2 + (m1_mc y).2)) (h3 : av.length ≤ (dmP y).2.1) (h4 : dm_cat av = av.length) :
    Met l (dmN y) (dm_ws dmP dmN dmB dm_tb y) (dm_rm m1_mc d y) (dm_Pc D dA vwCl ad B m1_tl (m1_sz B) m1_okM (dm_St ad adV B L xs) av σ) (dm_Qc D dA vwCl ad m1_ok B m1_tl (m1_sz B) m1_okM (dm_St ad adV B L xs) Q) (m1_mc y).1 (m1_mc y).2 (fun q => B ≤ q) :=
  dm_sim (mcT := m1_mc) l (m1_IF ad B (dm_St_ok ad adV B L xs)) dm_tb_ok (dm_mok (fun s hs => hs.2.2.2.2.2.2.1)) (m1_xoka had) d y av σ Q h h1 h2 hlim h3 h4
theorem ret_no1 {E : dm_E} {O : dm_O M1} {call : Nat → List dm_V → M1 → (Option dm_V → M1 → Prop) → Prop} {bi : Bool} {M : dm_M} {P : Nat → dm_L → List dm_V → M1 → Prop} {pc : Nat} {ls : dm_L} {st : List dm_V} {σ : M1} {i : Instr} (h2 : i = .ireturn ∨ i = .lreturn ∨ i = .areturn ∨ i = .return_) (h3 : dm_FC E O call bi M (fun _ _ => False) P pc ls st σ i) : False := by
  rcases h2 with rfl | rfl | rfl | rfl <;> (unfold dm_FC at h3; dsimp only at h3; split at h3 <;> exact h3)
variable {p : Program} {l : Launch} {e : Env} {R : Room} {s : State} {m : MethodId} {args : Array Value} {below : List Frame} {meth : Method} {c : Code} {Qw : State → Prop} {d : Nat}
abbrev lwP1 (D : va_G) (dA : FieldType → ClassId) (ad : Nat → Nat → Nat) (B : Nat) (p : Program) (l : Launch) (e : Env) (R : Room) (s : State) (m : MethodId) (args : Array Value) (below : List Frame) (meth : Method) (c : Code) (Qw : State → Prop) : Nat → dm_L → List dm_V → M1 → Prop := dm_P p l e R s m args below meth c Qw ad m1_ok (dmP 281).2.1 (dm_Am D dA vwCl ad B m1_tl (m1_sz B) m1_okM (fun σ => σ.2.1) (fun σ => σ.2.2) (0, 0) (0 + R.cells, 0 + R.slots) s)
set_option maxHeartbeats 4000000 in
theorem law_cl1 (had : ∀ k, ad 100 k = B + k) (hctx : dm_ctx dmP dmN dmB dm_tb D dA vwCl B (dm_St ad adV B L xs) 281 p s m args c) (hname : meth.name = (dmN 281).name) (hf : d + 1 ≤ R.frames) (hl : 40 * (d + 1) ≤ R.locals) (hd : 4 ≤ d) :
    (∀ pc ls st σ, dm_F dmE m1O (dm_Call dmE m1O dmP d) true (dmP 281) (fun _ _ => False) (lwP1 D dA ad B p l e R s m args below meth c Qw) pc ls st σ → lwP1 D dA ad B p l e R s m args below meth c Qw pc ls st σ) ∧ ∀ pc ls0 ls st σ, dm_le ls0 ls → lwP1 D dA ad B p l e R s m args below meth c Qw pc ls0 st σ → lwP1 D dA ad B p l e R s m args below meth c Qw pc ls st σ := by
  have hIF := m1_IF ad B (dm_St_ok ad adV B L xs)
  refine ⟨fun pc ls st σ h => ?_, fun pc ls0 ls st σ hle hP H locs lsC cells slots hA hLc hS => hP H locs lsC cells slots hA (hLc.weak hle) hS⟩
  refine dm_inner (c0 := (0, 0)) hIF hctx (dm_mok (fun s hs => hs.2.2.2.2.2.2.1) 281) (m1_xoka had 281) hname (fun _ => ⟨by omega, by omega⟩) ?_ (fun i hi h2 h3 => (ret_no1 h2 h3).elim) h
  intro pc ls st σ i k y n rk cr hd9 hq hy hlk h9
  exact dm_simI (d := d) (c0 := (0, 0)) hIF dm_tb_ok hf hl hctx (fun y av σ Q hc h1 h2 h3 h4 h5 => m1_sim l had d y av σ Q hc h1 h2 h3 h4 h5) hd9 hq hy hlk h9
end M1X
section XPD
variable {μ : Type} {E : dm_E} {O : dm_O μ} {call : Nat → List dm_V → μ → (Option dm_V → μ → Prop) → Prop} {bi : Bool} {M : dm_M} {Q : Option dm_V → μ → Prop} {P : Nat → dm_L → List dm_V → μ → Prop}
noncomputable def dm_xP_d (hc : ∀ y a σ Q, (∀ r σ, Decidable (Q r σ)) → Decidable (call y a σ Q)) (hQ : ∀ r σ, Decidable (Q r σ)) (hP : ∀ pc ls st σ, Decidable (P pc ls st σ)) (stops : List (Nat × List Bool)) : ∀ (k pc : Nat) (ls : dm_L) (st : List dm_V) (σ : μ), Decidable (dm_xP E O call bi M Q P stops k pc ls st σ)
  | 0, pc, ls, st, σ => hP pc ls st σ
  | k + 1, pc, ls, st, σ => by
    unfold dm_xP
    exact (match dm_stop stops pc with
      | some b => hP pc (dm_keep b ls) st σ
      | none => dm_F_d hc hQ (dm_xP_d hc hQ hP stops k) pc ls st σ)
theorem dm_xP.run {call' : Nat → List dm_V → μ → (Option dm_V → μ → Prop) → Prop} {Z : Nat → dm_L → List dm_V → μ → Prop} (hc : dm_cm call') (hcc : ∀ y a σ Q, call y a σ Q → call' y a σ Q) (hz : ∀ pc ls st σ, Z pc ls st σ → P pc ls st σ) (hs : ∀ pc ls st σ, dm_F E O call' bi M Q P pc ls st σ → P pc ls st σ) (hw : ∀ pc ls0 ls st σ, dm_le ls0 ls → P pc ls0 st σ → P pc ls st σ) (stops : List (Nat × List Bool)) : ∀ (k pc : Nat) (ls : dm_L) (st : List dm_V) (σ : μ), dm_xP E O call bi M Q Z stops k pc ls st σ → P pc ls st σ
  | 0, _, _, _, _ => hz _ _ _ _
  | k + 1, pc, ls, st, σ => by
    unfold dm_xP
    split
    · exact fun h => hw _ _ _ _ _ (dm_keep_le _ _) (hz _ _ _ _ h)
    · exact fun h => hs _ _ _ _ (dm_F_cm hcc (fun _ _ _ _ q => dm_xP.run hc hcc hz hs hw stops k _ _ _ _ q) hc h)
end XPD
/-- when the system is made: where the law stands, and what it has -/
def m1_Z (pc : Nat) (ls : dm_L) (st : List dm_V) (σ : M1) : Prop := (pc == 20) = true ∧ ls = [some (vr 93 0), some (vr 100 0), some (vr 100 224), some (vr 100 241), none, none, none] ∧ st = [] ∧ m12_all σ.1 m2_0 = true ∧ (σ.1.length == 242) = true ∧ σ.2.1 = (242, 4778)
def m1_Zd (pc : Nat) (ls : dm_L) (st : List dm_V) (σ : M1) : Decidable (m1_Z pc ls st σ) := by
  unfold m1_Z
  infer_instance
def m1_00 : M1 := ([], (0, 0), (601024, 7293034))
def m1_stp : List (Nat × List Bool) := [(20, [true, true, true, true, true, true, true])]
def m1_mp : Prop := dm_xP dmE m1O (dm_run dmE m1O dmP 3000 10) true (dmP 281) (fun _ _ => False) m1_Z m1_stp 15 0 [some (vr 93 0), none, none, none, none, none, none] [] m1_00
noncomputable def m1_md : Decidable m1_mp := dm_xP_d (fun y a σ Q h => dm_run_d 10 y a σ Q h) (fun _ _ => instDecidableFalse) m1_Zd m1_stp 15 0 _ [] m1_00
set_option maxRecDepth 1000000 in
theorem m1_made : @decide m1_mp m1_md = true := by decide +kernel
theorem dm_dec {α : Type} {f : α → Prop} {x y : α} (d : Decidable (f y)) (h : @decide (f y) d = true) (e : x = y) : f x := by
  subst e
  exact of_decide_eq_true h
theorem m1_made' (σ0 : M1) (h0 : σ0 = m1_00) : dm_xP dmE m1O (dm_run dmE m1O dmP 3000 10) true (dmP 281) (fun _ _ => False) m1_Z m1_stp 15 0 [some (vr 93 0), none, none, none, none, none, none] [] σ0 := dm_dec (f := fun σ => dm_xP dmE m1O (dm_run dmE m1O dmP 3000 10) true (dmP 281) (fun _ _ => False) m1_Z m1_stp 15 0 [some (vr 93 0), none, none, none, none, none, none] [] σ) (y := m1_00) m1_md m1_made h0
