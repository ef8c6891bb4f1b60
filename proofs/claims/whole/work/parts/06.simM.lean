/-! the machine follows the abstract one: fields and arrays -/
/-- an array with one place changed -/
def dm_xs : dm_X → Nat → dm_V → dm_X
  | .inl f, j, .inl z => .inl (upd f j z)
  | .inr (.inl f), j, .inr (.inl z) => .inr (.inl (vp_updL f j z))
  | .inr (.inr f), j, .inr (.inr z) => .inr (.inr (va_up f j z))
  | x, _, _ => x
def dm_tyl : List FieldType := [.int, .byte, .boolean, .long, .object "MistakesLent$Need", .object "MistakesLent$Deed", .object "MistakesLent$Steps", .object "MistakesLent$Slip", .object "MistakesLent$Desk"]
def dm_tys (dA : FieldType → ClassId) : List (ClassId × FieldType) := dm_tyl.map (fun ty => (dA ty, ty))
theorem dm_tys_at {dA : FieldType → ClassId} {ty : FieldType} {k : Nat} (h : dm_tyl[k]? = some ty) : (dm_tys dA)[k]? = some (dA ty, ty) := by
  unfold dm_tys; rw [List.getElem?_map, h]; rfl
section SIMM
variable {p : Program} {l : Launch} {e : Env} {R : Room} {s : State} {m : MethodId} {args : Array Value} {below : List Frame} {meth : Method} {c : Code} {Qw : State → Prop} {μ : Type} {E : dm_E} {O : dm_O μ} {M : dm_M} {ad : Nat → Nat → Nat} {ok : dm_V → Prop} {nL : Nat} {cc : ByteArray}
variable {D : va_G} {dA : FieldType → ClassId} {cl : List vw_C} {B : Nat} {tl : μ → List (dm_R × dm_C)} {sz : μ → Nat → Prop} {okM : μ → Prop} {cnt lim : μ → Nat × Nat} {c0 lm : Nat × Nat} {Ts : List Cond} {own : String}
/-- the machine's memory holds the abstract one -/
def dm_Am (D : va_G) (dA : FieldType → ClassId) (cl : List vw_C) (ad : Nat → Nat → Nat) (B : Nat) (tl : μ → List (dm_R × dm_C)) (sz : μ → Nat → Prop) (okM : μ → Prop) (cnt lim : μ → Nat × Nat) (c0 lm : Nat × Nat) (s : State) (σ : μ) (H : Heap) (locs : List Loc) (cells slots : Nat) : Prop :=
  va_P D cl (dm_wd ad dA (tl σ)) H ∧ va_D (fun q => B ≤ q) (dm_wd ad dA (tl σ)) ∧ va_S (fun q => B ≤ q) s.heap H locs ∧ sz σ H.size ∧ okM σ ∧ cells + c0.1 = (cnt σ).1 ∧ slots + c0.2 = (cnt σ).2 ∧ lim σ = lm
def dm_hget (O : dm_O μ) (ok : dm_V → Prop) (tl : μ → List (dm_R × dm_C)) (okM : μ → Prop) : Prop :=
  ∀ σ r ci k v, okM σ → ok (.inr (.inr (some r))) → O.1 σ r ci k = some v → ok v ∧ ∃ (q0 : Nat) (fs : List dm_V), (tl σ)[q0]? = some (r, Sum.inl (ci, fs)) ∧ fs[k]? = some v
def dm_hput (O : dm_O μ) (ok : dm_V → Prop) (cl : List vw_C) (ad : Nat → Nat → Nat) (tl : μ → List (dm_R × dm_C)) (sz : μ → Nat → Prop) (okM : μ → Prop) (cnt lim : μ → Nat × Nat) : Prop :=
  ∀ σ r ci k v σ', okM σ → ok (.inr (.inr (some r))) → ok v → O.2.1 σ r ci k v = some σ' → okM σ' ∧ (∀ n, sz σ n → sz σ' n) ∧ cnt σ' = cnt σ ∧ lim σ' = lim σ ∧ (∃ (q0 : Nat) (fs : List dm_V), (tl σ)[q0]? = some (r, Sum.inl (ci, fs)) ∧ k < fs.length ∧ tl σ' = (tl σ).set q0 (r, .inl (ci, fs.set k v))) ∧ ∃ (C : String) (T : u_T) (N : Nat) (ty : FieldType), cl[ci]? = some (C, T, N) ∧ parseFieldDescriptor (T k).2.2.1 = some ty ∧ narrow ty (dm_cv ad v) = dm_cv ad v ∧ fits ty (dm_cv ad v) = true
def dm_harr (O : dm_O μ) (ok : dm_V → Prop) (ad : Nat → Nat → Nat) (B : Nat) (tl : μ → List (dm_R × dm_C)) (okM : μ → Prop) (s : State) : Prop :=
  ∀ σ r ty n x, okM σ → ok (.inr (.inr (some r))) → O.2.2.1 σ r = some (ty, n, x) → ((∃ q0 : Nat, (tl σ)[q0]? = some (r, Sum.inr (ty, n, x))) ∨ (ty = .int ∧ ∃ f : Nat → Int32, x = .inl f ∧ n < 2 ^ 31 ∧ va_X (ad r.1 r.2) n f s s.heap ∧ ad r.1 r.2 < s.heap.size ∧ ¬ B ≤ ad r.1 r.2)) ∧ (∃ t0 : Nat, dm_tyl[t0]? = some ty) ∧ ∀ f, x = .inr (.inr f) → ∀ j, j < n → ok (.inr (.inr (f j)))
def dm_hsta (O : dm_O μ) (ok : dm_V → Prop) (cl : List vw_C) (tl : μ → List (dm_R × dm_C)) (sz : μ → Nat → Prop) (okM : μ → Prop) (cnt lim : μ → Nat × Nat) : Prop :=
  ∀ σ r ty n x j v σ', okM σ → ok (.inr (.inr (some r))) → ok v → O.2.2.1 σ r = some (ty, n, x) → j < n → O.2.2.2.1 σ r j v = some σ' → okM σ' ∧ (∀ n, sz σ n → sz σ' n) ∧ cnt σ' = cnt σ ∧ lim σ' = lim σ ∧ (∃ q0 : Nat, (tl σ)[q0]? = some (r, Sum.inr (ty, n, x)) ∧ tl σ' = (tl σ).set q0 (r, .inr (ty, n, dm_xs x j v))) ∧ ∀ q, v = .inr (.inr (some q)) → ∃ (qk ci : Nat) (vs : List dm_V) (w : vw_C), (tl σ)[qk]? = some (q, .inl (ci, vs)) ∧ cl[ci]? = some w ∧ ty = .object w.1
def dm_hfl (E : dm_E) (M : dm_M) (cl : List vw_C) (own : String) (Ts : List Cond) (args : Array Value) (s : State) : Prop :=
  ∀ k ci kk, E.1 M.1 k = some (ci, kk) → ∃ (C : String) (T : u_T) (N : Nat), cl[ci]? = some (C, T, N) ∧ kk < N ∧ (Cond.fieldLink own k (T kk).1 (T kk).2.1 (T kk).2.2.1).before args s = true ∧ (∀ w ∈ u_ws C T N, w ∈ Ts) ∧ ∃ ty0 : Nat → FieldType, (∀ k, k < N → parseFieldDescriptor (T k).2.2.1 = some (ty0 k)) ∧ ∀ a, a < N → ∀ b, b < N → a ≠ b → (T a).2.1 ≠ (T b).2.1
theorem dm_Am.put {σ σ' : μ} {H H1 : Heap} {locs locs1 : List Loc} {cells slots q0 : Nat} {r : dm_R} {x : dm_C} (h : dm_Am D dA cl ad B tl sz okM cnt lim c0 lm s σ H locs cells slots) (ht : tl σ' = (tl σ).set q0 (r, x)) (h1 : okM σ') (h2 : ∀ n, sz σ n → sz σ' n) (h3 : cnt σ' = cnt σ) (h4 : lim σ' = lim σ)
    (hP : va_P D cl ((dm_wd ad dA (tl σ)).set q0 (ad r.1 r.2, dm_cc ad dA x)) H1) (hD : va_D (fun q => B ≤ q) ((dm_wd ad dA (tl σ)).set q0 (ad r.1 r.2, dm_cc ad dA x))) (hS : va_S (fun q => B ≤ q) s.heap H1 locs1) (hz : H1.size = H.size) : dm_Am D dA cl ad B tl sz okM cnt lim c0 lm s σ' H1 locs1 cells slots := by
  obtain ⟨a1, a2, a3, a4, a5, a6, a7, a8⟩ := h
  exact ⟨by rw [ht, dm_wd_set]; exact hP, by rw [ht, dm_wd_set]; exact hD, hS, by rw [hz]; exact h2 _ a4, h1, by rw [h3]; exact a6, by rw [h3]; exact a7, h4.trans a8⟩
/-- a field is written: the rows of the kit, with the heap's size -/
theorem dm_putW {H : Heap} {locs : List Loc} {cells slots pc a q0 ci k N index : Nat} {C : String} {T : u_T} {A : Nat → Prop} {H0 : Heap} {ws : va_W} {tys : List (ClassId × FieldType)} {ls : Array Slot} {rest : List Value} {fs : List Value} {ty : FieldType} {v : Value} {ty0 : Nat → FieldType}
    (hx : p.tables.exec = Jvm.exec) (hb : c.code = cc) (hts : ∀ w ∈ Ts, w.before args s = true) (hin : ∀ w ∈ u_ws C T N, w ∈ Ts) (hty : ∀ k, k < N → parseFieldDescriptor (T k).2.2.1 = some (ty0 k)) (hnm : ∀ a, a < N → ∀ b, b < N → a ≠ b → (T a).2.1 ≠ (T b).2.1) (hown : s.vm.findClass own = some m.cls) (hK : va_K D cl tys s) (hP : va_P D cl ws H) (hD : va_D A ws) (hS0 : va_S A H0 H locs) (he : ws[q0]? = some (a, .inr (ci, fs))) (hc : cl[ci]? = some (C, T, N)) (hk : k < N) (hlink : (Cond.fieldLink own index (T k).1 (T k).2.1 (T k).2.2.1).before args s = true) (hfin : (T k).2.2.2 = true → meth.name = "<init>" ∧ (T k).1 = own) (hd : parseFieldDescriptor (T k).2.2.1 = some ty) (hn : narrow ty v = v) (hfit : fits ty v = true) (hl : k < fs.length)
    (hdg : decode cc pc = .ok (.putfield index, 3)) (kk : ∀ (H1 : Heap) (locs1 : List Loc), H1.size = H.size → va_P D cl (ws.set q0 (a, .inr (ci, fs.set k v))) H1 → va_D A (ws.set q0 (a, .inr (ci, fs.set k v))) → va_S A H0 H1 locs1 → W p l e R s m args below meth c H1 locs1 cells slots Qw (F0 m (pc + 3) ls rest)) : W p l e R s m args below meth c H locs cells slots Qw (F0 m pc ls (v :: .ref a :: rest)) := by
  have hap := va_apart (own := own) hts hin ty0 hty hnm hK hc
  obtain ⟨w, hw, cell, b1, b2, b3, b4⟩ := hP q0 _ he
  obtain rfl : w = (C, T, N) := Option.some.inj (hw.symm.trans hc)
  obtain ⟨hSl, hfc, kC, hkC, hkind⟩ := hK.1 ci _ hc
  obtain ⟨cf, kf, fi, f, hi, hsl⟩ := hSl k hk
  have hlay := hts _ (hin _ (u_in_lay hk))
  have hst := (u_facts hfc hkC (u_lays hts hin hk) hi).1
  have fin : ∀ H' : Heap, H'[a]? = some (cell.setSlot f.slot v) → H'.size = H.size → (∀ q, q ≠ a → H'[q]? = H[q]?) → W p l e R s m args below meth c H' (locs ++ [⟨a, f.slot⟩]) cells slots Qw (F0 m (pc + 3) ls rest) := by
    intro H' e1 e2 e3
    rw [hsl] at e1 ⊢
    exact kk H' _ e2 (hP.set hD he ⟨_, hc, t_OB.to (V := updV (vp_V fs) k v) ⟨_, e1, b2, b3, t_set b4 hap hk v⟩ (fun j _ => vp_updV_set hl v j)⟩ e3) (hD.set he) (hS0.put e2 e3 (hD.2 q0 _ he))
  have hlt : f.slot < cell.slots.size := by rw [hsl]; exact k2_hasslot (b4 k hk)
  unfold u_lay at hlay
  by_cases hF : (T k).2.2.2 = true
  · rw [if_pos hF] at hlay
    obtain ⟨hin2, hdecl⟩ := hfin hF
    have hcf : m.cls = cf := by
      obtain ⟨_, _, c', _, _, _, -, -, hf', -, -, -, hown2, -⟩ := Cond.laysFinal_spec hlay
      have e1 : c' = cf := by have := hi.symm.trans hf'; simp at this; exact this.1.symm
      rw [hdecl] at hown2
      rw [← e1]; exact Option.some.inj (hown.symm.trans hown2)
    exact W.putFinK hx hb hown hlink hi hst hcf hin2 (by rw [b2]; exact u_fits hfc hkC hkind (Or.inr hlay) hi hd hn hfit) b1 b3 hlt rfl rfl hdg fin
  · rw [if_neg hF] at hlay
    exact W.putK hx hb (f := f) ⟨hown, hlink, ⟨_, _, _, hi⟩, hst⟩ (by rw [b2]; exact u_store hfc hkC hkind hlay hi hd hn hfit) b1 b3 hlt rfl rfl hdg fin
theorem dm_cell_i (cA : ClassId) (n j : Nat) (f : Nat → Int32) (x : Int32) : (vp_cell cA (n, .inl f)).setSlot j (.int x) = vp_cell cA (n, .inl (upd f j x)) := by
  rw [vp_cell_i, vp_cell_i, arrV_store]
  congr 1
  funext q
  by_cases hq : q = j <;> simp [updV, upd, hq]
theorem dm_cell_l (cA : ClassId) (n j : Nat) (f : Nat → Int64) (x : Int64) : (vp_cell cA (n, .inr (.inl f))).setSlot j (.long x) = vp_cell cA (n, .inr (.inl (vp_updL f j x))) := by
  rw [vp_cell_l, vp_cell_l, arrV_store]
  congr 1
  funext q
  by_cases hq : q = j <;> simp [updV, vp_updL, hq]
theorem dm_cell_q (cA : ClassId) (n j : Nat) (f : Nat → Option Nat) (x : Nat) : (vp_cell cA (n, .inr (.inr (.inr (.inr f))))).setSlot j (.ref x) = vp_cell cA (n, .inr (.inr (.inr (.inr (va_up f j (some x)))))) := by
  rw [vp_cell_q, vp_cell_q, arrV_store]
  congr 1
  funext q
  by_cases hq : q = j <;> simp [updV, va_up, va_rf, hq]
end SIMM
