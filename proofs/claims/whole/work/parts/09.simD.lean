theorem dm_rt_i {rk : Nat} {r : Option dm_V} {K : List dm_V → Prop} (h : dm_rt rk r K) : K r.toList := by
  unfold dm_rt at h
  split at h
  · obtain ⟨rfl, h⟩ := h; exact h
  · obtain ⟨v, rfl, h⟩ := h; exact h
  · obtain ⟨v, rfl, h⟩ := h; exact h
  · obtain ⟨v, rfl, h⟩ := h; exact h
  · exact h.elim
theorem dm_cat_sum (ad : Nat → Nat → Nat) : ∀ l : List dm_V, ((l.map (dm_cv ad)).map fun v => v.category).sum = dm_cat l
  | [] => rfl
  | .inl x :: l => by
    have := dm_cat_sum ad l
    simp only [List.map_cons, List.sum_cons, this]; rfl
  | .inr (.inl x) :: l => by
    have := dm_cat_sum ad l
    simp only [List.map_cons, List.sum_cons, this]; rfl
  | .inr (.inr none) :: l => by
    have := dm_cat_sum ad l
    simp only [List.map_cons, List.sum_cons, this]; rfl
  | .inr (.inr (some (t, i))) :: l => by
    have := dm_cat_sum ad l
    simp only [List.map_cons, List.sum_cons, this]; rfl
theorem dm_stk (ad : Nat → Nat → Nat) (st : List dm_V) (n : Nat) : st.map (dm_cv ad) = (((st.take n).reverse).map (dm_cv ad)).reverse ++ (st.drop n).map (dm_cv ad) := by
  rw [← List.map_reverse, List.reverse_reverse, ← List.map_append, List.take_append_drop]
theorem dm_rl (ad : Nat → Nat → Nat) (r : Option dm_V) (l : List dm_V) : (r.map (dm_cv ad)).toList ++ l.map (dm_cv ad) = (r.toList ++ l).map (dm_cv ad) := by
  cases r <;> rfl
section SIMD
variable {p : Program} {l : Launch} {e : Env} {R : Room} {s : State} {m : MethodId} {args : Array Value} {below : List Frame} {meth : Method} {c : Code} {Qw : State → Prop} {μ : Type} {E : dm_E} {O : dm_O μ} {M : dm_M} {ad : Nat → Nat → Nat} {ok : dm_V → Prop} {nL : Nat} {cc : ByteArray}
variable {D : va_G} {dA : FieldType → ClassId} {cl : List vw_C} {B : Nat} {tl : μ → List (dm_R × dm_C)} {sz : μ → Nat → Prop} {okM : μ → Prop} {cnt lim : μ → Nat × Nat} {c0 lm : Nat × Nat} {Ts : List Cond} {own : String} {St : State → Heap → Prop}
/-- behind a call -/
theorem dm_after {H : Heap} {locs : List Loc} {lsC : Array Slot} {cells slots pc mc' ms' : Nat} {stk : List Value} {rest : List dm_V} {a9 : Array Value} {Q' : Option dm_V → μ → Prop} {σ : μ} {ls : dm_L} {lv : μ → μ}
    (hrun : va_Run p l e R s m args below meth c H locs cells slots mc' ms' (F0 m pc lsC stk) (rest.map (dm_cv ad)) (dm_Qc D dA cl ad ok B tl sz okM St Q' a9) (fun q => B ≤ q))
    (hA : dm_Am D dA cl ad B tl sz okM cnt lim c0 lm s σ H locs cells slots) (hL : dm_Al ad ok nL ls lsC) (hS : ∀ v ∈ rest, ok v)
    (hlv : ∀ σ', okM σ' → okM (lv σ') ∧ tl (lv σ') = tl σ' ∧ (∀ n, sz σ' n → sz (lv σ') n) ∧ cnt (lv σ') = ((cnt σ).1 + mc', (cnt σ).2 + ms') ∧ lim (lv σ') = lim σ)
    (hQ : ∀ r σ', Q' r σ' → dm_P p l e R s m args below meth c Qw ad ok nL (dm_Am D dA cl ad B tl sz okM cnt lim c0 lm s) (pc + 3) ls (r.toList ++ rest) (lv σ')) : W p l e R s m args below meth c H locs cells slots Qw (F0 m pc lsC stk) := by
  intro T hT X
  obtain ⟨v, st₀, t, T', L, h0, X', hLq, e1, e2, ⟨⟨r, σ', hr, hq, hok, u1, u2, u3, u4, u5, u6, u7⟩, hF⟩, st⟩ := hrun T hT X
  obtain ⟨a1, a2, a3, a4, a5, a6, a7, a8⟩ := hA
  cases hr
  obtain ⟨g1, g2, g3, g4, g5⟩ := hlv σ' u5
  have hA' : dm_Am D dA cl ad B tl sz okM cnt lim c0 lm s (lv σ') t.heap (locs ++ L) (cells + mc') (slots + ms') := by
    refine ⟨by rw [g2]; exact u1, by rw [g2]; exact u2, ⟨?_, fun q h1 h2 => ?_, fun q hq => ?_⟩, g3 _ u4, g1, ?_, ?_, g5.trans a8⟩
    · exact Nat.le_trans a3.1 (by rw [← h0]; exact hF.1)
    · rw [hF.2 q (by rw [h0]; exact Nat.lt_of_lt_of_le h1 a3.1) h2, h0]
      exact a3.2.1 q h1 h2
    · rcases List.mem_append.mp hq with h | h
      · exact a3.2.2 q h
      · exact hLq q h
    · rw [g4]; show cells + mc' + c0.1 = (cnt σ).1 + mc'; omega
    · rw [g4]; show slots + ms' + c0.2 = (cnt σ).2 + ms'; omega
  have hS' : ∀ w ∈ r.toList ++ rest, ok w := fun w hw => by
    rcases List.mem_append.mp hw with h | h
    · cases r with
      | none => cases h
      | some z =>
        obtain rfl : w = z := by simpa using h
        exact hok w rfl
    · exact hS w h
  obtain ⟨t2, b1, b2⟩ := hQ r σ' hq t.heap (locs ++ L) lsC _ _ hA' hL hS' T' e1 X'
  refine ⟨t2, st t2 ?_, b2⟩
  have : ({ F0 m pc lsC stk with pc := (F0 m pc lsC stk).pc + 3, stack := (r.map (dm_cv ad)).toList ++ rest.map (dm_cv ad) } : JFrame) = F0 m (pc + 3) lsC ((r.toList ++ rest).map (dm_cv ad)) := by
    rw [dm_rl]
  rw [this]
  exact b1
/-- what a callee is called with -/
def dm_Pc (D : va_G) (dA : FieldType → ClassId) (cl : List vw_C) (ad : Nat → Nat → Nat) (B : Nat) (tl : μ → List (dm_R × dm_C)) (sz : μ → Nat → Prop) (okM : μ → Prop) (St : State → Heap → Prop) (av : List dm_V) (σ : μ) : Array Value → State → Prop := va_Pc (av.map (dm_cv ad)) (fun U => dm_U D dA cl ad B tl sz okM St σ U)
theorem dm_Pc.blind (hSt : dm_hSt B St) (av : List dm_V) (σ : μ) : FrameBlind (dm_Pc D dA cl ad B tl sz okM St av σ) := by
  intro a U g mk ⟨h0, h1, h2, h3, h4, h5, h6, h7⟩
  exact ⟨h0, h1, h2, va_K.moved (u := U) (U := U.calling g mk a) (Vm.Alike.refl U.vm) h3, h4, h5, h6, hSt.1 U (U.calling g mk a) _ (State.WarmedH.refl U) h7⟩
theorem dm_Am.call {H : Heap} {locs : List Loc} {cells slots : Nat} {σ σe : μ} (hA : dm_Am D dA cl ad B tl sz okM cnt lim c0 lm s σ H locs cells slots) (hK : va_K D cl (dm_tys dA) s) (hBs : B ≤ s.heap.size) (hSt : dm_hSt B St) (hs : St s s.heap) (h1 : okM σe) (h2 : tl σe = tl σ) (h3 : ∀ n, sz σ n → sz σe n) (av : List dm_V) : ∀ U : State, U.heap = H → s.WarmedH U.vm → dm_Pc D dA cl ad B tl sz okM St av σe ((av.map (dm_cv ad)).toArray) U := by
  intro U hU hW
  obtain ⟨u1, u2, u3, u4, u5, u6, u7⟩ := hA.end hK hBs hSt hs hU hW
  exact ⟨rfl, by rw [h2]; exact u1, by rw [h2]; exact u2, u3, h3 _ u4, h1, u6, u7⟩
end SIMD
