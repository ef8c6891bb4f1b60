theorem dm_lgl (ad : Nat → Nat → Nat) : ∀ av : List dm_V, (lg_sl (av.map (dm_cv ad))).length = dm_cat av
  | [] => rfl
  | x :: av => by
    have ih := dm_lgl ad av
    have h : lg_sl ((x :: av).map (dm_cv ad)) = (if (dm_cv ad x).category = 2 then [Slot.val (dm_cv ad x), Slot.second] else [Slot.val (dm_cv ad x)]) ++ lg_sl (av.map (dm_cv ad)) := by
      simp [lg_sl]
    rw [h, List.length_append, ih]
    rcases x with x | x | _ | ⟨t, i⟩ <;> simp [dm_cv, dm_cat, Value.category]
section SIMW
variable {μ : Type} {E : dm_E} {O : dm_O μ} {prog : Nat → dm_M} {mn : Nat → MethodName} {mb : Nat → ByteArray} {tb : List Cond} {mcT : Nat → Nat × Nat}
variable {D : va_G} {dA : FieldType → ClassId} {cl : List vw_C} {ad : Nat → Nat → Nat} {ok : dm_V → Prop} {B : Nat} {tl : μ → List (dm_R × dm_C)} {sz : μ → Nat → Prop} {okM : μ → Prop} {cnt lim : μ → Nat × Nat} {St : State → Heap → Prop}
theorem dm_ws_at {y : Nat} {args : Array Value} {s : State} (h : ∀ w ∈ dm_ws prog mn mb tb y, w.before args s = true) : ∀ w ∈ tb, w.before args s = true := fun w hw => h w (List.mem_cons_of_mem _ hw)
set_option maxHeartbeats 4000000 in
/-- what the abstract machine does in a call is a contract of the method -/
theorem dm_sim (l : Launch) (hIF : dm_IF O mcT cl ad ok B tl sz okM cnt lim St) (htb : ∀ w ∈ tb, (w.onTables && w.keeps) = true ∨ ∃ ty, w = .arrayClass ty) (hM : ∀ y, dm_MOK E prog mn mb tb cl St y) (hX : ∀ y, dm_XOK E O prog mn mb tb D dA cl ad ok B tl sz okM cnt lim St y) :
    ∀ d y av σ Q, dm_Call E O prog d y av σ Q → okM σ → (∀ v ∈ av, ok v) → lim σ = ((cnt σ).1 + (mcT y).1, (cnt σ).2 + (mcT y).2) → av.length ≤ (prog y).2.1 → dm_cat av = av.length →
      Met l (mn y) (dm_ws prog mn mb tb y) (dm_rm mcT d y) (dm_Pc D dA cl ad B tl sz okM St av σ) (dm_Qc D dA cl ad ok B tl sz okM St Q) (mcT y).1 (mcT y).2 (fun q => B ≤ q) := by
  have step : ∀ (d : Nat) (call : Nat → List dm_V → μ → (Option dm_V → μ → Prop) → Prop) (bi : Bool), (bi = true → 4 ≤ d) →
      (∀ {p : Program} {e : Env} {s : State} {m : MethodId} {args : Array Value} {below : List Frame} {meth : Method} {c : Code} {Qw : State → Prop} {c0 : Nat × Nat} {y0 : Nat}, dm_ctx prog mn mb tb D dA cl B St y0 p s m args c →
        ∀ {pc : Nat} {ls : dm_L} {st : List dm_V} {σ : μ} {i : Instr} {k y n rk cr : Nat}, decode (mb y0) pc = .ok (i, 3) → E.2.1 (prog y0).1 k = some (y, n, rk, cr) → ¬ 3000 ≤ y → dm_link prog mn mb tb cl St (mn y0).cls i k y n cr →
        dm_inv E O call bi (prog y0) (dm_P p l e (dm_rm mcT d y0) s m args below meth c Qw ad ok (prog y0).2.1 (dm_Am D dA cl ad B tl sz okM cnt lim c0 (c0.1 + (mcT y0).1, c0.2 + (mcT y0).2) s)) pc ls st σ k →
        dm_P p l e (dm_rm mcT d y0) s m args below meth c Qw ad ok (prog y0).2.1 (dm_Am D dA cl ad B tl sz okM cnt lim c0 (c0.1 + (mcT y0).1, c0.2 + (mcT y0).2) s) pc ls st σ) →
      ∀ y av σ Q, dm_Go E O call bi (prog y) Q 0 (dm_ent (prog y).2.1 av) [] σ → okM σ → (∀ v ∈ av, ok v) → lim σ = ((cnt σ).1 + (mcT y).1, (cnt σ).2 + (mcT y).2) → av.length ≤ (prog y).2.1 → dm_cat av = av.length →
      Met l (mn y) (dm_ws prog mn mb tb y) (dm_rm mcT d y) (dm_Pc D dA cl ad B tl sz okM St av σ) (dm_Qc D dA cl ad ok B tl sz okM St Q) (mcT y).1 (mcT y).2 (fun q => B ≤ q) := by
    intro d call bi hbi hI y av σ Q hgo hok hav hlim hlen hcat
    refine Met.ofW (cc := mb y) (maxL := (prog y).2.1) (ret := (prog y).2.2.1) (hM y).1 rfl ?_
    intro p e s m args below meth c s₁ B0 hml hv
    obtain ⟨rfl, u1, u2, u3, u4, u5, u6, u7⟩ := hv
    have hx := B0.exec
    have hb := B0.bytes
    have hr := B0.returns
    have hts := dm_ws_at (atoms_spec (ws := dm_ws prog mn mb tb y) B0.pre)
    have hown : s.vm.findClass (mn y).cls = some m.cls := findClass_of_methodNamed B0.named
    have hname : meth.name = (mn y).name := (name_of_methodNamed B0.named B0.method).1
    have hctx : dm_ctx prog mn mb tb D dA cl B St y p s m ((av.map (dm_cv ad)).toArray) c := ⟨hx, hb, hml, hown, hts, u3, u7, u6⟩
    have key := hgo (dm_P p l e (dm_rm mcT d y) s m ((av.map (dm_cv ad)).toArray) below meth c (MQ below (dm_Qc D dA cl ad ok B tl sz okM St Q) ((av.map (dm_cv ad)).toArray) s (mcT y).1 (mcT y).2 (fun q => B ≤ q)) ad ok (prog y).2.1 (dm_Am D dA cl ad B tl sz okM cnt lim (cnt σ) ((cnt σ).1 + (mcT y).1, (cnt σ).2 + (mcT y).2) s))
      (fun pc ls st σ1 hF => dm_body hIF hctx (hM y) (hX y) hname hr B0.notSynchronized hbi (hI hctx) hF)
      (fun pc ls0 ls st σ1 hle hP H locs lsC cells slots hA hL hS => hP H locs lsC cells slots hA (hL.weak hle) hS)
    have hle : (lg_sl (av.map (dm_cv ad))).length ≤ (prog y).2.1 := by
      have := dm_lgl ad av
      omega
    have hl := lv_entry (av.map (dm_cv ad)) hle
    rw [lg_entry_eq]
    refine key s.heap [] _ 0 0 ⟨u1, u2, va_S.rf, u4, u5, Nat.zero_add _, Nat.zero_add _, hlim⟩ ⟨?_, dm_ent_len hlen, fun v hv => ?_⟩ (fun v hv => by cases hv)
    · unfold dm_ent
      rw [dm_as_ent ad _ av 0 hcat]
      exact hl
    · unfold dm_ent at hv
      rcases List.mem_append.mp hv with h | h
      · obtain ⟨w, hw, e9⟩ := List.mem_map.mp h
        cases e9
        exact hav _ hw
      · cases (List.mem_replicate.mp h).2
  intro d
  induction d with
  | zero =>
    intro y av σ Q h
    refine step 0 (fun _ _ _ _ => False) false (fun h => by cases h) ?_ y av σ Q h
    intro p e s m args below meth c Qw c0 y0 hctx pc ls st σ i k y n rk cr hd hq hy hlk h
    obtain ⟨-, -, -, -, h⟩ := dm_inv_i hq hy h
    exact (dm_rc_K h).elim
  | succ d ih =>
    intro y av σ Q h
    refine step (d + 1) (dm_Call E O prog d) (Nat.ble 4 (d + 1)) (fun h9 => Nat.le_of_ble_eq_true h9) ?_ y av σ Q h
    intro p e s m args below meth c Qw c0 y0 hctx pc ls st σ i k y n rk cr hd hq hy hlk h
    exact dm_simI (R := dm_rm mcT (d + 1) y0) hIF htb (Nat.le_refl _) (Nat.le_refl _) hctx (fun y av σ Q hc => ih y av σ Q hc) hd hq hy hlk h
end SIMW
