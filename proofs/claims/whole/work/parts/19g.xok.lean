/-! constants, statics and the JDK's methods, for any memory -/
def dm_cck (c : Nat) (e : Nat × dm_V × Nat) : Bool := match e.2.1 with
  | .inl x => dm_at e.2.2 (.constant (dm_cn c) e.1 x)
  | .inr (.inl x) => dm_at e.2.2 (.constantLong (dm_cn c) e.1 x)
  | .inr (.inr (some (t, j))) => decide (t = 90) && decide (j < 29)
  | .inr (.inr none) => false
theorem dm_cok : ∀ c, c < 16 → ∀ e ∈ dm_cl c, dm_cck c e = true := by decide +kernel
def dm_sck (c : Nat) (e : Nat × Nat × Bool) : Bool := e.2.2 || dm_at e.2.1 (.fieldLink (dm_cn c) e.1 "MistakesLent" "ROOM" "[I")
theorem dm_sok : ∀ c, c < 16 → ∀ e ∈ dm_sl c, dm_sck c e = true := by decide +kernel
/-- the calls of the JDK's methods -/
def dm_bck (c : Nat) (e : Nat × (Nat × Nat × Nat × Nat) × Nat × Nat × Nat × Nat × Nat × Nat) : Bool := decide (e.2.1.1 < 3000) || (match e.2.1.1 with
  | 3000 => decide (e.2.2.1 = 2) && dm_at e.2.2.2.1 (.methodLink (dm_cn c) e.1 objectInit)
  | 3001 => decide (e.2.2.1 = 1) && dm_at e.2.2.2.1 (.methodLink (dm_cn c) e.1 Lib.Math.max.name)
  | 3002 => decide (e.2.2.1 = 1) && dm_at e.2.2.2.1 (.methodLink (dm_cn c) e.1 Lib.Math.min.name)
  | 3003 => decide (e.2.2.1 = 0) && dm_at e.2.2.2.1 (.methodLink (dm_cn c) e.1 nS_length)
  | 3004 => decide (e.2.2.1 = 0) && dm_at e.2.2.2.1 (.methodLink (dm_cn c) e.1 nS_charAt)
  | _ => false)
theorem dm_bok : ∀ c, c < 16 → ∀ e ∈ dm_ml c, dm_bck c e = true := by decide +kernel
theorem tJ_oi : Cond.instanceMethod objectInit ∈ dm_tb := dm_s1 _ 166 (by decide +kernel)
theorem tJ_oc : Cond.code objectInit ⟨#[0xb1]⟩ 1 none ∈ dm_tb := dm_s1 _ 167 (by decide +kernel)
theorem tJ_im : Cond.initialized "java/lang/Math" ∈ dm_tb := dm_s1 _ 154 (by decide +kernel)
theorem tJ_xs : Cond.static Lib.Math.max.name ∈ dm_tb := dm_s1 _ 755 (by decide +kernel)
theorem tJ_xc : Cond.code Lib.Math.max.name Lib.Math.max.code 2 (some .int) ∈ dm_tb := dm_s1 _ 756 (by decide +kernel)
theorem tJ_ns : Cond.static Lib.Math.min.name ∈ dm_tb := dm_s1 _ 752 (by decide +kernel)
theorem tJ_nc : Cond.code Lib.Math.min.name Lib.Math.min.code 2 (some .int) ∈ dm_tb := dm_s1 _ 753 (by decide +kernel)
section XOKS
variable {p : Program} {l : Launch} {e : Env} {R : Room} {s : State} {m : MethodId} {args : Array Value} {below : List Frame} {meth : Method} {c : Code} {H : Heap} {locs : List Loc} {cells slots pc : Nat} {Qw : State → Prop} {ls : Array Slot} {rest : List Value} {cc : ByteArray}
theorem dm_ldcwS (hexec : p.tables.exec = Jvm.exec) (hb : c.code = cc) {own tx : String} {index q : Nat} (hown : s.vm.findClass own = some m.cls) (hZ : vk_R own index tx q s) (hdg : decode cc pc = .ok (.ldc_w index, 3))
    (k : W p l e R s m args below meth c H locs cells slots Qw (F0 m (pc + 3) ls (.ref q :: rest))) : W p l e R s m args below meth c H locs cells slots Qw (F0 m pc ls rest) := by
  intro T hT X
  obtain ⟨t, a1, b1⟩ := k T hT X
  refine ⟨t, ?_, b1⟩
  obtain ⟨k9, cf, i, a', hk, hcf, hcp, -, hr, hev'⟩ := Cond.stringRef_spec hown hZ.1
  cases hZ.2.symm.trans hev'
  obtain ⟨k', hk', he⟩ := X.warmed.alike.2.2 _ _ hk
  have hr' : k'.resolved[index]? = some (some (.string q)) := by
    rcases X.warmed.entry hk hk' index with h | ⟨h, -⟩
    · rw [h]; exact hr
    · rw [hr] at h; cases h
  jvm_step X.here [hexec, hb, hdg, Jvm.Op.ldc_w.wp_string (e := e) (s := T) (f := F0 m pc ls rest) X.here.top hk' (by rw [he]; exact hcf) hcp hr']
  exact a1
variable {μ : Type} {ad : Nat → Nat → Nat} {adV : Nat → Nat} {ok : dm_V → Prop} {B L : Nat} {xs : Nat → Int32} {D : va_G} {dA : FieldType → ClassId} {cl : List vw_C} {tl : μ → List (dm_R × dm_C)} {sz : μ → Nat → Prop} {okM : μ → Prop} {cnt lim : μ → Nat × Nat} {c0 lm : Nat × Nat} {y : Nat}
theorem dm_x1 (hy : y < 282) (hoi : ∀ x, ok (vi x)) (hol : ∀ x, ok (vl x)) (hos : ∀ j, j < 29 → ok (vr 90 j)) (hctx : dm_ctx dmP dmN dmB dm_tb D dA cl B (dm_St ad adV B L xs) y p s m args c) : dm_hcs p l e R s m args below meth c Qw ad ok (dmB y) dmE (dmP y) := by
  obtain ⟨hx, hb, hml, hown, hts, hK, hs, hBs⟩ := hctx
  have hcls := dm_owncls y hy
  obtain ⟨-, a2⟩ := dm_all y
  intro k n i v hi hv
  have hv0 := hv
  have hv : (dm_lk (dm_cl (dmP y).1) k).map (fun q => q.1) = some v := hv
  cases hl : dm_lk (dm_cl (dmP y).1) k with
  | none => rw [hl] at hv; cases hv
  | some q =>
    rw [hl] at hv
    obtain ⟨v', w⟩ := q
    cases hv
    have hm := dm_lk_mem hl
    have hc : (dmP y).1 < 16 := by
      by_cases hc : (dmP y).1 < 16
      · exact hc
      · rw [(dm_flhi _ (by omega)).2.2.2.1] at hm; cases hm
    have h1 := dm_cok _ hc _ hm
    unfold dm_cck at h1
    rw [hcls] at hown
    match v', h1, hv0, hm with
    | .inl x, h1, hv0, hm =>
      refine ⟨hoi x, fun pc H locs cells slots lsC rest hp hd hk => ?_⟩
      have hcon := hts _ (dm_at_mem h1)
      rcases hi with ⟨rfl, rfl⟩ | ⟨rfl, rfl⟩ | ⟨rfl, rfl⟩
      · exact lv_ldc hx hb hown hcon hd hk
      · exact lv_ldcw hx hb hown hcon hd hk
      · have h2 := a2 pc
        rw [hp] at h2
        unfold dm_ck3 at h2
        dsimp only at h2
        rw [hv0] at h2
        cases h2
    | .inr (.inl x), h1, hv0, hm =>
      refine ⟨hol x, fun pc H locs cells slots lsC rest hp hd hk => ?_⟩
      have hcon := hts _ (dm_at_mem h1)
      rcases hi with ⟨rfl, rfl⟩ | ⟨rfl, rfl⟩ | ⟨rfl, rfl⟩
      · have h2 := a2 pc
        rw [hp] at h2
        unfold dm_ck3 at h2
        dsimp only at h2
        rw [hv0] at h2
        cases h2
      · have h2 := a2 pc
        rw [hp] at h2
        unfold dm_ck3 at h2
        dsimp only at h2
        rw [hv0] at h2
        cases h2
      · exact lv_ldc2 hx hb hown hcon hd hk
    | .inr (.inr (some (t, j))), h1, hv0, hm =>
      simp only [Bool.and_eq_true, decide_eq_true_eq] at h1
      obtain ⟨rfl, hj⟩ := h1
      refine ⟨hos j hj, fun pc H locs cells slots lsC rest hp hd hk => ?_⟩
      have hR := hs.2.2.2.2.1 _ _ j hm rfl
      rcases hi with ⟨rfl, rfl⟩ | ⟨rfl, rfl⟩ | ⟨rfl, rfl⟩
      · exact va_ldcS hx hb hown hR hd hk
      · exact dm_ldcwS hx hb hown hR hd hk
      · have h2 := a2 pc
        rw [hp] at h2
        unfold dm_ck3 at h2
        dsimp only at h2
        rw [hv0] at h2
        cases h2
    | .inr (.inr none), h1, _, _ => cases h1
theorem dm_x2 (hy : y < 282) (ho : ok (vr 92 0)) (hctx : dm_ctx dmP dmN dmB dm_tb D dA cl B (dm_St ad adV B L xs) y p s m args c) : dm_hst p l e R s m args below meth c Qw ad ok (dmB y) dmE (dmP y) (dm_Am D dA cl ad B tl sz okM cnt lim c0 lm s) := by
  obtain ⟨hx, hb, hml, hown, hts, hK, hs, hBs⟩ := hctx
  have hcls := dm_owncls y hy
  intro k v hv
  have hv : (dm_lk (dm_sl (dmP y).1) k).map (fun _ => vr 92 0) = some v := hv
  cases hl : dm_lk (dm_sl (dmP y).1) k with
  | none => rw [hl] at hv; cases hv
  | some q =>
    rw [hl] at hv
    cases hv
    have hm := dm_lk_mem hl
    have hc : (dmP y).1 < 16 := by
      by_cases hc : (dmP y).1 < 16
      · exact hc
      · rw [(dm_flhi _ (by omega)).2.2.2.2] at hm; cases hm
    have h1 := dm_sok _ hc _ hm
    rw [hcls] at hown
    refine ⟨ho, fun pc σ H locs cells slots lsC rest hA hd hk => ?_⟩
    obtain ⟨w, nb⟩ := q
    cases nb with
    | true => exact va_getsN hx hb hs.2.2.1 hA.2.2.1 hown (va_Nw.use rfl (hs.2.2.2.1 _ _ hm rfl)) (fun _ h => h) hd hk
    | false => exact va_gets hx hb hs.2.2.1 hA.2.2.1 hown (hts _ (dm_at_mem h1)) (fun _ h => h) hd hk
theorem dm_strH {σ : μ} (hs : dm_Str ad adV B s s.heap) (hA : dm_Am D dA cl ad B tl sz okM cnt lim c0 lm s σ H locs cells slots) (av : List Value) : ∀ U : State, U.heap = H → s.WarmedH U.vm → va_Pc av (fun U => dm_Str ad adV B U U.heap) av.toArray U := fun U hU hW => ⟨rfl, by
  show dm_Str ad adV B U U.heap
  rw [hU]
  exact (hs.moved hW.alike).kept (fun a h1 h2 => hA.2.2.1.2.1 a h1 h2)⟩
set_option maxRecDepth 100000 in
set_option maxHeartbeats 4000000 in
theorem dm_x4 {O : dm_O μ} (hy : y < 282) (hoi : ∀ x, ok (vi x)) (hos : ∀ j, ok (vr 90 j) → j < 29) (hctx : dm_ctx dmP dmN dmB dm_tb D dA cl B (dm_St ad adV B L xs) y p s m args c) :
    ∀ (call : Nat → List dm_V → μ → (Option dm_V → μ → Prop) → Prop) (bi : Bool) (pc : Nat) (ls : dm_L) (st : List dm_V) (σ : μ) (i : Instr) (k : Nat) (q : Nat × Nat × Nat × Nat), (bi = true → 4 ≤ R.frames ∧ 160 ≤ R.locals) → (∀ σ H locs cells slots, dm_Am D dA cl ad B tl sz okM cnt lim c0 lm s σ H locs cells slots → cells ≤ R.cells ∧ slots ≤ R.slots) → (dmP y).2.2.2 pc = some i → (i = .invokevirtual k ∨ i = .invokestatic k ∨ i = .invokespecial k) → dmE.2.1 (dmP y).1 k = some q → 3000 ≤ q.1 →
    dm_inv dmE O call bi (dmP y) (dm_P p l e R s m args below meth c Qw ad ok (dmP y).2.1 (dm_Am D dA cl ad B tl sz okM cnt lim c0 lm s)) pc ls st σ k → dm_P p l e R s m args below meth c Qw ad ok (dmP y).2.1 (dm_Am D dA cl ad B tl sz okM cnt lim c0 lm s) pc ls st σ := by
  obtain ⟨hx, hb, hml, hown, hts, hK, hs, hBs⟩ := hctx
  have hcls := dm_owncls y hy
  obtain ⟨a1, a2⟩ := dm_all y
  rw [hcls] at hown
  intro call bi pc ls st σ i k q hbi hroom hp hi hq h3 h
  have hd := a1 pc i hp
  have h2 := a2 pc
  rw [hp] at h2
  have hq' : (dm_lk (dm_ml (dmP y).1) k).map (fun q => q.1) = some q := hq
  cases hl : dm_lk (dm_ml (dmP y).1) k with
  | none => rw [hl] at hq'; cases hq'
  | some e9 =>
    rw [hl] at hq'
    obtain ⟨q', kd, wl, w2, w3, wc, wi⟩ := e9
    cases hq'
    have hm := dm_lk_mem hl
    have hc : (dmP y).1 < 16 := by
      by_cases hc : (dmP y).1 < 16
      · exact hc
      · rw [(dm_flhi _ (by omega)).2.1] at hm; cases hm
    have h1 := dm_bok _ hc _ hm
    unfold dm_bck at h1
    rw [Bool.or_eq_true, decide_eq_true_eq] at h1
    have h3' : 3000 ≤ q'.1 := h3
    have h1 := h1.resolve_left (fun h9 => by have h9 : q'.1 < 3000 := h9; omega)
    have hlen : dm_len pc i = 3 := by rcases hi with rfl | rfl | rfl <;> rfl
    rw [hlen] at hd
    obtain ⟨q9, hq9, h⟩ := dm_so_i h
    cases hq.symm.trans hq9
    intro H locs lsC cells slots hA hL hS
    have hz := hroom σ H locs cells slots hA
    obtain ⟨y9, n9, rk9, c9⟩ := q'
    dsimp only at h1
    have hSz : lsC.size = (dmP y).2.1 := hL.1.1
    split at h1
    · obtain ⟨g0, h⟩ := dm_is_i h
      obtain ⟨t, j, rest, rfl, h⟩ := dm_r_i h
      obtain ⟨g1, h⟩ := dm_is_i h
      obtain ⟨f1, f2⟩ := hbi g0
      simp only [Bool.and_eq_true, decide_eq_true_eq] at h1
      have hi9 : i = .invokespecial k := by
        rcases hi with rfl | rfl | rfl
        · unfold dm_ck3 at h2; dsimp only at h2; rw [hl] at h2; rw [h1.1] at h2; exact absurd (of_decide_eq_true h2) (fun h9 => by cases h9)
        · unfold dm_ck3 at h2; dsimp only at h2; rw [hl] at h2; rw [h1.1] at h2; exact absurd (of_decide_eq_true h2) (fun h9 => by cases h9)
        · rfl
      subst hi9
      have hcs : ((rest.map (dm_cv ad)).map fun v => v.category).sum ≤ 8 := by rw [dm_cat_sum]; exact Nat.le_of_ble_eq_true g1
      exact W.objInit hx hb hown (hts _ (dm_at_mem h1.2)) (hts _ tJ_oi) (hts _ tJ_oc) rfl (by rw [hml]; exact hSz) rfl hd (by omega) (by show 2 * 0 + _ + 12 ≤ R.locals; omega) (h _ _ _ _ _ hA hL (dm_okt hS))
    · obtain ⟨g0, h⟩ := dm_is_i h
      obtain ⟨x, z, rest, rfl, h⟩ := dm_2_i h
      obtain ⟨g1, h⟩ := dm_is_i h
      obtain ⟨f1, f2⟩ := hbi g0
      simp only [Bool.and_eq_true, decide_eq_true_eq] at h1
      have hi9 : i = .invokestatic k := by
        rcases hi with rfl | rfl | rfl
        · unfold dm_ck3 at h2; dsimp only at h2; rw [hl] at h2; rw [h1.1] at h2; exact absurd (of_decide_eq_true h2) (fun h9 => by cases h9)
        · rfl
        · unfold dm_ck3 at h2; dsimp only at h2; rw [hl] at h2; rw [h1.1] at h2; exact absurd (of_decide_eq_true h2) (fun h9 => by cases h9)
      subst hi9
      have hcs : ((rest.map (dm_cv ad)).map fun v => v.category).sum ≤ 8 := by rw [dm_cat_sum]; exact Nat.le_of_ble_eq_true g1
      exact va_mmax hx hb (by rw [hml]; exact hSz.symm) hown (hts _ (dm_at_mem h1.2)) (hts _ tJ_xs) (hts _ tJ_im) (hts _ tJ_xc) (by omega) (by omega) hz.1 hz.2 hd (h _ _ _ _ _ hA hL (dm_ok2 (hoi _) (dm_okt (dm_okt hS))))
    · obtain ⟨g0, h⟩ := dm_is_i h
      obtain ⟨x, z, rest, rfl, h⟩ := dm_2_i h
      obtain ⟨g1, h⟩ := dm_is_i h
      obtain ⟨f1, f2⟩ := hbi g0
      simp only [Bool.and_eq_true, decide_eq_true_eq] at h1
      have hi9 : i = .invokestatic k := by
        rcases hi with rfl | rfl | rfl
        · unfold dm_ck3 at h2; dsimp only at h2; rw [hl] at h2; rw [h1.1] at h2; exact absurd (of_decide_eq_true h2) (fun h9 => by cases h9)
        · rfl
        · unfold dm_ck3 at h2; dsimp only at h2; rw [hl] at h2; rw [h1.1] at h2; exact absurd (of_decide_eq_true h2) (fun h9 => by cases h9)
      subst hi9
      have hcs : ((rest.map (dm_cv ad)).map fun v => v.category).sum ≤ 8 := by rw [dm_cat_sum]; exact Nat.le_of_ble_eq_true g1
      exact va_mmin hx hb (by rw [hml]; exact hSz.symm) hown (hts _ (dm_at_mem h1.2)) (hts _ tJ_ns) (hts _ tJ_im) (hts _ tJ_nc) (by omega) (by omega) hz.1 hz.2 hd (h _ _ _ _ _ hA hL (dm_ok2 (hoi _) (dm_okt (dm_okt hS))))
    · obtain ⟨g0, h⟩ := dm_is_i h
      obtain ⟨t, j, rest, rfl, ha⟩ := dm_r_i h
      obtain ⟨g2, hb9⟩ := dm_is_i ha
      obtain ⟨g1, hc9⟩ := dm_is_i hb9
      obtain rfl := Nat.eq_of_beq_eq_true g2
      obtain ⟨f1, f2⟩ := hbi g0
      simp only [Bool.and_eq_true, decide_eq_true_eq] at h1
      have hi9 : i = .invokevirtual k := by
        rcases hi with rfl | rfl | rfl
        · rfl
        · unfold dm_ck3 at h2; dsimp only at h2; rw [hl] at h2; rw [h1.1] at h2; exact absurd (of_decide_eq_true h2) (fun h9 => by cases h9)
        · unfold dm_ck3 at h2; dsimp only at h2; rw [hl] at h2; rw [h1.1] at h2; exact absurd (of_decide_eq_true h2) (fun h9 => by cases h9)
      subst hi9
      have hj : j < 29 := hos j (hS _ List.mem_cons_self)
      have hcs : ((rest.map (dm_cv ad)).map fun v => v.category).sum ≤ 8 := by rw [dm_cat_sum]; exact Nat.le_of_ble_eq_true g1
      have hStr := hs.2.2.2.2.2.1
      refine dm_callp (W.runV (As := []) (b := ad 90 j) (rest := rest.map (dm_cv ad)) ⟨hx, hb, hml, hown, hts⟩ (cS_length (adV := adV) (B := B) l j hj) ⟨callB_of (ws' := dm_tb) 0 hts (dm_gi _ tS_length) rfl rfl rfl (hts _ tS_iS) (hts _ (dm_at_mem h1.2)) (by decide +kernel) ⟨by show 1 + 1 ≤ R.frames; omega, by show 8 + (1 + 11) + 40 ≤ R.locals; omega⟩, hts _ tS_len.1, hts _ tS_len.2⟩ ⟨dm_blind _, vk_recv hStr.1 hj hA.2.2.1, dm_strH hStr hA [.ref (ad 90 j)]⟩ rfl rfl hSz rfl (lv_room hcs) hd ⟨hz.1, hz.2⟩) ?_
      have k9 := hc9 _ _ _ _ _ hA hL (dm_ok2 (hoi _) (dm_okt hS))
      have e8 : dmE.2.2.2.2.2.1 j = dm_lens.getD j 0 := (dm_lens_ok j hj).1.symm
      rw [e8] at k9
      exact k9
    · obtain ⟨g0, h⟩ := dm_is_i h
      obtain ⟨x, t, j, rest, rfl, ha⟩ := dm_ir_i h
      obtain ⟨g2, hb9⟩ := dm_is_i ha
      obtain ⟨g1, hc9⟩ := dm_is_i hb9
      obtain rfl := Nat.eq_of_beq_eq_true g2
      obtain ⟨hin, hd9⟩ := dm_ix_i hc9
      obtain ⟨f1, f2⟩ := hbi g0
      simp only [Bool.and_eq_true, decide_eq_true_eq] at h1
      have hi9 : i = .invokevirtual k := by
        rcases hi with rfl | rfl | rfl
        · rfl
        · unfold dm_ck3 at h2; dsimp only at h2; rw [hl] at h2; rw [h1.1] at h2; exact absurd (of_decide_eq_true h2) (fun h9 => by cases h9)
        · unfold dm_ck3 at h2; dsimp only at h2; rw [hl] at h2; rw [h1.1] at h2; exact absurd (of_decide_eq_true h2) (fun h9 => by cases h9)
      subst hi9
      have hj : j < 29 := hos j (hS _ (List.mem_cons_of_mem _ List.mem_cons_self))
      have hcs : ((rest.map (dm_cv ad)).map fun v => v.category).sum ≤ 8 := by rw [dm_cat_sum]; exact Nat.le_of_ble_eq_true g1
      have hStr := hs.2.2.2.2.2.1
      have e8 : dmE.2.2.2.2.2.1 j = dm_lens.getD j 0 := (dm_lens_ok j hj).1.symm
      rw [e8] at hin
      refine dm_callp (W.runV (As := [.int x]) (b := ad 90 j) (rest := rest.map (dm_cv ad)) ⟨hx, hb, hml, hown, hts⟩ (cS_charAt (adV := adV) (B := B) l j hj x hin) ⟨callB_of (ws' := dm_tb) 1 hts (dm_gi _ tS_charAt) rfl rfl rfl (hts _ tS_iS) (hts _ (dm_at_mem h1.2)) (by decide +kernel) ⟨by show 3 + 1 ≤ R.frames; omega, by show 8 + (2 + 11) + 120 ≤ R.locals; omega⟩, hts _ tS_cha.1, hts _ tS_cha.2⟩ ⟨dm_blind _, vk_recv hStr.1 hj hA.2.2.1, dm_strH hStr hA [.ref (ad 90 j), .int x]⟩ rfl rfl hSz rfl (lv_room hcs) hd ⟨hz.1, hz.2⟩) ?_
      exact hd9 _ _ _ _ _ hA hL (dm_ok2 (hoi _) (dm_okt (dm_okt hS)))
    · cases h1
end XOKS
