section STRC
variable {p : Program} {l : Launch} {e : Env} {R : Room} {s : State} {m : MethodId} {args : Array Value} {below : List Frame} {meth : Method} {c : Code} {H : Heap} {locs : List Loc} {cells slots pc : Nat} {Q : State → Prop} {ls : Array Slot} {stk rest : List Value} {a9 : Array Value}
theorem dm_callp {r : Option Value} (hr : CallRun p l e R s m args below meth c H locs cells slots 0 0 (F0 m pc ls stk) rest (dm_Qp r a9) (fun _ => False)) (kk : W p l e R s m args below meth c H locs cells slots Q (F0 m (pc + 3) ls (r.toList ++ rest))) : W p l e R s m args below meth c H locs cells slots Q (F0 m pc ls stk) := by
  refine W.callX hr (fun x h => h.elim) (fun v st₀ t h0 hq => ?_)
  obtain ⟨h1, h2⟩ := hq
  cases h1
  rw [h2, h0]
  exact kk
end STRC
section STRM
variable {ad : Nat → Nat → Nat} {adV : Nat → Nat} {B : Nat}
theorem dm_Str.pre {s : State} (hK : dm_Str ad adV B s s.heap) (av : List Value) : ∀ U : State, U.heap = s.heap → s.WarmedH U.vm → va_Pc av (fun U => dm_Str ad adV B U U.heap) av.toArray U := fun U hU hW => ⟨rfl, by show dm_Str ad adV B U U.heap; rw [hU]; exact hK.moved hW.alike⟩
set_option maxRecDepth 100000 in
theorem cS_coder (l : Launch) (j : Nat) (hj : j < 29) : Met l nS_coder (Cond.code nS_coder prog_23_method_152_code 1 (some .byte) :: dm_tb) { frames := 0, cells := 0, slots := 0, locals := 0 } (va_Pc [.ref (ad 90 j)] (fun U => dm_Str ad adV B U U.heap)) (dm_Qp (some (.int 0))) 0 0 (fun _ => False) := by
  refine Met.ofW (cc := prog_23_method_152_code) (maxL := 1) (ret := some .byte) (by decide) rfl ?_
  intro p e s m args below meth c s₁ B0 hml hv
  obtain ⟨rfl, hK⟩ := hv
  have hx := B0.exec
  have hb := B0.bytes
  have hr := B0.returns
  have hts : ∀ w ∈ dm_tb, w.before _ s = true := fun w hw => atoms_spec (ws := Cond.code nS_coder prog_23_method_152_code 1 (some .byte) :: dm_tb) B0.pre w (List.mem_cons_of_mem _ hw)
  have hown : s.vm.findClass "java/lang/String" = some m.cls := findClass_of_methodNamed B0.named
  have hlocks := B0.notSynchronized
  have hS : va_S (fun q => B ≤ q) s.heap s.heap [] := va_S.rf
  have hl := lv_entry ([.ref (ad 90 j)]) (n := 1) (Nat.le_of_ble_eq_true rfl)
  rw [lg_entry_eq]
  generalize (lg_sl ([.ref (ad 90 j)]) ++ List.replicate (1 - (lg_sl ([.ref (ad 90 j)])).length) Slot.unset).toArray = ls at hl ⊢
  have hl : lv_has ls 1 [(0, .ref (ad 90 j))] := hl
  refine va_gets hx hb hK.2.1 hS hown (hts _ tS_fC) (fun _ h => h) (by decide +kernel) ?_
  refine lv_if_eq (tgt := 13) (off := 10) hx hb (by decide +kernel) (by decide) (fun h => absurd h (by decide)) (fun _ => ?_)
  refine lv_aload_n (k := 0) hx hb (by decide +kernel) rfl (lv_at hl 0 rfl) ?_
  refine vk_getf hx hb (hK.1.1 j hj).2.1 hS hown (hts _ tS_fc) (fun _ h => h) (by decide +kernel) ?_
  refine lv_goto (tgt := 14) (off := 4) hx hb (by decide +kernel) (by decide) ?_
  exact W.zret hx hb hr rfl (fun t ht hW => ⟨rfl, ht⟩) (fun q hq => by cases hq) (by decide +kernel)
set_option maxRecDepth 100000 in
theorem cS_isL (l : Launch) (j : Nat) (hj : j < 29) : Met l nS_isL (Cond.code nS_isL prog_23_method_154_code 1 (some .boolean) :: dm_tb) { frames := 0, cells := 0, slots := 0, locals := 0 } (va_Pc [.ref (ad 90 j)] (fun U => dm_Str ad adV B U U.heap)) (dm_Qp (some (.int 1))) 0 0 (fun _ => False) := by
  refine Met.ofW (cc := prog_23_method_154_code) (maxL := 1) (ret := some .boolean) (by decide) rfl ?_
  intro p e s m args below meth c s₁ B0 hml hv
  obtain ⟨rfl, hK⟩ := hv
  have hx := B0.exec
  have hb := B0.bytes
  have hr := B0.returns
  have hts : ∀ w ∈ dm_tb, w.before _ s = true := fun w hw => atoms_spec (ws := Cond.code nS_isL prog_23_method_154_code 1 (some .boolean) :: dm_tb) B0.pre w (List.mem_cons_of_mem _ hw)
  have hown : s.vm.findClass "java/lang/String" = some m.cls := findClass_of_methodNamed B0.named
  have hlocks := B0.notSynchronized
  have hS : va_S (fun q => B ≤ q) s.heap s.heap [] := va_S.rf
  have hl := lv_entry ([.ref (ad 90 j)]) (n := 1) (Nat.le_of_ble_eq_true rfl)
  rw [lg_entry_eq]
  generalize (lg_sl ([.ref (ad 90 j)]) ++ List.replicate (1 - (lg_sl ([.ref (ad 90 j)])).length) Slot.unset).toArray = ls at hl ⊢
  have hl : lv_has ls 1 [(0, .ref (ad 90 j))] := hl
  refine va_gets hx hb hK.2.1 hS hown (hts _ tS_fC) (fun _ h => h) (by decide +kernel) ?_
  refine lv_if_eq (tgt := 17) (off := 14) hx hb (by decide +kernel) (by decide) (fun h => absurd h (by decide)) (fun _ => ?_)
  refine lv_aload_n (k := 0) hx hb (by decide +kernel) rfl (lv_at hl 0 rfl) ?_
  refine vk_getf hx hb (hK.1.1 j hj).2.1 hS hown (hts _ tS_fc) (fun _ h => h) (by decide +kernel) ?_
  refine lv_if_ne (tgt := 17) (off := 7) hx hb (by decide +kernel) (by decide) (fun h => absurd rfl h) (fun _ => ?_)
  refine lv_iconst (v := 1) (n := 1) hx hb (by decide +kernel) (by decide) ?_
  refine lv_goto (tgt := 18) (off := 4) hx hb (by decide +kernel) (by decide) ?_
  exact W.zret hx hb hr (by decide) (fun t ht hW => ⟨rfl, ht⟩) (fun q hq => by cases hq) (by decide +kernel)
set_option maxRecDepth 100000 in
theorem cS_length (l : Launch) (j : Nat) (hj : j < 29) : Met l nS_length (Cond.code nS_length prog_23_method_54_code 1 (some .int) :: dm_tb) { frames := 1, cells := 0, slots := 0, locals := 40 } (va_Pc [.ref (ad 90 j)] (fun U => dm_Str ad adV B U U.heap)) (dm_Qp (some (.int (nI (dm_lens.getD j 0))))) 0 0 (fun _ => False) := by
  refine Met.ofW (cc := prog_23_method_54_code) (maxL := 1) (ret := some .int) (by decide) rfl ?_
  intro p e s m args below meth c s₁ B0 hml hv
  obtain ⟨rfl, hK⟩ := hv
  have hx := B0.exec
  have hb := B0.bytes
  have hr := B0.returns
  have hts : ∀ w ∈ dm_tb, w.before _ s = true := fun w hw => atoms_spec (ws := Cond.code nS_length prog_23_method_54_code 1 (some .int) :: dm_tb) B0.pre w (List.mem_cons_of_mem _ hw)
  have hown : s.vm.findClass "java/lang/String" = some m.cls := findClass_of_methodNamed B0.named
  have hlocks := B0.notSynchronized
  have hS : va_S (fun q => B ≤ q) s.heap s.heap [] := va_S.rf
  have hl := lv_entry ([.ref (ad 90 j)]) (n := 1) (Nat.le_of_ble_eq_true rfl)
  rw [lg_entry_eq]
  generalize (lg_sl ([.ref (ad 90 j)]) ++ List.replicate (1 - (lg_sl ([.ref (ad 90 j)])).length) Slot.unset).toArray = ls at hl ⊢
  have hl : lv_has ls 1 [(0, .ref (ad 90 j))] := hl
  refine lv_aload_n (k := 0) hx hb (by decide +kernel) rfl (lv_at hl 0 rfl) ?_
  refine vk_getf hx hb (hK.1.1 j hj).2.2.1 hS hown (hts _ tS_fv) (fun _ h => h) (by decide +kernel) ?_
  refine va_tlen hx hb (hK.1.1 j hj).2.2.2 hS rfl (by decide +kernel) ?_
  refine lv_aload_n (k := 0) hx hb (by decide +kernel) rfl (lv_at hl 0 rfl) ?_
  refine dm_callp (W.runV (As := []) (b := ad 90 j) ⟨hx, hb, hml, hown, hts⟩ (cS_coder l j hj) ⟨callB_of (ws' := dm_tb) 0 hts (dm_gi _ tS_coder) rfl rfl rfl (hts _ tS_iS) (hts _ tS_lco.1) (by decide +kernel) ⟨Nat.le_of_ble_eq_true rfl, Nat.le_of_ble_eq_true rfl⟩, hts _ tS_lco.2.1, hts _ tS_lco.2.2⟩ ⟨dm_blind _, vk_recv hK.1 hj hS, hK.pre [.ref (ad 90 j)]⟩ rfl rfl hl.1 rfl (lv_room (Nat.le_of_ble_eq_true rfl)) (show decode prog_23_method_54_code 6 = .ok (.invokevirtual 335, 3) by decide +kernel) ⟨Nat.zero_le _, Nat.zero_le _⟩) ?_
  refine lv_ishr hx hb (by decide +kernel) ?_
  rw [sb_shr0]
  exact W.iret hx hb hr (fun t ht hW => ⟨rfl, ht⟩) (fun q hq => by cases hq) (by decide +kernel)
set_option maxRecDepth 100000 in
theorem cS_pck (l : Launch) (x n : Int32) (f : Value) (hf : f = .null ∨ ∃ a, f = .ref a) (h0 : ¬ x < 0) (h1 : x < n) : Met l nS_pck (Cond.code nS_pck prog_30_method_11_code 3 (some .int) :: dm_tb) { frames := 0, cells := 0, slots := 0, locals := 0 } (va_Pc [.int x, .int n, f] (fun U => dm_Str ad adV B U U.heap)) (dm_Qp (some (.int x))) 0 0 (fun _ => False) := by
  refine Met.ofW (cc := prog_30_method_11_code) (maxL := 3) (ret := some .int) (by decide) rfl ?_
  intro p e s m args below meth c s₁ B0 hml hv
  obtain ⟨rfl, hK⟩ := hv
  have hx := B0.exec
  have hb := B0.bytes
  have hr := B0.returns
  have hlocks := B0.notSynchronized
  have hl := lv_entry ([.int x, .int n, f]) (n := 3) (by rcases hf with rfl | ⟨a, rfl⟩ <;> exact Nat.le_of_ble_eq_true rfl)
  rw [lg_entry_eq]
  generalize (lg_sl ([.int x, .int n, f]) ++ List.replicate (3 - (lg_sl ([.int x, .int n, f])).length) Slot.unset).toArray = ls at hl ⊢
  have hl : lv_has ls 3 [(0, .int x), (1, .int n), (2, f)] := by rcases hf with rfl | ⟨a, rfl⟩ <;> exact hl
  refine lv_iload_n (k := 0) hx hb (by decide +kernel) rfl (lv_at hl 0 rfl) ?_
  refine lv_if_lt (tgt := 9) (off := 8) hx hb (by decide +kernel) (by decide) (fun h => absurd h h0) (fun _ => ?_)
  refine lv_iload_n (k := 0) hx hb (by decide +kernel) rfl (lv_at hl 0 rfl) ?_
  refine lv_iload_n (k := 1) hx hb (by decide +kernel) rfl (lv_at hl 1 rfl) ?_
  refine lv_icmp_lt (tgt := 16) (off := 10) hx hb (by decide +kernel) (by decide) (fun _ => ?_) (fun h => absurd h1 h)
  refine lv_iload_n (k := 0) hx hb (by decide +kernel) rfl (lv_at hl 0 rfl) ?_
  exact W.iret hx hb hr (fun t ht hW => ⟨rfl, ht⟩) (fun q hq => by cases hq) (by decide +kernel)
set_option maxRecDepth 100000 in
theorem cS_ckI (l : Launch) (x n : Int32) (h0 : ¬ x < 0) (h1 : x < n) : Met l nS_ckI (Cond.code nS_ckI prog_23_method_155_code 2 none :: dm_tb) { frames := 1, cells := 0, slots := 0, locals := 40 } (va_Pc [.int x, .int n] (fun U => dm_Str ad adV B U U.heap)) (dm_Qp none) 0 0 (fun _ => False) := by
  refine Met.ofW (cc := prog_23_method_155_code) (maxL := 2) (ret := none) (by decide) rfl ?_
  intro p e s m args below meth c s₁ B0 hml hv
  obtain ⟨rfl, hK⟩ := hv
  have hx := B0.exec
  have hb := B0.bytes
  have hr := B0.returns
  have hts : ∀ w ∈ dm_tb, w.before _ s = true := fun w hw => atoms_spec (ws := Cond.code nS_ckI prog_23_method_155_code 2 none :: dm_tb) B0.pre w (List.mem_cons_of_mem _ hw)
  have hown : s.vm.findClass "java/lang/String" = some m.cls := findClass_of_methodNamed B0.named
  have hlocks := B0.notSynchronized
  have hS : va_S (fun q => B ≤ q) s.heap s.heap [] := va_S.rf
  have hl := lv_entry ([.int x, .int n]) (n := 2) (Nat.le_of_ble_eq_true rfl)
  rw [lg_entry_eq]
  generalize (lg_sl ([.int x, .int n]) ++ List.replicate (2 - (lg_sl ([.int x, .int n])).length) Slot.unset).toArray = ls at hl ⊢
  have hl : lv_has ls 2 [(0, .int x), (1, .int n)] := hl
  refine lv_iload_n (k := 0) hx hb (by decide +kernel) rfl (lv_at hl 0 rfl) ?_
  refine lv_iload_n (k := 1) hx hb (by decide +kernel) rfl (lv_at hl 1 rfl) ?_
  obtain ⟨f, hf, hZ⟩ : ∃ f : Value, (f = .null ∨ ∃ a, f = .ref a) ∧ va_Z "jdk/internal/util/Preconditions" "SIOOBE_FORMATTER" "Ljava/util/function/BiFunction;" f (fun q => B ≤ q) s s.heap := by
    rcases hK.2.2 with h | ⟨t, h⟩
    · exact ⟨_, Or.inl rfl, h⟩
    · exact ⟨_, Or.inr ⟨t, rfl⟩, h⟩
  refine va_gets hx hb hZ hS hown (hts _ tS_fF) (fun _ h => h) (by decide +kernel) ?_
  refine dm_callp (W.runS (As := [.int x, .int n, f]) (rest := []) ⟨hx, hb, hml, hown, hts⟩ (cS_pck l x n f hf h0 h1) ⟨callB_of (ws' := dm_tb) 3 hts (dm_gi _ tS_pck) rfl rfl rfl (hts _ tS_iP) (hts _ tS_lpc.1) (by decide +kernel) ⟨Nat.le_of_ble_eq_true rfl, Nat.le_of_ble_eq_true rfl⟩, hts _ tS_lpc.2⟩ ⟨dm_blind _, hK.pre [.int x, .int n, f]⟩ rfl rfl hl.1 rfl (lv_room (Nat.le_of_ble_eq_true rfl)) (show decode prog_23_method_155_code 5 = .ok (.invokestatic 1059, 3) by decide +kernel) ⟨Nat.zero_le _, Nat.zero_le _⟩) ?_
  refine lv_pop hx hb (by decide +kernel) rfl ?_
  exact W.vret hx hb hr (fun t ht hW => ⟨rfl, ht⟩) (fun q hq => by cases hq) (by decide +kernel)
theorem dm_lens_ok : ∀ j, j < 29 → dm_lens.getD j 0 = (dm_strl.getD j []).length ∧ dm_lens.getD j 0 < 100 ∧ ∀ k, k < dm_lens.getD j 0 → (((((dm_strl.getD j []).getD k 0) &&& 255).toUInt32 % 65536).toInt32 = (dm_strl.getD j []).getD k 0 ∧ narrow .char (.int ((dm_strl.getD j []).getD k 0)) = .int ((dm_strl.getD j []).getD k 0)) := by decide +kernel
set_option maxRecDepth 100000 in
theorem cS_lchar (l : Launch) (j : Nat) (hj : j < 29) (x : Int32) (hin : vp_in x (dm_lens.getD j 0)) : Met l nS_lchar (Cond.code nS_lchar prog_24_method_2_code 2 (some .char) :: dm_tb) { frames := 2, cells := 0, slots := 0, locals := 80 } (va_Pc [.ref (adV j), .int x] (fun U => dm_Str ad adV B U U.heap)) (dm_Qp (some (.int ((dm_strl.getD j []).getD x.toNatClampNeg 0)))) 0 0 (fun _ => False) := by
  refine Met.ofW (cc := prog_24_method_2_code) (maxL := 2) (ret := some .char) (by decide) rfl ?_
  intro p e s m args below meth c s₁ B0 hml hv
  obtain ⟨rfl, hK⟩ := hv
  have hx := B0.exec
  have hb := B0.bytes
  have hr := B0.returns
  have hts : ∀ w ∈ dm_tb, w.before _ s = true := fun w hw => atoms_spec (ws := Cond.code nS_lchar prog_24_method_2_code 2 (some .char) :: dm_tb) B0.pre w (List.mem_cons_of_mem _ hw)
  have hown : s.vm.findClass "java/lang/StringLatin1" = some m.cls := findClass_of_methodNamed B0.named
  have hlocks := B0.notSynchronized
  have hS : va_S (fun q => B ≤ q) s.heap s.heap [] := va_S.rf
  have hl := lv_entry ([.ref (adV j), .int x]) (n := 2) (Nat.le_of_ble_eq_true rfl)
  rw [lg_entry_eq]
  generalize (lg_sl ([.ref (adV j), .int x]) ++ List.replicate (2 - (lg_sl ([.ref (adV j), .int x])).length) Slot.unset).toArray = ls at hl ⊢
  have hl : lv_has ls 2 [(0, .ref (adV j)), (1, .int x)] := hl
  obtain ⟨e1, e2, e3⟩ := dm_lens_ok j hj
  obtain ⟨k, hk, rfl⟩ := vp_in_of hin (by omega)
  have hcl : (nI k).toNatClampNeg = k := nI_clamp (by omega)
  have h0 : ¬ nI k < 0 := nI_pos (by omega)
  have h1 : nI k < nI (dm_lens.getD j 0) := nI_lt hk (by omega)
  refine lv_iload_n (k := 1) hx hb (by decide +kernel) rfl (lv_at hl 1 rfl) ?_
  refine lv_aload_n (k := 0) hx hb (by decide +kernel) rfl (lv_at hl 0 rfl) ?_
  refine va_tlen (v := nI (dm_lens.getD j 0)) hx hb (hK.1.1 j hj).2.2.2 hS rfl (by decide +kernel) ?_
  refine dm_callp (W.runS (As := [.int (nI k), .int (nI (dm_lens.getD j 0))]) (rest := []) ⟨hx, hb, hml, hown, hts⟩ (cS_ckI l (nI k) (nI (dm_lens.getD j 0)) h0 h1) ⟨callB_of (ws' := dm_tb) 2 hts (dm_gi _ tS_ckI) rfl rfl rfl (hts _ tS_iS) (hts _ tS_lck.1) (by decide +kernel) ⟨Nat.le_of_ble_eq_true rfl, Nat.le_of_ble_eq_true rfl⟩, hts _ tS_lck.2⟩ ⟨dm_blind _, hK.pre [.int (nI k), .int (nI (dm_lens.getD j 0))]⟩ rfl rfl hl.1 rfl (lv_room (Nat.le_of_ble_eq_true rfl)) (show decode prog_24_method_2_code 3 = .ok (.invokestatic 9, 3) by decide +kernel) ⟨Nat.zero_le _, Nat.zero_le _⟩) ?_
  refine lv_aload_n (k := 0) hx hb (by decide +kernel) rfl (lv_at hl 0 rfl) ?_
  refine lv_iload_n (k := 1) hx hb (by decide +kernel) rfl (lv_at hl 1 rfl) ?_
  refine va_tb hx hb (hK.1.1 j hj).2.2.2 hS hin rfl (by decide +kernel) ?_
  refine lv_sipush (v := 255) (n := 255) hx hb (by decide +kernel) (by decide) ?_
  refine lv_iand hx hb (by decide +kernel) ?_
  refine lv_i2c hx hb (by decide +kernel) rfl ?_
  rw [hcl, (e3 k hk).1]
  exact W.zret hx hb hr (e3 k hk).2 (fun t ht hW => ⟨rfl, ht⟩) (fun q hq => by cases hq) (by decide +kernel)
set_option maxRecDepth 100000 in
theorem cS_charAt (l : Launch) (j : Nat) (hj : j < 29) (x : Int32) (hin : vp_in x (dm_lens.getD j 0)) : Met l nS_charAt (Cond.code nS_charAt prog_23_method_56_code 2 (some .char) :: dm_tb) { frames := 3, cells := 0, slots := 0, locals := 120 } (va_Pc [.ref (ad 90 j), .int x] (fun U => dm_Str ad adV B U U.heap)) (dm_Qp (some (.int ((dm_strl.getD j []).getD x.toNatClampNeg 0)))) 0 0 (fun _ => False) := by
  refine Met.ofW (cc := prog_23_method_56_code) (maxL := 2) (ret := some .char) (by decide) rfl ?_
  intro p e s m args below meth c s₁ B0 hml hv
  obtain ⟨rfl, hK⟩ := hv
  have hx := B0.exec
  have hb := B0.bytes
  have hr := B0.returns
  have hts : ∀ w ∈ dm_tb, w.before _ s = true := fun w hw => atoms_spec (ws := Cond.code nS_charAt prog_23_method_56_code 2 (some .char) :: dm_tb) B0.pre w (List.mem_cons_of_mem _ hw)
  have hown : s.vm.findClass "java/lang/String" = some m.cls := findClass_of_methodNamed B0.named
  have hlocks := B0.notSynchronized
  have hS : va_S (fun q => B ≤ q) s.heap s.heap [] := va_S.rf
  have hl := lv_entry ([.ref (ad 90 j), .int x]) (n := 2) (Nat.le_of_ble_eq_true rfl)
  rw [lg_entry_eq]
  generalize (lg_sl ([.ref (ad 90 j), .int x]) ++ List.replicate (2 - (lg_sl ([.ref (ad 90 j), .int x])).length) Slot.unset).toArray = ls at hl ⊢
  have hl : lv_has ls 2 [(0, .ref (ad 90 j)), (1, .int x)] := hl
  have hn : narrow .char (.int ((dm_strl.getD j []).getD x.toNatClampNeg 0)) = .int ((dm_strl.getD j []).getD x.toNatClampNeg 0) := ((dm_lens_ok j hj).2.2 x.toNatClampNeg (Nat.not_le.mp fun q => hin (Or.inr q))).2
  refine lv_aload_n (k := 0) hx hb (by decide +kernel) rfl (lv_at hl 0 rfl) ?_
  refine dm_callp (W.runV (As := []) (b := ad 90 j) (rest := []) ⟨hx, hb, hml, hown, hts⟩ (cS_isL l j hj) ⟨callB_of (ws' := dm_tb) 0 hts (dm_gi _ tS_isL) rfl rfl rfl (hts _ tS_iS) (hts _ tS_lis.1) (by decide +kernel) ⟨Nat.le_of_ble_eq_true rfl, Nat.le_of_ble_eq_true rfl⟩, hts _ tS_lis.2.1, hts _ tS_lis.2.2⟩ ⟨dm_blind _, vk_recv hK.1 hj hS, hK.pre [.ref (ad 90 j)]⟩ rfl rfl hl.1 rfl (lv_room (Nat.le_of_ble_eq_true rfl)) (show decode prog_23_method_56_code 1 = .ok (.invokevirtual 492, 3) by decide +kernel) ⟨Nat.zero_le _, Nat.zero_le _⟩) ?_
  refine lv_if_eq (tgt := 16) (off := 12) hx hb (by decide +kernel) (by decide) (fun h => absurd h (by decide)) (fun _ => ?_)
  refine lv_aload_n (k := 0) hx hb (by decide +kernel) rfl (lv_at hl 0 rfl) ?_
  refine vk_getf hx hb (hK.1.1 j hj).2.2.1 hS hown (hts _ tS_fv) (fun _ h => h) (by decide +kernel) ?_
  refine lv_iload_n (k := 1) hx hb (by decide +kernel) rfl (lv_at hl 1 rfl) ?_
  refine dm_callp (W.runS (As := [.ref (adV j), .int x]) (rest := []) ⟨hx, hb, hml, hown, hts⟩ (cS_lchar l j hj x hin) ⟨callB_of (ws' := dm_tb) 2 hts (dm_gi _ tS_lchar) rfl rfl rfl (hts _ tS_iL) (hts _ tS_llc.1) (by decide +kernel) ⟨Nat.le_of_ble_eq_true rfl, Nat.le_of_ble_eq_true rfl⟩, hts _ tS_llc.2⟩ ⟨dm_blind _, hK.pre [.ref (adV j), .int x]⟩ rfl rfl hl.1 rfl (lv_room (Nat.le_of_ble_eq_true rfl)) (show decode prog_23_method_56_code 12 = .ok (.invokestatic 495, 3) by decide +kernel) ⟨Nat.zero_le _, Nat.zero_le _⟩) ?_
  exact W.zret hx hb hr hn (fun t ht hW => ⟨rfl, ht⟩) (fun q hq => by cases hq) (by decide +kernel)
end STRM
