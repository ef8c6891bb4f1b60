/-! CONTRACTS: led of the class where it throws; led of the law -/
section VYO
theorem vy_ofWH {l : Launch} {y : MethodName} {ws ws' : List Cond} {rm : Room} {Pc : Array Value → State → Prop} {Qc : Array Value → State → Outcome → State → Prop} {mc ms : Nat} {free : Addr → Prop} {cc : ByteArray} {maxL : Nat} {ret : Option FieldType} {hh : List (Nat × Nat × Nat × Nat)}
    (hy : plainName y.cls = true) (hw : ws = Cond.codeWith y cc maxL ret hh :: ws')
    (body : ∀ p e s m args below meth c s₁, BodyLoose p l y (headSpec ws rm) cc maxL ret e s m args below meth c s₁ → c.maxLocals = maxL → Pc args s →
      W p l e (headSpec ws rm).room s m args below meth c s.heap [] 0 0 (MQ below Qc args s mc ms free) (entryFrame m args maxL)) : Met l y ws rm Pc Qc mc ms free := by
  refine MetFree.of_bodyS (code := cc) (maxLocals := maxL) (ret := ret) hy ?_ ?_
  · intro args s m h hn
    obtain ⟨m9, meth, c, hn9, h1, h2, h3, h4, -, h5, h6, -⟩ := Cond.codeWith_spec (atoms_spec (ws := ws) h _ (by rw [hw]; exact List.mem_cons_self))
    cases hn.symm.trans hn9
    exact ⟨meth, c, h1, h2, h3, h4, h5, h6⟩
  · intro p e s m args below meth c s₁ B hml hP _
    have hh0 : s₁.heap = s.heap := by rw [B.state]; rfl
    obtain ⟨t, a1, o, b1, b2, b3⟩ := body p e s m args below meth c s₁ B hml hP s₁ hh0 (Stand.of_body B)
    exact ⟨t, o, a1, b1, b2, ⟨b3.1, b3.2⟩⟩
end VYO
theorem de_145_44 : decode (dmB 145) 44 = .ok (.new 346, 3) := by decide +kernel
theorem de_145_47 : decode (dmB 145) (44 + 3) = .ok (.dup, 1) := by decide +kernel
theorem de_145_48 : decode (dmB 145) (44 + 4) = .ok (.ldc_w 348, 3) := by decide +kernel
theorem de_145_51 : decode (dmB 145) (44 + 7) = .ok (.invokespecial 350, 3) := by decide +kernel
theorem de_145_54 : decode (dmB 145) (44 + 10) = .ok (.athrow, 1) := by decide +kernel
theorem de_280_4 : decode (dmB 280) 4 = .ok (.invokevirtual 7, 3) := by decide +kernel
theorem de_280_12 : decode (dmB 280) 12 = .ok (.astore_n 3, 1) := by decide +kernel
theorem de_280_13 : decode (dmB 280) 13 = .ok (.iconst 1, 1) := by decide +kernel
theorem de_280_14 : decode (dmB 280) 14 = .ok (.ireturn, 1) := by decide +kernel
theorem p280 : dmP 280 = mt_280 := rfl
def ledRm (d : Nat) : Room := { frames := d + 1, cells := 1, slots := 6, locals := 40 * (d + 1) }
theorem led_str : ((348, vr 90 28, 1358) : Nat × dm_V × Nat) ∈ dm_cl 12 := List.mem_cons_of_mem _ (List.mem_cons_of_mem _ List.mem_cons_self)
theorem ret_no {E : dm_E} {O : dm_O M2} {call : Nat → List dm_V → M2 → (Option dm_V → M2 → Prop) → Prop} {bi : Bool} {M : dm_M} {P : Nat → dm_L → List dm_V → M2 → Prop} {pc : Nat} {ls : dm_L} {st : List dm_V} {σ : M2} {i : Instr} (h2 : i = .ireturn ∨ i = .lreturn ∨ i = .areturn ∨ i = .return_) (h3 : dm_FC E O call bi M (fun _ _ => False) P pc ls st σ i) : False := by
  rcases h2 with rfl | rfl | rfl | rfl <;> (unfold dm_FC at h3; dsimp only at h3; split at h3 <;> exact h3)
section T145
variable {D : va_G} {dA : FieldType → ClassId} {ad : Nat → Nat → Nat} {adV : Nat → Nat} {B L : Nat} {xs : Nat → Int32} {d μ : Nat} {σ : M2} {R r : Nat → Int32} {C : Nat → Bool}
theorem x145_loop {P : Nat → dm_L → List dm_V → M2 → Prop} (hp : frCl mt_145 L xs (CL L xs d) (fun _ _ => False) P) (hd : 6 ≤ d) {i : Int32} {c9 : Nat} (hX : cX σ μ R C) (hk : gN R 7 ≠ 0 → dkS σ.1 0 r ∧ okD R r) (hs : k_led R r i = .inl c9) (thr : ∀ x2 x3 : Int32, P 44 [some (vr 12 0), some (vi i), some (vi x2), some (vi x3)] [] σ) : P 4 [some (vr 12 0), some (vi i), some (vi 0), some (vi 0)] [] σ := by
  have hS := hX.ok.cS
  have loop : ∀ m k c, k + m = gN R 7 → c ≤ k → fx (ledF r i) m k c = .inl c9 → P 4 [some (vr 12 0), some (vi i), some (vi (nI c)), some (vi (nI k))] [] σ := by
    intro m
    induction m with
    | zero =>
      intro k c hkm _ _
      refine x145_4 hC hp ?_
      rw [hX.r12, hX.cnt.2.2.2.2.1, hS.2]
      exact if_n (nI_nlt (by omega) (by omega)) (thr _ _)
    | succ m ih =>
      intro k c hkm hc h
      obtain ⟨k1, k2⟩ := hk (by omega)
      refine x145_4 hC hp ?_
      rw [hX.r12, hX.cnt.2.2.2.2.1, hS.2, nI_1, nI_1]
      refine if_y (nI_lt (by omega) (by omega)) ?_
      refine c6 (by omega) hX.ok k2 rfl k1 (by omega) ⟨_, rfl, ?_⟩
      unfold fx ledF at h
      refine if_b (fun z => ?_) (fun z => ?_)
      · rw [if_neg (by rw [z]; decide)] at h
        exact ih (k + 1) c (by omega) (by omega) h
      rw [if_pos z] at h
      refine if_c (fun z' => ?_) (fun z' => ?_)
      · rw [if_pos z'] at h
        cases h
      · rw [if_neg z'] at h
        exact ih (k + 1) (c + 1) (by omega) (by omega) h
  exact loop (gN R 7) 0 0 (Nat.zero_add _) (Nat.le_refl _) hs
abbrev ledQ0 (B : Nat) : Array Value → State → Outcome → State → Prop := va_Qi (fun (_ : Int32) (_ : Unit) => False) (fun _ _ => True) (fun q => B ≤ q)
abbrev ledX (D : va_G) (dA : FieldType → ClassId) (ad : Nat → Nat → Nat) (B : Nat) (σ : M2) : String → State → State → Prop := vx_X (fun _ : Unit => True) (fun E _ t => E = "java/util/NoSuchElementException" ∧ va_P D vwCl (dm_wd ad dA (m2_tl σ)) t.heap) (fun q => B ≤ q)
set_option maxHeartbeats 4000000 in
theorem t145 (l : Launch) (hl : l.stackTraces = false) (hL : L < 2 ^ 31) (hd : 6 ≤ d) {i : Int32} {c9 : Nat} (hX : cX σ μ R C) (hk : gN R 7 ≠ 0 → dkS σ.1 0 r ∧ okD R r) (hs : k_led R r i = .inl c9) :
    vx_Met l (dmN 145) (dm_ws dmP dmN dmB dm_tb 145) (ledRm d) (dm_Pc D dA vwCl ad B m2_tl (fun _ _ => True) m2_okM (dm_StX ad adV B L xs) [vr 12 0, vi i] σ) (ledQ0 B) (ledX D dA ad B σ) 1 6 (fun q => B ≤ q) := by
  refine vx_ofW (cc := dmB 145) (maxL := (dmP 145).2.1) (ret := (dmP 145).2.2.1) (by decide +kernel) rfl ?_
  intro p e s m args below meth c s₁ B0 hml ht hv
  obtain ⟨rfl, u1, u2, u3, u4, u5, u6, u7⟩ := hv
  have hx := B0.exec
  have hb := B0.bytes
  have hts := dm_ws_at (atoms_spec (ws := dm_ws dmP dmN dmB dm_tb 145) B0.pre)
  have hown : s.vm.findClass (dmN 145).cls = some m.cls := findClass_of_methodNamed B0.named
  have hname : meth.name = (dmN 145).name := (name_of_methodNamed B0.named B0.method).1
  have hctx : dm_ctx dmP dmN dmB dm_tb D dA vwCl B (dm_St ad adV B L xs) 145 p s m ((([vr 12 0, vi i] : List dm_V).map (dm_cv ad)).toArray) c := ⟨hx, hb, hml, hown, hts, u3, u7.1, u6⟩
  have hcl : frCl mt_145 L xs (CL L xs d) (fun _ _ => False) (frP 145 D dA ad B p l e (ledRm d) s m ((([vr 12 0, vi i] : List dm_V).map (dm_cv ad)).toArray) below meth c (vx_MQ below (ledQ0 B) (ledX D dA ad B σ) ((([vr 12 0, vi i] : List dm_V).map (dm_cv ad)).toArray) s 1 6 (fun q => B ≤ q)) (0, 0)) := by
    refine fr_cl (y0 := 145) hL hctx hname (Nat.le_refl _) (Nat.le_refl _) (by omega) ⟨Nat.zero_le _, Nat.zero_le _⟩ ?_
    intro pc ls st σ1 i1 hi h2 h3
    exact (ret_no h2 h3).elim
  have hstr : vk_R "MistakesLent" 348 "no such slip is out" (ad 90 28) s := u7.1.2.2.2.2.1 12 _ 28 led_str rfl
  have thr : ∀ x2 x3 : Int32, frP 145 D dA ad B p l e (ledRm d) s m ((([vr 12 0, vi i] : List dm_V).map (dm_cv ad)).toArray) below meth c (vx_MQ below (ledQ0 B) (ledX D dA ad B σ) ((([vr 12 0, vi i] : List dm_V).map (dm_cv ad)).toArray) s 1 6 (fun q => B ≤ q)) (0, 0) 44 [some (vr 12 0), some (vi i), some (vi x2), some (vi x3)] [] σ := by
    intro x2 x3 H locs lsC cells slots hA hLc hS9
    obtain ⟨a1, a2, a3, a4, a5, a6, a7, a8⟩ := hA
    have a6 : cells + 0 = 0 := a6
    have a7 : slots + 0 = 0 := a7
    exact vx_throwSW (cc := dmB 145) (pc := 44) (own := "MistakesLent") (cls := "java/util/NoSuchElementException") (text := "no such slip is out") (Y9 := "java/lang/RuntimeException") (r9 := ["java/lang/Exception"]) (ik := 346) (is := 348) (ic := 350) (ix := 13) (bts := prog_29_method_4_code) (sa := ad 90 28) (A := fun q => B ≤ q) hx hb hl hown (by decide +kernel) (by decide +kernel) (by decide +kernel) (by decide +kernel) (by decide +kernel) (by decide +kernel) (by decide +kernel) (hts _ tL_cl) (hts _ tL_in) hstr (ledW_at hts u7.2.2.2) ledW_ot u7.2.1 u7.2.2.1 a3 (hLc.1.1.trans hml.symm) de_145_44 de_145_47 de_145_48 de_145_51 de_145_54 (fun x hx => (ht x hx).elim)
      (by show 1 + 1 + 3 < d + 1; omega) (by show 0 + (13 * (1 + 1 + 1) + 43) ≤ 40 * (d + 1); omega) (by show cells + 1 ≤ 1; omega) (by show slots + 6 ≤ 6; omega) B0.notSynchronized
      (fun t _ hz hkp => ⟨(), trivial, ⟨rfl, a1.kept (fun k q hq => hkp q.1 ((a1 k q hq).lt))⟩, ⟨Nat.le_trans a3.1 hz, fun q h1 h2 => (hkp q (Nat.lt_of_lt_of_le h1 a3.1)).trans (a3.2.1 q h1 h2)⟩⟩) a3.2.2 (by omega) (by omega)
  refine fr_in (y0 := 145) u1 u2 u5 (fun v hv => ?_) (Nat.le_of_ble_eq_true rfl) rfl (x145_0 hC hcl ?_)
  · rcases List.mem_cons.mp hv with rfl | hv
    · show 0 < m2_n 12
      decide
    · rcases List.mem_cons.mp hv with rfl | hv
      · trivial
      · cases hv
  exact x145_loop hcl hd hX hk hs thr
abbrev ledB2 (D : va_G) (dA : FieldType → ClassId) (ad : Nat → Nat → Nat) (B : Nat) : M2 → State → Prop := fun u t => m2_okM u ∧ va_D (fun q => B ≤ q) (dm_wd ad dA (m2_tl u)) ∧ va_P D vwCl (dm_wd ad dA (m2_tl u)) t.heap
abbrev ledQ1 (D : va_G) (dA : FieldType → ClassId) (ad : Nat → Nat → Nat) (B : Nat) (a : Int32) (σ' : M2) : Array Value → State → Outcome → State → Prop := va_Qi (fun (x : Int32) (u : M2) => x = a ∧ u = σ') (ledB2 D dA ad B) (fun q => B ≤ q)
set_option maxHeartbeats 4000000 in
theorem c280 (l : Launch) (hl : l.stackTraces = false) (hL : L < 2 ^ 31) (hd : 6 ≤ d) {i a : Int32} {σ' : M2} (hX : cX σ μ R C) (hk : gN R 7 ≠ 0 → dkS σ.1 0 r ∧ okD R r)
    (hc : (∃ s9 : Nat, k_led R r i = .inr s9 ∧ a = 0 ∧ σ' = m2_wJ σ 80 0 0 (nI s9).toInt64) ∨ (∃ c9 : Nat, k_led R r i = .inl c9 ∧ a = 1 ∧ σ' = σ)) :
    Met l (dmN 280) (w280 :: dm_tb) (ledRm (d + 1)) (dm_Pc D dA vwCl ad B m2_tl (fun _ _ => True) m2_okM (dm_StX ad adV B L xs) [vr 12 0, vi i, vr 80 0] σ) (ledQ1 D dA ad B a σ') 1 6 (fun q => B ≤ q) := by
  refine vy_ofWH (cc := dmB 280) (maxL := 4) (ret := some .int) (hh := [(0, 9, 12, 13)]) (by decide +kernel) rfl ?_
  intro p e s m args below meth c s₁ B0 hml hv
  obtain ⟨rfl, u1, u2, u3, u4, u5, u6, u7⟩ := hv
  have hx := B0.exec
  have hb := B0.bytes
  have hr := B0.returns
  have hts0 := atoms_spec (ws := w280 :: dm_tb) B0.pre
  have hts : ∀ w ∈ dm_tb, w.before _ s = true := fun w hw => hts0 w (List.mem_cons_of_mem _ hw)
  have hown : s.vm.findClass (dmN 280).cls = some m.cls := findClass_of_methodNamed B0.named
  have hname : meth.name = (dmN 280).name := (name_of_methodNamed B0.named B0.method).1
  have hctx : dm_ctx dmP dmN dmB dm_tb D dA vwCl B (dm_St ad adV B L xs) 280 p s m ((([vr 12 0, vi i, vr 80 0] : List dm_V).map (dm_cv ad)).toArray) c := ⟨hx, hb, hml, hown, hts, u3, u7.1, u6⟩
  have hcl : frCl mt_280 L xs (CL L xs d) (fun q u => q = some (vi a) ∧ u = σ') (frP 280 D dA ad B p l e (ledRm (d + 1)) s m ((([vr 12 0, vi i, vr 80 0] : List dm_V).map (dm_cv ad)).toArray) below meth c (MQ below (ledQ1 D dA ad B a σ') ((([vr 12 0, vi i, vr 80 0] : List dm_V).map (dm_cv ad)).toArray) s 1 6 (fun q => B ≤ q)) (0, 0)) := by
    refine fr_cl (y0 := 280) hL hctx hname (by show d + 1 ≤ d + 1 + 1; omega) (by show 40 * (d + 1) ≤ 40 * (d + 1 + 1); omega) (by omega) ⟨Nat.zero_le _, Nat.zero_le _⟩ ?_
    intro pc ls st σ1 i1 hi h2 h3
    have hdc := (dm_all 280).1 pc i1 hi
    rcases h2 with rfl | rfl | rfl | rfl
    · intro H locs lsC cells slots hA hLc hS9
      obtain ⟨a1, a2, a3, a4, a5, a6, a7, a8⟩ := hA
      have a6 : cells + 0 = 0 := a6
      have a7 : slots + 0 = 0 := a7
      unfold dm_FC at h3
      dsimp only at h3
      split at h3
      · rename_i v hv
        obtain ⟨e1, e2⟩ := h3
        cases e1
        subst e2
        exact W.widen (k := 1) (n := 6) (by omega) (by omega) (W.iret hx hb hr (fun t ht hW => ⟨⟨a, σ1, rfl, ⟨rfl, rfl⟩, a5, a2, by rw [ht]; exact a1⟩, a3.F ht⟩) a3.2.2 hdc B0.notSynchronized)
      · rename_i v hv
        cases (show (some FieldType.int : Option FieldType) = some .boolean from hv)
      · exact h3.elim
    · unfold dm_FC at h3
      dsimp only at h3
      split at h3
      · cases h3.1
      · exact h3.elim
    · unfold dm_FC at h3
      dsimp only at h3
      split at h3
      · cases h3.1
      · exact h3.elim
    · unfold dm_FC at h3
      dsimp only at h3
      split at h3
      · cases h3.1
      · exact h3.elim
  refine fr_in (y0 := 280) u1 u2 u5 (fun v hv => ?_) (Nat.le_of_ble_eq_true rfl) rfl (x280_0 hC hcl ?_)
  · rcases List.mem_cons.mp hv with rfl | hv
    · show 0 < m2_n 12
      decide
    · rcases List.mem_cons.mp hv with rfl | hv
      · trivial
      · rcases List.mem_cons.mp hv with rfl | hv
        · show 0 < m2_n 80
          decide
        · cases hv
  rcases hc with ⟨s9, hs, rfl, rfl⟩ | ⟨c9, hs, rfl, rfl⟩
  · exact x280_4 hC hcl (o145 (by omega) hX hk hs ⟨_, rfl, rfl, rfl⟩)
  · intro H locs lsC cells slots hA hLc hS9
    obtain ⟨a1, a2, a3, a4, a5, a6, a7, a8⟩ := id hA
    have a6 : cells + 0 = 0 := a6
    have a7 : slots + 0 = 0 := a7
    obtain ⟨v0, hv0⟩ : ∃ v0, (m2O L xs).1 σ' (12, 0) 12 0 = some v0 := ⟨_, rfl⟩
    obtain ⟨-, q0, fs, b1, -⟩ := m2_hget L xs σ' (12, 0) 12 0 v0 a5 (by show 0 < m2_n 12; decide) hv0
    have hrecv := va_recv u3 a1 (show vwCl[12]? = some (RX12, TX12, 16) from rfl) (dm_wd_at (ad := ad) (dA := dA) b1)
    have hG : GoodIn dm_tb (dm_ws dmP dmN dmB dm_tb 145) := fun w hw => by
      have hm : w ∈ dm_tb := by
        rcases List.mem_cons.mp hw with e9 | e9
        · rw [e9]; exact tL_145.1
        · exact e9
      exact ⟨hm, dm_tb_good w hm⟩
    have hrun := vx_runV (R := ledRm (d + 1)) (e := e) (below := below) (meth := meth) (locs := locs) (cells := cells) (slots := slots) (b := ad 12 0) (As := [.int i]) (rest := [.int 0, .ref (ad 80 0)]) (g := F0 m 4 lsC [.int i, .ref (ad 12 0), .int 0, .ref (ad 80 0)]) (C := "MistakesLent") (own := "MistakesLentLaw") (index := 7) (n := 1) (bytes := dmB 145) (maxL := 4) (ret := some .int) (cc := dmB 280) (nL := 4) (Ts := dm_tb) ⟨hx, hb, hml, hown, hts⟩ (t145 (D := D) (dA := dA) (ad := ad) (adV := adV) (B := B) l hl hL hd hX hk hs)
      ⟨callB_of (ws' := dm_tb) 1 hts hG rfl rfl rfl (hts _ tL_145.2.1) (hts _ tL_145.2.2.1) (by decide +kernel) ⟨Nat.le_refl _, by show 8 + (4 + 11) + 40 * (d + 1) ≤ 40 * (d + 1 + 1); omega⟩, hts _ tL_145.2.2.2.1, hts _ tL_145.2.2.2.2⟩
      ⟨dm_Pc.blind (dm_StX_ok ad adV B L xs) _ _, hrecv, fun U hU hW => hA.call u3 u6 (dm_StX_ok ad adV B L xs) u7 a5 rfl (fun n h => h) [vr 12 0, vi i] U hU hW⟩
      rfl rfl hLc.1.1 rfl (lv_room (by show 1 + (1 + 0) ≤ 8; omega)) de_280_4 ⟨by show cells + 1 ≤ 1; omega, by show slots + 6 ≤ 6; omega⟩
    refine vx_calli hrun a3 (fun q _ h => h) (fun q h => h) (fun q _ h => h) ?_ (fun x u t H1 locs1 _ _ hpost => hpost.elim)
    intro E ce q9 u t H1 locs1 hH1 _ _ hBX _ _ hS1 hce hcv hcl9
    obtain ⟨rfl, hP1⟩ := hBX
    rw [hH1] at hP1
    refine vx_catch (own := "MistakesLentLaw") (name := "java/util/NoSuchElementException") hown ⟨0, 9, 12, 13⟩ (by rw [vx_table (x := dmN 280) B0 (hts0 _ List.mem_cons_self)]; rfl) (by decide) (by decide) (hts _ tL_ct) (va_Nw.use rfl (u7.2.2.2 _ ledK_in)) hce hcv hcl9 ?_
    refine lv_astore_n hx hb de_280_12 rfl hLc.1 (by decide : 3 < 4) rfl fun ls' hls' => ?_
    refine lv_iconst hx hb de_280_13 (v := 1) rfl ?_
    exact W.widen (k := 1) (n := 6) (by omega) (by omega) (W.iret hx hb hr (fun t ht hW => ⟨⟨1, σ', rfl, ⟨rfl, rfl⟩, a5, a2, by rw [ht]; exact hP1⟩, hS1.F ht⟩) hS1.2.2 de_280_14 B0.notSynchronized)
end T145
