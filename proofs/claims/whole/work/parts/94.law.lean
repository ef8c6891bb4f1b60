/-! THE CLAIM OUT OF ONE WALK OF THE LAW'S BODY. Your part is whole_start (and what it stands on); all else here is the same for every law, but numbers. -/
def R_law : String := "MistakesLentLaw"
def lw_P (b : Addr) (xs : List Int32) (args : Array Value) (s : State) : Prop := args = #[.ref b] ∧ s.IntsAt b xs ∧ xs.length ≤ 3072 ∧ (Jvm.Cond.and given_1 narrow_1).before args s = true
def lw_Q (_ : Array Value) (s : State) (o : Outcome) (t : State) : Prop := o = .returned (some (.int 1)) ∧ Framed s o t [] 601024 7293034
def lw_Z (below : List Frame) (a : Array Value) (s : State) : State → Prop := fun t => ∃ o, t.status = .running ∧ Ended t below o ∧ lw_Q a s o t
/-- what holds at the law's entry: the machine, the code, the tables' words (any of lw_tbl by 'hts w (by decide +kernel)'), the script of L ints xs at the cell b, what the Statement gives of the start (any of its parts by flat_of_before) -/
def lw_At (p : Program) (s : State) (m : MethodId) (meth : Method) (c : Code) (b L : Nat) (xs : Nat → Int32) : Prop :=
  p.tables.exec = Jvm.exec ∧ c.code = code ∧ meth.sig.returnType = ret ∧ c.maxLocals = 7 ∧ s.vm.findClass R_law = some m.cls ∧ (∀ w ∈ lw_tbl, w.before #[Value.ref b] s = true) ∧ va_X b L xs s s.heap ∧ b < s.heap.size ∧ meth.locks = false ∧ (Jvm.Cond.and given_1 narrow_1).before #[Value.ref b] s = true ∧ meth.name = "law"
theorem lw_mono {p : Program} {l : Launch} {e : Env} {R : Room} {s : State} {m : MethodId} {args : Array Value} {below : List Frame} {meth : Method} {c : Code} {H : Heap} {locs : List Loc} {cells slots : Nat} {Q Q' : State → Prop} {g : JFrame} (h : ∀ t, Q t → Q' t) (k : W p l e R s m args below meth c H locs cells slots Q g) : W p l e R s m args below meth c H locs cells slots Q' g := fun T hT X => by
  obtain ⟨t, a, b⟩ := k T hT X
  exact ⟨t, a, h t b⟩
section LWR
variable {D : va_G} {dA : FieldType → ClassId} {ad : Nat → Nat → Nat} {L : Nat} {xs : Nat → Int32} {p : Program} {l : Launch} {e : Env} {s : State} {m : MethodId} {args : Array Value} {below : List Frame} {meth : Method} {c : Code} {d : Nat} {K : Nat × Nat}
/-- the law's returns -/
theorem law_ret (hx : p.tables.exec = Jvm.exec) (hb : c.code = dmB 281) (hr : meth.sig.returnType = ret) (hlocks : meth.locks = false) (hK : K.1 ≤ 601024 ∧ K.2 ≤ 7293034) {pc : Nat} {ls : dm_L} {st : List dm_V} {σ : M2} (i : Instr) (hi : (dmP 281).2.2.2 pc = some i) (h2 : i = .ireturn ∨ i = .lreturn ∨ i = .areturn ∨ i = .return_)
    (h3 : dm_FC dmE (m2O L xs) (CL L xs d) true (dmP 281) (fun q _ => q = some (vi 1)) (lwP D dA ad s.heap.size p l e room_1 s m args below meth c (lw_Z below args s) K) pc ls st σ i) : lwP D dA ad s.heap.size p l e room_1 s m args below meth c (lw_Z below args s) K pc ls st σ := by
  have hdc := (dm_all 281).1 pc i hi
  rcases h2 with rfl | rfl | rfl | rfl
  · intro H locs lsC cells slots hA hLc hS9
    obtain ⟨a1, a2, a3, a4, a5, a6, a7, a8⟩ := hA
    have a6 : cells + 0 = K.1 := a6
    have a7 : slots + 0 = K.2 := a7
    unfold dm_FC at h3
    dsimp only at h3
    split at h3
    · rename_i v hv
      cases (show (some FieldType.boolean : Option FieldType) = some .int from hv)
    · rename_i v hv
      have hv1 : v &&& 1 = 1 := Sum.inl.inj (Option.some.inj h3)
      refine va_forget (fun q hq => a3.2.2 q hq) (W.widen (k := 601024) (n := 7293034) (by omega) (by omega) ?_)
      refine lw_mono ?_ (dm_zret (Qc := fun _ _ o _ => o = .returned (some (.int 1))) (free := fun _ => False) hx hb (hr.trans rfl) (fun t _ _ => by rw [hv1]) (fun q hq => by cases hq) hlocks hdc)
      rintro t ⟨o, h1, h2, h3, Lc, h4, h5⟩
      have hn : Lc = [] := List.eq_nil_iff_forall_not_mem.mpr (fun q hq => h5 q hq)
      subst hn
      exact ⟨o, h1, h2, h3, h4⟩
    · exact h3.elim
  · unfold dm_FC at h3
    dsimp only at h3
    split at h3
    · cases h3
    · exact h3.elim
  · unfold dm_FC at h3
    dsimp only at h3
    split at h3
    · cases h3
    · exact h3.elim
  · unfold dm_FC at h3
    dsimp only at h3
    split at h3
    · cases h3
    · exact h3.elim
end LWR
section W20
variable {L : Nat} {xs : Nat → Int32} {call : Nat → List dm_V → M2 → (Option dm_V → M2 → Prop) → Prop} {Q : Option dm_V → M2 → Prop} {P : Nat → dm_L → List dm_V → M2 → Prop}
set_option maxRecDepth 100000 in
theorem w281_20 (hc : dm_cm call) (hp : l281_cl L xs call Q P) {σ : M2} (h : P 23 [some (vr 93 0), some (vr 12 0), some (vr 13 0), some (vr 80 0), some (vi 0), none, none] [] σ) : P 20 [some (vr 93 0), some (vr 12 0), some (vr 13 0), some (vr 80 0), none, none, none] [] σ := dm_xP.at hc hp.1 hp.2 l281_stops 3 h
end W20
theorem law_flags {l : Launch} (h : l.flags = flags0) : l.stackTraces = false := by
  unfold Launch.stackTraces
  rw [h]
  decide +kernel
set_option maxHeartbeats 4000000 in
/-- from the entry, for every script of at most 3072 ints, the law comes to its end with true -/
theorem whole_start {p : Program} {e : Env} {s : State} {m : MethodId} {below : List Frame} {meth : Method} {c : Code} (l : Launch) (hflags : l.flags = flags0) {b L : Nat} {xs : Nat → Int32} (hL : L ≤ 3072) (C0 : lw_At p s m meth c b L xs) : W p l e room_1 s m #[Value.ref b] below meth c s.heap [] 0 0 (lw_Z below #[Value.ref b] s) (entryFrame m ([Value.ref b] : List Value).toArray 7) := by
  obtain ⟨hx, hb, hr, hml, hown, hts, hX, hbl, hlocks, hgv, hname⟩ := C0
  obtain ⟨ad, adV, D, dA, hok, h93, hSX, hK⟩ := st_all hts hgv hX hbl
  have hst := law_flags hflags
  have hctx : dm_ctx dmP dmN dmB dm_tb D dA vwCl s.heap.size (dm_St ad adV s.heap.size L xs) 281 p s m #[Value.ref b] c := ⟨hx, hb, hml, hown, fun w hw => hts w (List.mem_filter.mp hw).1, hK, hSX.1, Nat.le_refl _⟩
  have hp : ∀ j, j ≤ 512 → l281_cl L xs (CL L xs 20) (fun q _ => q = some (vi 1)) (lwP D dA ad s.heap.size p l e room_1 s m #[Value.ref b] below meth c (lw_Z below #[Value.ref b] s) (ledK j)) := by
    intro j hj
    have k1 : (ledK j).1 ≤ 601024 := by show 242 + j ≤ 601024; omega
    have k2 : (ledK j).2 ≤ 7293034 := by show 4778 + 6 * j ≤ 7293034; omega
    exact law_cl (by omega) hctx hname (Nat.le_of_ble_eq_true rfl) (Nat.le_of_ble_eq_true rfl) (by omega) ⟨k1, k2⟩ (fun i hi h2 h3 => law_ret hx hb hr hlocks ⟨k1, k2⟩ i hi h2 h3)
  have loop := law_loop (P := fun j => lwP D dA ad s.heap.size p l e room_1 s m #[Value.ref b] below meth c (lw_Z below #[Value.ref b] s) (ledK j)) (Nat.le_refl 20) hL hp (fun _ _ => rfl) (law_hl hst hL hctx hSX (Nat.le_of_ble_eq_true rfl) (Nat.le_of_ble_eq_true rfl) (Nat.le_of_ble_eq_true rfl) (Nat.le_of_ble_eq_true rfl) hp) 600 0 0 m2_0 (by omega) (by omega) (by omega) IN_0
  have h20 := w281_20 hC (hp 0 (by omega)) loop
  have hcl1 := law_cl1 (D := D) (dA := dA) (L := L) (xs := xs) (l := l) (e := e) (R := room_1) (below := below) (Qw := lw_Z below #[Value.ref b] s) (d := 10) hok.1 hctx hname (Nat.le_of_ble_eq_true rfl) (Nat.le_of_ble_eq_true rfl) (by omega)
  have bridge : ∀ pc ls st σ, m1_Z pc ls st σ → lwP1 D dA ad s.heap.size p l e room_1 s m #[Value.ref b] below meth c (lw_Z below #[Value.ref b] s) pc ls st σ := by
    rintro pc ls st σ ⟨z1, rfl, rfl, z4, z5, z6⟩
    obtain rfl : pc = 20 := by simpa using z1
    intro H locs lsC cells slots hA hLc hS9
    obtain ⟨a1, a2, a3, a4, a5, a6, a7, a8⟩ := hA
    have a6 : cells + 0 = σ.2.1.1 := a6
    have a7 : slots + 0 = σ.2.1.2 := a7
    rw [z6] at a6 a7
    obtain ⟨hP2, hD2⟩ := m12_world hok m2_0_ok z4 a1
    have e1 : ad 12 0 = ad 100 0 := by rw [hok.1, hok.2 12 0 (by decide) (by decide)]; rfl
    have e2 : ad 13 0 = ad 100 224 := by rw [hok.1, hok.2 13 0 (by decide) (by decide)]; rfl
    have e3 : ad 80 0 = ad 100 241 := by rw [hok.1, hok.2 80 0 (by decide) (by decide)]; rfl
    refine h20 H locs lsC cells slots ⟨hP2, hD2, a3, trivial, m2_0_ok, a6, a7, rfl⟩ ⟨?_, rfl, fun v hv => ?_⟩ (fun v hv => by cases hv)
    · have h := hLc.1
      show lv_has lsC 7 [(0, .ref (ad 93 0)), (1, .ref (ad 12 0)), (2, .ref (ad 13 0)), (3, .ref (ad 80 0))]
      rw [e1, e2, e3]
      exact h
    · simp only [List.mem_cons, Option.some.injEq, List.not_mem_nil, or_false, reduceCtorEq] at hv
      rcases hv with rfl | rfl | rfl | rfl
      · show 0 < m2_n 93
        decide
      · show 0 < m2_n 12
        decide
      · show 0 < m2_n 13
        decide
      · show 0 < m2_n 80
        decide
  obtain ⟨σ0, h0⟩ : ∃ σ0, σ0 = m1_00 := ⟨_, rfl⟩
  have key := dm_xP.run (dm_Call.mono 10) (fun y a σ Q h => dm_run.call 10 y a σ Q h) bridge hcl1.1 hcl1.2 m1_stp 15 0 _ [] σ0 (m1_made' σ0 h0)
  subst h0
  have hl := lv_entry ([.ref b]) (n := 7) (Nat.le_of_ble_eq_true rfl)
  rw [lg_entry_eq]
  refine key s.heap [] _ 0 0 ⟨fun k q h => ?_, ⟨fun i j p q h => ?_, fun k q h => ?_⟩, va_S.rf, rfl, ⟨(fun c hc => by cases hc), Nat.zero_le _, Nat.zero_le _⟩, rfl, rfl, rfl⟩ ⟨?_, rfl, fun v hv => ?_⟩ (fun v hv => by cases hv)
  · have h : ([] : va_W)[k]? = some q := h
    simp at h
  · have h : ([] : va_W)[i]? = some p := h
    simp at h
  · have h : ([] : va_W)[k]? = some q := h
    simp at h
  · show lv_has _ 7 [(0, .ref (ad 93 0))]
    rw [h93]
    exact hl
  · simp only [List.mem_cons, Option.some.injEq, List.not_mem_nil, or_false, reduceCtorEq] at hv
    subst hv
    exact fun q => absurd q (by decide)
set_option maxHeartbeats 4000000 in
theorem lw_walk (l : Launch) (hflags : l.flags = flags0) (b : Addr) (xs : List Int32) : MetFree l x (headSpec (Jvm.Cond.code x code maxLocals ret :: tables_1) room_1) (lw_P b xs) (fun _ _ _ _ _ => True) lw_Q := by
  refine MetFree.of_bodyS (code := code) (maxLocals := maxLocals) (ret := ret) (by decide) ?_ ?_
  · intro args s m h hn
    obtain ⟨meth, c, h1, h2, h3, h4, h5, h6, -, -⟩ := Cond.code_spec hn (atoms_spec (ws := Jvm.Cond.code x code maxLocals ret :: tables_1) h _ List.mem_cons_self)
    exact ⟨meth, c, h1, h2, h3, h4, h5, h6⟩
  · intro p e s m args below meth c s₁ B hml0 hP _
    obtain ⟨rfl, hx, hbd, hgv⟩ := hP
    obtain ⟨scr, harrAt, hlist, hof, hsmall⟩ := hx
    obtain ⟨hcb, hkn, -, -⟩ := State.arrayAt?_spec harrAt
    have hown : s.vm.findClass R_law = some m.cls := findClass_of_methodNamed B.named
    have hts0 : ∀ c ∈ (Jvm.Cond.code x code maxLocals ret :: tables_1), c.before #[Value.ref b] s = true := atoms_spec (ws := Jvm.Cond.code x code maxLocals ret :: tables_1) B.pre
    have hts : ∀ w ∈ lw_tbl, w.before #[Value.ref b] s = true := k2_hts_sels lw_privs (fun w hw => hts0 w (List.mem_cons_of_mem _ hw)) lw_privs_ok
    have hml : c.maxLocals = 7 := B.maxLocals_eq (hts0 _ List.mem_cons_self)
    have X₀ : Stand p l e room_1 s m #[Value.ref b] below meth c s₁ [] 0 0 := Stand.of_body B
    have hh0 : s₁.heap = s.heap := by rw [B.state]; rfl
    have hsz : scr.slots.size = xs.length := by rw [← Array.length_toList, hlist, List.length_map]
    have hval : ∀ j : Nat, j < xs.length → scr.slots[j]? = some (.int (xs.getD j 0)) := fun j hj => by
      rw [← Array.getElem?_toList, hlist]
      simp [hj]
    have hbl : b < s.heap.size := (Array.getElem?_eq_some_iff.mp hcb).1
    have hX : va_X b xs.length (fun j => xs.getD j 0) s s.heap := ⟨scr, hcb, hof, hkn, hsz, hval⟩
    have K : W p l e room_1 s m #[Value.ref b] below meth c s₁.heap [] 0 0 (lw_Z below #[Value.ref b] s) (entryFrame m ([Value.ref b] : List Value).toArray 7) := by
      rw [hh0]
      exact whole_start l hflags hbd ⟨B.exec, B.bytes, B.returns, hml, hown, hts, hX, hbl, B.notSynchronized, hgv, (name_of_methodNamed B.named B.method).1⟩
    obtain ⟨t, a1, o, b1, b2, b3⟩ := K s₁ rfl X₀
    exact ⟨t, o, a1, b1, b2, b3⟩
theorem lw_pre_spec {args : Array Value} {s : State} (h : (Jvm.Cond.and given_1 narrow_1).before args s = true) (hr : rest_1_c.before args s = true) : ∃ (b : Addr) (xs : List Int32), lw_P b xs args s := by
  have hs := flat_of_before _ h
  have hq := flat_of_before _ hr
  have hc : (Cond.count 1).before args s = true := hs _ (by decide +kernel)
  have harr : (Cond.arrayOf (.arg 0) .int).before args s = true := hs _ (by decide +kernel)
  have hle : (Cond.le (.length (.arg 0)) (.int 3072)).before args s = true := hs _ (by decide +kernel)
  have hlen : (Cond.isInt (.length (.arg 0))).before args s = true := hq _ (by decide +kernel)
  have hall : (Cond.all (.arg 0) (.isInt (.elem (.arg 0) (.index 0)))).before args s = true := hq _ (by decide +kernel)
  obtain ⟨b, xs, hb, hx⟩ := State.ints_of_pre rfl harr hlen hall
  have hsm : xs.length < 2 ^ 31 := hx.choose_spec.2.2.2
  have hev : (Term.length (.arg 0)).eval args s none [] s = some (.int xs.length.toInt32) := hx.length_eval hb
  have hv := Cond.le_ints hev (show (Term.int 3072).eval args s none [] s = some (.int 3072) from rfl)
  have hd : xs.length.toInt32 ≤ 3072 := by
    simpa [Cond.before, Cond.holds, hv] using hle
  have hN : xs.length ≤ 3072 := (Int32.ofNat_le_ofNat hsm (by decide)).mp (show Int32.ofNat xs.length ≤ Int32.ofNat 3072 from hd)
  exact ⟨b, xs, Cond.one_arg hc (show args[0]? = some (.ref b) from hb), hx, hN, h⟩
theorem lw_comes (l : Launch) (hflags : l.flags = flags0) : Comes l x (Jvm.Cond.code x code maxLocals ret :: tables_1) room_1 (fun tb e args s => Calls_1 tb e args s ∧ rest_1 tb e args s ∧ Pre_1 tb e args s)
    (fun _ _ args s o t => lw_Q args s o t) := by
  intro p e ha hc hk s m args below hf hfit hheap happ hpre
  obtain ⟨b, xs, hP⟩ := lw_pre_spec hpre.2.2 hpre.2.1
  obtain ⟨k, o, h1, h2, h3, hQ⟩ := lw_walk l hflags b xs p e ha hc hk s m args below hf ((Spec.applies_iff_loose hf).mp happ).1 hP trivial
  exact ⟨k, o, h1, h2, h3, hQ⟩
theorem lw_frame {s t : State} {o : Outcome} {args : Array Value} (h : Framed s o t [] 601024 7293034) :
    Framed s o t (fieldLocs frame_1_writes args s ++ arrayLocs frame_1_arrays args s ++ staticLocs frame_1_statics s) 601024 7293034 := h
theorem lw_limb (L : Cond) (hL : ∀ (args : Array Value) (s t : State), L.after args s (.returned (some (.int 1))) t = true) :
    ArmFor flags0 classFile x code maxLocals ret World_1 tables_1 room_1 Calls_1 rest_1 Pre_1
      (fun tb e a s o t => postC L tb e a s o t ∧ Framed s o t (fieldLocs frame_1_writes a s ++ arrayLocs frame_1_arrays a s ++ staticLocs frame_1_statics s) 601024 7293034) := by
  intro l hflags _ _ p e ha hc hk s m args below hf hfit hheap happ hpre
  obtain ⟨k, o, h1, h2, h3, rfl, hF⟩ := lw_comes l hflags p e ha hc hk s m args below hf hfit hheap happ hpre
  exact ⟨k, _, h1, h2, h3, hL args s _, lw_frame hF⟩
theorem i_vc : Claimed_1_1 ∧ Claimed_1_2 := ⟨lw_limb limb_1_1 (fun args s t => by simp [limb_1_1, Cond.after, Cond.holds, Cond.value]), lw_limb limb_1_2 (fun args s t => Cond.after_iff.mpr (by
  first | (rw [show limb_1_2 = Cond.eq .result (.int 1) from rfl, Cond.eq_ints (x := 1) (y := 1) rfl rfl]; simp; done) | (simp [limb_1_2, Cond.value, Term.eval]; done)))⟩
