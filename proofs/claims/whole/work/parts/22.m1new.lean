/-! new cells -/
def dm_kck (c : Nat) (e : Nat × Nat × Nat) : Bool := Nat.blt e.2.1 14 && dm_at e.2.2 (.classLink (dm_cn c) e.1 (dm_cn e.2.1))
theorem dm_kok : ∀ c, c < 16 → ∀ e ∈ dm_kl c, dm_kck c e = true := by decide +kernel
def dm_ipl : List Nat := [210, 387, 585, 643, 612, 175, 190, 448, 169, 262, 239, 454, 161, 1385]
def dm_npl : List Nat := [140, 143, 150, 152, 151, 138, 139, 144, 137, 142, 141, 145, 136, 153]
theorem dm_iok : ∀ ci, ci < 14 → (dm_at (dm_ipl.getD ci 0) (.instantiable (dm_cn ci) (m2_nf ci)) && dm_at (dm_npl.getD ci 0) (.initialized (dm_cn ci))) = true := by decide +kernel
theorem tA_int : Cond.arrayClass .int ∈ dm_tb := dm_s1 _ 209 (by decide +kernel)
theorem tA_byte : Cond.arrayClass .byte ∈ dm_tb := dm_s1 _ 208 (by decide +kernel)
theorem tA_bool : Cond.arrayClass .boolean ∈ dm_tb := dm_s1 _ 261 (by decide +kernel)
theorem tA_long : Cond.arrayClass .long ∈ dm_tb := dm_s1 _ 583 (by decide +kernel)
theorem m1_clat : ∀ ci, ci < 14 → ∃ T, vwCl[ci]? = some (dm_cn ci, T, m2_nf ci) ∧ (∀ w ∈ u_ws (dm_cn ci) T (m2_nf ci), w ∈ dm_tb) ∧ ∀ k, k < m2_nf ci → parseFieldDescriptor (T k).2.2.1 = some (m1_ty ci k) := by
  intro ci h
  match ci, h with
  | 0, _ => exact ⟨TX0, rfl, ixX0, tyX0_ok⟩
  | 1, _ => exact ⟨TX1, rfl, ixX1, tyX1_ok⟩
  | 2, _ => exact ⟨TX2, rfl, ixX2, tyX2_ok⟩
  | 3, _ => exact ⟨TX3, rfl, ixX3, tyX3_ok⟩
  | 4, _ => exact ⟨TX4, rfl, ixX4, tyX4_ok⟩
  | 5, _ => exact ⟨TX5, rfl, ixX5, tyX5_ok⟩
  | 6, _ => exact ⟨TX6, rfl, ixX6, tyX6_ok⟩
  | 7, _ => exact ⟨TX7, rfl, ixX7, tyX7_ok⟩
  | 8, _ => exact ⟨TX8, rfl, ixX8, tyX8_ok⟩
  | 9, _ => exact ⟨TX9, rfl, ixX9, tyX9_ok⟩
  | 10, _ => exact ⟨TX10, rfl, ixX10, tyX10_ok⟩
  | 11, _ => exact ⟨TX11, rfl, ixX11, tyX11_ok⟩
  | 12, _ => exact ⟨TX12, rfl, ixX12, tyX12_ok⟩
  | 13, _ => exact ⟨TX13, rfl, ixX13, tyX13_ok⟩
  | n + 14, h => exact absurd h (by omega)
section M1N
variable {p : Program} {l : Launch} {e : Env} {R : Room} {s : State} {m : MethodId} {args : Array Value} {below : List Frame} {meth : Method} {c : Code} {Qw : State → Prop} {D : va_G} {dA : FieldType → ClassId} {ad : Nat → Nat → Nat} {B : Nat} {c0 : Nat × Nat}
/-- a cell more -/
theorem m1_push {σ : M1} {H H1 : Heap} {locs : List Loc} {cells slots n : Nat} {x : dm_C} {e9 : va_E} (had : ∀ k, ad 100 k = B + k) (hBs : B ≤ s.heap.size) (hA : dm_Am D dA vwCl ad B m1_tl (m1_sz B) m1_okM (fun σ => σ.2.1) (fun σ => σ.2.2) c0 (c0.1 + R.cells, c0.2 + R.slots) s σ H locs cells slots)
    (hx : dm_cc ad dA x = e9) (hat : va_at D vwCl (H.size, e9) H1) (z1 : H1.size = H.size + 1) (o1 : ∀ q, q < H.size → H1[q]? = H[q]?) (hok : m1_cok x) (hc1 : σ.2.1.1 + 1 ≤ σ.2.2.1) (hc2 : σ.2.1.2 + n ≤ σ.2.2.2) :
    dm_Am D dA vwCl ad B m1_tl (m1_sz B) m1_okM (fun σ => σ.2.1) (fun σ => σ.2.2) c0 (c0.1 + R.cells, c0.2 + R.slots) s (σ.1 ++ [x], (σ.2.1.1 + 1, σ.2.1.2 + n), σ.2.2) H1 locs (cells + 1) (slots + n) := by
  obtain ⟨a1, a2, a3, a4, a5, a6, a7, a8⟩ := hA
  have hsz : H.size = B + σ.1.length := a4
  have hwd : dm_wd ad dA (m1_tl (σ.1 ++ [x], (σ.2.1.1 + 1, σ.2.1.2 + n), σ.2.2)) = dm_wd ad dA (m1_tl σ) ++ [(H.size, e9)] := by
    rw [m1_tl_push (a := σ.2)]
    unfold dm_wd
    rw [List.map_append, List.map_cons, List.map_nil, hx, had, ← hsz]
  have hk : ∀ (k : Nat) (q : Nat × va_E), (dm_wd ad dA (m1_tl σ))[k]? = some q → H1[q.1]? = H[q.1]? := fun k q hq => o1 q.1 ((a1 k q hq).lt)
  refine ⟨?_, ?_, ⟨?_, fun q h1 h2 => ?_, a3.2.2⟩, ?_, ⟨fun d hd => ?_, hc1, hc2⟩, ?_, ?_, a8⟩
  · rw [hwd]
    refine (a1.kept hk).app (fun k q hq => ?_)
    have hz : k < 1 := (List.getElem?_eq_some_iff.mp hq).1
    obtain rfl : k = 0 := by omega
    cases hq
    exact hat
  · rw [hwd]
    exact a2.push a1 rfl (show B ≤ H.size by omega)
  · exact Nat.le_trans a3.1 (by omega)
  · exact (o1 q (Nat.lt_of_lt_of_le h1 a3.1)).trans (a3.2.1 q h1 h2)
  · show H1.size = B + (σ.1 ++ [x]).length
    rw [List.length_append, z1, hsz]; rfl
  · rcases List.mem_append.mp hd with h | h
    · exact a5.1 d h
    · rw [List.mem_singleton.mp h]; exact hok
  · show cells + 1 + c0.1 = σ.2.1.1 + 1
    have a6 : cells + c0.1 = σ.2.1.1 := a6
    omega
  · show slots + n + c0.2 = σ.2.1.2 + n
    have a7 : slots + c0.2 = σ.2.1.2 := a7
    omega
theorem m1_room {σ : M1} {H : Heap} {locs : List Loc} {cells slots n : Nat} (hA : dm_Am D dA vwCl ad B m1_tl (m1_sz B) m1_okM (fun σ => σ.2.1) (fun σ => σ.2.2) c0 (c0.1 + R.cells, c0.2 + R.slots) s σ H locs cells slots) (hc1 : σ.2.1.1 + 1 ≤ σ.2.2.1) (hc2 : σ.2.1.2 + n ≤ σ.2.2.2) : cells + 1 ≤ R.cells ∧ slots + n ≤ R.slots := by
  obtain ⟨-, -, -, -, -, a6, a7, a8⟩ := hA
  have a6 : cells + c0.1 = σ.2.1.1 := a6
  have a7 : slots + c0.2 = σ.2.1.2 := a7
  have a8 : σ.2.2 = (c0.1 + R.cells, c0.2 + R.slots) := a8
  rw [a8] at hc1 hc2
  have hc1 : σ.2.1.1 + 1 ≤ c0.1 + R.cells := hc1
  have hc2 : σ.2.1.2 + n ≤ c0.2 + R.slots := hc2
  omega
theorem m1_dvok (ad : Nat → Nat → Nat) (ty : FieldType) (h : ty = .int ∨ ty = .boolean ∨ ty = .long ∨ ty.isReference = true) : dm_cv ad (m1_dv ty) = defaultValue ty ∧ m1_ok (m1_dv ty) := by
  cases ty <;> first | exact ⟨rfl, trivial⟩ | (exfalso; revert h; decide)
theorem m1_dtys : ∀ ci, ci < 14 → ∀ k, k < m2_nf ci → (m1_ty ci k = .int ∨ m1_ty ci k = .boolean ∨ m1_ty ci k = .long ∨ (m1_ty ci k).isReference = true) := by decide +kernel
set_option maxHeartbeats 4000000 in
theorem m1_x5 {y : Nat} {adV : Nat → Nat} {L : Nat} {xs : Nat → Int32} (hy : y < 282) (had : ∀ k, ad 100 k = B + k) (hctx : dm_ctx dmP dmN dmB dm_tb D dA vwCl B (dm_St ad adV B L xs) y p s m args c) :
    ∀ (pc : Nat) (ls : dm_L) (st : List dm_V) (σ : M1) (i : Instr), (dmP y).2.2.2 pc = some i → ((∃ k, i = .new k) ∨ (∃ k, i = .newarray k) ∨ ∃ k, i = .anewarray k) →
    dm_FM dmE m1O (dmP y) (dm_P p l e R s m args below meth c Qw ad m1_ok (dmP y).2.1 (dm_Am D dA vwCl ad B m1_tl (m1_sz B) m1_okM (fun σ => σ.2.1) (fun σ => σ.2.2) c0 (c0.1 + R.cells, c0.2 + R.slots) s)) pc ls st σ i → dm_P p l e R s m args below meth c Qw ad m1_ok (dmP y).2.1 (dm_Am D dA vwCl ad B m1_tl (m1_sz B) m1_okM (fun σ => σ.2.1) (fun σ => σ.2.2) c0 (c0.1 + R.cells, c0.2 + R.slots) s) pc ls st σ := by
  obtain ⟨hx, hb, hml, hown, hts, hK, hs, hBs⟩ := hctx
  have hcls := dm_owncls y hy
  rw [hcls] at hown
  obtain ⟨a1, -⟩ := dm_all y
  have hcl : ∀ k ci, dmE.2.2.1 (dmP y).1 k = some ci → ci < 14 ∧ Cond.classLink (dm_cn (dmP y).1) k (dm_cn ci) ∈ dm_tb := by
    intro k ci h
    have h : (dm_lk (dm_kl (dmP y).1) k).map (fun q => q.1) = some ci := h
    cases hl : dm_lk (dm_kl (dmP y).1) k with
    | none => rw [hl] at h; cases h
    | some q =>
      rw [hl] at h
      obtain ⟨ci', w⟩ := q
      have hm := dm_lk_mem hl
      have hc : (dmP y).1 < 16 := by
        by_cases hc : (dmP y).1 < 16
        · exact hc
        · rw [(dm_flhi _ (by omega)).2.2.1] at hm; cases hm
      have h1 := dm_kok _ hc _ hm
      have e9 : ci' = ci := Option.some.inj h
      rw [e9] at h1
      unfold dm_kck at h1
      rw [Bool.and_eq_true] at h1
      exact ⟨Nat.le_of_ble_eq_true h1.1, dm_at_mem h1.2⟩
  intro pc ls st σ i hp hi h H locs lsC cells slots hA hL hS
  have hd := a1 pc i hp
  have hsz : H.size = B + σ.1.length := hA.2.2.2.1
  rcases hi with ⟨k, rfl⟩ | ⟨k, rfl⟩ | ⟨k, rfl⟩
  · obtain ⟨ci, h1, h⟩ := dm_so_i h
    obtain ⟨q, h2, h⟩ := dm_so_i h
    obtain ⟨hci, hlk⟩ := hcl k ci h1
    have h2 : m1_nwo σ ci = some q := h2
    unfold m1_nwo at h2
    cases hb2 : (Nat.blt ci 14 && Nat.ble (σ.2.1.1 + 1) σ.2.2.1 && Nat.ble (σ.2.1.2 + m2_nf ci) σ.2.2.2) with
    | false => rw [hb2] at h2; cases h2
    | true =>
      rw [hb2] at h2
      cases h2
      rw [Bool.and_eq_true, Bool.and_eq_true] at hb2
      have hc1 := Nat.le_of_ble_eq_true hb2.1.2
      have hc2 := Nat.le_of_ble_eq_true hb2.2
      have hio := dm_iok ci hci
      rw [Bool.and_eq_true] at hio
      obtain ⟨T, hT, hin, hty⟩ := m1_clat ci hci
      have hKn := hK.1 ci _ hT
      obtain ⟨r1, r2⟩ := m1_room hA hc1 hc2
      refine W.newcK hx hb hown (hts _ hlk) (hts _ (dm_at_mem hio.1)) (hts _ (dm_at_mem hio.2)) rfl hd r1 r2 hKn.2.1 rfl fun H1 kC hkC e1 z1 o1 => ?_
      have hA1 := m1_push (x := .inl (ci, (List.range (m2_nf ci)).map (fun k => m1_dv (m1_ty ci k)))) had hBs hA rfl ⟨_, hT, (u_born (m1_ty ci) hts hin hKn hkC e1 hty).to (fun j hj => ?_)⟩ z1 o1 (fun v hv => ?_) hc1 hc2
      · have := h H1 locs lsC _ _ hA1 hL (dm_ok2 (fun q => by cases q) hS)
        have e7 : (dm_cv ad (vr 100 σ.1.length)) = .ref H.size := by show Value.ref (ad 100 σ.1.length) = _; rw [had, hsz]
        have this : W p l e R s m args below meth c H1 locs (cells + 1) (slots + m2_nf ci) Qw (F0 m (pc + 3) lsC (dm_cv ad (vr 100 σ.1.length) :: st.map (dm_cv ad))) := this
        rw [e7] at this
        exact this
      · have hj' := hj
        have h9 := (m1_dvok ad _ (m1_dtys ci hci j hj)).1
        show defaultValue (m1_ty ci j) = vp_V _ j
        unfold vp_V
        rw [List.getD_eq_getElem?_getD, List.getElem?_map, List.getElem?_map, List.getElem?_range hj]
        exact h9.symm
      · obtain ⟨k, hk, rfl⟩ := List.mem_map.mp hv
        exact (m1_dvok ad _ (m1_dtys ci hci k (List.mem_range.mp hk))).2
  · obtain ⟨n, rest, rfl, h⟩ := dm_1_i h
    obtain ⟨hn, h⟩ := dm_is_i h
    obtain ⟨q, h2, h⟩ := dm_so_i h
    have hn : ¬ n < 0 := by simpa using hn
    have h2 : m1_nwa σ (newarray.typeOf k) n.toNatClampNeg = some q := h2
    unfold m1_nwa at h2
    cases hb2 : (dm_tyl.contains (newarray.typeOf k) && Nat.ble n.toNatClampNeg 2000 && Nat.ble (σ.2.1.1 + 1) σ.2.2.1 && Nat.ble (σ.2.1.2 + n.toNatClampNeg) σ.2.2.2) with
    | false => rw [hb2] at h2; cases h2
    | true =>
      rw [hb2] at h2
      cases h2
      rw [Bool.and_eq_true, Bool.and_eq_true, Bool.and_eq_true] at hb2
      have hc1 := Nat.le_of_ble_eq_true hb2.1.2
      have hc2 := Nat.le_of_ble_eq_true hb2.2
      have hnn := Nat.le_of_ble_eq_true hb2.1.1.2
      obtain ⟨r1, r2⟩ := m1_room hA hc1 hc2
      have hmem := List.contains_iff_mem.mp hb2.1.1.1
      have harr : Cond.arrayClass (newarray.typeOf k) ∈ dm_tb := by
        cases k <;> first | exact tA_int | exact tA_byte | exact tA_bool | exact tA_long | (exfalso; revert hmem; decide)
      have hbyt : n.toNatClampNeg * componentBytes (newarray.typeOf k) ≤ 536870912 := by
        have : componentBytes (newarray.typeOf k) ≤ 8 := by cases k <;> decide
        calc n.toNatClampNeg * componentBytes (newarray.typeOf k) ≤ 2000 * 8 := Nat.mul_le_mul hnn this
          _ ≤ 536870912 := by decide
      refine va_newaK hx hb (hts _ harr) rfl hd rfl hn rfl hbyt r1 r2 rfl fun H1 cA e1 z1 o1 hAr hNm => ?_
      obtain ⟨t0, ht0⟩ := List.getElem?_of_mem hmem
      have hRA := (hK.2 t0 _ (dm_tys_at ht0)).2
      have hcA : cA = dA (newarray.typeOf k) := by
        cases k <;> first | exact Option.some.inj (hNm.symm.trans hRA) | (exfalso; revert hmem; decide)
      have hat : va_at D vwCl (H.size, dm_cc ad dA (.inr (newarray.typeOf k, n.toNatClampNeg, m1_zero (newarray.typeOf k)))) H1 := by
        rw [hcA] at e1
        cases k <;> first | exact e1 | (exfalso; revert hmem; decide)
      have hA1 := m1_push (x := .inr (newarray.typeOf k, n.toNatClampNeg, m1_zero (newarray.typeOf k))) had hBs hA rfl hat z1 o1 ⟨hmem, fun f hf => by cases k <;> first | (cases hf; done) | (exfalso; revert hmem; decide)⟩ hc1 hc2
      have := h H1 locs lsC _ _ hA1 hL (dm_ok2 (fun q => by cases q) (dm_okt hS))
      have e7 : (dm_cv ad (vr 100 σ.1.length)) = .ref H.size := by show Value.ref (ad 100 σ.1.length) = _; rw [had, hsz]
      have this : W p l e R s m args below meth c H1 locs (cells + 1) (slots + n.toNatClampNeg) Qw (F0 m (pc + 2) lsC (dm_cv ad (vr 100 σ.1.length) :: rest.map (dm_cv ad))) := this
      rw [e7] at this
      exact this
  · obtain ⟨n, rest, rfl, h⟩ := dm_1_i h
    obtain ⟨hn, h⟩ := dm_is_i h
    obtain ⟨ci, h1, h⟩ := dm_so_i h
    obtain ⟨q, h2, h⟩ := dm_so_i h
    have hn : ¬ n < 0 := by simpa using hn
    obtain ⟨hci, hlk⟩ := hcl k ci h1
    have h2 : m1_nwa σ (.object (dm_cn ci)) n.toNatClampNeg = some q := h2
    unfold m1_nwa at h2
    cases hb2 : (dm_tyl.contains (FieldType.object (dm_cn ci)) && Nat.ble n.toNatClampNeg 2000 && Nat.ble (σ.2.1.1 + 1) σ.2.2.1 && Nat.ble (σ.2.1.2 + n.toNatClampNeg) σ.2.2.2) with
    | false => rw [hb2] at h2; cases h2
    | true =>
      rw [hb2] at h2
      cases h2
      rw [Bool.and_eq_true, Bool.and_eq_true, Bool.and_eq_true] at hb2
      have hc1 := Nat.le_of_ble_eq_true hb2.1.2
      have hc2 := Nat.le_of_ble_eq_true hb2.2
      have hnn := Nat.le_of_ble_eq_true hb2.1.1.2
      obtain ⟨r1, r2⟩ := m1_room hA hc1 hc2
      have hmem := List.contains_iff_mem.mp hb2.1.1.1
      have hAO := hs.2.2.2.2.2.2.2 _ hmem
      refine W.anew hx hb hown (hts _ hlk) (va_AO.use hAO) rfl hd rfl hn (by omega) r1 r2 fun cA kA comp f1 f2 f3 f4 => ?_
      obtain ⟨t0, ht0⟩ := List.getElem?_of_mem hmem
      have hRA := (hK.2 t0 _ (dm_tys_at ht0)).2
      have hcA : cA = dA (.object (dm_cn ci)) := by
        obtain ⟨kA', comp', g1, g2, g3, g4⟩ := hRA
        exact Option.some.inj (f1.symm.trans g4)
      generalize hH1 : H.push ({ cls := cA, slots := Array.replicate n.toNatClampNeg .null, vm := .none } : Cell) = H1
      have z1 : H1.size = H.size + 1 := by rw [← hH1, Array.size_push]
      have e1 : H1[H.size]? = some (arrV cA n.toNatClampNeg (fun _ => .null)) := by rw [← hH1, Array.getElem?_push_size, ← arrV_new]
      have o1 : ∀ q : Nat, q < H.size → H1[q]? = H[q]? := fun q hq => by rw [← hH1, Array.getElem?_push, if_neg (Nat.ne_of_lt hq)]
      have hA1 := m1_push (x := .inr (.object (dm_cn ci), n.toNatClampNeg, m1_zero (.object (dm_cn ci)))) (e9 := .inl (dA (.object (dm_cn ci)), n.toNatClampNeg, .inr (.inr (.inr (.inr (fun _ => none)))))) had hBs hA rfl (by rw [hcA] at e1; exact e1) z1 o1 ⟨hmem, fun f hf j => by cases hf; trivial⟩ hc1 hc2
      have := h H1 locs lsC _ _ hA1 hL (dm_ok2 (fun q => by cases q) (dm_okt hS))
      have e7 : (dm_cv ad (vr 100 σ.1.length)) = .ref H.size := by show Value.ref (ad 100 σ.1.length) = _; rw [had, hsz]
      have this : W p l e R s m args below meth c H1 locs (cells + 1) (slots + n.toNatClampNeg) Qw (F0 m (pc + 3) lsC (dm_cv ad (vr 100 σ.1.length) :: rest.map (dm_cv ad))) := this
      rw [e7] at this
      exact this
end M1N
