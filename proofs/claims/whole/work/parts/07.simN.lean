section SIMN
variable {p : Program} {l : Launch} {e : Env} {R : Room} {s : State} {m : MethodId} {args : Array Value} {below : List Frame} {meth : Method} {c : Code} {Qw : State → Prop} {μ : Type} {E : dm_E} {O : dm_O μ} {M : dm_M} {ad : Nat → Nat → Nat} {ok : dm_V → Prop} {nL : Nat} {cc : ByteArray}
variable {D : va_G} {dA : FieldType → ClassId} {cl : List vw_C} {B : Nat} {tl : μ → List (dm_R × dm_C)} {sz : μ → Nat → Prop} {okM : μ → Prop} {cnt lim : μ → Nat × Nat} {c0 lm : Nat × Nat} {Ts : List Cond} {own : String}
/-- an array's place is written -/
theorem dm_staW {H : Heap} {locs : List Loc} {cells slots q0 : Nat} {σ σ' : μ} {r : dm_R} {ty : FieldType} {n j : Nat} {x : dm_X} {v : dm_V} {H1 : Heap} {a9 : vp_A} {b9 : ClassId}
    (hA : dm_Am D dA cl ad B tl sz okM cnt lim c0 lm s σ H locs cells slots) (hq : (tl σ)[q0]? = some (r, Sum.inr (ty, n, x))) (ht : tl σ' = (tl σ).set q0 (r, .inr (ty, n, dm_xs x j v))) (h1 : okM σ') (h2 : ∀ n, sz σ n → sz σ' n) (h3 : cnt σ' = cnt σ) (h4 : lim σ' = lim σ)
    (hc : dm_cc ad dA (.inr (ty, n, dm_xs x j v)) = .inl (b9, a9)) (e : H1[ad r.1 r.2]? = some (vp_cell b9 a9)) (z : H1.size = H.size) (oq : ∀ q : Nat, q ≠ ad r.1 r.2 → H1[q]? = H[q]?) : dm_Am D dA cl ad B tl sz okM cnt lim c0 lm s σ' H1 (locs ++ [⟨ad r.1 r.2, j⟩]) cells slots := by
  obtain ⟨a1, a2, a3, -⟩ := id hA
  have ha := dm_wd_at (ad := ad) (dA := dA) hq
  refine hA.put ht h1 h2 h3 h4 ?_ (a2.set ha) (a3.put z oq (a2.2 q0 _ ha)) z
  refine a1.set a2 ha ?_ oq
  rw [hc]
  exact e
set_option maxHeartbeats 4000000 in
theorem dm_simM (hx : p.tables.exec = Jvm.exec) (hb : c.code = cc) (hts : ∀ w ∈ Ts, w.before args s = true) (hown : s.vm.findClass own = some m.cls) (hK : va_K D cl (dm_tys dA) s) (hoi : ∀ x, ok (vi x)) (hol : ∀ x, ok (vl x))
    (hfl : dm_hfl E M cl own Ts args s) (hget : dm_hget O ok tl okM) (hput : dm_hput O ok cl ad tl sz okM cnt lim) (harr : dm_harr O ok ad B tl okM s) (hsta : dm_hsta O ok cl tl sz okM cnt lim)
    {pc : Nat} {ls : dm_L} {st : List dm_V} {σ : μ} {i : Instr} (hfin : ∀ k ci kk C T N, i = .putfield k → E.1 M.1 k = some (ci, kk) → cl[ci]? = some (C, T, N) → (T kk).2.2.2 = true → meth.name = "<init>" ∧ (T kk).1 = own) (hd : decode cc pc = .ok (i, dm_len pc i))
    (hnew : dm_FM E O M (dm_P p l e R s m args below meth c Qw ad ok nL (dm_Am D dA cl ad B tl sz okM cnt lim c0 lm s)) pc ls st σ i → ((∃ k, i = .new k) ∨ (∃ k, i = .newarray k) ∨ ∃ k, i = .anewarray k) → dm_P p l e R s m args below meth c Qw ad ok nL (dm_Am D dA cl ad B tl sz okM cnt lim c0 lm s) pc ls st σ)
    (h : dm_FM E O M (dm_P p l e R s m args below meth c Qw ad ok nL (dm_Am D dA cl ad B tl sz okM cnt lim c0 lm s)) pc ls st σ i) : dm_P p l e R s m args below meth c Qw ad ok nL (dm_Am D dA cl ad B tl sz okM cnt lim c0 lm s) pc ls st σ := by
  cases i with
  | new k => exact hnew h (Or.inl ⟨k, rfl⟩)
  | newarray k => exact hnew h (Or.inr (Or.inl ⟨k, rfl⟩))
  | anewarray k => exact hnew h (Or.inr (Or.inr ⟨k, rfl⟩))
  | getfield k =>
    intro H locs lsC cells slots hA hL hS
    obtain ⟨t, i, l, rfl, h⟩ := dm_r_i h
    obtain ⟨⟨ci, kk⟩, h1, h⟩ := dm_so_i h
    obtain ⟨v, h2, h⟩ := dm_so_i h
    obtain ⟨C, T, N, g1, g2, g3, g4, -⟩ := hfl k ci kk h1
    obtain ⟨a1, a2, a3, a4, a5, -⟩ := id hA
    obtain ⟨f1, q0, fs, f2, f3⟩ := hget σ (t, i) ci kk v a5 (hS _ List.mem_cons_self) h2
    exact va_get (C := C) (T := T) (N := N) hx hb hts g4 hown hK a1 q0 (fs := fs.map (dm_cv ad)) (dm_wd_at f2) g1 kk g2 g3 (fun _ h => h) (by rw [List.getElem?_map, f3]; rfl) hd (h _ _ _ _ _ hA hL (dm_ok2 f1 (dm_okt hS)))
  | putfield k =>
    intro H locs lsC cells slots hA hL hS
    obtain ⟨v, l, rfl, h⟩ := dm_v_i h
    obtain ⟨t, i, l, rfl, h⟩ := dm_r_i h
    obtain ⟨⟨ci, kk⟩, h1, h⟩ := dm_so_i h
    obtain ⟨σ', h2, h⟩ := dm_so_i h
    obtain ⟨C, T, N, g1, g2, g3, g4, ty0, g5, g6⟩ := hfl k ci kk h1
    obtain ⟨a1, a2, a3, a4, a5, -⟩ := id hA
    obtain ⟨b1, b2, b3, b4, ⟨q0, fs, b5, b6, b7⟩, C', T', N', ty, b8, b9, b10, b11⟩ := hput σ (t, i) ci kk v σ' a5 (hS _ (List.mem_cons_of_mem _ List.mem_cons_self)) (hS _ List.mem_cons_self) h2
    cases g1.symm.trans b8
    refine dm_putW hx hb hts g4 g5 g6 hown hK a1 a2 a3 (dm_wd_at b5) g1 g2 g3 (hfin k ci kk C T N rfl h1 g1) b9 b10 b11 (by rw [List.length_map]; exact b6) hd (fun H1 locs1 z hP1 hD1 hS1 => ?_)
    refine h _ _ _ _ _ (hA.put b7 b1 b2 b3 b4 ?_ ?_ hS1 z) hL (dm_okt (dm_okt hS))
    · show va_P D cl ((dm_wd ad dA (tl σ)).set q0 (ad t i, .inr (ci, (fs.set kk v).map (dm_cv ad)))) H1
      rw [List.map_set]
      exact hP1
    · show va_D _ ((dm_wd ad dA (tl σ)).set q0 (ad t i, .inr (ci, (fs.set kk v).map (dm_cv ad))))
      rw [List.map_set]
      exact hD1
  | arraylength =>
    intro H locs lsC cells slots hA hL hS
    obtain ⟨t, i, l, rfl, h⟩ := dm_r_i h
    obtain ⟨⟨ty, n, x⟩, h1, h⟩ := dm_so_i h
    obtain ⟨a1, a2, a3, a4, a5, -⟩ := id hA
    obtain ⟨f1, ⟨t0, f2⟩, -⟩ := harr σ (t, i) ty n x a5 (hS _ List.mem_cons_self) h1
    have k := h _ _ _ _ _ hA hL (dm_ok2 (hoi _) (dm_okt hS))
    rcases f1 with ⟨q0, f1⟩ | ⟨rfl, f, rfl, hn, f3, f4, f5⟩
    · have ha := dm_wd_at (ad := ad) (dA := dA) f1
      match x, ha with
      | .inl f, ha => exact va_alen hx hb hK a1 q0 t0 (cA := dA ty) (x := (n, .inl f)) ha (dm_tys_at f2) rfl hd k
      | .inr (.inl f), ha => exact va_alen hx hb hK a1 q0 t0 (cA := dA ty) (x := (n, .inr (.inl f))) ha (dm_tys_at f2) rfl hd k
      | .inr (.inr f), ha => exact va_alen hx hb hK a1 q0 t0 (cA := dA ty) (x := (n, .inr (.inr (.inr (.inr (fun j => (f j).map (fun p : Nat × Nat => ad p.1 p.2))))))) ha (dm_tys_at f2) rfl hd k
    · exact va_slen hx hb f3 f4 f5 a3 hd k
  | iaload =>
    intro H locs lsC cells slots hA hL hS
    obtain ⟨j, t, i, l, rfl, h⟩ := dm_ir_i h
    obtain ⟨q, h1, h⟩ := dm_so_i h
    split at h
    · obtain ⟨hin, h⟩ := dm_ix_i h
      obtain ⟨a1, a2, a3, a4, a5, -⟩ := id hA
      obtain ⟨f1, -, -⟩ := harr σ (t, i) _ _ _ a5 (hS _ (List.mem_cons_of_mem _ List.mem_cons_self)) h1
      have k := h _ _ _ _ _ hA hL (dm_ok2 (hoi _) (dm_okt (dm_okt hS)))
      rcases f1 with ⟨q0, f1⟩ | ⟨-, f, hf, hn, f3, f4, f5⟩
      · exact va_iald hx hb hK a1 q0 0 (dm_wd_at f1) (dm_tys_at rfl) hin hd k
      · cases hf
        exact va_sld hx hb f3 f4 f5 a3 hin hd k
    · exact h.elim
  | baload =>
    intro H locs lsC cells slots hA hL hS
    obtain ⟨j, t, i, l, rfl, h⟩ := dm_ir_i h
    obtain ⟨q, h1, h⟩ := dm_so_i h
    split at h
    · obtain ⟨hin, h⟩ := dm_ix_i h
      obtain ⟨a1, a2, a3, a4, a5, -⟩ := id hA
      obtain ⟨f1, -, -⟩ := harr σ (t, i) _ _ _ a5 (hS _ (List.mem_cons_of_mem _ List.mem_cons_self)) h1
      have k := h _ _ _ _ _ hA hL (dm_ok2 (hoi _) (dm_okt (dm_okt hS)))
      rcases f1 with ⟨q0, f1⟩ | ⟨hf, -⟩
      · exact va_bald hx hb hK a1 q0 1 (dm_wd_at f1) (dm_tys_at rfl) hin hd k
      · cases hf
    · obtain ⟨hin, h⟩ := dm_ix_i h
      obtain ⟨a1, a2, a3, a4, a5, -⟩ := id hA
      obtain ⟨f1, -, -⟩ := harr σ (t, i) _ _ _ a5 (hS _ (List.mem_cons_of_mem _ List.mem_cons_self)) h1
      have k := h _ _ _ _ _ hA hL (dm_ok2 (hoi _) (dm_okt (dm_okt hS)))
      rcases f1 with ⟨q0, f1⟩ | ⟨hf, -⟩
      · exact va_zald hx hb hK a1 q0 2 (dm_wd_at f1) (dm_tys_at rfl) hin hd k
      · cases hf
    · exact h.elim
  | laload =>
    intro H locs lsC cells slots hA hL hS
    obtain ⟨j, t, i, l, rfl, h⟩ := dm_ir_i h
    obtain ⟨q, h1, h⟩ := dm_so_i h
    split at h
    · obtain ⟨hin, h⟩ := dm_ix_i h
      obtain ⟨a1, a2, a3, a4, a5, -⟩ := id hA
      obtain ⟨f1, -, -⟩ := harr σ (t, i) _ _ _ a5 (hS _ (List.mem_cons_of_mem _ List.mem_cons_self)) h1
      have k := h _ _ _ _ _ hA hL (dm_ok2 (hol _) (dm_okt (dm_okt hS)))
      rcases f1 with ⟨q0, f1⟩ | ⟨hf, -⟩
      · exact va_lald hx hb hK a1 q0 3 (dm_wd_at f1) (dm_tys_at rfl) hin hd k
      · cases hf
    · exact h.elim
  | aaload =>
    intro H locs lsC cells slots hA hL hS
    obtain ⟨j, t, i, l, rfl, h⟩ := dm_ir_i h
    obtain ⟨q, h1, h⟩ := dm_so_i h
    split at h
    · rename_i C n f
      obtain ⟨hin, h⟩ := dm_ix_i h
      obtain ⟨a1, a2, a3, a4, a5, -⟩ := id hA
      obtain ⟨f1, ⟨t0, f2⟩, f6⟩ := harr σ (t, i) _ _ _ a5 (hS _ (List.mem_cons_of_mem _ List.mem_cons_self)) h1
      have hlt : j.toNatClampNeg < n := Nat.not_le.mp fun q => hin (Or.inr q)
      have k := h _ _ _ _ _ hA hL (dm_ok2 (f6 f rfl _ hlt) (dm_okt (dm_okt hS)))
      have k : W p _ e R s m args below meth c H locs cells slots Qw (F0 m (pc + 1) lsC (dm_cv ad (.inr (.inr (f j.toNatClampNeg))) :: l.map (dm_cv ad))) := k
      rcases f1 with ⟨q0, f1⟩ | ⟨hf, -⟩
      · refine va_aldq hx hb hK a1 q0 t0 (dm_wd_at f1) (dm_tys_at f2) hin hd ?_
        have e9 : va_rf ((f j.toNatClampNeg).map (fun p => ad p.1 p.2)) = dm_cv ad (.inr (.inr (f j.toNatClampNeg))) := by
          cases f j.toNatClampNeg <;> rfl
        rw [e9]
        exact k
      · cases hf
    · exact h.elim
  | iastore =>
    intro H locs lsC cells slots hA hL hS
    obtain ⟨v, l, rfl, h⟩ := dm_1_i h
    obtain ⟨j, t, i, l, rfl, h⟩ := dm_ir_i h
    obtain ⟨q, h1, h⟩ := dm_so_i h
    split at h
    · rename_i n f
      obtain ⟨hin, h⟩ := dm_ix_i h
      obtain ⟨σ', h2, h⟩ := dm_so_i h
      have hlt : j.toNatClampNeg < n := Nat.not_le.mp fun q => hin (Or.inr q)
      obtain ⟨a1, a2, a3, a4, a5, -⟩ := id hA
      obtain ⟨b1, b2, b3, b4, ⟨q0, b5, b6⟩, -⟩ := hsta σ (t, i) _ _ _ _ _ σ' a5 (hS _ (List.mem_cons_of_mem _ (List.mem_cons_of_mem _ List.mem_cons_self))) (hoi _) h1 hlt h2
      have ha := dm_wd_at (ad := ad) (dA := dA) b5
      refine W.iast hx hb (a1 q0 _ ha) ((hK.2 0 _ (dm_tys_at rfl)).1 n (fun j => .int (f j))) (fun q => by cases q) (by show ¬ (j < 0 ∨ (arrV _ _ _).slots.size ≤ _); rw [arrV_size]; exact hin) rfl rfl hd fun H1 e z oq => ?_
      exact h _ _ _ _ _ (dm_staW hA b5 b6 b1 b2 b3 b4 rfl (e.trans (by rw [dm_cell_i])) z oq) hL (dm_okt (dm_okt (dm_okt hS)))
    · exact h.elim
  | bastore =>
    intro H locs lsC cells slots hA hL hS
    obtain ⟨v, l, rfl, h⟩ := dm_1_i h
    obtain ⟨j, t, i, l, rfl, h⟩ := dm_ir_i h
    obtain ⟨q, h1, h⟩ := dm_so_i h
    split at h
    · rename_i n f
      obtain ⟨hin, h⟩ := dm_ix_i h
      obtain ⟨σ', h2, h⟩ := dm_so_i h
      have hlt : j.toNatClampNeg < n := Nat.not_le.mp fun q => hin (Or.inr q)
      obtain ⟨a1, a2, a3, a4, a5, -⟩ := id hA
      obtain ⟨b1, b2, b3, b4, ⟨q0, b5, b6⟩, -⟩ := hsta σ (t, i) _ _ _ _ _ σ' a5 (hS _ (List.mem_cons_of_mem _ (List.mem_cons_of_mem _ List.mem_cons_self))) (hoi _) h1 hlt h2
      have ha := dm_wd_at (ad := ad) (dA := dA) b5
      refine W.bast hx hb (a1 q0 _ ha) ((hK.2 1 _ (dm_tys_at rfl)).1 n (fun j => .int (f j))) (fun q => by cases q) (by show ¬ (j < 0 ∨ (arrV _ _ _).slots.size ≤ _); rw [arrV_size]; exact hin) rfl rfl hd fun H1 e z oq => ?_
      exact h _ _ _ _ _ (dm_staW hA b5 b6 b1 b2 b3 b4 rfl (e.trans (by rw [← dm_cell_i]; rfl)) z oq) hL (dm_okt (dm_okt (dm_okt hS)))
    · rename_i n f
      obtain ⟨hin, h⟩ := dm_ix_i h
      obtain ⟨σ', h2, h⟩ := dm_so_i h
      have hlt : j.toNatClampNeg < n := Nat.not_le.mp fun q => hin (Or.inr q)
      obtain ⟨a1, a2, a3, a4, a5, -⟩ := id hA
      obtain ⟨b1, b2, b3, b4, ⟨q0, b5, b6⟩, -⟩ := hsta σ (t, i) _ _ _ _ _ σ' a5 (hS _ (List.mem_cons_of_mem _ (List.mem_cons_of_mem _ List.mem_cons_self))) (hoi _) h1 hlt h2
      have ha := dm_wd_at (ad := ad) (dA := dA) b5
      refine W.zast hx hb (a1 q0 _ ha) ((hK.2 2 _ (dm_tys_at rfl)).1 n (fun j => .int (f j))) (fun q => by cases q) (by show ¬ (j < 0 ∨ (arrV _ _ _).slots.size ≤ _); rw [arrV_size]; exact hin) rfl rfl hd fun H1 e z oq => ?_
      exact h _ _ _ _ _ (dm_staW hA b5 b6 b1 b2 b3 b4 rfl (e.trans (by rw [← dm_cell_i]; rfl)) z oq) hL (dm_okt (dm_okt (dm_okt hS)))
    · exact h.elim
  | lastore =>
    intro H locs lsC cells slots hA hL hS
    unfold dm_FM at h
    dsimp only at h
    split at h
    · obtain ⟨j, t, i, l, rfl, h⟩ := dm_ir_i h
      obtain ⟨q, h1, h⟩ := dm_so_i h
      split at h
      · rename_i n f
        obtain ⟨hin, h⟩ := dm_ix_i h
        obtain ⟨σ', h2, h⟩ := dm_so_i h
        have hlt : j.toNatClampNeg < n := Nat.not_le.mp fun q => hin (Or.inr q)
        obtain ⟨a1, a2, a3, a4, a5, -⟩ := id hA
        obtain ⟨b1, b2, b3, b4, ⟨q0, b5, b6⟩, -⟩ := hsta σ (t, i) _ _ _ _ _ σ' a5 (hS _ (List.mem_cons_of_mem _ (List.mem_cons_of_mem _ List.mem_cons_self))) (hol _) h1 hlt h2
        have ha := dm_wd_at (ad := ad) (dA := dA) b5
        refine W.last hx hb (a1 q0 _ ha) ((hK.2 3 _ (dm_tys_at rfl)).1 n (fun j => .long (f j))) (fun q => by cases q) (by show ¬ (j < 0 ∨ (arrV _ _ _).slots.size ≤ _); rw [arrV_size]; exact hin) rfl rfl hd fun H1 e z oq => ?_
        exact h _ _ _ _ _ (dm_staW hA b5 b6 b1 b2 b3 b4 rfl (e.trans (by rw [dm_cell_l])) z oq) hL (dm_okt (dm_okt (dm_okt hS)))
      · exact h.elim
    · exact h.elim
  | aastore =>
    intro H locs lsC cells slots hA hL hS
    obtain ⟨t', i', l, rfl, h⟩ := dm_r_i h
    obtain ⟨j, t, i, l, rfl, h⟩ := dm_ir_i h
    obtain ⟨q, h1, h⟩ := dm_so_i h
    split at h
    · rename_i C n f
      obtain ⟨hin, h⟩ := dm_ix_i h
      obtain ⟨σ', h2, h⟩ := dm_so_i h
      have hlt : j.toNatClampNeg < n := Nat.not_le.mp fun q => hin (Or.inr q)
      have h0 : ¬ j < 0 := fun q => hin (Or.inl q)
      obtain ⟨a1, a2, a3, a4, a5, -⟩ := id hA
      obtain ⟨-, ⟨t0, f2⟩, -⟩ := harr σ (t, i) _ _ _ a5 (hS _ (List.mem_cons_of_mem _ (List.mem_cons_of_mem _ List.mem_cons_self))) h1
      obtain ⟨b1, b2, b3, b4, ⟨q0, b5, b6⟩, b7⟩ := hsta σ (t, i) _ _ _ _ _ σ' a5 (hS _ (List.mem_cons_of_mem _ (List.mem_cons_of_mem _ List.mem_cons_self))) (hS _ List.mem_cons_self) h1 hlt h2
      obtain ⟨qk, ci, vs, w, b8, b9, b10⟩ := b7 _ rfl
      have ha := dm_wd_at (ad := ad) (dA := dA) b5
      have hv := dm_wd_at (ad := ad) (dA := dA) b8
      obtain ⟨r', hr', cellV, g1, g2, g3, -⟩ := a1 qk _ hv
      have hcls := (hK.1 ci w b9).2
      have ht9 := (hK.2 t0 _ (dm_tys_at f2)).2
      rw [b10] at ht9
      obtain ⟨kA, comp, k1, k2, k3, -⟩ := ht9
      obtain rfl : comp = D.1 ci := Option.some.inj (k3.symm.trans hcls.1)
      obtain ⟨kC, hkC, -⟩ := id hcls.2
      refine W.aast hx hb (a1 q0 _ ha) (fun q h => by cases h) (fun h => by cases h) (by rw [b10]; exact k1) k2 rfl hkC ⟨h0, by show _ < (arrV _ _ _).slots.size; rw [arrV_size]; exact hlt⟩ g1 (fun q h => by rw [g3] at h; cases h) (by rw [g2]; exact hkC) (by rw [g2]; exact va_assign hcls) rfl rfl hd fun H1 e z oq => ?_
      refine h _ _ _ _ _ (dm_staW hA b5 b6 b1 b2 b3 b4 rfl (e.trans ?_) z oq) hL (dm_okt (dm_okt (dm_okt hS)))
      rw [dm_cell_q]
      have e9 : va_up (fun j => Option.map (fun p : Nat × Nat => ad p.1 p.2) (f j)) j.toNatClampNeg (some (ad t' i')) = fun k => Option.map (fun p : Nat × Nat => ad p.1 p.2) (va_up f j.toNatClampNeg (some (t', i')) k) := by
        funext q
        by_cases hq : q = j.toNatClampNeg <;> simp [va_up, hq]
      show some (vp_cell _ (n, Sum.inr (Sum.inr (Sum.inr (Sum.inr (va_up (fun j => Option.map (fun p : Nat × Nat => ad p.1 p.2) (f j)) j.toNatClampNeg (some (ad t' i')))))))) = _
      rw [e9]
    · exact h.elim
  | _ => exact h.elim
end SIMN
