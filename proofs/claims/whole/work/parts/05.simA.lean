/-! the machine follows the abstract one: loads, constants, arithmetic -/
theorem dm_is_i {b : Bool} {K : Prop} (h : dm_is b K) : b = true ∧ K := by
  cases b
  · exact h.elim
  · exact ⟨rfl, h⟩
theorem dm_ldI_i {ls : dm_L} {i : Nat} {K : Int32 → Prop} (h : dm_ldI ls i K) : ∃ x, dm_nth ls i = some (vi x) ∧ K x := by
  unfold dm_ldI at h; split at h
  · exact ⟨_, by assumption, h⟩
  · exact h.elim
theorem dm_ldL_i {ls : dm_L} {i : Nat} {K : Int64 → Prop} (h : dm_ldL ls i K) : ∃ x, dm_nth ls i = some (vl x) ∧ K x := by
  unfold dm_ldL at h; split at h
  · exact ⟨_, by assumption, h⟩
  · exact h.elim
theorem dm_ldR_i {ls : dm_L} {i : Nat} {K : Nat → Nat → Prop} (h : dm_ldR ls i K) : ∃ t j, dm_nth ls i = some (vr t j) ∧ K t j := by
  unfold dm_ldR at h; split at h
  · exact ⟨_, _, by assumption, h⟩
  · exact h.elim
theorem dm_1_i {st : List dm_V} {K : Int32 → List dm_V → Prop} (h : dm_1 st K) : ∃ x l, st = vi x :: l ∧ K x l := by
  unfold dm_1 at h; split at h
  · exact ⟨_, _, rfl, h⟩
  · exact h.elim
theorem dm_2_i {st : List dm_V} {K : Int32 → Int32 → List dm_V → Prop} (h : dm_2 st K) : ∃ x y l, st = vi y :: vi x :: l ∧ K x y l := by
  unfold dm_2 at h; split at h
  · exact ⟨_, _, _, rfl, h⟩
  · exact h.elim
theorem dm_22_i {st : List dm_V} {K : Int64 → Int64 → List dm_V → Prop} (h : dm_22 st K) : ∃ x y l, st = vl y :: vl x :: l ∧ K x y l := by
  unfold dm_22 at h; split at h
  · exact ⟨_, _, _, rfl, h⟩
  · exact h.elim
theorem dm_r_i {st : List dm_V} {K : Nat → Nat → List dm_V → Prop} (h : dm_r st K) : ∃ t i l, st = vr t i :: l ∧ K t i l := by
  unfold dm_r at h; split at h
  · exact ⟨_, _, _, rfl, h⟩
  · exact h.elim
theorem dm_v1_i {ad : Nat → Nat → Nat} {st : List dm_V} {K : dm_V → List dm_V → Prop} (h : dm_v1 st K) : ∃ v l, st = v :: l ∧ (dm_cv ad v).category = 1 ∧ K v l := by
  unfold dm_v1 at h; split at h
  · exact ⟨_, _, rfl, rfl, h⟩
  · rename_i x l
    refine ⟨_, _, rfl, ?_, h⟩
    rcases x with _ | ⟨_, _⟩ <;> rfl
  · exact h.elim
theorem dm_v_i {st : List dm_V} {K : dm_V → List dm_V → Prop} (h : dm_v st K) : ∃ v l, st = v :: l ∧ K v l := by
  unfold dm_v at h; split at h
  · exact ⟨_, _, rfl, h⟩
  · exact h.elim
theorem dm_ir_i {st : List dm_V} {K : Int32 → Nat → Nat → List dm_V → Prop} (h : dm_ir st K) : ∃ x t i l, st = vi x :: vr t i :: l ∧ K x t i l := by
  unfold dm_ir at h; split at h
  · exact ⟨_, _, _, _, rfl, h⟩
  · exact h.elim
theorem dm_so_i {α : Type} {o : Option α} {K : α → Prop} (h : dm_so o K) : ∃ x, o = some x ∧ K x := by
  unfold dm_so at h; split at h
  · exact ⟨_, rfl, h⟩
  · exact h.elim
theorem dm_ix_i {x : Int32} {n : Nat} {K : Prop} (h : dm_ix x n K) : vp_in x n ∧ K := by
  unfold dm_ix at h; split at h
  · exact h.elim
  · exact ⟨by assumption, h⟩
theorem dm_ix_of {x : Int32} {n : Nat} {K : Prop} (h : vp_in x n) (k : K) : dm_ix x n K := by
  unfold dm_ix; rw [if_neg h]; exact k
theorem dm_tg_i {pc : Nat} {off : Int} {K : Nat → Prop} (h : dm_tg pc off K) : ∃ n : Nat, (pc : Int) + off = (n : Int) ∧ K n := by
  unfold dm_tg at h; split at h
  · exact ⟨_, by assumption, h⟩
  · exact h.elim
theorem dm_ok2 {ok : dm_V → Prop} {v : dm_V} {st : List dm_V} (hv : ok v) (h : ∀ v ∈ st, ok v) : ∀ w ∈ v :: st, ok w := fun w hw => by
  rcases List.mem_cons.mp hw with e | e
  · rw [e]; exact hv
  · exact h w e
theorem dm_okt {ok : dm_V → Prop} {v : dm_V} {st : List dm_V} (h : ∀ w ∈ v :: st, ok w) : ∀ w ∈ st, ok w := fun w hw => h w (List.mem_cons_of_mem _ hw)
section SIMA
variable {p : Program} {l : Launch} {e : Env} {R : Room} {s : State} {m : MethodId} {args : Array Value} {below : List Frame} {meth : Method} {c : Code} {Qw : State → Prop} {μ : Type} {E : dm_E} {M : dm_M} {ad : Nat → Nat → Nat} {ok : dm_V → Prop} {nL : Nat} {cc : ByteArray} {Am : μ → Heap → List Loc → Nat → Nat → Prop}
/-- at pc, from every state of the machine that has these locals, this stack, this memory: it comes to Qw -/
def dm_P (p : Program) (l : Launch) (e : Env) (R : Room) (s : State) (m : MethodId) (args : Array Value) (below : List Frame) (meth : Method) (c : Code) (Qw : State → Prop) (ad : Nat → Nat → Nat) (ok : dm_V → Prop) (nL : Nat) (Am : μ → Heap → List Loc → Nat → Nat → Prop) (pc : Nat) (ls : dm_L) (st : List dm_V) (σ : μ) : Prop :=
  ∀ (H : Heap) (locs : List Loc) (lsC : Array Slot) (cells slots : Nat), Am σ H locs cells slots → dm_Al ad ok nL ls lsC → (∀ v ∈ st, ok v) → W p l e R s m args below meth c H locs cells slots Qw (F0 m pc lsC (st.map (dm_cv ad)))
/-- constants -/
def dm_hcs (p : Program) (l : Launch) (e : Env) (R : Room) (s : State) (m : MethodId) (args : Array Value) (below : List Frame) (meth : Method) (c : Code) (Qw : State → Prop) (ad : Nat → Nat → Nat) (ok : dm_V → Prop) (cc : ByteArray) (E : dm_E) (M : dm_M) : Prop :=
  ∀ (k n : Nat) (i : Instr) (v : dm_V), ((i = .ldc k ∧ n = 2) ∨ (i = .ldc_w k ∧ n = 3) ∨ (i = .ldc2_w k ∧ n = 3)) → E.2.2.2.1 M.1 k = some v → ok v ∧ ∀ (pc : Nat) (H : Heap) (locs : List Loc) (cells slots : Nat) (lsC : Array Slot) (rest : List Value), M.2.2.2 pc = some i → decode cc pc = .ok (i, n) → W p l e R s m args below meth c H locs cells slots Qw (F0 m (pc + n) lsC (dm_cv ad v :: rest)) → W p l e R s m args below meth c H locs cells slots Qw (F0 m pc lsC rest)
/-- statics -/
def dm_hst (p : Program) (l : Launch) (e : Env) (R : Room) (s : State) (m : MethodId) (args : Array Value) (below : List Frame) (meth : Method) (c : Code) (Qw : State → Prop) (ad : Nat → Nat → Nat) (ok : dm_V → Prop) (cc : ByteArray) (E : dm_E) (M : dm_M) (Am : μ → Heap → List Loc → Nat → Nat → Prop) : Prop :=
  ∀ (k : Nat) (v : dm_V), E.2.2.2.2.1 M.1 k = some v → ok v ∧ ∀ (pc : Nat) (σ : μ) (H : Heap) (locs : List Loc) (cells slots : Nat) (lsC : Array Slot) (rest : List Value), Am σ H locs cells slots → decode cc pc = .ok (.getstatic k, 3) → W p l e R s m args below meth c H locs cells slots Qw (F0 m (pc + 3) lsC (dm_cv ad v :: rest)) → W p l e R s m args below meth c H locs cells slots Qw (F0 m pc lsC rest)
set_option maxHeartbeats 4000000 in
theorem dm_simA (hx : p.tables.exec = Jvm.exec) (hb : c.code = cc) (hoi : ∀ x, ok (vi x)) (hol : ∀ x, ok (vl x)) (hcs : dm_hcs p l e R s m args below meth c Qw ad ok cc E M) (hst : dm_hst p l e R s m args below meth c Qw ad ok cc E M Am) {pc : Nat} {ls : dm_L} {st : List dm_V} {σ : μ} {i : Instr} (hi : M.2.2.2 pc = some i) (hd : decode cc pc = .ok (i, dm_len pc i)) (h : dm_FA E M (dm_P p l e R s m args below meth c Qw ad ok nL Am) pc ls st σ i) : dm_P p l e R s m args below meth c Qw ad ok nL Am pc ls st σ := by
  intro H locs lsC cells slots hA hL hS
  cases i with
  | aload n =>
    obtain ⟨t, j, h1, h⟩ := dm_ldR_i h
    exact lv_aload hx hb hd (hL.at h1).1 (h _ _ _ _ _ hA hL (dm_ok2 (hL.at h1).2 hS))
  | aload_n n =>
    obtain ⟨t, j, h1, h⟩ := dm_ldR_i h
    exact lv_aload_n hx hb hd rfl (hL.at h1).1 (h _ _ _ _ _ hA hL (dm_ok2 (hL.at h1).2 hS))
  | iload n =>
    obtain ⟨x, h1, h⟩ := dm_ldI_i h
    exact lv_iload hx hb hd (hL.at h1).1 (h _ _ _ _ _ hA hL (dm_ok2 (hoi x) hS))
  | iload_n n =>
    obtain ⟨x, h1, h⟩ := dm_ldI_i h
    exact lv_iload_n hx hb hd rfl (hL.at h1).1 (h _ _ _ _ _ hA hL (dm_ok2 (hoi x) hS))
  | lload_n n =>
    obtain ⟨x, h1, h⟩ := dm_ldL_i h
    exact lv_lload_n hx hb hd rfl (hL.at h1).1 (h _ _ _ _ _ hA hL (dm_ok2 (hol x) hS))
  | astore n =>
    obtain ⟨t, j, l, rfl, h⟩ := dm_r_i h
    obtain ⟨h1, h⟩ := dm_is_i h
    obtain ⟨h2, h⟩ := dm_is_i h
    exact lv_astore hx hb hd hL.1 (by rw [← hL.2.1]; exact Nat.le_of_ble_eq_true h1) rfl (fun ls' hl' => h _ _ _ _ _ hA (hL.set1 h2 (hS _ List.mem_cons_self) hl') (dm_okt hS))
  | astore_n n =>
    obtain ⟨t, j, l, rfl, h⟩ := dm_r_i h
    obtain ⟨h1, h⟩ := dm_is_i h
    obtain ⟨h2, h⟩ := dm_is_i h
    exact lv_astore_n hx hb hd rfl hL.1 (by rw [← hL.2.1]; exact Nat.le_of_ble_eq_true h1) rfl (fun ls' hl' => h _ _ _ _ _ hA (hL.set1 h2 (hS _ List.mem_cons_self) hl') (dm_okt hS))
  | istore n =>
    obtain ⟨x, l, rfl, h⟩ := dm_1_i h
    obtain ⟨h1, h⟩ := dm_is_i h
    obtain ⟨h2, h⟩ := dm_is_i h
    exact lv_istore hx hb hd hL.1 (by rw [← hL.2.1]; exact Nat.le_of_ble_eq_true h1) rfl (fun ls' hl' => h _ _ _ _ _ hA (hL.set1 h2 (hoi x) hl') (dm_okt hS))
  | istore_n n =>
    obtain ⟨x, l, rfl, h⟩ := dm_1_i h
    obtain ⟨h1, h⟩ := dm_is_i h
    obtain ⟨h2, h⟩ := dm_is_i h
    exact lv_istore_n hx hb hd rfl hL.1 (by rw [← hL.2.1]; exact Nat.le_of_ble_eq_true h1) rfl (fun ls' hl' => h _ _ _ _ _ hA (hL.set1 h2 (hoi x) hl') (dm_okt hS))
  | lstore_n n =>
    unfold dm_FA at h
    dsimp only at h
    split at h
    · obtain ⟨h1, h⟩ := dm_is_i h
      obtain ⟨h2, h⟩ := dm_is_i h
      exact lv_lstore_n hx hb hd rfl hL.1 (by rw [← hL.2.1]; exact Nat.le_of_ble_eq_true h1) rfl (fun ls' hl' => h _ _ _ _ _ hA (hL.set2 h2 (hol _) hl') (dm_okt hS))
    · exact h.elim
  | iinc n k =>
    obtain ⟨x, h0, h⟩ := dm_ldI_i h
    obtain ⟨h1, h⟩ := dm_is_i h
    obtain ⟨h2, h⟩ := dm_is_i h
    have hm := dm_as_nth (ad := ad) ls 0 n _ h0
    rw [Nat.zero_add] at hm
    obtain ⟨k9, hk9⟩ := List.getElem?_of_mem hm
    exact lv_iinc hx hb hd hL.1 hk9 rfl (by rw [← hL.2.1]; exact Nat.le_of_ble_eq_true h1) rfl (fun ls' hl' => h _ _ _ _ _ hA (hL.set1 h2 (hoi _) hl') hS)
  | iconst k => exact lv_iconst hx hb hd rfl (h _ _ _ _ _ hA hL (dm_ok2 (hoi _) hS))
  | bipush k => exact lv_bipush hx hb hd rfl (h _ _ _ _ _ hA hL (dm_ok2 (hoi _) hS))
  | sipush k => exact lv_sipush hx hb hd rfl (h _ _ _ _ _ hA hL (dm_ok2 (hoi _) hS))
  | lconst k => exact lv_lconst hx hb hd rfl (h _ _ _ _ _ hA hL (dm_ok2 (hol _) hS))
  | iadd =>
    obtain ⟨x, y, l, rfl, h⟩ := dm_2_i h
    exact lv_iadd hx hb hd (h _ _ _ _ _ hA hL (dm_ok2 (hoi _) (dm_okt (dm_okt hS))))
  | isub =>
    obtain ⟨x, y, l, rfl, h⟩ := dm_2_i h
    exact lv_isub hx hb hd (h _ _ _ _ _ hA hL (dm_ok2 (hoi _) (dm_okt (dm_okt hS))))
  | imul =>
    obtain ⟨x, y, l, rfl, h⟩ := dm_2_i h
    exact lv_imul hx hb hd (h _ _ _ _ _ hA hL (dm_ok2 (hoi _) (dm_okt (dm_okt hS))))
  | iand =>
    obtain ⟨x, y, l, rfl, h⟩ := dm_2_i h
    exact lv_iand hx hb hd (h _ _ _ _ _ hA hL (dm_ok2 (hoi _) (dm_okt (dm_okt hS))))
  | ior =>
    obtain ⟨x, y, l, rfl, h⟩ := dm_2_i h
    exact lv_ior hx hb hd (h _ _ _ _ _ hA hL (dm_ok2 (hoi _) (dm_okt (dm_okt hS))))
  | ixor =>
    obtain ⟨x, y, l, rfl, h⟩ := dm_2_i h
    exact lv_ixor hx hb hd (h _ _ _ _ _ hA hL (dm_ok2 (hoi _) (dm_okt (dm_okt hS))))
  | ishl =>
    obtain ⟨x, y, l, rfl, h⟩ := dm_2_i h
    exact lv_ishl hx hb hd (h _ _ _ _ _ hA hL (dm_ok2 (hoi _) (dm_okt (dm_okt hS))))
  | ishr =>
    obtain ⟨x, y, l, rfl, h⟩ := dm_2_i h
    exact lv_ishr hx hb hd (h _ _ _ _ _ hA hL (dm_ok2 (hoi _) (dm_okt (dm_okt hS))))
  | iushr =>
    obtain ⟨x, y, l, rfl, h⟩ := dm_2_i h
    exact lv_iushr hx hb hd rfl (h _ _ _ _ _ hA hL (dm_ok2 (hoi _) (dm_okt (dm_okt hS))))
  | ineg =>
    obtain ⟨x, l, rfl, h⟩ := dm_1_i h
    exact lv_ineg hx hb hd (h _ _ _ _ _ hA hL (dm_ok2 (hoi _) (dm_okt hS)))
  | idiv =>
    obtain ⟨x, y, l, rfl, h⟩ := dm_2_i h
    obtain ⟨h1, h⟩ := dm_is_i h
    exact lv_idiv hx hb hd (by simpa using h1) (h _ _ _ _ _ hA hL (dm_ok2 (hoi _) (dm_okt (dm_okt hS))))
  | irem =>
    obtain ⟨x, y, l, rfl, h⟩ := dm_2_i h
    obtain ⟨h1, h⟩ := dm_is_i h
    exact lv_irem hx hb hd (by simpa using h1) (h _ _ _ _ _ hA hL (dm_ok2 (hoi _) (dm_okt (dm_okt hS))))
  | i2b =>
    obtain ⟨x, l, rfl, h⟩ := dm_1_i h
    exact lv_i2b hx hb hd rfl (h _ _ _ _ _ hA hL (dm_ok2 (hoi _) (dm_okt hS)))
  | i2l =>
    obtain ⟨x, l, rfl, h⟩ := dm_1_i h
    exact lv_i2l hx hb hd rfl (h _ _ _ _ _ hA hL (dm_ok2 (hol _) (dm_okt hS)))
  | ladd =>
    obtain ⟨x, y, l, rfl, h⟩ := dm_22_i h
    exact lv_ladd hx hb hd (h _ _ _ _ _ hA hL (dm_ok2 (hol _) (dm_okt (dm_okt hS))))
  | lmul =>
    obtain ⟨x, y, l, rfl, h⟩ := dm_22_i h
    exact lv_lmul hx hb hd (h _ _ _ _ _ hA hL (dm_ok2 (hol _) (dm_okt (dm_okt hS))))
  | lcmp =>
    obtain ⟨x, y, l, rfl, h⟩ := dm_22_i h
    exact W.lcmp hx hb hd (h _ _ _ _ _ hA hL (dm_ok2 (hoi _) (dm_okt (dm_okt hS))))
  | dup =>
    unfold dm_FA at h
    obtain ⟨v, l, rfl, h1, h⟩ := dm_v1_i (ad := ad) h
    exact lv_dup hx hb hd h1 (h _ _ _ _ _ hA hL (dm_ok2 (hS _ List.mem_cons_self) hS))
  | pop =>
    unfold dm_FA at h
    obtain ⟨v, l, rfl, h1, h⟩ := dm_v1_i (ad := ad) h
    exact lv_pop hx hb hd h1 (h _ _ _ _ _ hA hL (dm_okt hS))
  | dup2 =>
    unfold dm_FA at h
    obtain ⟨v, l, rfl, h1, h⟩ := dm_v1_i (ad := ad) h
    obtain ⟨w, l, rfl, h2, h⟩ := dm_v1_i (ad := ad) h
    exact lv_dup2_11 hx hb hd h1 h2 (h _ _ _ _ _ hA hL (dm_ok2 (hS _ List.mem_cons_self) (dm_ok2 (hS _ (List.mem_cons_of_mem _ List.mem_cons_self)) hS)))
  | ldc k =>
    obtain ⟨v, h1, h⟩ := dm_so_i h
    obtain ⟨g1, g2⟩ := hcs k 2 _ v (Or.inl ⟨rfl, rfl⟩) h1
    exact g2 _ _ _ _ _ _ _ hi hd (h _ _ _ _ _ hA hL (dm_ok2 g1 hS))
  | ldc_w k =>
    obtain ⟨v, h1, h⟩ := dm_so_i h
    obtain ⟨g1, g2⟩ := hcs k 3 _ v (Or.inr (Or.inl ⟨rfl, rfl⟩)) h1
    exact g2 _ _ _ _ _ _ _ hi hd (h _ _ _ _ _ hA hL (dm_ok2 g1 hS))
  | ldc2_w k =>
    obtain ⟨v, h1, h⟩ := dm_so_i h
    obtain ⟨g1, g2⟩ := hcs k 3 _ v (Or.inr (Or.inr ⟨rfl, rfl⟩)) h1
    exact g2 _ _ _ _ _ _ _ hi hd (h _ _ _ _ _ hA hL (dm_ok2 g1 hS))
  | getstatic k =>
    obtain ⟨v, h1, h⟩ := dm_so_i h
    obtain ⟨g1, g2⟩ := hst k v h1
    exact g2 _ _ _ _ _ _ _ _ hA hd (h _ _ _ _ _ hA hL (dm_ok2 g1 hS))
  | _ => exact h.elim
end SIMA
