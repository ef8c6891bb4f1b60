/-! abstract values, cells and locals as the machine has them -/
def dm_cv (ad : Nat → Nat → Nat) : dm_V → Value
  | .inl x => .int x
  | .inr (.inl x) => .long x
  | .inr (.inr none) => .null
  | .inr (.inr (some (t, i))) => .ref (ad t i)
def dm_cc (ad : Nat → Nat → Nat) (dA : FieldType → ClassId) : dm_C → va_E
  | .inl (c, fs) => .inr (c, fs.map (dm_cv ad))
  | .inr (ty, n, .inl f) => .inl (dA ty, n, .inl f)
  | .inr (ty, n, .inr (.inl f)) => .inl (dA ty, n, .inr (.inl f))
  | .inr (ty, n, .inr (.inr f)) => .inl (dA ty, n, .inr (.inr (.inr (.inr (fun j => (f j).map (fun p => ad p.1 p.2))))))
def dm_wd (ad : Nat → Nat → Nat) (dA : FieldType → ClassId) (L : List (dm_R × dm_C)) : va_W := L.map (fun q => (ad q.1.1 q.1.2, dm_cc ad dA q.2))
theorem dm_wd_at {ad : Nat → Nat → Nat} {dA : FieldType → ClassId} {L : List (dm_R × dm_C)} {k : Nat} {r : dm_R} {c : dm_C} (h : L[k]? = some (r, c)) : (dm_wd ad dA L)[k]? = some (ad r.1 r.2, dm_cc ad dA c) := by
  unfold dm_wd; rw [List.getElem?_map, h]; rfl
theorem dm_wd_set {ad : Nat → Nat → Nat} {dA : FieldType → ClassId} {L : List (dm_R × dm_C)} {k : Nat} {r : dm_R} {c : dm_C} : dm_wd ad dA (L.set k (r, c)) = (dm_wd ad dA L).set k (ad r.1 r.2, dm_cc ad dA c) := by
  unfold dm_wd; rw [List.map_set]
/-- the locals by their places -/
def dm_as (ad : Nat → Nat → Nat) : Nat → dm_L → List (Nat × Value)
  | _, [] => []
  | k, none :: l => dm_as ad (k + 1) l
  | k, some v :: l => (k, dm_cv ad v) :: dm_as ad (k + 1) l
theorem dm_as_ge {ad : Nat → Nat → Nat} : ∀ (l : dm_L) (k : Nat) (q : Nat × Value), q ∈ dm_as ad k l → k ≤ q.1
  | [], _, _, h => by cases h
  | none :: l, k, q, h => Nat.le_of_succ_le (dm_as_ge l (k + 1) q h)
  | some v :: l, k, q, h => by
    rcases List.mem_cons.mp h with h | h
    · rw [h]; exact Nat.le_refl k
    · exact Nat.le_of_succ_le (dm_as_ge l (k + 1) q h)
theorem dm_as_nth {ad : Nat → Nat → Nat} : ∀ (l : dm_L) (k i : Nat) (v : dm_V), dm_nth l i = some v → (k + i, dm_cv ad v) ∈ dm_as ad k l
  | [], _, _, _, h => by cases h
  | none :: l, k, 0, v, h => by cases h
  | some w :: l, k, 0, v, h => by
    cases h
    exact List.mem_cons_self
  | none :: l, k, n + 1, v, h => by
    have h1 := dm_as_nth (ad := ad) l (k + 1) n v h
    rw [show k + (n + 1) = k + 1 + n by omega]
    exact h1
  | some w :: l, k, n + 1, v, h => by
    have h1 := dm_as_nth (ad := ad) l (k + 1) n v h
    rw [show k + (n + 1) = k + 1 + n by omega]
    exact List.mem_cons_of_mem _ h1
theorem dm_as_cons {ad : Nat → Nat → Nat} {x : Option dm_V} {l : dm_L} {k : Nat} {q : Nat × Value} (h : q ∈ dm_as ad k (x :: l)) : (∃ v, x = some v ∧ q = (k, dm_cv ad v)) ∨ q ∈ dm_as ad (k + 1) l := by
  cases x with
  | none => exact Or.inr h
  | some v =>
    rcases List.mem_cons.mp h with h | h
    · exact Or.inl ⟨v, rfl, h⟩
    · exact Or.inr h
theorem dm_as_tail {ad : Nat → Nat → Nat} {x : Option dm_V} {l : dm_L} {k : Nat} {q : Nat × Value} (h : q ∈ dm_as ad (k + 1) l) : q ∈ dm_as ad k (x :: l) := by
  cases x with
  | none => exact h
  | some v => exact List.mem_cons_of_mem _ h
theorem dm_as_set {ad : Nat → Nat → Nat} {o : Option dm_V} : ∀ (l : dm_L) (i k : Nat) (q : Nat × Value), dm_noL l i = true → q ∈ dm_as ad k (dm_set l i o) → (∃ v, o = some v ∧ q = (k + i, dm_cv ad v)) ∨ (q ∈ dm_as ad k l ∧ q.1 ≠ k + i ∧ ¬ (q.1 + 1 = k + i ∧ q.2.category = 2))
  | [], _, _, _, _, h => by cases h
  | x :: l, 0, k, q, _, h => by
    rcases dm_as_cons h with h | h
    · exact Or.inl h
    · have h1 := dm_as_ge _ _ _ h
      exact Or.inr ⟨dm_as_tail h, by omega, by omega⟩
  | x :: l, n + 1, k, q, hn, h => by
    rcases dm_as_cons h with ⟨v, hv, hq⟩ | h
    · subst hv
      refine Or.inr ⟨?_, ?_, ?_⟩
      · rw [hq]; exact List.mem_cons_self
      · rw [hq]; show k ≠ k + (n + 1); omega
      · rintro ⟨h1, h2⟩
        rw [hq] at h1 h2
        have h1 : k + 1 = k + (n + 1) := h1
        obtain rfl : n = 0 := by omega
        match v, hn, h2 with
        | .inl _, _, h2 => simp [dm_cv, Value.category] at h2
        | .inr (.inl _), hn, _ => simp [dm_noL] at hn
        | .inr (.inr none), _, h2 => simp [dm_cv, Value.category] at h2
        | .inr (.inr (some _)), _, h2 => simp [dm_cv, Value.category] at h2
    · have hn' : dm_noL l n = true := by
        match n, l with
        | 0, [] => rfl
        | 0, _ :: _ => rfl
        | n + 1, l => exact hn
      rcases dm_as_set l n (k + 1) q hn' h with ⟨v, h1, h2⟩ | ⟨h1, h2, h3⟩
      · exact Or.inl ⟨v, h1, by rw [h2, show k + 1 + n = k + (n + 1) by omega]⟩
      · refine Or.inr ⟨dm_as_tail h1, by omega, fun h4 => h3 ⟨by omega, h4.2⟩⟩
theorem dm_set_len : ∀ (l : dm_L) (i : Nat) (o : Option dm_V), (dm_set l i o).length = l.length
  | [], _, _ => rfl
  | _ :: _, 0, _ => rfl
  | _ :: l, n + 1, o => by simp [dm_set, dm_set_len l n o]
theorem dm_set_mem : ∀ (l : dm_L) (i : Nat) (o : Option dm_V) (v : dm_V), some v ∈ dm_set l i o → o = some v ∨ some v ∈ l
  | [], _, _, _, h => by cases h
  | x :: l, 0, o, v, h => by
    rcases List.mem_cons.mp h with h | h
    · exact Or.inl h.symm
    · exact Or.inr (List.mem_cons_of_mem _ h)
  | x :: l, n + 1, o, v, h => by
    rcases List.mem_cons.mp h with h | h
    · exact Or.inr (by rw [h]; exact List.mem_cons_self)
    · rcases dm_set_mem l n o v h with h | h
      · exact Or.inl h
      · exact Or.inr (List.mem_cons_of_mem _ h)
theorem dm_nth_mem : ∀ (l : dm_L) (i : Nat) (v : dm_V), dm_nth l i = some v → some v ∈ l
  | [], _, _, h => by cases h
  | x :: l, 0, v, h => by
    have h : x = some v := h
    rw [h]; exact List.mem_cons_self
  | x :: l, n + 1, v, h => List.mem_cons_of_mem _ (dm_nth_mem l n v h)
theorem dm_le_as {ad : Nat → Nat → Nat} : ∀ (l0 l : dm_L) (k : Nat) (q : Nat × Value), dm_le l0 l → q ∈ dm_as ad k l0 → q ∈ dm_as ad k l
  | [], [], _, _, _, h => by cases h
  | x :: l0, y :: l, k, q, hl, h => by
    rcases dm_as_cons h with ⟨v, hv, h⟩ | h
    · rcases hl.1 with e | e
      · rw [e] at hv; cases hv
      · rw [← e, hv, h]; exact List.mem_cons_self
    · exact dm_as_tail (dm_le_as l0 l (k + 1) q hl.2 h)
  | [], _ :: _, _, _, hl, _ => hl.elim
  | _ :: _, [], _, _, hl, _ => hl.elim
theorem dm_le_len : ∀ (l0 l : dm_L), dm_le l0 l → l0.length = l.length
  | [], [], _ => rfl
  | _ :: l0, _ :: l, hl => by simp [dm_le_len l0 l hl.2]
  | [], _ :: _, hl => hl.elim
  | _ :: _, [], hl => hl.elim
theorem dm_le_mem : ∀ (l0 l : dm_L) (v : dm_V), dm_le l0 l → some v ∈ l0 → some v ∈ l
  | [], [], _, _, h => h
  | x :: l0, y :: l, v, hl, h => by
    rcases List.mem_cons.mp h with h | h
    · rcases hl.1 with e | e
      · rw [e] at h; cases h
      · rw [h, e]; exact List.mem_cons_self
    · exact List.mem_cons_of_mem _ (dm_le_mem l0 l v hl.2 h)
  | [], _ :: _, _, hl, _ => hl.elim
  | _ :: _, [], _, hl, _ => hl.elim
/-- locals: the slots hold what is known -/
def dm_Al (ad : Nat → Nat → Nat) (ok : dm_V → Prop) (nL : Nat) (ls : dm_L) (lsC : Array Slot) : Prop := lv_has lsC nL (dm_as ad 0 ls) ∧ ls.length = nL ∧ ∀ v, some v ∈ ls → ok v
theorem dm_Al.at {ad : Nat → Nat → Nat} {ok : dm_V → Prop} {nL : Nat} {ls : dm_L} {lsC : Array Slot} (h : dm_Al ad ok nL ls lsC) {i : Nat} {v : dm_V} (hi : dm_nth ls i = some v) : lsC[i]? = some (.val (dm_cv ad v)) ∧ ok v := by
  have h1 := dm_as_nth (ad := ad) ls 0 i v hi
  rw [Nat.zero_add] at h1
  exact ⟨h.1.2.2 _ h1, h.2.2 v (dm_nth_mem ls i v hi)⟩
theorem dm_Al.weak {ad : Nat → Nat → Nat} {ok : dm_V → Prop} {nL : Nat} {ls0 ls : dm_L} {lsC : Array Slot} (hl : dm_le ls0 ls) (h : dm_Al ad ok nL ls lsC) : dm_Al ad ok nL ls0 lsC :=
  ⟨⟨h.1.1, h.1.2.1, fun q hq => h.1.2.2 q (dm_le_as ls0 ls 0 q hl hq)⟩, (dm_le_len ls0 ls hl).trans h.2.1, fun v hv => h.2.2 v (dm_le_mem ls0 ls v hl hv)⟩
theorem dm_Al.set1 {ad : Nat → Nat → Nat} {ok : dm_V → Prop} {nL : Nat} {ls : dm_L} {lsC lsC' : Array Slot} (h : dm_Al ad ok nL ls lsC) {i : Nat} {v : dm_V} (hn : dm_noL ls i = true) (hv : ok v) (h' : lv_has lsC' nL ((i, dm_cv ad v) :: (dm_as ad 0 ls).filter (fun q => !(q.1 == i) && !(q.1 + 1 == i && q.2.category == 2)))) : dm_Al ad ok nL (dm_set ls i (some v)) lsC' := by
  refine ⟨⟨h'.1, h'.2.1, fun q hq => h'.2.2 q ?_⟩, (dm_set_len _ _ _).trans h.2.1, fun w hw => ?_⟩
  · rcases dm_as_set ls i 0 q hn hq with ⟨w, hw, h1⟩ | ⟨h1, h2, h3⟩
    · cases hw
      rw [Nat.zero_add] at h1
      rw [h1]; exact List.mem_cons_self
    · rw [Nat.zero_add] at h2 h3
      refine List.mem_cons_of_mem _ (List.mem_filter.mpr ⟨h1, ?_⟩)
      simp only [Bool.and_eq_true, Bool.not_eq_true', beq_eq_false_iff_ne, ne_eq, Bool.and_eq_false_iff]
      refine ⟨h2, ?_⟩
      by_cases e : q.1 + 1 = i
      · exact Or.inr (fun z => h3 ⟨e, z⟩)
      · exact Or.inl e
  · rcases dm_set_mem ls i _ w hw with e | e
    · cases e; exact hv
    · exact h.2.2 w e
theorem dm_Al.set2 {ad : Nat → Nat → Nat} {ok : dm_V → Prop} {nL : Nat} {ls : dm_L} {lsC lsC' : Array Slot} (h : dm_Al ad ok nL ls lsC) {i : Nat} {v : dm_V} (hn : dm_noL ls i = true) (hv : ok v) (h' : lv_has lsC' nL ((i, dm_cv ad v) :: (dm_as ad 0 ls).filter (fun q => !(q.1 == i) && (!(q.1 == i + 1) && !(q.1 + 1 == i && q.2.category == 2))))) : dm_Al ad ok nL (dm_set (dm_set ls i (some v)) (i + 1) none) lsC' := by
  have key : ∀ (l : dm_L) (i k : Nat) (q : Nat × Value), q ∈ dm_as ad k (dm_set l i none) → q ∈ dm_as ad k l ∧ q.1 ≠ k + i := by
    intro l
    induction l with
    | nil => intro i k q h; cases h
    | cons x l ih =>
      intro i k q h
      cases i with
      | zero =>
        have h1 : q ∈ dm_as ad (k + 1) l := h
        have h2 := dm_as_ge _ _ _ h1
        exact ⟨dm_as_tail h1, by omega⟩
      | succ n =>
        rcases dm_as_cons h with ⟨w, hw, h⟩ | h
        · rw [hw, h]
          exact ⟨List.mem_cons_self, by show k ≠ k + (n + 1); omega⟩
        · obtain ⟨h1, h2⟩ := ih n (k + 1) q h
          exact ⟨dm_as_tail h1, by omega⟩
  refine ⟨⟨h'.1, h'.2.1, fun q hq => h'.2.2 q ?_⟩, (dm_set_len _ _ _).trans ((dm_set_len _ _ _).trans h.2.1), fun w hw => ?_⟩
  · obtain ⟨hq, hq2⟩ := key _ _ _ _ hq
    rcases dm_as_set ls i 0 q hn hq with ⟨w, hw, h1⟩ | ⟨h1, h2, h3⟩
    · cases hw
      rw [Nat.zero_add] at h1
      rw [h1]; exact List.mem_cons_self
    · rw [Nat.zero_add] at h2 h3 hq2
      refine List.mem_cons_of_mem _ (List.mem_filter.mpr ⟨h1, ?_⟩)
      simp only [Bool.and_eq_true, Bool.not_eq_true', beq_eq_false_iff_ne, ne_eq, Bool.and_eq_false_iff]
      refine ⟨h2, hq2, ?_⟩
      by_cases e : q.1 + 1 = i
      · exact Or.inr (fun z => h3 ⟨e, z⟩)
      · exact Or.inl e
  · rcases dm_set_mem _ _ _ w hw with e | e
    · cases e
    · rcases dm_set_mem ls i _ w e with e | e
      · cases e; exact hv
      · exact h.2.2 w e
def dm_len (pc : Nat) : Instr → Nat
  | .aload _ | .iload _ | .astore _ | .istore _ | .bipush _ | .ldc _ | .newarray _ => 2
  | .iinc _ _ | .sipush _ | .ldc_w _ | .ldc2_w _ | .getstatic _ | .getfield _ | .putfield _ | .new _ | .anewarray _ | .if_icmp _ _ | .ifCond _ _ | .goto _ | .invokevirtual _ | .invokespecial _ | .invokestatic _ => 3
  | .tableswitch _ _ _ offs => 1 + (3 - pc % 4) + 12 + 4 * offs.size
  | _ => 1
