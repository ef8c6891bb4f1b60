theorem dm_tg_eq {pc tgt : Nat} {off : Int} {K : Nat → Prop} (ht : (pc : Int) + off = (tgt : Int)) : dm_tg pc off K = K tgt := by
  unfold dm_tg; rw [ht]
theorem dm_ent_len {n : Nat} {av : List dm_V} (h : av.length ≤ n) : (dm_ent n av).length = n := by
  unfold dm_ent; rw [List.length_append, List.length_map, List.length_replicate]; omega
theorem dm_as_rep (ad : Nat → Nat → Nat) : ∀ (n k : Nat), dm_as ad k (List.replicate n none) = []
  | 0, _ => rfl
  | n + 1, k => dm_as_rep ad n (k + 1)
theorem dm_as_ent (ad : Nat → Nat → Nat) (n : Nat) : ∀ (av : List dm_V) (k : Nat), dm_cat av = av.length → dm_as ad k (av.map some ++ List.replicate n none) = lv_args k (av.map (dm_cv ad))
  | [], k, _ => by
    rw [List.map_nil, List.nil_append, dm_as_rep]; rfl
  | .inl x :: av, k, h => by
    have h : dm_cat av = av.length := by simp [dm_cat] at h; omega
    have ih := dm_as_ent ad n av (k + 1) h
    show (k, dm_cv ad (.inl x)) :: dm_as ad (k + 1) (av.map some ++ List.replicate n none) = _
    rw [ih]; rfl
  | .inr (.inl x) :: av, k, h => by
    have h1 : ∀ l : List dm_V, l.length ≤ dm_cat l := by
      intro l
      induction l with
      | nil => exact Nat.le_refl _
      | cons x l ih => rcases x with x | x | x <;> simp [dm_cat] <;> omega
    have := h1 av
    simp [dm_cat] at h; omega
  | .inr (.inr x) :: av, k, h => by
    have h : dm_cat av = av.length := by simp [dm_cat] at h; omega
    have ih := dm_as_ent ad n av (k + 1) h
    show (k, dm_cv ad (.inr (.inr x))) :: dm_as ad (k + 1) (av.map some ++ List.replicate n none) = _
    rw [ih]
    rcases x with _ | ⟨t, i⟩ <;> rfl
section SIMZ
variable {μ : Type} {E : dm_E} {O : dm_O μ} {prog : Nat → dm_M} {mn : Nat → MethodName} {mb : Nat → ByteArray} {tb : List Cond} {mcT : Nat → Nat × Nat}
variable {D : va_G} {dA : FieldType → ClassId} {cl : List vw_C} {ad : Nat → Nat → Nat} {ok : dm_V → Prop} {B : Nat} {tl : μ → List (dm_R × dm_C)} {sz : μ → Nat → Prop} {okM : μ → Prop} {cnt lim : μ → Nat × Nat} {St : State → Heap → Prop}
set_option maxHeartbeats 4000000 in
/-- an instruction that is no return -/
theorem dm_inner {p : Program} {l : Launch} {e : Env} {R : Room} {s : State} {m : MethodId} {args : Array Value} {below : List Frame} {meth : Method} {c : Code} {Qw : State → Prop} {c0 : Nat × Nat} {y0 : Nat} {call : Nat → List dm_V → μ → (Option dm_V → μ → Prop) → Prop} {bi : Bool} {Q : Option dm_V → μ → Prop}
    (hIF : dm_IF O mcT cl ad ok B tl sz okM cnt lim St) (hctx : dm_ctx prog mn mb tb D dA cl B St y0 p s m args c) (hM : dm_MOK E prog mn mb tb cl St y0) (hX : dm_XOK E O prog mn mb tb D dA cl ad ok B tl sz okM cnt lim St y0) (hname : meth.name = (mn y0).name) (hbi : bi = true → 4 ≤ R.frames ∧ 160 ≤ R.locals)
    (hI : ∀ {pc : Nat} {ls : dm_L} {st : List dm_V} {σ : μ} {i : Instr} {k y n rk cr : Nat}, decode (mb y0) pc = .ok (i, 3) → E.2.1 (prog y0).1 k = some (y, n, rk, cr) → ¬ 3000 ≤ y → dm_link prog mn mb tb cl St (mn y0).cls i k y n cr →
      dm_inv E O call bi (prog y0) (dm_P p l e R s m args below meth c Qw ad ok (prog y0).2.1 (dm_Am D dA cl ad B tl sz okM cnt lim c0 (c0.1 + R.cells, c0.2 + R.slots) s)) pc ls st σ k → dm_P p l e R s m args below meth c Qw ad ok (prog y0).2.1 (dm_Am D dA cl ad B tl sz okM cnt lim c0 (c0.1 + R.cells, c0.2 + R.slots) s) pc ls st σ)
    {pc : Nat} {ls : dm_L} {st : List dm_V} {σ : μ}
    (hret : ∀ i, (prog y0).2.2.2 pc = some i → (i = .ireturn ∨ i = .lreturn ∨ i = .areturn ∨ i = .return_) → dm_FC E O call bi (prog y0) Q (dm_P p l e R s m args below meth c Qw ad ok (prog y0).2.1 (dm_Am D dA cl ad B tl sz okM cnt lim c0 (c0.1 + R.cells, c0.2 + R.slots) s)) pc ls st σ i → dm_P p l e R s m args below meth c Qw ad ok (prog y0).2.1 (dm_Am D dA cl ad B tl sz okM cnt lim c0 (c0.1 + R.cells, c0.2 + R.slots) s) pc ls st σ)
    (h : dm_F E O call bi (prog y0) Q (dm_P p l e R s m args below meth c Qw ad ok (prog y0).2.1 (dm_Am D dA cl ad B tl sz okM cnt lim c0 (c0.1 + R.cells, c0.2 + R.slots) s)) pc ls st σ) : dm_P p l e R s m args below meth c Qw ad ok (prog y0).2.1 (dm_Am D dA cl ad B tl sz okM cnt lim c0 (c0.1 + R.cells, c0.2 + R.slots) s) pc ls st σ := by
  obtain ⟨hoi, hol, hget, hput, hsta, hSt, hcl, hen, hlv⟩ := id hIF
  obtain ⟨hx, hb, hml, hown, hts, hK, hs, hBs⟩ := id hctx
  obtain ⟨m1, m2, m3, m4, m5, m6, m7⟩ := hM
  obtain ⟨x1, x2, x3, x4, x5⟩ := hX p l e R s m args below meth c Qw c0 hctx
  have hroom : ∀ σ H locs cells slots, dm_Am D dA cl ad B tl sz okM cnt lim c0 (c0.1 + R.cells, c0.2 + R.slots) s σ H locs cells slots → cells ≤ R.cells ∧ slots ≤ R.slots := by
    intro σ H locs cells slots hA
    obtain ⟨a1, a2, a3, a4, a5, a6, a7, a8⟩ := id hA
    obtain ⟨z1, z2⟩ := hcl σ a5
    rw [a8] at z1 z2
    have z1 : (cnt σ).1 ≤ c0.1 + R.cells := z1
    have z2 : (cnt σ).2 ≤ c0.2 + R.slots := z2
    omega
  obtain ⟨i, hi, hF⟩ := dm_so_i h
  clear h
  have hd := m2 pc i hi
  unfold dm_FI at hF
  split at hF
  · exact dm_simA hx hb hoi hol x1 x2 hi hd hF
  · exact dm_simM hx hb hts hown hK hoi hol (fun k ci kk hk => by
      obtain ⟨C, T, N, q1, q2, q3, q4⟩ := m3 k ci kk hk
      exact ⟨C, T, N, q1, q2, hts _ q3, q4⟩) hget hput x3 hsta (fun k ci kk C T N hk h1 h2 h3 => by
      rw [hname]; exact m4 pc k ci kk C T N (by rw [hi, hk]) h1 h2 h3) hd (fun h9 h8 => x5 pc ls st σ i hi h8 h9) hF
  · cases i with
    | if_icmp cd off =>
      intro H locs lsC cells slots hA hL hS
      obtain ⟨x, y, l, rfl, h⟩ := dm_2_i hF
      have hto : 0 ≤ (pc : Int) + off := m5 pc _ hi
      have ht : (pc : Int) + off = ((((pc : Int) + off).toNat : Nat) : Int) := (Int.toNat_of_nonneg hto).symm
      rw [dm_tg_eq ht] at h
      have hS' := dm_okt (dm_okt hS)
      cases cd with
      | eq =>
        have h : if x = y then _ else _ := h
        exact lv_icmp_eq hx hb hd ht (fun q => by rw [if_pos q] at h; exact h _ _ _ _ _ hA hL hS') (fun q => by rw [if_neg q] at h; exact h _ _ _ _ _ hA hL hS')
      | ne =>
        have h : if x = y then _ else _ := h
        exact lv_icmp_ne hx hb hd ht (fun q => by rw [if_neg q] at h; exact h _ _ _ _ _ hA hL hS') (fun q => by rw [if_pos q] at h; exact h _ _ _ _ _ hA hL hS')
      | lt =>
        have h : if x < y then _ else _ := h
        exact lv_icmp_lt hx hb hd ht (fun q => by rw [if_pos q] at h; exact h _ _ _ _ _ hA hL hS') (fun q => by rw [if_neg q] at h; exact h _ _ _ _ _ hA hL hS')
      | ge =>
        have h : if x < y then _ else _ := h
        exact lv_icmp_ge hx hb hd ht (fun q => by rw [if_neg (Int32.not_lt.mpr q)] at h; exact h _ _ _ _ _ hA hL hS') (fun q => by rw [if_pos (Int32.not_le.mp q)] at h; exact h _ _ _ _ _ hA hL hS')
      | gt =>
        have h : if y < x then _ else _ := h
        exact lv_icmp_gt hx hb hd ht (fun q => by rw [if_pos q] at h; exact h _ _ _ _ _ hA hL hS') (fun q => by rw [if_neg q] at h; exact h _ _ _ _ _ hA hL hS')
      | le =>
        have h : if y < x then _ else _ := h
        exact lv_icmp_le hx hb hd ht (fun q => by rw [if_neg (Int32.not_lt.mpr q)] at h; exact h _ _ _ _ _ hA hL hS') (fun q => by rw [if_pos (Int32.not_le.mp q)] at h; exact h _ _ _ _ _ hA hL hS')
    | ifCond cd off =>
      intro H locs lsC cells slots hA hL hS
      obtain ⟨x, l, rfl, h⟩ := dm_1_i hF
      have hto : 0 ≤ (pc : Int) + off := m5 pc _ hi
      have ht : (pc : Int) + off = ((((pc : Int) + off).toNat : Nat) : Int) := (Int.toNat_of_nonneg hto).symm
      rw [dm_tg_eq ht] at h
      have hS' := dm_okt hS
      cases cd with
      | eq =>
        have h : if x = 0 then _ else _ := h
        exact lv_if_eq hx hb hd ht (fun q => by rw [if_pos q] at h; exact h _ _ _ _ _ hA hL hS') (fun q => by rw [if_neg q] at h; exact h _ _ _ _ _ hA hL hS')
      | ne =>
        have h : if x = 0 then _ else _ := h
        exact lv_if_ne hx hb hd ht (fun q => by rw [if_neg q] at h; exact h _ _ _ _ _ hA hL hS') (fun q => by rw [if_pos q] at h; exact h _ _ _ _ _ hA hL hS')
      | lt =>
        have h : if x < 0 then _ else _ := h
        exact lv_if_lt hx hb hd ht (fun q => by rw [if_pos q] at h; exact h _ _ _ _ _ hA hL hS') (fun q => by rw [if_neg q] at h; exact h _ _ _ _ _ hA hL hS')
      | ge =>
        have h : if x < 0 then _ else _ := h
        exact lv_if_ge hx hb hd ht (fun q => by rw [if_neg (Int32.not_lt.mpr q)] at h; exact h _ _ _ _ _ hA hL hS') (fun q => by rw [if_pos (Int32.not_le.mp q)] at h; exact h _ _ _ _ _ hA hL hS')
      | gt =>
        have h : if 0 < x then _ else _ := h
        exact lv_if_gt hx hb hd ht (fun q => by rw [if_pos q] at h; exact h _ _ _ _ _ hA hL hS') (fun q => by rw [if_neg q] at h; exact h _ _ _ _ _ hA hL hS')
      | le =>
        have h : if 0 < x then _ else _ := h
        exact lv_if_le hx hb hd ht (fun q => by rw [if_neg (Int32.not_lt.mpr q)] at h; exact h _ _ _ _ _ hA hL hS') (fun q => by rw [if_pos (Int32.not_le.mp q)] at h; exact h _ _ _ _ _ hA hL hS')
    | goto off =>
      intro H locs lsC cells slots hA hL hS
      obtain ⟨n, ht, h⟩ := dm_tg_i hF
      exact lv_goto hx hb hd ht (h _ _ _ _ _ hA hL hS)
    | tableswitch d9 lo hi9 offs =>
      intro H locs lsC cells slots hA hL hS
      obtain ⟨x, l, rfl, h⟩ := dm_1_i hF
      obtain ⟨q1, q2, q3⟩ := m6 pc d9 lo hi9 offs hi
      exact dm_simSw hx hb hd q1 q2 q3 (fun n hn => hn _ _ _ _ _ hA hL (dm_okt hS)) h
    | ireturn => exact hret _ hi (Or.inl rfl) hF
    | lreturn => exact hret _ hi (Or.inr (Or.inl rfl)) hF
    | areturn => exact hret _ hi (Or.inr (Or.inr (Or.inl rfl))) hF
    | return_ => exact hret _ hi (Or.inr (Or.inr (Or.inr rfl))) hF
    | invokevirtual k =>
      have h : dm_inv E O call bi (prog y0) _ pc ls st σ k := hF
      obtain ⟨⟨y, n, rk, cr⟩, hq, -⟩ := dm_so_i (show dm_so (E.2.1 (prog y0).1 k) _ from h)
      by_cases h3 : 3000 ≤ y
      · exact x4 call bi pc ls st σ _ k _ hbi hroom hi (Or.inl rfl) hq h3 h
      · rcases m7 pc _ k hi (Or.inl rfl) _ hq with h9 | h9
        · exact absurd h9 h3
        · exact hI hd hq h3 h9 h
    | invokestatic k =>
      have h : dm_inv E O call bi (prog y0) _ pc ls st σ k := hF
      obtain ⟨⟨y, n, rk, cr⟩, hq, -⟩ := dm_so_i (show dm_so (E.2.1 (prog y0).1 k) _ from h)
      by_cases h3 : 3000 ≤ y
      · exact x4 call bi pc ls st σ _ k _ hbi hroom hi (Or.inr (Or.inl rfl)) hq h3 h
      · rcases m7 pc _ k hi (Or.inr (Or.inl rfl)) _ hq with h9 | h9
        · exact absurd h9 h3
        · exact hI hd hq h3 h9 h
    | invokespecial k =>
      have h : dm_inv E O call bi (prog y0) _ pc ls st σ k := hF
      obtain ⟨⟨y, n, rk, cr⟩, hq, -⟩ := dm_so_i (show dm_so (E.2.1 (prog y0).1 k) _ from h)
      by_cases h3 : 3000 ≤ y
      · exact x4 call bi pc ls st σ _ k _ hbi hroom hi (Or.inr (Or.inr rfl)) hq h3 h
      · rcases m7 pc _ k hi (Or.inr (Or.inr rfl)) _ hq with h9 | h9
        · exact absurd h9 h3
        · exact hI hd hq h3 h9 h
    | _ => exact hF.elim
set_option maxHeartbeats 4000000 in
/-- a method's body -/
theorem dm_body {p : Program} {l : Launch} {e : Env} {s : State} {m : MethodId} {args : Array Value} {below : List Frame} {meth : Method} {c : Code} {c0 : Nat × Nat} {d y0 : Nat} {call : Nat → List dm_V → μ → (Option dm_V → μ → Prop) → Prop} {bi : Bool} {Q : Option dm_V → μ → Prop}
    (hIF : dm_IF O mcT cl ad ok B tl sz okM cnt lim St) (hctx : dm_ctx prog mn mb tb D dA cl B St y0 p s m args c) (hM : dm_MOK E prog mn mb tb cl St y0) (hX : dm_XOK E O prog mn mb tb D dA cl ad ok B tl sz okM cnt lim St y0) (hname : meth.name = (mn y0).name) (hr : meth.sig.returnType = (prog y0).2.2.1) (hlocks : meth.locks = false) (hbi : bi = true → 4 ≤ d)
    (hI : ∀ {pc : Nat} {ls : dm_L} {st : List dm_V} {σ : μ} {i : Instr} {k y n rk cr : Nat}, decode (mb y0) pc = .ok (i, 3) → E.2.1 (prog y0).1 k = some (y, n, rk, cr) → ¬ 3000 ≤ y → dm_link prog mn mb tb cl St (mn y0).cls i k y n cr →
      dm_inv E O call bi (prog y0) (dm_P p l e (dm_rm mcT d y0) s m args below meth c (MQ below (dm_Qc D dA cl ad ok B tl sz okM St Q) args s (mcT y0).1 (mcT y0).2 (fun q => B ≤ q)) ad ok (prog y0).2.1 (dm_Am D dA cl ad B tl sz okM cnt lim c0 (c0.1 + (mcT y0).1, c0.2 + (mcT y0).2) s)) pc ls st σ k → dm_P p l e (dm_rm mcT d y0) s m args below meth c (MQ below (dm_Qc D dA cl ad ok B tl sz okM St Q) args s (mcT y0).1 (mcT y0).2 (fun q => B ≤ q)) ad ok (prog y0).2.1 (dm_Am D dA cl ad B tl sz okM cnt lim c0 (c0.1 + (mcT y0).1, c0.2 + (mcT y0).2) s) pc ls st σ)
    {pc : Nat} {ls : dm_L} {st : List dm_V} {σ : μ} (h : dm_F E O call bi (prog y0) Q (dm_P p l e (dm_rm mcT d y0) s m args below meth c (MQ below (dm_Qc D dA cl ad ok B tl sz okM St Q) args s (mcT y0).1 (mcT y0).2 (fun q => B ≤ q)) ad ok (prog y0).2.1 (dm_Am D dA cl ad B tl sz okM cnt lim c0 (c0.1 + (mcT y0).1, c0.2 + (mcT y0).2) s)) pc ls st σ) : dm_P p l e (dm_rm mcT d y0) s m args below meth c (MQ below (dm_Qc D dA cl ad ok B tl sz okM St Q) args s (mcT y0).1 (mcT y0).2 (fun q => B ≤ q)) ad ok (prog y0).2.1 (dm_Am D dA cl ad B tl sz okM cnt lim c0 (c0.1 + (mcT y0).1, c0.2 + (mcT y0).2) s) pc ls st σ := by
  refine dm_inner (R := dm_rm mcT d y0) hIF hctx hM hX hname (fun q => ⟨hbi q, by have := hbi q; show 160 ≤ 40 * d; omega⟩) hI ?_ h
  obtain ⟨hoi, hol, hget, hput, hsta, hSt, hcl, hen, hlv⟩ := id hIF
  obtain ⟨hx, hb, hml, hown, hts, hK, hs, hBs⟩ := id hctx
  intro i hi hi2 hF
  have hd := hM.2.1 pc i hi
  have hret : ∀ {H : Heap} {locs : List Loc} {lsC : Array Slot} {cells slots : Nat} {r : Option dm_V} {g : JFrame}, dm_Am D dA cl ad B tl sz okM cnt lim c0 (c0.1 + (mcT y0).1, c0.2 + (mcT y0).2) s σ H locs cells slots → Q r σ → (∀ v, r = some v → ok v) →
      ((∀ t : State, t.heap = H → s.WarmedH t.vm → dm_Qc D dA cl ad ok B tl sz okM St Q args s (.returned (r.map (dm_cv ad))) t) → (∀ q ∈ locs, (fun q => B ≤ q) q.base) → W p l e (dm_rm mcT d y0) s m args below meth c H locs (mcT y0).1 (mcT y0).2 (MQ below (dm_Qc D dA cl ad ok B tl sz okM St Q) args s (mcT y0).1 (mcT y0).2 (fun q => B ≤ q)) g) →
      W p l e (dm_rm mcT d y0) s m args below meth c H locs cells slots (MQ below (dm_Qc D dA cl ad ok B tl sz okM St Q) args s (mcT y0).1 (mcT y0).2 (fun q => B ≤ q)) g := by
    intro H locs lsC cells slots r g hA hq hok k
    obtain ⟨a1, a2, a3, a4, a5, a6, a7, a8⟩ := id hA
    obtain ⟨z1, z2⟩ := hcl σ a5
    rw [a8] at z1 z2
    have z1 : (cnt σ).1 ≤ c0.1 + (mcT y0).1 := z1
    have z2 : (cnt σ).2 ≤ c0.2 + (mcT y0).2 := z2
    refine W.widen (k := (mcT y0).1) (n := (mcT y0).2) (by omega) (by omega) (k (fun t ht hW => ⟨⟨r, σ, rfl, hq, hok, hA.end hK hBs hSt hs ht hW⟩, a3.F ht⟩) a3.2.2)
  cases i with
  | ireturn =>
    intro H locs lsC cells slots hA hL hS
    unfold dm_FC at hF
    dsimp only at hF
    split at hF
    · rename_i v hv
      exact hret (lsC := lsC) hA hF (fun v hv => by cases hv; exact hoi _) (fun k1 k2 => W.iret hx hb (hr.trans hv) k1 k2 hd hlocks)
    · rename_i v hv
      exact hret (lsC := lsC) hA hF (fun v hv => by cases hv; exact hoi _) (fun k1 k2 => dm_zret hx hb (hr.trans hv) k1 k2 hlocks hd)
    · exact hF.elim
  | lreturn =>
    intro H locs lsC cells slots hA hL hS
    unfold dm_FC at hF
    dsimp only at hF
    split at hF
    · rename_i v hv
      exact hret (lsC := lsC) hA hF (fun v hv => by cases hv; exact hol _) (fun k1 k2 => W.lret hx hb (hr.trans hv) k1 k2 hd hlocks)
    · exact hF.elim
  | areturn =>
    intro H locs lsC cells slots hA hL hS
    unfold dm_FC at hF
    dsimp only at hF
    split at hF
    · rename_i t i C hv
      exact hret (lsC := lsC) hA hF (fun v hv => by cases hv; exact hS _ List.mem_cons_self) (fun k1 k2 => W.aret hx hb (hr.trans hv) (Or.inl ⟨C, rfl⟩) (Or.inr ⟨_, rfl⟩) k1 k2 hd hlocks)
    · exact hF.elim
  | return_ =>
    intro H locs lsC cells slots hA hL hS
    unfold dm_FC at hF
    dsimp only at hF
    split at hF
    · rename_i hv
      exact hret (lsC := lsC) hA hF (fun v hv => by cases hv) (fun k1 k2 => W.vret hx hb (hr.trans hv) k1 k2 hd hlocks)
    · exact hF.elim
  | _ => exact absurd hi2 (by rintro (h | h | h | h) <;> cases h)
end SIMZ
