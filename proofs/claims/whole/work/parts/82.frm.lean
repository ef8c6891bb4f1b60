/-! THE LAW'S FRAME: calls that make nothing leave the room as it is -/
section SIML0
variable {μ : Type} (E : dm_E) (O : dm_O μ) (prog : Nat → dm_M) (mn : Nat → MethodName) (mb : Nat → ByteArray) (tb : List Cond) (mcT : Nat → Nat × Nat)
variable (D : va_G) (dA : FieldType → ClassId) (cl : List vw_C) (ad : Nat → Nat → Nat) (ok : dm_V → Prop) (B : Nat) (tl : μ → List (dm_R × dm_C)) (sz : μ → Nat → Prop) (okM : μ → Prop) (cnt lim : μ → Nat × Nat) (St : State → Heap → Prop)
def dm_IFw : Prop := (∀ x, ok (vi x)) ∧ (∀ x, ok (vl x)) ∧ dm_hget O ok tl okM ∧ dm_hput O ok cl ad tl sz okM cnt lim ∧ dm_hsta O ok cl tl sz okM cnt lim ∧ dm_hSt B St ∧ (∀ σ, okM σ → (cnt σ).1 ≤ (lim σ).1 ∧ (cnt σ).2 ≤ (lim σ).2) ∧
  (∀ σ y, okM σ → O.2.2.2.2.2.2.1 σ y = true → okM (O.2.2.2.2.2.2.2.1 σ y) ∧ tl (O.2.2.2.2.2.2.2.1 σ y) = tl σ ∧ (∀ n, sz σ n → sz (O.2.2.2.2.2.2.2.1 σ y) n) ∧ cnt (O.2.2.2.2.2.2.2.1 σ y) = cnt σ ∧ True ∧ (cnt σ).1 + (mcT y).1 ≤ (lim σ).1 ∧ (cnt σ).2 + (mcT y).2 ≤ (lim σ).2) ∧
  (∀ σ σ' y, okM σ → okM σ' → O.2.2.2.2.2.2.1 σ y = true → okM (O.2.2.2.2.2.2.2.2 σ σ' y) ∧ tl (O.2.2.2.2.2.2.2.2 σ σ' y) = tl σ' ∧ (∀ n, sz σ' n → sz (O.2.2.2.2.2.2.2.2 σ σ' y) n) ∧ cnt (O.2.2.2.2.2.2.2.2 σ σ' y) = ((cnt σ).1 + (mcT y).1, (cnt σ).2 + (mcT y).2) ∧ lim (O.2.2.2.2.2.2.2.2 σ σ' y) = lim σ)
end SIML0
section SIML1
variable {μ : Type} {E : dm_E} {O : dm_O μ} {prog : Nat → dm_M} {mn : Nat → MethodName} {mb : Nat → ByteArray} {tb : List Cond} {mcT : Nat → Nat × Nat}
variable {D : va_G} {dA : FieldType → ClassId} {cl : List vw_C} {ad : Nat → Nat → Nat} {ok : dm_V → Prop} {B : Nat} {tl : μ → List (dm_R × dm_C)} {sz : μ → Nat → Prop} {okM : μ → Prop} {cnt lim : μ → Nat × Nat} {St : State → Heap → Prop}
set_option maxHeartbeats 4000000 in
/-- a call -/
theorem dm_simIL {p : Program} {l : Launch} {e : Env} {R : Room} {s : State} {m : MethodId} {args : Array Value} {below : List Frame} {meth : Method} {c : Code} {Qw : State → Prop} {c0 : Nat × Nat} {d y0 : Nat} {call : Nat → List dm_V → μ → (Option dm_V → μ → Prop) → Prop} {bi : Bool}
    (hIF : dm_IFw O mcT cl ad ok B tl sz okM cnt lim St) (htb : ∀ w ∈ tb, (w.onTables && w.keeps) = true ∨ ∃ ty, w = .arrayClass ty) (hRf : d + 1 ≤ R.frames) (hRl : 40 * (d + 1) ≤ R.locals) (hctx : dm_ctx prog mn mb tb D dA cl B St y0 p s m args c)
    (hcall : ∀ y av σ Q, call y av σ Q → okM σ → (∀ v ∈ av, ok v) → av.length ≤ (prog y).2.1 → dm_cat av = av.length → Met l (mn y) (dm_ws prog mn mb tb y) (dm_rm mcT d y) (dm_Pc D dA cl ad B tl sz okM St av σ) (dm_Qc D dA cl ad ok B tl sz okM St Q) (mcT y).1 (mcT y).2 (fun q => B ≤ q))
    {pc : Nat} {ls : dm_L} {st : List dm_V} {σ : μ} {i : Instr} {k y n rk cr : Nat} (hd : decode (mb y0) pc = .ok (i, 3)) (hq : E.2.1 (prog y0).1 k = some (y, n, rk, cr)) (hy : ¬ 3000 ≤ y) (hlk : dm_link prog mn mb tb cl St (mn y0).cls i k y n cr)
    (h : dm_inv E O call bi (prog y0) (dm_P p l e R s m args below meth c Qw ad ok (prog y0).2.1 (dm_Am D dA cl ad B tl sz okM cnt lim c0 (c0.1 + R.cells, c0.2 + R.slots) s)) pc ls st σ k) : dm_P p l e R s m args below meth c Qw ad ok (prog y0).2.1 (dm_Am D dA cl ad B tl sz okM cnt lim c0 (c0.1 + R.cells, c0.2 + R.slots) s) pc ls st σ := by
  intro H locs lsC cells slots hA hL hS
  obtain ⟨hoi, hol, hget, hput, hsta, hSt, hcl, hen, hlv⟩ := hIF
  obtain ⟨hx, hb, hml, hown, hts, hK, hs, hBs⟩ := hctx
  obtain ⟨g1, g2, g3, g4, h⟩ := dm_inv_i hq hy h
  obtain ⟨a1, a2, a3, a4, a5, a6, a7, a8⟩ := id hA
  obtain ⟨n1, n2, n3, n4, n5, n6, n7⟩ := hen σ y a5 g4
  have hlen : ((st.take n).reverse).length = n := by rw [List.length_reverse, List.length_take]; omega
  have hcat : dm_cat (st.take n).reverse = (st.take n).reverse.length := by rw [dm_cat_rev, g3, hlen]
  have hokA : ∀ v ∈ (st.take n).reverse, ok v := fun v hv => hS v (List.mem_of_mem_take (List.mem_reverse.mp hv))
  have hokR : ∀ v ∈ st.drop n, ok v := fun v hv => hS v (List.mem_of_mem_drop hv)
  have hcat8 : (((st.drop n).map (dm_cv ad)).map fun v => v.category).sum ≤ 8 := by rw [dm_cat_sum]; exact g2
  have hf : cells + (mcT y).1 ≤ R.cells ∧ slots + (mcT y).2 ≤ R.slots := by
    rw [a8] at n6 n7
    have n6 : (cnt σ).1 + (mcT y).1 ≤ c0.1 + R.cells := n6
    have n7 : (cnt σ).2 + (mcT y).2 ≤ c0.2 + R.slots := n7
    omega
  have hts' : ∀ w ∈ dm_ws prog mn mb tb y0, w ∈ tb → w.before args s = true := fun w _ h => hts w h
  have hG : dm_callee prog mn mb tb y n ∨ (∃ n', dm_callee prog mn mb tb y n') → GoodIn tb (dm_ws prog mn mb tb y) := by
    intro hcal w hw
    have hc : Cond.code (mn y) (mb y) (prog y).2.1 (prog y).2.2.1 ∈ tb := by
      rcases hcal with hcal | ⟨_, hcal⟩ <;> exact hcal.1
    have hm : w ∈ tb := by
      rcases List.mem_cons.mp hw with e9 | e9
      · rw [e9]; exact hc
      · exact e9
    exact ⟨hm, htb w hm⟩
  have hR : ∀ n', dm_callee prog mn mb tb y n' → (dm_rm mcT d y).frames + 1 ≤ R.frames ∧ 8 + ((prog y).2.1 + 11) + (dm_rm mcT d y).locals ≤ R.locals := by
    intro n' hcal
    refine ⟨hRf, ?_⟩
    show 8 + ((prog y).2.1 + 11) + 40 * d ≤ R.locals
    have := hcal.2.2.2.1
    omega
  have hlv' : ∀ σ', okM σ' → okM (O.2.2.2.2.2.2.2.2 σ σ' y) ∧ tl (O.2.2.2.2.2.2.2.2 σ σ' y) = tl σ' ∧ (∀ n, sz σ' n → sz (O.2.2.2.2.2.2.2.2 σ σ' y) n) ∧ cnt (O.2.2.2.2.2.2.2.2 σ σ' y) = ((cnt σ).1 + (mcT y).1, (cnt σ).2 + (mcT y).2) ∧ lim (O.2.2.2.2.2.2.2.2 σ σ' y) = lim σ := fun σ' h9 => hlv σ σ' y a5 h9 g4
  have hstk := dm_stk ad st n
  have hpre := hA.call hK hBs hSt hs n1 n2 n3 (st.take n).reverse
  have S : CallFix p m c (mb y0) (prog y0).2.1 s args tb (mn y0).cls := ⟨hx, hb, hml, hown, hts⟩
  have hnA : (st.take n).reverse.length ≤ (prog y).2.1 := by
    rw [hlen]
    rcases hlk with ⟨-, n', q1, q2, -⟩ | ⟨-, q2, -⟩ | ⟨-, n', q1, q2, -⟩ <;> exact q2
  have hMet := hcall y _ _ _ (dm_rc_K h) n1 hokA hnA hcat
  rcases hlk with ⟨rfl, n', rfl, -, hcal, hc99, hcn, ⟨T, N, hcr⟩, l1, l2, l3⟩ | ⟨rfl, -, hcal, l1, l2⟩ | ⟨rfl, n', rfl, -, hcal, hc99, hini, hret, l1, l2⟩
  · obtain ⟨r, rest, v0, hav, hv0⟩ := dm_rc_r hc99 h
    have hokr : ok (.inr (.inr (some r))) := hokA _ (by rw [hav]; exact List.mem_cons_self)
    obtain ⟨-, q0, fs, b1, -⟩ := hget σ r cr 0 v0 a5 hokr hv0
    rw [hav] at hstk hpre hMet hlen
    have hrecv := va_recv hK a1 hcr (dm_wd_at (ad := ad) (dA := dA) b1)
    refine dm_after (va_runV (As := rest.map (dm_cv ad)) (b := ad r.1 r.2) S hMet ⟨callB_of (ws' := tb) n' hts (hG (Or.inr ⟨_, hcal⟩)) rfl rfl rfl (hts _ hcal.2.1) (hts _ l1) hcal.2.2.1 (hR _ hcal), hts _ l2, hts _ l3⟩ ⟨dm_Pc.blind hSt _ _, hrecv, fun U hU hW => hpre U hU hW⟩ rfl ?_ hL.1.1 ?_ (lv_room hcat8) hd hf) hA hL hokR hlv' (fun r σ' hq9 => dm_rt_i hq9)
    · rw [List.length_map]
      have : (Sum.inr (Sum.inr (some r)) :: rest : List dm_V).length = n' + 1 := hlen
      simpa using this
    · show st.map (dm_cv ad) = _
      rw [hstk]
      simp [dm_cv]
  · refine dm_after (va_runS (As := ((st.take n).reverse).map (dm_cv ad)) S hMet ⟨callB_of (ws' := tb) n hts (hG (Or.inl hcal)) rfl rfl rfl (hts _ hcal.2.1) (hts _ l1) hcal.2.2.1 (hR _ hcal), hts _ l2⟩ ⟨dm_Pc.blind hSt _ _, fun U hU hW => hpre U hU hW⟩ rfl ?_ hL.1.1 ?_ (lv_room hcat8) hd hf) hA hL hokR hlv' (fun r σ' hq9 => dm_rt_i hq9)
    · rw [List.length_map]; exact hlen
    · exact hstk
  · obtain ⟨r, rest, v0, hav, hv0⟩ := dm_rc_r hc99 h
    rw [hav] at hstk hpre hMet hlen
    have hw : dm_ws prog mn mb tb y = Cond.code (mn y) (mb y) (prog y).2.1 none :: tb := by unfold dm_ws; rw [hret]
    have hlen' : (rest.map (dm_cv ad)).length = n' := by
      rw [List.length_map]
      have : (Sum.inr (Sum.inr (some r)) :: rest : List dm_V).length = n' + 1 := hlen
      simpa using this
    have hstk' : (F0 m pc lsC (st.map (dm_cv ad))).stack = (rest.map (dm_cv ad)).reverse ++ .ref (ad r.1 r.2) :: (st.drop (n' + 1)).map (dm_cv ad) := by
      show st.map (dm_cv ad) = _
      rw [hstk]
      simp [dm_cv]
    rcases l2 with l2 | ⟨host, l2⟩
    · exact dm_after (va_runI (As := rest.map (dm_cv ad)) (b := ad r.1 r.2) S hMet ⟨callB_of (ws' := tb) n' hts (hG (Or.inr ⟨_, hcal⟩)) hw rfl rfl (hts _ hcal.2.1) (hts _ l2) hcal.2.2.1 (hR _ hcal), hini, hts _ l1⟩ ⟨dm_Pc.blind hSt _ _, fun U hU hW => hpre U hU hW⟩ rfl hlen' hL.1.1 hstk' (lv_room hcat8) hd hf) hA hL hokR hlv' (fun r σ' hq9 => dm_rt_i hq9)
    · exact dm_after (va_runIN (As := rest.map (dm_cv ad)) (b := ad r.1 r.2) S hMet ⟨va_cnB (ws' := tb) n' hts (hG (Or.inr ⟨_, hcal⟩)) hw rfl rfl (l2 s hs) (hts _ hcal.2.1) hcal.2.2.1 (hR _ hcal), hini, hts _ l1⟩ ⟨dm_Pc.blind hSt _ _, fun U hU hW => hpre U hU hW⟩ rfl hlen' hL.1.1 hstk' (lv_room hcat8) hd hf) hA hL hokR hlv' (fun r σ' hq9 => dm_rt_i hq9)
end SIML1
section SIML2
variable {μ : Type} {E : dm_E} {O : dm_O μ} {prog : Nat → dm_M} {mn : Nat → MethodName} {mb : Nat → ByteArray} {tb : List Cond} {mcT : Nat → Nat × Nat}
variable {D : va_G} {dA : FieldType → ClassId} {cl : List vw_C} {ad : Nat → Nat → Nat} {ok : dm_V → Prop} {B : Nat} {tl : μ → List (dm_R × dm_C)} {sz : μ → Nat → Prop} {okM : μ → Prop} {cnt lim : μ → Nat × Nat} {St : State → Heap → Prop}
set_option maxHeartbeats 4000000 in
/-- an instruction that is no return -/
theorem dm_innerL {p : Program} {l : Launch} {e : Env} {R : Room} {s : State} {m : MethodId} {args : Array Value} {below : List Frame} {meth : Method} {c : Code} {Qw : State → Prop} {c0 : Nat × Nat} {y0 : Nat} {call : Nat → List dm_V → μ → (Option dm_V → μ → Prop) → Prop} {bi : Bool} {Q : Option dm_V → μ → Prop}
    (hIF : dm_IFw O mcT cl ad ok B tl sz okM cnt lim St) (hctx : dm_ctx prog mn mb tb D dA cl B St y0 p s m args c) (hM : dm_MOK E prog mn mb tb cl St y0) (hX : dm_XOK E O prog mn mb tb D dA cl ad ok B tl sz okM cnt lim St y0) (hname : meth.name = (mn y0).name) (hbi : bi = true → 4 ≤ R.frames ∧ 160 ≤ R.locals)
    (hI : ∀ {pc : Nat} {ls : dm_L} {st : List dm_V} {σ : μ} {i : Instr} {k y n rk cr : Nat}, decode (mb y0) pc = .ok (i, 3) → E.2.1 (prog y0).1 k = some (y, n, rk, cr) → ¬ 3000 ≤ y → dm_link prog mn mb tb cl St (mn y0).cls i k y n cr →
      dm_inv E O call bi (prog y0) (dm_P p l e R s m args below meth c Qw ad ok (prog y0).2.1 (dm_Am D dA cl ad B tl sz okM cnt lim c0 (c0.1 + R.cells, c0.2 + R.slots) s)) pc ls st σ k → dm_P p l e R s m args below meth c Qw ad ok (prog y0).2.1 (dm_Am D dA cl ad B tl sz okM cnt lim c0 (c0.1 + R.cells, c0.2 + R.slots) s) pc ls st σ)
    {pc : Nat} {ls : dm_L} {st : List dm_V} {σ : μ}
    (hret : ∀ i, (prog y0).2.2.2 pc = some i → (i = .ireturn ∨ i = .lreturn ∨ i = .areturn ∨ i = .return_) → dm_FC E O call bi (prog y0) Q (dm_P p l e R s m args below meth c Qw ad ok (prog y0).2.1 (dm_Am D dA cl ad B tl sz okM cnt lim c0 (c0.1 + R.cells, c0.2 + R.slots) s)) pc ls st σ i → dm_P p l e R s m args below meth c Qw ad ok (prog y0).2.1 (dm_Am D dA cl ad B tl sz okM cnt lim c0 (c0.1 + R.cells, c0.2 + R.slots) s) pc ls st σ)
    (h : dm_F E O call bi (prog y0) Q (dm_P p l e R s m args below meth c Qw ad ok (prog y0).2.1 (dm_Am D dA cl ad B tl sz okM cnt lim c0 (c0.1 + R.cells, c0.2 + R.slots) s)) pc ls st σ) : dm_P p l e R s m args below meth c Qw ad ok (prog y0).2.1 (dm_Am D dA cl ad B tl sz okM cnt lim c0 (c0.1 + R.cells, c0.2 + R.slots) s) pc ls st σ := by
  obtain ⟨hoi, hol, hget, hput, hsta, hSt, hcl, hen, hlv⟩ := id hIF
  obtain ⟨hx, hb, hml, hown, hts, hK, hs, hBs⟩ := id hctx
  obtain ⟨m1, m2, m3, m4, m5, m6, m7⟩ := hM
  obtain ⟨x1, x2, x3, x4, x5⟩ := hX p l e R s m args below meth c Qw c0 hctx
  have hroom : ∀ σ H locs cells slots, dm_Am D dA cl ad B tl sz okM cnt lim c0 (c0.1 + R.cells, c0.2 + R.slots) s σ H locs cells slots → cells ≤ R.cells ∧ slots ≤ R.slots := by
    intro σ H locs cells slots hA
    obtain ⟨a1, a2, a3, a4, a5, a6, a7, a8⟩ := id hA
    obtain ⟨z1, z2⟩ := hcl σ a5
    rw [a8] at z1 z2
    have z1 : (cnt σ).1 ≤ c0.1 + R.cells := z1
    have z2 : (cnt σ).2 ≤ c0.2 + R.slots := z2
    omega
  obtain ⟨i, hi, hF⟩ := dm_so_i h
  clear h
  have hd := m2 pc i hi
  unfold dm_FI at hF
  split at hF
  · exact dm_simA hx hb hoi hol x1 x2 hi hd hF
  · exact dm_simM hx hb hts hown hK hoi hol (fun k ci kk hk => by
      obtain ⟨C, T, N, q1, q2, q3, q4⟩ := m3 k ci kk hk
      exact ⟨C, T, N, q1, q2, hts _ q3, q4⟩) hget hput x3 hsta (fun k ci kk C T N hk h1 h2 h3 => by
      rw [hname]; exact m4 pc k ci kk C T N (by rw [hi, hk]) h1 h2 h3) hd (fun h9 h8 => x5 pc ls st σ i hi h8 h9) hF
  · cases i with
    | if_icmp cd off =>
      intro H locs lsC cells slots hA hL hS
      obtain ⟨x, y, l, rfl, h⟩ := dm_2_i hF
      have hto : 0 ≤ (pc : Int) + off := m5 pc _ hi
      have ht : (pc : Int) + off = ((((pc : Int) + off).toNat : Nat) : Int) := (Int.toNat_of_nonneg hto).symm
      rw [dm_tg_eq ht] at h
      have hS' := dm_okt (dm_okt hS)
      cases cd with
      | eq =>
        have h : if x = y then _ else _ := h
        exact lv_icmp_eq hx hb hd ht (fun q => by rw [if_pos q] at h; exact h _ _ _ _ _ hA hL hS') (fun q => by rw [if_neg q] at h; exact h _ _ _ _ _ hA hL hS')
      | ne =>
        have h : if x = y then _ else _ := h
        exact lv_icmp_ne hx hb hd ht (fun q => by rw [if_neg q] at h; exact h _ _ _ _ _ hA hL hS') (fun q => by rw [if_pos q] at h; exact h _ _ _ _ _ hA hL hS')
      | lt =>
        have h : if x < y then _ else _ := h
        exact lv_icmp_lt hx hb hd ht (fun q => by rw [if_pos q] at h; exact h _ _ _ _ _ hA hL hS') (fun q => by rw [if_neg q] at h; exact h _ _ _ _ _ hA hL hS')
      | ge =>
        have h : if x < y then _ else _ := h
        exact lv_icmp_ge hx hb hd ht (fun q => by rw [if_neg (Int32.not_lt.mpr q)] at h; exact h _ _ _ _ _ hA hL hS') (fun q => by rw [if_pos (Int32.not_le.mp q)] at h; exact h _ _ _ _ _ hA hL hS')
      | gt =>
        have h : if y < x then _ else _ := h
        exact lv_icmp_gt hx hb hd ht (fun q => by rw [if_pos q] at h; exact h _ _ _ _ _ hA hL hS') (fun q => by rw [if_neg q] at h; exact h _ _ _ _ _ hA hL hS')
      | le =>
        have h : if y < x then _ else _ := h
        exact lv_icmp_le hx hb hd ht (fun q => by rw [if_neg (Int32.not_lt.mpr q)] at h; exact h _ _ _ _ _ hA hL hS') (fun q => by rw [if_pos (Int32.not_le.mp q)] at h; exact h _ _ _ _ _ hA hL hS')
    | ifCond cd off =>
      intro H locs lsC cells slots hA hL hS
      obtain ⟨x, l, rfl, h⟩ := dm_1_i hF
      have hto : 0 ≤ (pc : Int) + off := m5 pc _ hi
      have ht : (pc : Int) + off = ((((pc : Int) + off).toNat : Nat) : Int) := (Int.toNat_of_nonneg hto).symm
      rw [dm_tg_eq ht] at h
      have hS' := dm_okt hS
      cases cd with
      | eq =>
        have h : if x = 0 then _ else _ := h
        exact lv_if_eq hx hb hd ht (fun q => by rw [if_pos q] at h; exact h _ _ _ _ _ hA hL hS') (fun q => by rw [if_neg q] at h; exact h _ _ _ _ _ hA hL hS')
      | ne =>
        have h : if x = 0 then _ else _ := h
        exact lv_if_ne hx hb hd ht (fun q => by rw [if_neg q] at h; exact h _ _ _ _ _ hA hL hS') (fun q => by rw [if_pos q] at h; exact h _ _ _ _ _ hA hL hS')
      | lt =>
        have h : if x < 0 then _ else _ := h
        exact lv_if_lt hx hb hd ht (fun q => by rw [if_pos q] at h; exact h _ _ _ _ _ hA hL hS') (fun q => by rw [if_neg q] at h; exact h _ _ _ _ _ hA hL hS')
      | ge =>
        have h : if x < 0 then _ else _ := h
        exact lv_if_ge hx hb hd ht (fun q => by rw [if_neg (Int32.not_lt.mpr q)] at h; exact h _ _ _ _ _ hA hL hS') (fun q => by rw [if_pos (Int32.not_le.mp q)] at h; exact h _ _ _ _ _ hA hL hS')
      | gt =>
        have h : if 0 < x then _ else _ := h
        exact lv_if_gt hx hb hd ht (fun q => by rw [if_pos q] at h; exact h _ _ _ _ _ hA hL hS') (fun q => by rw [if_neg q] at h; exact h _ _ _ _ _ hA hL hS')
      | le =>
        have h : if 0 < x then _ else _ := h
        exact lv_if_le hx hb hd ht (fun q => by rw [if_neg (Int32.not_lt.mpr q)] at h; exact h _ _ _ _ _ hA hL hS') (fun q => by rw [if_pos (Int32.not_le.mp q)] at h; exact h _ _ _ _ _ hA hL hS')
    | goto off =>
      intro H locs lsC cells slots hA hL hS
      obtain ⟨n, ht, h⟩ := dm_tg_i hF
      exact lv_goto hx hb hd ht (h _ _ _ _ _ hA hL hS)
    | tableswitch d9 lo hi9 offs =>
      intro H locs lsC cells slots hA hL hS
      obtain ⟨x, l, rfl, h⟩ := dm_1_i hF
      obtain ⟨q1, q2, q3⟩ := m6 pc d9 lo hi9 offs hi
      exact dm_simSw hx hb hd q1 q2 q3 (fun n hn => hn _ _ _ _ _ hA hL (dm_okt hS)) h
    | ireturn => exact hret _ hi (Or.inl rfl) hF
    | lreturn => exact hret _ hi (Or.inr (Or.inl rfl)) hF
    | areturn => exact hret _ hi (Or.inr (Or.inr (Or.inl rfl))) hF
    | return_ => exact hret _ hi (Or.inr (Or.inr (Or.inr rfl))) hF
    | invokevirtual k =>
      have h : dm_inv E O call bi (prog y0) _ pc ls st σ k := hF
      obtain ⟨⟨y, n, rk, cr⟩, hq, -⟩ := dm_so_i (show dm_so (E.2.1 (prog y0).1 k) _ from h)
      by_cases h3 : 3000 ≤ y
      · exact x4 call bi pc ls st σ _ k _ hbi hroom hi (Or.inl rfl) hq h3 h
      · rcases m7 pc _ k hi (Or.inl rfl) _ hq with h9 | h9
        · exact absurd h9 h3
        · exact hI hd hq h3 h9 h
    | invokestatic k =>
      have h : dm_inv E O call bi (prog y0) _ pc ls st σ k := hF
      obtain ⟨⟨y, n, rk, cr⟩, hq, -⟩ := dm_so_i (show dm_so (E.2.1 (prog y0).1 k) _ from h)
      by_cases h3 : 3000 ≤ y
      · exact x4 call bi pc ls st σ _ k _ hbi hroom hi (Or.inr (Or.inl rfl)) hq h3 h
      · rcases m7 pc _ k hi (Or.inr (Or.inl rfl)) _ hq with h9 | h9
        · exact absurd h9 h3
        · exact hI hd hq h3 h9 h
    | invokespecial k =>
      have h : dm_inv E O call bi (prog y0) _ pc ls st σ k := hF
      obtain ⟨⟨y, n, rk, cr⟩, hq, -⟩ := dm_so_i (show dm_so (E.2.1 (prog y0).1 k) _ from h)
      by_cases h3 : 3000 ≤ y
      · exact x4 call bi pc ls st σ _ k _ hbi hroom hi (Or.inr (Or.inr rfl)) hq h3 h
      · rcases m7 pc _ k hi (Or.inr (Or.inr rfl)) _ hq with h9 | h9
        · exact absurd h9 h3
        · exact hI hd hq h3 h9 h
    | _ => exact hF.elim
end SIML2
theorem m2_IFw (L : Nat) (xs : Nat → Int32) (ad : Nat → Nat → Nat) (B : Nat) {St : State → Heap → Prop} (hSt : dm_hSt B St) {K Lm : Nat × Nat} (hK : K.1 ≤ Lm.1 ∧ K.2 ≤ Lm.2) : dm_IFw (m2O L xs) (fun _ => (0, 0)) vwCl ad m2_ok B m2_tl (fun _ _ => True) m2_okM (fun _ => K) (fun _ => Lm) St :=
  ⟨fun x => trivial, fun x => trivial, m2_hget L xs, fun σ r ci k v σ' h1 h2 h3 h4 => by
    obtain ⟨a, b, -, -, e, f⟩ := m2_hput L xs ad σ r ci k v σ' h1 h2 h3 h4
    exact ⟨a, b, rfl, rfl, e, f⟩, fun σ r ty n x j v σ' h1 h2 h3 h4 h5 h6 => by
    obtain ⟨a, b, -, -, e, f⟩ := m2_hsta L xs σ r ty n x j v σ' h1 h2 h3 h4 h5 h6
    exact ⟨a, b, rfl, rfl, e, f⟩, hSt, fun σ _ => hK, fun σ y ho _ => ⟨ho, rfl, fun n h => h, rfl, trivial, hK.1, hK.2⟩, fun σ σ' y ho ho' _ => ⟨ho', rfl, fun n h => h, rfl, rfl⟩⟩
