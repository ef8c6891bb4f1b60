section SIMT
variable {μ : Type} {E : dm_E} {O : dm_O μ} {prog : Nat → dm_M} {mn : Nat → MethodName} {mb : Nat → ByteArray} {tb : List Cond} {mcT : Nat → Nat × Nat}
variable {D : va_G} {dA : FieldType → ClassId} {cl : List vw_C} {ad : Nat → Nat → Nat} {ok : dm_V → Prop} {B : Nat} {tl : μ → List (dm_R × dm_C)} {sz : μ → Nat → Prop} {okM : μ → Prop} {cnt lim : μ → Nat × Nat} {St : State → Heap → Prop}
/-- the general case of a call -/
theorem dm_inv_i {call : Nat → List dm_V → μ → (Option dm_V → μ → Prop) → Prop} {bi : Bool} {M : dm_M} {P : Nat → dm_L → List dm_V → μ → Prop} {pc : Nat} {ls : dm_L} {st : List dm_V} {σ : μ} {k y n rk c : Nat} (hq : E.2.1 M.1 k = some (y, n, rk, c)) (hy : ¬ 3000 ≤ y) (h : dm_inv E O call bi M P pc ls st σ k) :
    n ≤ st.length ∧ dm_cat (st.drop n) ≤ 8 ∧ dm_cat (st.take n) = n ∧ O.2.2.2.2.2.2.1 σ y = true ∧ dm_rc O σ c (st.take n).reverse (call y (st.take n).reverse (O.2.2.2.2.2.2.2.1 σ y) (fun r σ' => dm_rt rk r (fun vs => P (pc + 3) ls (vs ++ st.drop n) (O.2.2.2.2.2.2.2.2 σ σ' y)))) := by
  obtain ⟨q, h1, h⟩ := dm_so_i h
  cases hq.symm.trans h1
  split at h
  · rename_i e; cases e; omega
  · rename_i e; cases e; omega
  · rename_i e; cases e; omega
  · rename_i e; cases e; omega
  · rename_i e; cases e; omega
  · rename_i e
    cases e
    obtain ⟨g1, h⟩ := dm_is_i h
    obtain ⟨g2, h⟩ := dm_is_i h
    obtain ⟨g3, h⟩ := dm_is_i h
    obtain ⟨g4, h⟩ := dm_is_i h
    exact ⟨Nat.le_of_ble_eq_true g1, Nat.le_of_ble_eq_true g2, Nat.eq_of_beq_eq_true g3, g4, h⟩
theorem dm_cat_rev : ∀ l : List dm_V, dm_cat l.reverse = dm_cat l := by
  have app : ∀ a b : List dm_V, dm_cat (a ++ b) = dm_cat a + dm_cat b := by
    intro a b
    induction a with
    | nil => simp [dm_cat]
    | cons x a ih =>
      rcases x with x | x | x <;> simp [dm_cat, ih] <;> omega
  intro l
  induction l with
  | nil => rfl
  | cons x l ih =>
    rw [List.reverse_cons, app, ih]
    rcases x with x | x | x <;> simp [dm_cat] <;> omega
theorem dm_rc_K {σ : μ} {c : Nat} {av : List dm_V} {K : Prop} (h : dm_rc O σ c av K) : K := by
  unfold dm_rc at h
  split at h
  · exact h
  · split at h
    · obtain ⟨_, _, h⟩ := dm_so_i h; exact h
    · exact h.elim
theorem dm_rc_r {σ : μ} {c : Nat} {av : List dm_V} {K : Prop} (hc : c ≠ 99) (h : dm_rc O σ c av K) : ∃ r rest v, av = .inr (.inr (some r)) :: rest ∧ O.1 σ r c 0 = some v := by
  unfold dm_rc at h
  split at h
  · rename_i e; exact absurd (Nat.eq_of_beq_eq_true e) hc
  · split at h
    · obtain ⟨v, h1, -⟩ := dm_so_i h; exact ⟨_, _, v, rfl, h1⟩
    · exact h.elim
set_option maxHeartbeats 4000000 in
/-- a call -/
theorem dm_simI {p : Program} {l : Launch} {e : Env} {R : Room} {s : State} {m : MethodId} {args : Array Value} {below : List Frame} {meth : Method} {c : Code} {Qw : State → Prop} {c0 : Nat × Nat} {d y0 : Nat} {call : Nat → List dm_V → μ → (Option dm_V → μ → Prop) → Prop} {bi : Bool}
    (hIF : dm_IF O mcT cl ad ok B tl sz okM cnt lim St) (htb : ∀ w ∈ tb, (w.onTables && w.keeps) = true ∨ ∃ ty, w = .arrayClass ty) (hRf : d + 1 ≤ R.frames) (hRl : 40 * (d + 1) ≤ R.locals) (hctx : dm_ctx prog mn mb tb D dA cl B St y0 p s m args c)
    (hcall : ∀ y av σ Q, call y av σ Q → okM σ → (∀ v ∈ av, ok v) → lim σ = ((cnt σ).1 + (mcT y).1, (cnt σ).2 + (mcT y).2) → av.length ≤ (prog y).2.1 → dm_cat av = av.length → Met l (mn y) (dm_ws prog mn mb tb y) (dm_rm mcT d y) (dm_Pc D dA cl ad B tl sz okM St av σ) (dm_Qc D dA cl ad ok B tl sz okM St Q) (mcT y).1 (mcT y).2 (fun q => B ≤ q))
    {pc : Nat} {ls : dm_L} {st : List dm_V} {σ : μ} {i : Instr} {k y n rk cr : Nat} (hd : decode (mb y0) pc = .ok (i, 3)) (hq : E.2.1 (prog y0).1 k = some (y, n, rk, cr)) (hy : ¬ 3000 ≤ y) (hlk : dm_link prog mn mb tb cl St (mn y0).cls i k y n cr)
    (h : dm_inv E O call bi (prog y0) (dm_P p l e R s m args below meth c Qw ad ok (prog y0).2.1 (dm_Am D dA cl ad B tl sz okM cnt lim c0 (c0.1 + R.cells, c0.2 + R.slots) s)) pc ls st σ k) : dm_P p l e R s m args below meth c Qw ad ok (prog y0).2.1 (dm_Am D dA cl ad B tl sz okM cnt lim c0 (c0.1 + R.cells, c0.2 + R.slots) s) pc ls st σ := by
  intro H locs lsC cells slots hA hL hS
  obtain ⟨hoi, hol, hget, hput, hsta, hSt, hcl, hen, hlv⟩ := hIF
  obtain ⟨hx, hb, hml, hown, hts, hK, hs, hBs⟩ := hctx
  obtain ⟨g1, g2, g3, g4, h⟩ := dm_inv_i hq hy h
  obtain ⟨a1, a2, a3, a4, a5, a6, a7, a8⟩ := id hA
  obtain ⟨n1, n2, n3, n4, n5, n6, n7⟩ := hen σ y a5 g4
  have hlen : ((st.take n).reverse).length = n := by rw [List.length_reverse, List.length_take]; omega
  have hcat : dm_cat (st.take n).reverse = (st.take n).reverse.length := by rw [dm_cat_rev, g3, hlen]
  have hokA : ∀ v ∈ (st.take n).reverse, ok v := fun v hv => hS v (List.mem_of_mem_take (List.mem_reverse.mp hv))
  have hokR : ∀ v ∈ st.drop n, ok v := fun v hv => hS v (List.mem_of_mem_drop hv)
  have hcat8 : (((st.drop n).map (dm_cv ad)).map fun v => v.category).sum ≤ 8 := by rw [dm_cat_sum]; exact g2
  have hf : cells + (mcT y).1 ≤ R.cells ∧ slots + (mcT y).2 ≤ R.slots := by
    rw [a8] at n6 n7
    have n6 : (cnt σ).1 + (mcT y).1 ≤ c0.1 + R.cells := n6
    have n7 : (cnt σ).2 + (mcT y).2 ≤ c0.2 + R.slots := n7
    omega
  have hts' : ∀ w ∈ dm_ws prog mn mb tb y0, w ∈ tb → w.before args s = true := fun w _ h => hts w h
  have hG : dm_callee prog mn mb tb y n ∨ (∃ n', dm_callee prog mn mb tb y n') → GoodIn tb (dm_ws prog mn mb tb y) := by
    intro hcal w hw
    have hc : Cond.code (mn y) (mb y) (prog y).2.1 (prog y).2.2.1 ∈ tb := by
      rcases hcal with hcal | ⟨_, hcal⟩ <;> exact hcal.1
    have hm : w ∈ tb := by
      rcases List.mem_cons.mp hw with e9 | e9
      · rw [e9]; exact hc
      · exact e9
    exact ⟨hm, htb w hm⟩
  have hR : ∀ n', dm_callee prog mn mb tb y n' → (dm_rm mcT d y).frames + 1 ≤ R.frames ∧ 8 + ((prog y).2.1 + 11) + (dm_rm mcT d y).locals ≤ R.locals := by
    intro n' hcal
    refine ⟨hRf, ?_⟩
    show 8 + ((prog y).2.1 + 11) + 40 * d ≤ R.locals
    have := hcal.2.2.2.1
    omega
  have hlv' : ∀ σ', okM σ' → okM (O.2.2.2.2.2.2.2.2 σ σ' y) ∧ tl (O.2.2.2.2.2.2.2.2 σ σ' y) = tl σ' ∧ (∀ n, sz σ' n → sz (O.2.2.2.2.2.2.2.2 σ σ' y) n) ∧ cnt (O.2.2.2.2.2.2.2.2 σ σ' y) = ((cnt σ).1 + (mcT y).1, (cnt σ).2 + (mcT y).2) ∧ lim (O.2.2.2.2.2.2.2.2 σ σ' y) = lim σ := fun σ' h9 => hlv σ σ' y a5 h9 g4
  have hstk := dm_stk ad st n
  have hpre := hA.call hK hBs hSt hs n1 n2 n3 (st.take n).reverse
  have S : CallFix p m c (mb y0) (prog y0).2.1 s args tb (mn y0).cls := ⟨hx, hb, hml, hown, hts⟩
  have hnA : (st.take n).reverse.length ≤ (prog y).2.1 := by
    rw [hlen]
    rcases hlk with ⟨-, n', q1, q2, -⟩ | ⟨-, q2, -⟩ | ⟨-, n', q1, q2, -⟩ <;> exact q2
  have hMet := hcall y _ _ _ (dm_rc_K h) n1 hokA (by rw [n4]; exact n5) hnA hcat
  rcases hlk with ⟨rfl, n', rfl, -, hcal, hc99, hcn, ⟨T, N, hcr⟩, l1, l2, l3⟩ | ⟨rfl, -, hcal, l1, l2⟩ | ⟨rfl, n', rfl, -, hcal, hc99, hini, hret, l1, l2⟩
  · obtain ⟨r, rest, v0, hav, hv0⟩ := dm_rc_r hc99 h
    have hokr : ok (.inr (.inr (some r))) := hokA _ (by rw [hav]; exact List.mem_cons_self)
    obtain ⟨-, q0, fs, b1, -⟩ := hget σ r cr 0 v0 a5 hokr hv0
    rw [hav] at hstk hpre hMet hlen
    have hrecv := va_recv hK a1 hcr (dm_wd_at (ad := ad) (dA := dA) b1)
    refine dm_after (va_runV (As := rest.map (dm_cv ad)) (b := ad r.1 r.2) S hMet ⟨callB_of (ws' := tb) n' hts (hG (Or.inr ⟨_, hcal⟩)) rfl rfl rfl (hts _ hcal.2.1) (hts _ l1) hcal.2.2.1 (hR _ hcal), hts _ l2, hts _ l3⟩ ⟨dm_Pc.blind hSt _ _, hrecv, fun U hU hW => hpre U hU hW⟩ rfl ?_ hL.1.1 ?_ (lv_room hcat8) hd hf) hA hL hokR hlv' (fun r σ' hq9 => dm_rt_i hq9)
    · rw [List.length_map]
      have : (Sum.inr (Sum.inr (some r)) :: rest : List dm_V).length = n' + 1 := hlen
      simpa using this
    · show st.map (dm_cv ad) = _
      rw [hstk]
      simp [dm_cv]
  · refine dm_after (va_runS (As := ((st.take n).reverse).map (dm_cv ad)) S hMet ⟨callB_of (ws' := tb) n hts (hG (Or.inl hcal)) rfl rfl rfl (hts _ hcal.2.1) (hts _ l1) hcal.2.2.1 (hR _ hcal), hts _ l2⟩ ⟨dm_Pc.blind hSt _ _, fun U hU hW => hpre U hU hW⟩ rfl ?_ hL.1.1 ?_ (lv_room hcat8) hd hf) hA hL hokR hlv' (fun r σ' hq9 => dm_rt_i hq9)
    · rw [List.length_map]; exact hlen
    · exact hstk
  · obtain ⟨r, rest, v0, hav, hv0⟩ := dm_rc_r hc99 h
    rw [hav] at hstk hpre hMet hlen
    have hw : dm_ws prog mn mb tb y = Cond.code (mn y) (mb y) (prog y).2.1 none :: tb := by unfold dm_ws; rw [hret]
    have hlen' : (rest.map (dm_cv ad)).length = n' := by
      rw [List.length_map]
      have : (Sum.inr (Sum.inr (some r)) :: rest : List dm_V).length = n' + 1 := hlen
      simpa using this
    have hstk' : (F0 m pc lsC (st.map (dm_cv ad))).stack = (rest.map (dm_cv ad)).reverse ++ .ref (ad r.1 r.2) :: (st.drop (n' + 1)).map (dm_cv ad) := by
      show st.map (dm_cv ad) = _
      rw [hstk]
      simp [dm_cv]
    rcases l2 with l2 | ⟨host, l2⟩
    · exact dm_after (va_runI (As := rest.map (dm_cv ad)) (b := ad r.1 r.2) S hMet ⟨callB_of (ws' := tb) n' hts (hG (Or.inr ⟨_, hcal⟩)) hw rfl rfl (hts _ hcal.2.1) (hts _ l2) hcal.2.2.1 (hR _ hcal), hini, hts _ l1⟩ ⟨dm_Pc.blind hSt _ _, fun U hU hW => hpre U hU hW⟩ rfl hlen' hL.1.1 hstk' (lv_room hcat8) hd hf) hA hL hokR hlv' (fun r σ' hq9 => dm_rt_i hq9)
    · exact dm_after (va_runIN (As := rest.map (dm_cv ad)) (b := ad r.1 r.2) S hMet ⟨va_cnB (ws' := tb) n' hts (hG (Or.inr ⟨_, hcal⟩)) hw rfl rfl (l2 s hs) (hts _ hcal.2.1) hcal.2.2.1 (hR _ hcal), hini, hts _ l1⟩ ⟨dm_Pc.blind hSt _ _, fun U hU hW => hpre U hU hW⟩ rfl hlen' hL.1.1 hstk' (lv_room hcat8) hd hf) hA hL hokR hlv' (fun r σ' hq9 => dm_rt_i hq9)
end SIMT
