/-! LED in the law's frame; the law's end -/
def ledK (j : Nat) : Nat × Nat := (242 + j, 4778 + 6 * j)
theorem de_281_1511 : decode (dmB 281) 1511 = .ok (.invokestatic 200, 3) := (dm_all 281).1 1511 (.invokestatic 200) rfl
theorem led_n : (parseMethodDescriptor (dmN 280).desc).map (fun d => d.parameters.length) = some 3 := by decide +kernel
section LHL
variable {D : va_G} {dA : FieldType → ClassId} {ad : Nat → Nat → Nat} {adV : Nat → Nat} {B L : Nat} {xs : Nat → Int32}
variable {p : Program} {l : Launch} {e : Env} {R : Room} {s : State} {m : MethodId} {args : Array Value} {below : List Frame} {meth : Method} {c : Code} {Qw : State → Prop} {Q : Option dm_V → M2 → Prop}
set_option maxHeartbeats 4000000 in
theorem law_hl (hl : l.stackTraces = false) (hL : L ≤ 3072) (hctx : dm_ctx dmP dmN dmB dm_tb D dA vwCl B (dm_St ad adV B L xs) 281 p s m args c) (hsX : dm_StX ad adV B L xs s s.heap) (hRf : 30 ≤ R.frames) (hRl : 1500 ≤ R.locals) (hRc : 1000 ≤ R.cells) (hRs : 9000 ≤ R.slots)
    (hp : ∀ j, j ≤ 512 → l281_cl L xs (CL L xs 20) Q (lwP D dA ad B p l e R s m args below meth c Qw (ledK j))) :
    ∀ j i σ, j < 512 → i + 6 ≤ L → IN σ → (∀ σ', IN σ' → lwP D dA ad B p l e R s m args below meth c Qw (ledK j) 23 (lsI (i + 6)) [] σ') → (∀ σ', IN σ' → lwP D dA ad B p l e R s m args below meth c Qw (ledK (j + 1)) 23 (lsI (i + 6)) [] σ') → lwP D dA ad B p l e R s m args below meth c Qw (ledK j) 1511 (lsI i) [vr 80 0, vi (xs ((nI i + 1).toNatClampNeg)), vr 12 0] σ := by
  intro j i σ hj hi hI _ n2
  obtain ⟨μ, R9, r, C, hX, hk, f1, f2⟩ := law_led (Nat.le_refl 20) (hp (j + 1) (by omega)) hL hi hI n2
  obtain ⟨a, σ', hc, hP⟩ : ∃ (a : Int32) (σ' : M2), ((∃ s9 : Nat, k_led R9 r (xs ((nI i + 1).toNatClampNeg)) = .inr s9 ∧ a = 0 ∧ σ' = m2_wJ σ 80 0 0 (nI s9).toInt64) ∨ (∃ c9 : Nat, k_led R9 r (xs ((nI i + 1).toNatClampNeg)) = .inl c9 ∧ a = 1 ∧ σ' = σ)) ∧ lwP D dA ad B p l e R s m args below meth c Qw (ledK (j + 1)) 1514 (lsI i) [vi a] σ' := by
    cases hkl : k_led R9 r (xs ((nI i + 1).toNatClampNeg)) with
    | inl c9 => exact ⟨1, σ, Or.inr ⟨c9, rfl, rfl, rfl⟩, f2 c9 hkl⟩
    | inr s9 => exact ⟨0, _, Or.inl ⟨s9, rfl, rfl, rfl⟩, f1 s9 hkl⟩
  intro H locs lsC cells slots hA hLc hS9
  obtain ⟨a1, a2, a3, a4, a5, a6, a7, a8⟩ := id hA
  have a6 : cells + 0 = 242 + j := a6
  have a7 : slots + 0 = 4778 + 6 * j := a7
  obtain ⟨hx, hb, hml, hown, hts, hK, hs, hBs⟩ := id hctx
  have hG : GoodIn dm_tb (w280 :: dm_tb) := fun w hw => by
    have hm : w ∈ dm_tb := by
      rcases List.mem_cons.mp hw with e9 | e9
      · rw [e9]; exact tL_cw
      · exact e9
    exact ⟨hm, dm_tb_good w hm⟩
  have hrun := vx_runSW (R := R) (e := e) (below := below) (meth := meth) (locs := locs) (cells := cells) (slots := slots) (As := [.ref (ad 12 0), .int (xs ((nI i + 1).toNatClampNeg)), .ref (ad 80 0)]) (rest := []) (g := F0 m 1511 lsC [.ref (ad 80 0), .int (xs ((nI i + 1).toNatClampNeg)), .ref (ad 12 0)]) (own := "MistakesLentLaw") (index := 200) (n := 3) (bytes := dmB 280) (maxL := 4) (ret := some .int) (hh := [(0, 9, 12, 13)]) (cc := dmB 281) (nL := 7) (Ts := dm_tb) ⟨hx, hb, hml, hown, hts⟩
    (c280 (D := D) (dA := dA) (ad := ad) (adV := adV) (B := B) (L := L) (xs := xs) (d := 20) l hl (by omega) (by omega) hX hk hc)
    ⟨⟨rfl, rfl, by show 22 + 1 ≤ R.frames; omega, by show 8 + (4 + 11) + 40 * 22 ≤ R.locals; omega, pay_in hts hG, List.mem_cons_self⟩, hts _ tL_cw, hts _ tL_280.1, ⟨by decide +kernel, by decide +kernel⟩, fun sig h => by
      have h2 := led_n
      rw [h] at h2
      exact (Option.some.inj h2).symm, hts _ tL_280.2.1, hts _ tL_280.2.2⟩
    ⟨dm_Pc.blind (dm_StX_ok ad adV B L xs) _ _, fun U hU hW => hA.call hK hBs (dm_StX_ok ad adV B L xs) hsX a5 rfl (fun n h => h) [vr 12 0, vi (xs ((nI i + 1).toNatClampNeg)), vr 80 0] U hU hW⟩
    rfl rfl hLc.1.1 rfl (lv_room (by show 0 ≤ 8; omega)) de_281_1511 ⟨by omega, by omega⟩
  refine va_calli hrun a3 (fun q _ h => h) (fun q h => h) fun rr u t H1 locs1 hH1 _ hpost hB _ _ hS1 => ?_
  obtain ⟨rfl, rfl⟩ := hpost
  obtain ⟨ho, hD1, hP1⟩ := hB
  rw [hH1] at hP1
  exact hP H1 locs1 lsC (cells + 1) (slots + 6) ⟨hP1, hD1, hS1, trivial, ho, by show cells + 1 + 0 = 242 + (j + 1); omega, by show slots + 6 + 0 = 4778 + 6 * (j + 1); omega, rfl⟩ hLc (fun v hv => by rw [List.mem_singleton.mp hv]; trivial)
end LHL
