/-! every call of M2's machine is a contract -/
section SIM2
variable {D : va_G} {dA : FieldType → ClassId} {ad : Nat → Nat → Nat} {adV : Nat → Nat} {B L : Nat} {xs : Nat → Int32}
theorem dm_tb_ok : ∀ w ∈ dm_tb, (w.onTables && w.keeps) = true ∨ ∃ ty, w = .arrayClass ty := fun w hw => good_of_word (List.mem_filter.mp hw).2
theorem m2_sim (l : Launch) (hL : L < 2 ^ 31) (d y : Nat) (av : List dm_V) (σ : M2) (Q : Option dm_V → M2 → Prop) (h : CL L xs d y av σ Q) (h1 : m2_okM σ) (h2 : ∀ v ∈ av, m2_ok v) (h3 : av.length ≤ (dmP y).2.1) (h4 : dm_cat av = av.length) :
    Met l (dmN y) (dm_ws dmP dmN dmB dm_tb y) (dm_rm (fun _ => (0, 0)) d y) (dm_Pc D dA vwCl ad B m2_tl (fun _ _ => True) m2_okM (dm_St ad adV B L xs) av σ) (dm_Qc D dA vwCl ad m2_ok B m2_tl (fun _ _ => True) m2_okM (dm_St ad adV B L xs) Q) 0 0 (fun q => B ≤ q) :=
  dm_sim (mcT := fun _ => (0, 0)) l (m2_IF L xs ad B (dm_St_ok ad adV B L xs)) dm_tb_ok (dm_mok (fun s hs => hs.2.2.2.2.2.2.1)) (m2_xoka hL) d y av σ Q h h1 h2 rfl h3 h4
end SIM2
