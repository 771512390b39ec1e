/-! THE ENVIRONMENT out of the tables' words -/
section EV
variable {s : State} {args : Array Value}
theorem ev_arr {ty : FieldType} (h : (Cond.arrayClass ty).before args s = true) : ∃ cA : ClassId, ArrOfT s cA ty ∧ s.vm.findClass ("[" ++ ty.toString) = some cA := by
  obtain ⟨cA, kA, comp, h1, h2, h3⟩ := Cond.arrayClass_spec h
  exact ⟨cA, fun N z => ⟨fun k h => (by cases h), kA, h2, comp, h3⟩, h1⟩
theorem ev_ref {C : String} (h : (Cond.arrayOver (.object C)).before args s = true) : ∃ cA : ClassId, ArrOfT s cA (.object C) ∧ va_RA s cA (.object C) := by
  obtain ⟨comp, cA, kA, h1, -, h3, h4, h5⟩ := Cond.arrayOver_spec h
  exact ⟨cA, fun N z => ⟨fun k h => (by cases h), kA, h3, comp, h4⟩, kA, comp, h3, h4, h1, h5⟩
def ev_pick {α : Type} (a0 a1 a2 a3 a4 a5 a6 : α) : Nat → α
  | 0 => a0
  | 1 => a1
  | 2 => a2
  | 3 => a3
  | 4 => a4
  | 5 => a5
  | _ => a6
theorem ev_i0 : Cond.instantiable RX0 7 ∈ lw_tbl := by decide +kernel
theorem ev_i1 : Cond.instantiable RX1 2 ∈ lw_tbl := by decide +kernel
theorem ev_i2 : Cond.instantiable RX2 2 ∈ lw_tbl := by decide +kernel
theorem ev_i3 : Cond.instantiable RX3 7 ∈ lw_tbl := by decide +kernel
theorem ev_i4 : Cond.instantiable RX4 5 ∈ lw_tbl := by decide +kernel
theorem ev_i5 : Cond.instantiable RX5 7 ∈ lw_tbl := by decide +kernel
theorem ev_i6 : Cond.instantiable RX6 28 ∈ lw_tbl := by decide +kernel
theorem ev_ai : Cond.arrayClass .int ∈ lw_tbl := by decide +kernel
theorem ev_ab : Cond.arrayClass .boolean ∈ lw_tbl := by decide +kernel
theorem ev_ao : Cond.arrayOver (.object RX4) ∈ lw_tbl := by decide +kernel
theorem ev_K (hts : ∀ w ∈ lw_tbl, w.before args s = true) : ∃ E : En, va_K E.1 vwCl (tt E) s := by
  obtain ⟨c0, i0, k0⟩ := u_known (ws := lw_tbl) hts wl_X0 (hts _ ev_i0)
  obtain ⟨c1, i1, k1⟩ := u_known (ws := lw_tbl) hts wl_X1 (hts _ ev_i1)
  obtain ⟨c2, i2, k2⟩ := u_known (ws := lw_tbl) hts wl_X2 (hts _ ev_i2)
  obtain ⟨c3, i3, k3⟩ := u_known (ws := lw_tbl) hts wl_X3 (hts _ ev_i3)
  obtain ⟨c4, i4, k4⟩ := u_known (ws := lw_tbl) hts wl_X4 (hts _ ev_i4)
  obtain ⟨c5, i5, k5⟩ := u_known (ws := lw_tbl) hts wl_X5 (hts _ ev_i5)
  obtain ⟨c6, i6, k6⟩ := u_known (ws := lw_tbl) hts wl_X6 (hts _ ev_i6)
  obtain ⟨cI, aI, nmI⟩ := ev_arr (hts _ ev_ai)
  obtain ⟨cB, aB, nmB⟩ := ev_arr (hts _ ev_ab)
  obtain ⟨cT, aT, rT⟩ := ev_ref (hts _ ev_ao)
  refine ⟨((ev_pick c0 c1 c2 c3 c4 c5 c6, ev_pick i0 i1 i2 i3 i4 i5 i6), cI, cB, cT), fun k q hk => ?_, fun k q hk => ?_⟩
  · match k, hk with
    | 0, hk => cases hk; exact k0
    | 1, hk => cases hk; exact k1
    | 2, hk => cases hk; exact k2
    | 3, hk => cases hk; exact k3
    | 4, hk => cases hk; exact k4
    | 5, hk => cases hk; exact k5
    | 6, hk => cases hk; exact k6
    | n + 7, hk => cases hk
  · match k, hk with
    | 0, hk => cases hk; exact ⟨aI, nmI⟩
    | 1, hk => cases hk; exact ⟨aB, nmB⟩
    | 2, hk => cases hk; exact ⟨aT, rT⟩
    | n + 3, hk => cases hk
theorem ev_nl : ∀ q ∈ nstL, Cond.methodLinkNest q.1 q.2.1 q.2.2 RX5 ∈ lw_tbl := by decide +kernel
theorem ev_nst (hts : ∀ w ∈ lw_tbl, w.before args s = true) : nst s := ⟨fun q hq => va_Nw.of rfl (hts _ (ev_nl q hq)), va_AO.of (hts _ ev_ao)⟩
theorem ev_s1 : Cond.stringRef RX5 69 "no such tree or key" ∈ lw_tbl := by decide +kernel
theorem ev_s2 : Cond.stringRef RX5 108 "no such tree, or the key is not in it" ∈ lw_tbl := by decide +kernel
theorem ev_s3 : Cond.stringRef RX5 125 "nothing such to look at" ∈ lw_tbl := by decide +kernel
theorem ev_u : Cond.laysStatic Bundle.tN "UNASSIGNED_STACK" Bundle.steD ∈ lw_tbl := by decide +kernel
theorem ev_v : Cond.laysStatic Bundle.tN "SUPPRESSED_SENTINEL" Bundle.listD ∈ lw_tbl := by decide +kernel
theorem ev_t : Cond.initialized Bundle.tN ∈ lw_tbl := by decide +kernel
theorem ev_w : ∀ w ∈ thrW, w ∈ lw_tbl := by decide +kernel
theorem ev_thr (hts : ∀ w ∈ lw_tbl, w.before args s = true) (hgv : (Jvm.Cond.and given_1 narrow_1).before args s = true) : thr (fun q => s.heap.size ≤ q) s := by
  have hs := flat_of_before _ hgv
  obtain ⟨a1, _, _, _, e1, -⟩ := Cond.exactly_spec (show (Cond.exactly (.string RX5 69) "java/lang/String").before args s = true from hs _ (by decide +kernel))
  obtain ⟨a2, _, _, _, e2, -⟩ := Cond.exactly_spec (show (Cond.exactly (.string RX5 108) "java/lang/String").before args s = true from hs _ (by decide +kernel))
  obtain ⟨a3, _, _, _, e3, -⟩ := Cond.exactly_spec (show (Cond.exactly (.string RX5 125) "java/lang/String").before args s = true from hs _ (by decide +kernel))
  refine ⟨⟨a1, vk_R.of (hts _ ev_s1) e1⟩, ⟨a2, vk_R.of (hts _ ev_s2) e2⟩, ⟨a3, vk_R.of (hts _ ev_s3) e3⟩, vx_Zqof (hts _ ev_u) (hts _ ev_t) (hs _ (by decide +kernel)) (fun a h q => Nat.not_le.mpr h q), vx_Zqof (hts _ ev_v) (hts _ ev_t) (hs _ (by decide +kernel)) (fun a h q => Nat.not_le.mpr h q), fun w hw => ?_⟩
  have ht : w.onTables = true := by
    have h' := hw
    simp only [thrW, List.mem_cons, List.not_mem_nil, or_false] at h'
    rcases h' with rfl | rfl | rfl | rfl <;> rfl
  exact va_Nw.of ht (hts _ (ev_w w hw))
end EV
theorem inv0 : Inv (fun _ => none) ob0 (ob_i ob0 6 (-1)) [] ob0 := by
  refine ⟨Nat.zero_le _, rfl, rfl, fun i _ => rfl, fun i d h => (by cases h), fun i _ _ => ⟨fun k _ => rfl, rfl, rfl, rfl, rfl, rfl⟩, ⟨0, Nat.zero_le _, rfl, rfl, fun i h => absurd h (by omega)⟩, rfl, fun i _ => rfl⟩
