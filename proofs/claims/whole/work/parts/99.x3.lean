/-! THE LAW'S ENTRY -/
section EN
variable {E : En} {p : Program} {l : Launch} {e : Env} {s : State} {m : MethodId} {below : List Frame} {meth : Method} {c : Code} {b L : Nat} {xs : Nat → Int32}
theorem lw_fin (C : Cx E p s m #[Value.ref b] meth c (fun q => s.heap.size ≤ q) cL_law 7 wsL_law RL) (hr : meth.sig.returnType = ret) (kc ks : Nat) (w : va_W) (lv : List (Nat × Value)) (h1 : kc ≤ 601024) (h2 : ks ≤ 7293034) : XW E p l e room_1 s m #[Value.ref b] below meth c (lw_Z below #[Value.ref b] s) (fun q => s.heap.size ≤ q) kc ks w 731 7 lv [.int 1] := fun H locs ls hP hD hS hl => W.widen h1 h2 (va_forget (fun q hq => hS.2.2 q hq) (lw_ret C.1 C.2.1 hr C.2.2.2.2.2.2.2.2 dL_law_731))
theorem en_a : Cond.classLink RL 8 RX5 ∈ wsL_law := by decide +kernel
theorem en_b : Cond.instantiable RX5 7 ∈ wsL_law := by decide +kernel
theorem en_c : Cond.initialized RX5 ∈ wsL_law := by decide +kernel
theorem en_d : Cond.classLink RL 23 RX6 ∈ wsL_law := by decide +kernel
theorem en_e : Cond.instantiable RX6 28 ∈ wsL_law := by decide +kernel
theorem en_f : Cond.initialized RX6 ∈ wsL_law := by decide +kernel
theorem en_g : Cond.arrayClass .long ∈ wsL_law := by decide +kernel
theorem en_h : Cond.methodLink RL 22 yX5_init ∈ wsL_law := by decide +kernel
theorem en_i : Cond.instanceMethod yX5_init ∈ wsL_law := by decide +kernel
theorem en_j : Cond.methodLink RL 25 yX6_init ∈ wsL_law := by decide +kernel
theorem en_k : Cond.instanceMethod yX6_init ∈ wsL_law := by decide +kernel
set_option maxHeartbeats 4000000 in
set_option maxRecDepth 100000 in
theorem lw_entry (C : Cx E p s m #[Value.ref b] meth c (fun q => s.heap.size ≤ q) cL_law 7 wsL_law RL) (hr : meth.sig.returnType = ret) (hsl : l.stackTraces = false) (hTh : thr (fun q => s.heap.size ≤ q) s) (hX : va_X b L xs s s.heap) (hbl : b < s.heap.size) (hL : L ≤ 2048) : XW E p l e room_1 s m #[Value.ref b] below meth c (lw_Z below #[Value.ref b] s) (fun q => s.heap.size ≤ q) 0 0 [] 0 7 [(0, .ref b)] [] := by
  refine xw_new (ci := 5) (fs := [.null, .int 0, .null, .int 0, .null, .null, .null]) C inlX5 tyX5 tyX5_ok en_a en_b en_c rfl (fun j hj => by rcases (show j = 0 ∨ j = 1 ∨ j = 2 ∨ j = 3 ∨ j = 4 ∨ j = 5 ∨ j = 6 by omega) with rfl | rfl | rfl | rfl | rfl | rfl | rfl <;> rfl) ⟨Nat.le_of_ble_eq_true rfl, Nat.le_of_ble_eq_true rfl⟩ dL_law_0 (fun o => ?_)
  refine xw_dup C dL_law_3 rfl ?_
  refine xw_callM (u := []) (v := []) C ok_X5_init 0 gL_law_X5_init rfl en_c en_h en_i rfl (by decide +kernel) ⟨Nat.le_of_ble_eq_true rfl, Nat.le_of_ble_eq_true rfl⟩ rfl (Nat.le_of_ble_eq_true rfl) ⟨Nat.le_of_ble_eq_true rfl, Nat.le_of_ble_eq_true rfl⟩ rfl rfl dL_law_4 (fun q1 => ?_)
  refine XW_eq (w2 := wF E o q1.2.1 q1.2.2.2.1 q1.1 q1.2.2.1 q1.2.2.2.2 (fun _ => none) ob0 ob0 (ob_i ob0 6 (-1))) (by simp only [List.append_nil, List.nil_append]; rfl) ?_
  refine xw_astore_n C dL_law_7 rfl (by decide) (lv' := [(1, .ref o), (0, .ref b)]) rfl ?_
  refine xw_new (ci := 6) (fs := [.int 0, .int 0, .null, .null, .null, .null, .null, .null, .null, .null, .null, .null, .null, .null, .null, .int 0, .int 0, .int 0, .null, .null, .null, .null, .null, .null, .null, .null, .int 0, .null]) C inlX6 tyX6 tyX6_ok en_d en_e en_f rfl (fun j hj => by rcases (show j = 0 ∨ j = 1 ∨ j = 2 ∨ j = 3 ∨ j = 4 ∨ j = 5 ∨ j = 6 ∨ j = 7 ∨ j = 8 ∨ j = 9 ∨ j = 10 ∨ j = 11 ∨ j = 12 ∨ j = 13 ∨ j = 14 ∨ j = 15 ∨ j = 16 ∨ j = 17 ∨ j = 18 ∨ j = 19 ∨ j = 20 ∨ j = 21 ∨ j = 22 ∨ j = 23 ∨ j = 24 ∨ j = 25 ∨ j = 26 ∨ j = 27 by omega) with rfl | rfl | rfl | rfl | rfl | rfl | rfl | rfl | rfl | rfl | rfl | rfl | rfl | rfl | rfl | rfl | rfl | rfl | rfl | rfl | rfl | rfl | rfl | rfl | rfl | rfl | rfl | rfl <;> rfl) ⟨Nat.le_of_ble_eq_true rfl, Nat.le_of_ble_eq_true rfl⟩ dL_law_8 (fun om => ?_)
  refine xw_dup C dL_law_11 rfl ?_
  refine xw_callM (u := wF E o q1.2.1 q1.2.2.2.1 q1.1 q1.2.2.1 q1.2.2.2.2 (fun _ => none) ob0 ob0 (ob_i ob0 6 (-1))) (v := []) C ok_X6_init 0 gL_law_X6_init rfl en_f en_j en_k rfl (by decide +kernel) ⟨Nat.le_of_ble_eq_true rfl, Nat.le_of_ble_eq_true rfl⟩ rfl (Nat.le_of_ble_eq_true rfl) ⟨Nat.le_of_ble_eq_true rfl, Nat.le_of_ble_eq_true rfl⟩ rfl (by rw [List.append_nil]) dL_law_12 (fun am => ?_)
  refine XW_eq (w2 := wF E o q1.2.1 q1.2.2.2.1 q1.1 q1.2.2.1 q1.2.2.2.2 (fun _ => none) ob0 ob0 (ob_i ob0 6 (-1)) ++ w6 E om am ob0) (List.append_nil _) ?_
  refine xw_astore_n C dL_law_15 rfl (by decide) (lv' := [(2, .ref om), (1, .ref o), (0, .ref b)]) rfl ?_
  refine xw_iconst C 1 dL_law_16 (by decide) ?_
  refine xw_widen 35 19106 (Nat.le_of_ble_eq_true rfl) (Nat.le_of_ble_eq_true rfl) ?_
  intro H locs ls hP hD hS hl
  refine va_newa (atype := .long) (ty := .long) (N' := 1) (a0 := (1, .inr (.inl (fun _ => 0)))) C.1 C.2.1 (C.2.2.2.2.1 _ en_g) rfl C.2.2.2.2.2.1 hP hD hS C.2.2.2.2.2.2.2.1 (fun cA => rfl) (by decide) (by decide) (by decide) (Nat.le_of_ble_eq_true rfl) (Nat.le_of_ble_eq_true rfl) dL_law_17 (fun ol cL H1 hK1 hP1 hD1 hS1 => ?_)
  have hKL : va_K E.1 vwCl [(cL, .long)] s := hK1.sub [3] rfl
  have k : XW E p l e room_1 s m #[Value.ref b] below meth c (lw_Z below #[Value.ref b] s) (fun q => s.heap.size ≤ q) 36 19107 (wF E o q1.2.1 q1.2.2.2.1 q1.1 q1.2.2.1 q1.2.2.2.2 (fun _ => none) ob0 ob0 (ob_i ob0 6 (-1)) ++ w6 E om am ob0 ++ [(ol, .inl (cL, 1, .inr (.inl (fun _ => 0))))]) 19 7 [(2, .ref om), (1, .ref o), (0, .ref b)] [.ref ol] := by
    refine xw_astore_n C dL_law_19 rfl (by decide) (lv' := [(3, .ref ol), (2, .ref om), (1, .ref o), (0, .ref b)]) rfl ?_
    refine xw_iconst C (nI 0) dL_law_20 (by decide) ?_
    refine xw_istore C dL_law_21 (by decide) (lv' := [(4, .int (nI 0)), (3, .ref ol), (2, .ref om), (1, .ref o), (0, .ref b)]) rfl ?_
    refine XW_eq (w2 := LW E cL o q1.2.1 q1.2.2.2.1 q1.1 q1.2.2.1 q1.2.2.2.2 om am ol (fun _ => none) ob0 ob0 (ob_i ob0 6 (-1)) [] ob0 (fun _ => 0)) (List.append_assoc _ _ _) ?_
    exact lw_loop C hsl hTh hKL hX hbl (fun h => Nat.not_le.mpr hbl h) hL (lw_fin C hr) 513 0 36 19107 (fun _ => none) ob0 ob0 (ob_i ob0 6 (-1)) [] ob0 (fun _ => 0) inv0 (by omega) (Nat.zero_le _) (by omega) (by omega)
  exact k H1 locs ls hP1 hD1 hS1 hl
end EN
theorem whole_start {p : Program} {e : Env} {s : State} {m : MethodId} {below : List Frame} {meth : Method} {c : Code} (l : Launch) (hsl : l.stackTraces = false) {b L : Nat} {xs : Nat → Int32} (hL : L ≤ 2048) (C0 : lw_At p s m meth c b L xs) : W p l e room_1 s m #[Value.ref b] below meth c s.heap [] 0 0 (lw_Z below #[Value.ref b] s) (entryFrame m ([Value.ref b] : List Value).toArray 7) := by
  obtain ⟨hexec, hcode, hret, hml, hown, hts, hX, hbl, hlk, hgv⟩ := C0
  obtain ⟨E, hK⟩ := ev_K hts
  have C : Cx E p s m #[Value.ref b] meth c (fun q => s.heap.size ≤ q) cL_law 7 wsL_law RL := ⟨hexec, hcode, hml, hown, fun w hw => hts w (wl_all w hw), hK, ev_nst hts, fun q h => h, hlk⟩
  have hl := lv_entry [Value.ref b] (n := 7) (Nat.le_of_ble_eq_true rfl)
  rw [lg_entry_eq]
  exact lw_entry C hret hsl (ev_thr hts hgv) hX hbl hL s.heap [] _ (fun k q h => (by cases h)) ⟨fun i j p q h => (by cases h), fun k q h => (by cases h)⟩ va_S.rf hl
