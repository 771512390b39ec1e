/-- how often a key was asked, of the first i asks -/
def occ (z : Ob) : Nat → Nat → Nat
  | 0, _ => 0
  | i + 1, k => occ z i k + (if ky z i = k then 1 else 0)
theorem occ_le (z : Ob) (k : Nat) : ∀ i, occ z i k ≤ i := by
  intro i
  induction i with
  | zero => exact Nat.le_refl _
  | succ i ih => show occ z i k + (if ky z i = k then 1 else 0) ≤ i + 1; split <;> omega
theorem sme_cong {f g : Nat → Nat} : ∀ n, (∀ i, i < n → f i = g i) → sme f n = sme g n := by
  intro n
  induction n with
  | zero => intro _; rfl
  | succ n ih => intro h; show sme f n + f n = sme g n + g n; rw [ih (fun i hi => h i (by omega)), h n (by omega)]
section B1
variable {t : Nat} {x y T z : Ob} {G : Gh} {r : Nat}
/-- the class counts the asks -/
theorem ca_L (hr : r ≤ 100) (hz : z.1 1 = nI r) (h0 : ∀ i, i < r → z.2 0 i = nI (ky z i)) : ∀ (m i n : Nat) (w : Ob), m + i = r → m < n → (∀ k, k < 64 → w.2 1 k = nI (occ z i k)) →
    ∃ w', fX0_countAsks_L10 n (nI i) w z = some w' ∧ (∀ k, k < 64 → w'.2 1 k = nI (occ z r k)) ∧ w'.1 = w.1 ∧ (∀ d, d ≠ 1 → w'.2 d = w.2 d) := by
  intro m
  induction m with
  | zero =>
    intro i n w h1 h2 h3
    obtain ⟨n, rfl⟩ := Nat.exists_eq_succ_of_ne_zero (by omega : n ≠ 0)
    have e : i = r := by omega
    subst e
    exact ⟨w, by rw [fX0_countAsks_L10, hz, if_pos (nI_le (by omega) (by omega))], h3, rfl, fun _ _ => rfl⟩
  | succ m ih =>
    intro i n w h1 h2 h3
    obtain ⟨n, rfl⟩ := Nat.exists_eq_succ_of_ne_zero (by omega : n ≠ 0)
    have hi : i < r := by omega
    have hk := ky_lt z i
    have ka : fX2_keyAt (nI i) z = some (nI (ky z i)) := by rw [fX2_keyAt, at_in (by omega) (by decide), Option.bind_some, h0 i hi]
    obtain ⟨w', b1, b2, b3, b4⟩ := ih (i + 1) n (ob_f w 1 (upd (w.2 1) (ky z i) (nI (occ z i (ky z i) + 1)))) (by omega) (by omega) (fun k hk' => by
      show upd (w.2 1) (ky z i) _ k = nI (occ z i k + (if ky z i = k then 1 else 0))
      rw [upd_at]
      by_cases e : k = ky z i
      · rw [if_pos e, if_pos e.symm, e]
      · rw [if_neg e, if_neg (Ne.symm e), Nat.add_zero]; exact h3 k hk')
    refine ⟨w', ?_, b2, b3, fun d hd => by rw [b4 d hd]; show va_up w.2 1 _ d = _; rw [vu_ne hd]⟩
    rw [fX0_countAsks_L10, hz, if_neg (nI_ge hi (by omega)), ka, Option.bind_some, at_in hk (by decide), Option.bind_some, put_in hk (by decide), Option.bind_some, px_let, px_let, nI_1, h3 _ hk, nI_1, b1]
theorem ca_ok (hr : r ≤ 100) (hz : z.1 1 = nI r) (h0 : ∀ i, i < r → z.2 0 i = nI (ky z i)) (w : Ob) : ∃ w', fX0_countAsks w z = some w' ∧ (∀ k, k < 64 → w'.2 1 k = nI (occ z r k)) ∧ w'.1 = w.1 ∧ (∀ d, d ≠ 1 → w'.2 d = w.2 d) := by
  obtain ⟨f1, g1, g2⟩ := fill_ok 64 (by omega) 0 (w.2 1)
  obtain ⟨w', b1, b2, b3, b4⟩ := ca_L (z := z) hr hz h0 r 0 FU (ob_f w 1 f1) (by omega) (by show r < 5000; omega) (fun k hk => by show f1 k = nI 0; rw [g2 k hk]; rfl)
  refine ⟨w', ?_, b2, b3, fun d hd => by rw [b4 d hd]; show va_up w.2 1 _ d = _; rw [vu_ne hd]⟩
  rw [fX0_countAsks, g1, Option.bind_some, px_let]; exact b1
/-- the reference counts the asks of one key -/
theorem rc_L (ht : t < 8) (hr : r ≤ 100) {k29 : Int32 → Int32 → Int32 → Int32 → Ob → Option (Int32 × Ob)} {v2 : Int32} {nn k : Nat} (hnn : nn < 64) (hk : k < 64) : ∀ (m a n : Nat) (x : Ob), m + a = r → m < n → x.2 12 t = nI r → (∀ i, i < r → x.2 13 (100 * t + i) = nI (ky z i)) → x.2 19 nn = nI (occ z a k) →
    ∃ x', fX6_best_L64 k29 n (nI t) v2 (nI nn) (nI k) (nI (100 * t + a)) x = fX6_best_J112 k29 (nI t) v2 (nI nn) (nI k) x' ∧ x'.2 19 nn = nI (occ z r k) ∧ (∀ j, j ≠ nn → x'.2 19 j = x.2 19 j) ∧ x'.1 = x.1 ∧ (∀ d, d ≠ 19 → x'.2 d = x.2 d) := by
  intro m
  induction m with
  | zero =>
    intro a n x h1 h2 h12 h13 h19
    obtain ⟨n, rfl⟩ := Nat.exists_eq_succ_of_ne_zero (by omega : n ≠ 0)
    have e : a = r := by omega
    subst e
    exact ⟨x, by rw [fX6_best_L64, ix_nI ht (by decide), h12, i100, if_pos (nI_le (by omega) (by omega))], h19, fun _ _ => rfl, rfl, fun _ _ => rfl⟩
  | succ m ih =>
    intro a n x h1 h2 h12 h13 h19
    obtain ⟨n, rfl⟩ := Nat.exists_eq_succ_of_ne_zero (by omega : n ≠ 0)
    have ha : a < r := by omega
    have hky := ky_lt z a
    obtain ⟨x', b1, b2, b3, b4, b5⟩ := ih (a + 1) n (ob_a x 19 nn (nI (occ z (a + 1) k))) (by omega) (by omega) (by rw [ar_n _ _ _ (by decide)]; exact h12) (by rw [ar_n _ _ _ (by decide)]; exact h13) (by rw [ar_a, upd_at, if_pos rfl])
    refine ⟨x', ?_, b2, fun j hj => by rw [b3 j hj, ar_a, upd_at, if_neg hj], b4, fun d hd => by rw [b5 d hd, ar_n _ _ _ hd]⟩
    rw [fX6_best_L64, ix_nI ht (by decide), h12, i100, if_neg (nI_ge (by omega) (by omega)), ix_nI hnn (by decide), ix_nI (by omega) (by decide), h13 a ha, h19]
    have nx : nI (100 * t + a) + 1 = nI (100 * t + (a + 1)) := nI_1 _
    by_cases e : ky z a = k
    · have o : occ z (a + 1) k = occ z a k + 1 := by show occ z a k + (if ky z a = k then 1 else 0) = _; rw [if_pos e]
      rw [o] at b1
      rw [if_pos (by rw [e]), fX6_best_J104, ix_nI hnn (by decide), px_let, px_let, nx, nI_1, b1]
    · have o : occ z (a + 1) k = occ z a k := by show occ z a k + (if ky z a = k then 1 else 0) = _; rw [if_neg e, Nat.add_zero]
      rw [o] at b1
      rw [if_neg (fun w => e ((nI_eq (by omega) (by omega)).mp w)), fX6_best_J104, ix_nI hnn (by decide), px_let, px_let, Int32.add_zero, nx, b1]
/-- what both have gathered of the first j keys -/
def Gt (x w zr : Ob) (r : Nat) (nn : Nat) (sk : Nat → Nat) : Prop := (∀ i, i < nn → sk i < 64 ∧ x.2 14 i = nI (sk i) ∧ w.2 0 i = nI (sk i) ∧ x.2 19 i = nI (occ zr r (sk i))) ∧ (∀ i, i ≤ nn → w.2 2 i = nI (sme (fun i => occ zr r (sk i)) i))
set_option maxHeartbeats 1000000 in
theorem ga_L (h : Sim t x y G) (ht : t < 8) (hr : r ≤ 100) {v2 : Int32} : ∀ (m j n1 n2 : Nat) (x w : Ob) (sk : Nat → Nat), m + j = 64 → m < n1 → m < n2 → x.2 12 t = nI r → (∀ i, i < r → x.2 13 (100 * t + i) = nI (ky z i)) → (∀ k, k < 64 → x.2 7 (64 * t + k) = if gI G k = true then 1 else 0) → (∀ k, k < 64 → w.2 1 k = nI (occ z r k)) → Gt x w z r (cnt (gI G) 0 j) sk →
    ∃ (x' w' : Ob) (sk' : Nat → Nat), fX6_best_L29 n1 (nI t) v2 (nI (cnt (gI G) 0 j)) (nI j) x = fX6_best_J129 v2 (nI (cnt (gI G) 0 64)) x' ∧ fX0_gatherKeys_L4 n2 (nI (cnt (gI G) 0 j)) (nI j) y w = some (nI (cnt (gI G) 0 64), w') ∧ Gt x' w' z r (cnt (gI G) 0 64) sk' ∧ x'.1 = x.1 ∧ (∀ d, d ∉ [14, 19] → x'.2 d = x.2 d) ∧ w'.1 = w.1 ∧ (∀ d, d ∉ [0, 2] → w'.2 d = w.2 d) := by
  intro m
  induction m with
  | zero =>
    intro j n1 n2 x w sk h1 h2 h3 h12 h13 h7 hw1 hG
    obtain ⟨n1, rfl⟩ := Nat.exists_eq_succ_of_ne_zero (by omega : n1 ≠ 0)
    obtain ⟨n2, rfl⟩ := Nat.exists_eq_succ_of_ne_zero (by omega : n2 ≠ 0)
    have e : j = 64 := by omega
    subst e
    exact ⟨x, w, sk, by rw [fX6_best_L29, if_pos (by decide)], by rw [fX0_gatherKeys_L4, if_pos (by decide)], hG, rfl, fun _ _ => rfl, rfl, fun _ _ => rfl⟩
  | succ m ih =>
    intro j n1 n2 x w sk h1 h2 h3 h12 h13 h7 hw1 hG
    obtain ⟨n1, rfl⟩ := Nat.exists_eq_succ_of_ne_zero (by omega : n1 ≠ 0)
    obtain ⟨n2, rfl⟩ := Nat.exists_eq_succ_of_ne_zero (by omega : n2 ≠ 0)
    have hj : j < 64 := by omega
    have cl := cnt_le (gI G) 0 j
    have cs0 : cnt (gI G) 0 (j + 1) = cnt (gI G) 0 j + (if gI G j = true then 1 else 0) := cnt_s0 _ _
    have st1 : fX6_best_L29 (n1 + 1) (nI t) v2 (nI (cnt (gI G) 0 j)) (nI j) x = ix (((64) * nI t) + nI j) 512 (fun j47 => (if (x.2 7 j47) = 0 then fX6_best_J123 (fX6_best_L29 n1) (nI t) v2 (nI (cnt (gI G) 0 j)) (nI j) x else ix (nI (cnt (gI G) 0 j)) 64 (fun j57 => px_let (ob_a x 19 j57 (0)) (fun x_57 => px_let (((100) * nI t) : Int32) (fun b62 => fX6_best_L64 (fX6_best_L29 n1) FU (nI t) v2 (nI (cnt (gI G) 0 j)) (nI j) b62 x_57))))) := by
      rw [fX6_best_L29, if_neg (st64 hj)]
    rw [ix6 ht hj, h7 j hj] at st1
    cases hI : gI G j with
    | false =>
      rw [hI, if_neg (by decide), Nat.add_zero (cnt (gI G) 0 j)] at cs0
      rw [hI, if_pos (by decide), fX6_best_J123, px_let, nI_1] at st1
      have hh : fX3_holds (nI j) y = some 0 := by rw [h.holds hj, hI]; rfl
      have := ih (j + 1) n1 n2 x w sk (by omega) (by omega) (by omega) h12 h13 h7 hw1 (by rw [cs0]; exact hG)
      rw [cs0] at this
      obtain ⟨x', w', sk', b1, b2, b3⟩ := this
      refine ⟨x', w', sk', by rw [st1, b1], ?_, b3⟩
      rw [fX0_gatherKeys_L4, if_neg (st64 hj), hh, Option.bind_some, if_pos rfl, fX0_gatherKeys_J57, px_let, nI_1, b2]
    | true =>
      rw [hI, if_pos rfl] at cs0
      have hh : fX3_holds (nI j) y = some 1 := by rw [h.holds hj, hI]; rfl
      have hc64 : cnt (gI G) 0 j < 64 := by omega
      rw [hI, if_pos rfl, if_neg (by decide), ix_nI hc64 (by decide), px_let, px_let, show (100 : Int32) * nI t = nI (100 * t + 0) from pk_mul 100 t] at st1
      obtain ⟨x1, a1, a2, a3, a4, a5⟩ := rc_L (z := z) (k29 := fX6_best_L29 n1) (v2 := v2) ht hr hc64 hj r 0 FU (ob_a x 19 (cnt (gI G) 0 j) 0) (by omega) (by show r < 5000; omega) (by rw [ar_n _ _ _ (by decide)]; exact h12) (by rw [ar_n _ _ _ (by decide)]; exact h13) (by rw [ar_a, upd_at, if_pos rfl]; rfl)
      have a6 : ∀ d, d ≠ 19 → x1.2 d = x.2 d := fun d hd => by rw [a5 d hd, ar_n _ _ _ hd]
      obtain ⟨G1, G2⟩ := hG
      have oj := hw1 j hj
      have G3 : Gt (ob_a x1 14 (cnt (gI G) 0 j) (nI j)) (ob_f (ob_f w 0 (upd (w.2 0) (cnt (gI G) 0 j) (nI j))) 2 (upd (w.2 2) (cnt (gI G) 0 j + 1) (nI (sme (fun i => occ z r (sk i)) (cnt (gI G) 0 j)) + nI (occ z r j)))) z r (cnt (gI G) 0 j + 1) (va_up sk (cnt (gI G) 0 j) j) := by
        constructor
        · intro i hi
          by_cases e : i = cnt (gI G) 0 j
          · rw [e, vu_eq]
            refine ⟨hj, ?_, ?_, ?_⟩
            · rw [ar_a, upd_at, if_pos rfl]
            · show upd (w.2 0) (cnt (gI G) 0 j) (nI j) (cnt (gI G) 0 j) = _; rw [upd_at, if_pos rfl]
            · rw [ar_n _ _ _ (by decide)]; exact a2
          · rw [vu_ne e]
            obtain ⟨q1, q2, q3, q4⟩ := G1 i (by omega)
            refine ⟨q1, ?_, ?_, ?_⟩
            · rw [ar_a, upd_at, if_neg e, a6 14 (by decide)]; exact q2
            · show upd (w.2 0) (cnt (gI G) 0 j) (nI j) i = _; rw [upd_at, if_neg e]; exact q3
            · rw [ar_n _ _ _ (by decide), a3 i e, ar_a, upd_at, if_neg e]; exact q4
        · intro i hi
          have cg : ∀ n, n ≤ cnt (gI G) 0 j → sme (fun i => occ z r (va_up sk (cnt (gI G) 0 j) j i)) n = sme (fun i => occ z r (sk i)) n := fun n hn => sme_cong n (fun i hi => by rw [vu_ne (by omega)])
          show upd (w.2 2) (cnt (gI G) 0 j + 1) _ i = _
          rw [upd_at]
          by_cases e : i = cnt (gI G) 0 j + 1
          · rw [if_pos e, e, nI_add]
            show _ = nI (sme (fun i => occ z r (va_up sk (cnt (gI G) 0 j) j i)) (cnt (gI G) 0 j) + occ z r (va_up sk (cnt (gI G) 0 j) j (cnt (gI G) 0 j)))
            rw [cg _ (Nat.le_refl _), vu_eq]
          · rw [if_neg e, cg i (by omega)]; exact G2 i (by omega)
      have := ih (j + 1) n1 n2 (ob_a x1 14 (cnt (gI G) 0 j) (nI j)) (ob_f (ob_f w 0 (upd (w.2 0) (cnt (gI G) 0 j) (nI j))) 2 (upd (w.2 2) (cnt (gI G) 0 j + 1) (nI (sme (fun i => occ z r (sk i)) (cnt (gI G) 0 j)) + nI (occ z r j)))) (va_up sk (cnt (gI G) 0 j) j) (by omega) (by omega) (by omega) (by rw [ar_n _ _ _ (by decide), a6 12 (by decide)]; exact h12) (by rw [ar_n _ _ _ (by decide), a6 13 (by decide)]; exact h13) (by rw [ar_n _ _ _ (by decide), a6 7 (by decide)]; exact h7) hw1 (by rw [cs0]; exact G3)
      rw [cs0] at this
      obtain ⟨x', w', sk', b1, b2, b3, b4, b5, b6, b7⟩ := this
      refine ⟨x', w', sk', ?_, ?_, b3, by rw [b4]; exact a4, fun d hd => ?_, b6, fun d hd => ?_⟩
      · rw [st1, a1, fX6_best_J112, ix_nI hc64 (by decide), px_let, px_let, nI_1, fX6_best_J123, px_let, nI_1, b1]
      · have e1 : fX5_at 65 (nI (cnt (gI G) 0 j)) ((ob_f w 0 (upd (w.2 0) (cnt (gI G) 0 j) (nI j))).2 2) = some (nI (sme (fun i => occ z r (sk i)) (cnt (gI G) 0 j))) := by
          rw [at_in (by omega) (by decide)]
          show some (w.2 2 _) = _
          rw [G2 _ (Nat.le_refl _)]
        have e2 : fX5_at 64 (nI j) ((ob_f w 0 (upd (w.2 0) (cnt (gI G) 0 j) (nI j))).2 1) = some (nI (occ z r j)) := by
          rw [at_in hj (by decide)]
          show some (w.2 1 _) = _
          rw [oj]
        rw [fX0_gatherKeys_L4, if_neg (st64 hj), hh, Option.bind_some, if_neg (by decide), put_in hc64 (by decide), Option.bind_some, px_let, e1, Option.bind_some, e2, Option.bind_some, nI_1, put_in (by omega) (by decide), Option.bind_some, px_let, px_let, fX0_gatherKeys_J57, px_let, nI_1]
        exact b2
      · have d14 : d ≠ 14 := fun e => hd (by rw [e]; decide)
        have d19 : d ≠ 19 := fun e => hd (by rw [e]; decide)
        rw [b5 d hd, ar_n _ _ _ d14, a6 d d19]
      · have d0 : d ≠ 0 := fun e => hd (by rw [e]; decide)
        have d2 : d ≠ 2 := fun e => hd (by rw [e]; decide)
        rw [b7 d hd]
        show va_up (va_up w.2 0 _) 2 _ d = _
        rw [vu_ne d2, vu_ne d0]
/-- the reference clears its table -/
theorem rz_L {v2 v3 : Int32} : ∀ (m j n : Nat) (x : Ob), m + j = 4290 → m < n → (∀ k, k < j → x.2 20 k = 0) → ∃ x', fX6_best_L132 n v2 v3 (nI j) x = fX6_best_J154 v2 v3 x' ∧ (∀ k, k < 4290 → x'.2 20 k = 0) ∧ x'.1 = x.1 ∧ (∀ d, d ≠ 20 → x'.2 d = x.2 d) := by
  intro m
  induction m with
  | zero =>
    intro j n x h1 h2 h3
    obtain ⟨n, rfl⟩ := Nat.exists_eq_succ_of_ne_zero (by omega : n ≠ 0)
    exact ⟨x, by rw [fX6_best_L132, if_pos (show (4290 : Int32) ≤ nI j from nI_le (a := 4290) (by omega) (by omega))], fun k hk => h3 k (by omega), rfl, fun _ _ => rfl⟩
  | succ m ih =>
    intro j n x h1 h2 h3
    obtain ⟨n, rfl⟩ := Nat.exists_eq_succ_of_ne_zero (by omega : n ≠ 0)
    have hj : j < 4290 := by omega
    obtain ⟨x', b1, b2, b3, b4⟩ := ih (j + 1) n (ob_a x 20 j 0) (by omega) (by omega) (fun k hk => by
      rw [ar_a, upd_at]
      by_cases e : k = j
      · rw [if_pos e]
      · rw [if_neg e]; exact h3 k (by omega))
    refine ⟨x', ?_, b2, b3, fun d hd => by rw [b4 d hd, ar_n _ _ _ hd]⟩
    rw [fX6_best_L132, if_neg (show ¬ (4290 : Int32) ≤ nI j from nI_ge (b := 4290) hj (by omega)), ix_nI hj (by decide), px_let, px_let, nI_1, b1]
end B1
