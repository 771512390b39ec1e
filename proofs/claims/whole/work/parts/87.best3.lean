section B3
variable {oc : Nat → Nat} {nn : Nat} {x w y zr : Ob}
/-- both tables: all spans of widths below d, and of width d those that begin below fr -/
def BSt (oc : Nat → Nat) (nn d fr : Nat) (x w : Ob) : Prop :=
  (∀ i j, i ≤ j → j ≤ nn → (j - i < d ∨ (j - i = d ∧ i < fr)) → x.2 20 (65 * i + j) = nI (cs oc i j) ∧ w.2 3 (65 * i + j) = nI (cs oc i j)) ∧
  (∀ i, i < fr → i + d ≤ nn → ∃ K, w.2 4 i = nI K ∧ Kr oc i (i + d) K) ∧
  (∀ i, fr ≤ i → 1 < d → i + (d - 1) ≤ nn → ∃ K, w.2 4 i = nI K ∧ Kr oc i (i + (d - 1)) K) ∧
  (∀ j, 1 ≤ j → j ≤ nn → (j < d ∨ (j = d ∧ 0 < fr)) → ∃ K, x.2 21 j = nI K ∧ Kr oc 0 j K) ∧
  (∀ i, i < nn → x.2 19 i = nI (oc i)) ∧ (∀ i, i ≤ nn → w.2 2 i = nI (sme oc i))
/-- what the two loops leave as it was -/
def BFr (x w x' w' : Ob) : Prop := x'.1 = x.1 ∧ (∀ d, d ∉ [20, 21] → x'.2 d = x.2 d) ∧ w'.1 = w.1 ∧ (∀ d, d ∉ [3, 4] → w'.2 d = w.2 d) ∧ (∀ i, i ≤ 64 → w'.2 3 (66 * i) = w.2 3 (66 * i))
theorem BFr.rf (x w : Ob) : BFr x w x w := ⟨rfl, fun _ _ => rfl, rfl, fun _ _ => rfl, fun _ _ => rfl⟩
theorem BFr.tr {x w x1 w1 x2 w2 : Ob} (h : BFr x w x1 w1) (g : BFr x1 w1 x2 w2) : BFr x w x2 w2 := ⟨g.1.trans h.1, fun d hd => (g.2.1 d hd).trans (h.2.1 d hd), g.2.2.1.trans h.2.2.1, fun d hd => (g.2.2.2.1 d hd).trans (h.2.2.2.1 d hd), fun i hi => (g.2.2.2.2 i hi).trans (h.2.2.2.2 i hi)⟩
theorem bs_step (hoc : ∀ i, oc i ≤ 100) (hnn : nn ≤ 64) {d fr : Nat} (hd : 1 ≤ d) (hfr : fr + d ≤ nn) (h : BSt oc nn d fr x w) : ∃ x' w', fX6_bestOf (nI fr) (nI (fr + d)) x = some x' ∧ fX0_settle (nI fr) (nI (fr + d)) w = some w' ∧ BSt oc nn d (fr + 1) x' w' ∧ BFr x w x' w' := by
  obtain ⟨h1, h2, h3, h4, h5, h6⟩ := h
  obtain ⟨x', K', a1, a2, a3, a4, a5, a6, a7⟩ := bo_ok (x := x) (fr := fr) (to := fr + d) hoc hnn hfr (by omega) h5 (fun i j q1 q2 q3 => (h1 i j q1 q2 (Or.inl (by omega))).1)
  obtain ⟨w', K, b1, b2, b3, b4, b5, b6⟩ := se_ok (w := w) (fr := fr) (to := fr + d) hoc hnn hfr (by omega) h6 (fun i j q1 q2 q3 => (h1 i j q1 q2 (Or.inl (by omega))).2) (fun q => by
    obtain ⟨K1, k1, k2⟩ := h3 fr (Nat.le_refl _) (by omega) (by omega)
    obtain ⟨K2, k3, k4⟩ := h3 (fr + 1) (by omega) (by omega) (by omega)
    rw [show fr + (d - 1) = fr + d - 1 by omega] at k2
    rw [show fr + 1 + (d - 1) = fr + d by omega] at k4
    exact ⟨K1, K2, k1, k2, k3, k4⟩)
  refine ⟨x', w', a1, b1, ⟨?_, ?_, ?_, ?_, ?_, ?_⟩, a6, a7, b5, b6, ?_⟩
  · intro i j q1 q2 q3
    rw [a3, b3, upd_at, upd_at]
    by_cases e : 65 * i + j = 65 * fr + (fr + d)
    · have e1 : i = fr := by omega
      have e2 : j = fr + d := by omega
      rw [if_pos e, if_pos e, e1, e2]; exact ⟨rfl, rfl⟩
    · rw [if_neg e, if_neg e]
      refine h1 i j q1 q2 ?_
      rcases q3 with q | ⟨q, q'⟩
      · exact Or.inl q
      · refine Or.inr ⟨q, ?_⟩
        have : i ≠ fr := fun z => e (by omega)
        omega
  · intro i q1 q2
    rw [b4, upd_at]
    by_cases e : i = fr
    · rw [if_pos e, e]; exact ⟨K, rfl, b2⟩
    · rw [if_neg e]; exact h2 i (by omega) q2
  · intro i q1 q2 q3
    rw [b4, upd_at, if_neg (by omega)]; exact h3 i (by omega) q2 q3
  · intro j q1 q2 q3
    by_cases e : j = 65 * fr + (fr + d)
    · have e1 : fr = 0 := by omega
      rw [e, a4]
      refine ⟨K', rfl, ?_⟩
      rw [e1] at a2 ⊢
      rw [show 65 * 0 + (0 + d) = 0 + d by omega]; exact a2
    · rw [a5 j e]
      refine h4 j q1 q2 ?_
      rcases q3 with q | ⟨q, -⟩
      · exact Or.inl q
      · rcases Nat.eq_zero_or_pos fr with z | z
        · exact absurd (by omega) e
        · exact Or.inr ⟨q, z⟩
  · intro i hi; rw [a7 19 (by decide)]; exact h5 i hi
  · intro i hi; rw [b6 2 (by decide)]; exact h6 i hi
  · intro i hi; rw [b3, upd_at, if_neg (by omega)]
theorem bs_fr (hoc : ∀ i, oc i ≤ 100) (hnn : nn ≤ 64) {d : Nat} (hd : 1 ≤ d) (hdn : d ≤ nn) {k157 : Int32 → Int32 → Int32 → Ob → Option (Int32 × Ob)} {k14 : Int32 → Int32 → Ob → Ob → Ob → Option Ob} {v2 : Int32} : ∀ (m fr n1 n2 : Nat) (x w : Ob), m + fr + d = nn + 1 → m < n1 → m < n2 → BSt oc nn d fr x w →
    ∃ x' w', fX6_best_L166 k157 n1 v2 (nI nn) (nI d) (nI fr) x = fX6_best_J192 k157 v2 (nI nn) (nI d) x' ∧ fX0_workOut_L30 k14 n2 (nI nn) (nI d) (nI fr) y w zr = fX0_workOut_J63 k14 (nI nn) (nI d) y w' zr ∧ BSt oc nn d (nn + 1 - d) x' w' ∧ BFr x w x' w' := by
  intro m
  induction m with
  | zero =>
    intro fr n1 n2 x w h1 h2 h3 h
    obtain ⟨n1, rfl⟩ := Nat.exists_eq_succ_of_ne_zero (by omega : n1 ≠ 0)
    obtain ⟨n2, rfl⟩ := Nat.exists_eq_succ_of_ne_zero (by omega : n2 ≠ 0)
    have e : fr = nn + 1 - d := by omega
    rw [← e]
    exact ⟨x, w, by rw [fX6_best_L166, nI_add, if_pos (nI_lt (by omega) (by omega))], by rw [fX0_workOut_L30, nI_add, if_pos (nI_lt (by omega) (by omega))], h, BFr.rf _ _⟩
  | succ m ih =>
    intro fr n1 n2 x w h1 h2 h3 h
    obtain ⟨n1, rfl⟩ := Nat.exists_eq_succ_of_ne_zero (by omega : n1 ≠ 0)
    obtain ⟨n2, rfl⟩ := Nat.exists_eq_succ_of_ne_zero (by omega : n2 ≠ 0)
    obtain ⟨x1, w1, a1, a2, a3, a4⟩ := bs_step hoc hnn hd (by omega) h
    obtain ⟨x', w', b1, b2, b3, b4⟩ := ih (fr + 1) n1 n2 x1 w1 (by omega) (by omega) (by omega) a3
    refine ⟨x', w', ?_, ?_, b3, a4.tr b4⟩
    · rw [fX6_best_L166, nI_add, if_neg (nI_nlt (by omega) (by omega)), a1, Option.bind_some, px_let, nI_1, b1]
    · rw [fX0_workOut_L30, nI_add, if_neg (nI_nlt (by omega) (by omega)), if_neg (st64 (by omega)), a2, Option.bind_some, px_let, nI_1, b2]
theorem bs_next {d : Nat} (hd : 1 ≤ d) (hdn : d ≤ nn) (h : BSt oc nn d (nn + 1 - d) x w) : BSt oc nn (d + 1) 0 x w := by
  obtain ⟨h1, h2, h3, h4, h5, h6⟩ := h
  refine ⟨fun i j q1 q2 q3 => h1 i j q1 q2 ?_, fun i q1 => by omega, fun i q1 q2 q3 => ?_, fun j q1 q2 q3 => h4 j q1 q2 ?_, h5, h6⟩
  · omega
  · have := h2 i (by omega) (by omega)
    rw [show d + 1 - 1 = d by omega]; exact this
  · omega
theorem bs_all (hoc : ∀ i, oc i ≤ 100) (hnn : nn ≤ 64) {v2 : Int32} : ∀ (m d n1 n2 : Nat) (x w : Ob), m + d = nn + 1 → 1 ≤ d → m < n1 → m < n2 → BSt oc nn d 0 x w →
    ∃ x' w', fX6_best_L157 n1 v2 (nI nn) (nI d) x = fX6_best_J198 v2 (nI nn) x' ∧ fX0_workOut_L14 n2 (nI nn) (nI d) y w zr = fX0_workOut_J69 (nI nn) y w' zr ∧ BSt oc nn (nn + 1) 0 x' w' ∧ BFr x w x' w' := by
  intro m
  induction m with
  | zero =>
    intro d n1 n2 x w h1 hd h2 h3 h
    obtain ⟨n1, rfl⟩ := Nat.exists_eq_succ_of_ne_zero (by omega : n1 ≠ 0)
    obtain ⟨n2, rfl⟩ := Nat.exists_eq_succ_of_ne_zero (by omega : n2 ≠ 0)
    have e : d = nn + 1 := by omega
    subst e
    exact ⟨x, w, by rw [fX6_best_L157, if_pos (nI_lt (by omega) (by omega))], by rw [fX0_workOut_L14, if_pos (nI_lt (by omega) (by omega))], h, BFr.rf _ _⟩
  | succ m ih =>
    intro d n1 n2 x w h1 hd h2 h3 h
    obtain ⟨n1, rfl⟩ := Nat.exists_eq_succ_of_ne_zero (by omega : n1 ≠ 0)
    obtain ⟨n2, rfl⟩ := Nat.exists_eq_succ_of_ne_zero (by omega : n2 ≠ 0)
    obtain ⟨x1, w1, a1, a2, a3, a4⟩ := bs_fr (y := y) (zr := zr) (k157 := fX6_best_L157 n1) (k14 := fX0_workOut_L14 n2) (v2 := v2) hoc hnn hd (by omega : d ≤ nn) (nn + 1 - d) 0 FU FU x w (by omega) (by show _ < 5000; omega) (by show _ < 5000; omega) h
    obtain ⟨x', w', b1, b2, b3, b4⟩ := ih (d + 1) n1 n2 x1 w1 (by omega) (by omega) (by omega) (by omega) (bs_next hd (by omega) a3)
    refine ⟨x', w', ?_, ?_, b3, a4.tr b4⟩
    · rw [fX6_best_L157, if_neg (nI_nlt (by omega) (by omega))]
      show fX6_best_L166 _ FU v2 (nI nn) (nI d) (nI 0) x = _
      rw [a1, fX6_best_J192, px_let, nI_1, b1]
    · rw [fX0_workOut_L14, if_neg (nI_nlt (by omega) (by omega)), if_neg (nlt64 (by omega))]
      show fX0_workOut_L30 _ FU (nI nn) (nI d) (nI 0) y w zr = _
      rw [a2, fX0_workOut_J63, px_let, nI_1, b2]
end B3
/-- what BestStill always holds -/
def BI (w : Ob) : Prop := w.2 2 0 = 0 ∧ ∀ i, i ≤ 64 → w.2 3 (66 * i) = 0
section B4
variable {t : Nat} {x y T z w : Ob} {G : Gh}
set_option maxHeartbeats 1000000 in
/-- BEST -/
theorem sim_best {n : Nat} (hn : n ≤ 8) (h1 : x.1 1 = nI n) (ht : t < n) (h : TR t x T y z G) (hB : BI w) (p2 : Int32) : ∃ (v : Int32) (x' w' : Ob), fX6_best (nI t) p2 x = some (v, x') ∧ fX5_best_T (nI t) p2 y z w = some (v, w') ∧ BI w' ∧ x'.1 = (ob_i x 0 0).1 ∧ (∀ d, d ∉ [14, 19, 20, 21] → x'.2 d = x.2 d) := by
  have ht8 : t < 8 := by omega
  have h1' : (ob_i x 0 0).1 1 = nI n := h1
  have s' : Sim t (ob_i x 0 0) y G := h.1.fr (is := [0]) (cs := []) (s := t) (Fr.i _ _ _ _ (by decide)) (by decide) (by decide) (by decide) (by decide) (by decide) (by decide)
  by_cases q1 : p2 < 0
  · exact ⟨-1, ob_i x 0 0, w, by rw [fX6_best, px_let, isTree_1 hn h1' ht, Option.bind_some, if_neg (by decide), if_pos q1], by rw [fX5_best_T, if_pos q1], hB, rfl, fun _ _ => rfl⟩
  by_cases q2 : p2 ≤ 1
  · obtain ⟨r, r1, r2, r3, r4⟩ := h.2.2.2.2.2.1.keys
    obtain ⟨w1, a1, a2, a3, a4⟩ := ca_ok (z := z) r1 r2 (fun i hi => (r4 i hi).1) w
    obtain ⟨x1, w2, sk, b1, b2, ⟨b3, b3'⟩, b4, b5, b6, b7⟩ := ga_L (z := z) (v2 := p2) s' ht8 r1 64 0 FU FU (ob_i x 0 0) w1 (fun _ => 0) (by omega) fu64 fu64 r3 (fun i hi => (r4 i hi).2) (fun k hk => s'.isIn hk) a2 ⟨fun i hi => absurd hi (Nat.not_lt_zero _), fun i hi => by
      have e : i = 0 := Nat.le_zero.mp hi
      rw [e, a4 2 (by decide), hB.1]; rfl⟩
    obtain ⟨x2, c1, c2, c3, c4⟩ := rz_L (v2 := p2) (v3 := nI (cnt (gI G) 0 64)) 4290 0 FU x1 (by omega) (by decide) (fun k hk => by omega)
    have nn64 := cnt_le (gI G) 0 64
    generalize cnt (gI G) 0 64 = nn at *
    have hoc : ∀ i, (fun i => occ z r (sk i)) i ≤ 100 := fun i => Nat.le_trans (occ_le z (sk i) r) r1
    have dia : ∀ i, i ≤ 64 → w2.2 3 (66 * i) = 0 := fun i hi => by rw [b7 3 (by decide), a4 3 (by decide)]; exact hB.2 i hi
    have B0 : BSt (fun i => occ z r (sk i)) nn 1 0 x2 w2 := by
      refine ⟨fun i j u1 u2 u3 => ?_, fun i u1 => by omega, fun i u1 u2 => by omega, fun j u1 u2 u3 => by omega, fun i hi => ?_, b3'⟩
      · have e : j = i := by omega
        subst e
        rw [cs_0, c2 _ (by omega), show 65 * j + j = 66 * j by omega, dia j (by omega)]; exact ⟨rfl, rfl⟩
      · rw [c4 19 (by decide)]; exact (b3 i hi).2.2.2
    obtain ⟨x3, w3, d1, d2, d3, d4⟩ := bs_all (y := y) (zr := z) (v2 := p2) hoc nn64 nn 1 FU FU x2 w2 (by omega) (by omega) (by show nn < 5000; omega) (by show nn < 5000; omega) B0
    obtain ⟨e1, e2, e3, e4, e5⟩ := d4
    obtain ⟨t1, t2, t3, t4, t5, t6⟩ := d3
    have ref : fX6_best (nI t) p2 x = fX6_best_J198 p2 (nI nn) x3 := by
      rw [fX6_best, px_let, isTree_1 hn h1' ht, Option.bind_some, if_neg (by decide), if_neg q1, if_pos q2]
      show fX6_best_L29 FU (nI t) p2 (nI 0) (nI 0) _ = _
      have b1' : fX6_best_L29 FU (nI t) p2 (nI 0) (nI 0) (ob_i x 0 0) = _ := b1
      rw [b1', fX6_best_J129]
      show fX6_best_L132 FU p2 (nI nn) (nI 0) x1 = _
      rw [c1, fX6_best_J154]; exact d1
    have cls : fX0_workOut y w z = fX0_workOut_J69 (nI nn) y w3 z := by
      rw [fX0_workOut, a1, Option.bind_some, fX0_gatherKeys]
      show Option.bind (fX0_gatherKeys_L4 FU (nI 0) (nI 0) y w1) _ = _
      have b2' : fX0_gatherKeys_L4 FU (nI 0) (nI 0) y w1 = _ := b2
      rw [b2', Option.bind_some, px_let]; exact d2
    have k14 : x3.2 14 = x1.2 14 := by rw [e2 14 (by decide), c4 14 (by decide)]
    have k0 : w3.2 0 = w2.2 0 := e4 0 (by decide)
    have v20 := t1 0 nn (by omega) (by omega) (Or.inl (by omega))
    rw [Nat.mul_zero, Nat.zero_add] at v20
    have frx : x3.1 = (ob_i x 0 0).1 := by rw [e1, c3, b4]
    have fry : ∀ d, d ∉ [14, 19, 20, 21] → x3.2 d = x.2 d := fun d hd => by
      simp at hd
      rw [e2 d (by simp; omega), c4 d (by omega), b5 d (by simp; omega)]; rfl
    have hB' : ∀ a b, BI (ob_i (ob_i w3 5 a) 6 b) := fun a b => ⟨by
      show w3.2 2 0 = 0
      have := t6 0 (by omega)
      rw [this]; rfl, fun i hi => by
      show w3.2 3 (66 * i) = 0
      rw [e5 i hi]; exact dia i hi⟩
    have cls1 : fX0_workOut_J69 (nI nn) y w3 z = (if nI nn = 0 then some (ob_i (ob_i w3 5 (nI (cs (fun i => occ z r (sk i)) 0 nn))) 6 (-1)) else Option.bind (fX5_at 64 (0) (w3.2 4)) (fun q99 => Option.bind (fX5_at 64 q99 (w3.2 0)) (fun q102 => some (ob_i (ob_i w3 5 (nI (cs (fun i => occ z r (sk i)) 0 nn))) 6 q102)))) := by
      rw [fX0_workOut_J69, at_in (by omega) (by decide), Option.bind_some, px_let, v20.2]; rfl
    by_cases qn : nn = 0
    · rw [if_pos (by rw [qn]; decide)] at cls1
      by_cases q3 : p2 = 0
      · refine ⟨nI (cs (fun i => occ z r (sk i)) 0 nn), x3, ob_i (ob_i w3 5 (nI (cs (fun i => occ z r (sk i)) 0 nn))) 6 (-1), ?_, ?_, hB' _ _, frx, fry⟩
        · rw [ref, fX6_best_J198, if_pos q3, ix_nI (by omega) (by decide), v20.1]
        · rw [fX5_best_T, if_neg q1, if_pos q2, cls, cls1, Option.bind_some, if_pos q3]; rfl
      · refine ⟨-1, x3, ob_i (ob_i w3 5 (nI (cs (fun i => occ z r (sk i)) 0 nn))) 6 (-1), ?_, ?_, hB' _ _, frx, fry⟩
        · rw [ref, fX6_best_J198, if_neg q3, if_pos (by rw [qn]; decide)]
        · rw [fX5_best_T, if_neg q1, if_pos q2, cls, cls1, Option.bind_some, if_neg q3]; rfl
    · obtain ⟨K, u1, u2⟩ := t4 nn (by omega) (by omega) (Or.inl (by omega))
      obtain ⟨K', u3, u4⟩ := t3 0 (by omega) (by omega) (by omega)
      rw [show 0 + (nn + 1 - 1) = nn by omega] at u4
      have eK : K' = K := Kr.of u4 u2 (Nat.le_refl _) u2.1 u2.2.1 (Nat.le_refl _)
      subst eK
      have hK64 : K' < nn := u4.2.1
      obtain ⟨s1, s2, s3, s4⟩ := b3 K' hK64
      have nz : ¬ nI nn = 0 := nI_ne0 (by omega) (by omega)
      rw [if_neg nz, show (0 : Int32) = nI 0 from rfl, at_in (by omega) (by decide), Option.bind_some, u3, at_in (by omega) (by decide), Option.bind_some, k0, s3] at cls1
      by_cases q3 : p2 = 0
      · refine ⟨nI (cs (fun i => occ z r (sk i)) 0 nn), x3, ob_i (ob_i w3 5 (nI (cs (fun i => occ z r (sk i)) 0 nn))) 6 (nI (sk K')), ?_, ?_, hB' _ _, frx, fry⟩
        · rw [ref, fX6_best_J198, if_pos q3, ix_nI (by omega) (by decide), v20.1]
        · rw [fX5_best_T, if_neg q1, if_pos q2, cls, cls1, Option.bind_some, if_pos q3]; rfl
      · refine ⟨nI (sk K'), x3, ob_i (ob_i w3 5 (nI (cs (fun i => occ z r (sk i)) 0 nn))) 6 (nI (sk K')), ?_, ?_, hB' _ _, frx, fry⟩
        · rw [ref, fX6_best_J198, if_neg q3, if_neg nz, ix_nI (by omega) (by decide), u1, ix_nI (by omega) (by decide), k14, s2]
        · rw [fX5_best_T, if_neg q1, if_pos q2, cls, cls1, Option.bind_some, if_neg q3]; rfl
  · exact ⟨-1, ob_i x 0 0, w, by rw [fX6_best, px_let, isTree_1 hn h1' ht, Option.bind_some, if_neg (by decide), if_neg q1, if_neg q2], by rw [fX5_best_T, if_neg q1, if_neg q2], hB, rfl, fun _ _ => rfl⟩
end B4
