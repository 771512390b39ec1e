section J3
variable {t s : Nat} {x y y2 T T2 z z2 : Ob} {G G2 : Gh} {tn tn2 : Int32}
theorem jb_t {α : Type} {p : Nat → Bool} {a b : Nat → α} {j : Nat} (h : p j = true) : ifb p a b j = a j := if_pos h
theorem jb_f {α : Type} {p : Nat → Bool} {a b : Nat → α} {j : Nat} (h : p j = false) : ifb p a b j = b j := if_neg (by rw [h]; decide)
theorem rs_hangRoot {L R U : Nat → Option Nat} {sz : Nat → Nat} {rt o : Option Nat} (h : RepS y L R U sz rt tn) (ho : Bd o) (hU : ∀ r, o = some r → U r = none) : ∃ y', fX3_hang (enc o) (-1) y = some y' ∧ RepS y' L R U sz o tn := by
  cases o with
  | none =>
    refine ⟨ob_i (ob_f y 2 (y.2 2)) 5 (-1), by rw [fX3_hang, enc_n, put_m1, Option.bind_some, px_let, if_pos rfl, px_let], h.1, h.2.1, h.2.2.1, h.2.2.2.1, rfl, h.2.2.2.2.2⟩
  | some r =>
    obtain ⟨y', a1, a2, a3⟩ := rs_hang h (ho r rfl) Bd_n
    refine ⟨y', a1, a2.congr (fun k hk => by rw [hgL, if_neg (by simp)]) (fun k hk => by rw [hgR, if_neg (by simp)]) (fun k hk => ?_) (fun k hk => rfl) (by rw [if_pos rfl]) rfl⟩
    by_cases e : k = r
    · rw [e, vu_eq, hU r rfl]
    · rw [vu_ne e]
theorem cls_move (h : TR t x T y z G) (h2 : TR s x T2 y2 z2 G2) : ∃ y21 y1, fX3_moveKeys 0 y2 y = some (y21, y1) ∧ RepS (ob_i y21 5 (-1)) (fun _ => none) (fun _ => none) (fun _ => none) (fun _ => 0) none (x.2 9 s) ∧ RepS y1 (mL G G2) (mR G G2) (mU G G2) (mS G G2) (gr G) (x.2 9 t) := by
  obtain ⟨y', y1', e, r1, r2⟩ := rs_move (f := 0) (by omega) h2.1.sz (WF.bL h2.1.1 h2.1.2.1) h2.1.2.2.2.1 h.1.2.2.2.1
  have mv : ∀ k, k < 64 → mvd 0 (gs G2) 64 k = gI G2 k := by
    intro k hk
    have q := h2.1.2.2.1 k
    cases w : gI G2 k with
    | true => rw [mvd_i]; have := q.1 w; omega
    | false =>
      cases v : mvd 0 (gs G2) 64 k with
      | false => rfl
      | true => rw [mvd_i] at v; have := q.2 w; omega
  have zz1 : ∀ {α : Type} (a b : Nat → α) k, k < 64 → ifb (mvd 0 (gs G2) 64) a b k = ifb (gI G2) a b k := by
    intro α a b k hk
    unfold ifb
    rw [mv k hk]
  have zz2 : ∀ {α : Type} (a b : Nat → α) (v : α) k, k < 64 → (∀ j, a j = v) → (gI G2 k = false → b k = v) → ifb (mvd 0 (gs G2) 64) a b k = v := by
    intro α a b v k hk ha hb
    rw [zz1 a b k hk]
    cases w : gI G2 k with
    | true => rw [jb_t w, ha]
    | false => rw [jb_f w, hb w]
  refine ⟨y', y1', e, ?_, r2.congr (zz1 _ _) (zz1 _ _) (zz1 _ _) (zz1 _ _) rfl rfl⟩
  obtain ⟨a1, a2, a3, a4, a5, a6⟩ := r1
  have hN := h2.1.2.1
  have hS := h2.1.2.2.1
  refine ⟨fun k hk => ?_, fun k hk => ?_, fun k hk => ?_, fun k hk => ?_, rfl, a6⟩
  · exact (a1 k hk).trans (congrArg enc (zz2 _ _ none k hk (fun _ => rfl) (fun q => (hN k q).1)))
  · exact (a2 k hk).trans (congrArg enc (zz2 _ _ none k hk (fun _ => rfl) (fun q => (hN k q).2.1)))
  · exact (a3 k hk).trans (congrArg enc (zz2 _ _ none k hk (fun _ => rfl) (fun q => (hN k q).2.2)))
  · exact (a4 k hk).trans (congrArg nI (zz2 _ _ 0 k hk (fun _ => rfl) (fun q => (hS k).2 q)))
theorem ref_move {L R U : Nat → Option Nat} {rt : Option Nat} {I : Nat → Bool} {v3 : Int32} (hts : t ≠ s) (ht : t < 8) (hs : s < 8) (h64 : ∀ k, gI G2 k = true → k < 64) (h : RepM x t L R U rt I) (h2 : RepM x s (gL G2) (gR G2) (gU G2) (gr G2) (gI G2)) :
    ∃ x', fX6_join_J111 (nI t) (nI s) v3 x = fX6_join_J224 (nI t) (nI s) v3 x' ∧ RepM x' t (ifb (gI G2) (gL G2) L) (ifb (gI G2) (gR G2) R) (ifb (gI G2) (gU G2) U) rt (jOr I (gI G2)) ∧ (∀ k, k < 64 → x'.2 7 (64 * s + k) = 0) ∧ Fr2 [] [4, 5, 6, 7] t s x x' := by
  have e0 : ∀ {α : Type} (a b : Nat → α), ifb (fun k => gI G2 k && decide (k < 0)) a b = b := by
    intro α a b; funext k; simp [ifb]
  have eI : (fun k => I k || (gI G2 k && decide (k < 0))) = I := by funext k; simp
  obtain ⟨x', a1, a2⟩ := jn_move (v3 := v3) (L := L) (R := R) (U := U) (L2 := gL G2) (R2 := gR G2) (U2 := gU G2) (rt := rt) (rt2 := none) (I := I) (I2 := gI G2) hts ht hs h64 64 0 FU x (by omega) fu64 (by rw [e0, e0, e0, eI]; exact h)
    (fun k hk => by
      have := h2.1 k hk
      show sl x 7 s k = _
      rw [this]
      by_cases q : gI G2 k = true
      · rw [if_pos q, if_pos ⟨q, Nat.zero_le _⟩]
      · rw [if_neg q, if_neg (fun w => q w.1)])
    (fun k hk => ⟨h2.2.1 k hk, h2.2.2.1 k hk, h2.2.2.2.1 k hk⟩)
  exact ⟨x', a1, a2⟩
theorem great_none (ht : t < 8) (h : x.2 3 t = -1) : fX6_greatest (nI t) x = some (-1) := by
  rw [fX6_greatest, ix_nI ht (by decide), px_let, h, fu_s, fX6_greatest_L7, if_pos m1_lt]
theorem WF.no (h : GW G) (hg : gr G = none) : ∀ j, gI G j = false := h.2.2.2.2.2.2.2.2 hg
/-- JOIN where one is empty -/
theorem jn_one (hts : t ≠ s) (ht : t < 8) (hs : s < 8) (h : TR t x T y z G) (h2 : TR s x T2 y2 z2 G2) (hk : T.1 0 = T2.1 0) (h0 : x.1 0 = 0) (hne : gr G = none ∨ gr G2 = none) :
    ∃ (x' yf y2f T' T2' : Ob) (Gf : Gh), fX6_join_J76 (nI t) (nI s) x = some (1, x') ∧ fX4_takeOver T y y2 = some (yf, y2f) ∧ fX4_beginMost T yf = some T' ∧ fX4_beginMost T2 y2f = some T2' ∧ TR t x' T' yf z Gf ∧ TR s x' T2' y2f z2 gE ∧ Fr2 [0] JC t s x x' ∧ x'.1 0 = 0 := by
  obtain ⟨y21, y1, m1, m2, m3⟩ := cls_move h h2
  obtain ⟨κ, κ5, κ1⟩ := h.2.2.2.2.2.2.1
  have κ2 : T2.1 0 = nI κ := by rw [← hk]; exact κ1
  have e5 : y.1 5 = enc (gr G) := h.1.2.2.2.1.2.2.2.2.1
  have e25 : y2.1 5 = enc (gr G2) := h2.1.2.2.2.1.2.2.2.2.1
  have x3t : x.2 3 t = enc (gr G) := h.1.2.2.2.2.2.2.2.2
  have x3s : x.2 3 s = enc (gr G2) := h2.1.2.2.2.2.2.2.2.2
  have x8s : x.2 8 s = nI (cnt (gI G2) 0 64) := h2.2.2.2.2.1
  have h64 : ∀ k, gI G2 k = true → k < 64 := fun k hk => h2.1.k64 hk
  have b2 : Bd (gr G2) := WF.brt h2.1.1
  cases hg : gr G with
  | none =>
    have I0 := WF.no h.1.1 hg
    have hn := h.1.2.1
    obtain ⟨x', f1, f2, f3, f4⟩ := ref_move (v3 := -1) hts ht hs h64 h.1.2.2.2.2 h2.1.2.2.2.2
    have kk := f4.2.1
    have f5 : Fr2 [0] JC t s x x' := f4.mono (by simp) (by decide)
    have mq : ∀ k, mL G G2 k = gL G2 k ∧ mR G G2 k = gR G2 k ∧ mU G G2 k = gU G2 k ∧ mS G G2 k = gs G2 k := by
      intro k
      obtain ⟨q1, q2, q3⟩ := hn k (I0 k)
      cases w : gI G2 k with
      | true => exact ⟨jb_t w, jb_t w, jb_t w, jb_t w⟩
      | false =>
        obtain ⟨v1, v2, v3⟩ := h2.1.2.1 k w
        exact ⟨(jb_f w).trans (q1.trans v1.symm), (jb_f w).trans (q2.trans v2.symm), (jb_f w).trans (q3.trans v3.symm), (jb_f w).trans (((h.1.2.2.1 k).2 (I0 k)).trans ((h2.1.2.2.1 k).2 w).symm)⟩
    have hIe : gI G2 = jOr (gI G) (gI G2) := by funext k; unfold jOr; rw [I0 k]; rfl
    obtain ⟨yf, g1, g2⟩ := rs_hangRoot (o := gr G2) m3 b2 (fun r hr => by rw [(mq r).2.2.1]; exact (h2.1.1.2.2.2.2.2.2.2.1 r hr).2.1)
    have g3 : RepS yf (gL G2) (gR G2) (gU G2) (gs G2) (gr G2) (x.2 9 t) := g2.congr (fun k _ => (mq k).1) (fun k _ => (mq k).2.1) (fun k _ => (mq k).2.2.1) (fun k _ => (mq k).2.2.2) rfl rfl
    have hm : RepM x' t (gL G2) (gR G2) (gU G2) none (gI G2) := by
      obtain ⟨c1, c2, c3, c4, c5⟩ := f2
      have ii : ∀ k, gI G2 k = true → jOr (gI G) (gI G2) k = true := fun k hk => jOr_i.mpr (Or.inr hk)
      refine ⟨fun k hk => by rw [hIe]; exact c1 k hk, fun k hk => ?_, fun k hk => ?_, fun k hk => ?_, by rw [← hg]; exact c5⟩
      · rw [c2 k (ii k hk), jb_t hk]
      · rw [c3 k (ii k hk), jb_t hk]
      · rw [c4 k (ii k hk), jb_t hk]
    have cls : fX4_takeOver T y y2 = some (yf, ob_i y21 5 (-1)) := by
      rw [fX4_takeOver, px_let, px_let, m1, Option.bind_some, px_let, e5, hg, enc_n, if_pos rfl, e25]
      rw [g1]; rfl
    have ref0 : fX6_join_J76 (nI t) (nI s) x = fX6_join_J224 (nI t) (nI s) (-1) x' := by
      rw [fX6_join_J76, great_none ht (by rw [x3t, hg]; rfl), Option.bind_some, if_pos m1_lt, f1]
    have r3s : x'.2 3 s = enc (gr G2) := by rw [f4.2.1 3 (by decide)]; exact x3s
    have r3t : x'.2 3 t = -1 := by rw [f4.2.1 3 (by decide), x3t, hg]; rfl
    cases hg2 : gr G2 with
    | none =>
      rw [hg2] at g3
      have RES := jn_end (x3 := x') (yf := yf) (y2f := ob_i y21 5 (-1)) (Gf := G2) (κ := κ) hts ht hs h h2 κ1 κ2 κ5 f5 (by rw [f4.2.1 8 (by decide)]) (by rw [f4.1 0 (by simp)]; exact h0) h2.1.1 h2.1.2.1 h2.1.2.2.1 (by rw [f4.2.1 9 (by decide), hg2]; exact g3) (by rw [hg2]; exact hm) hIe (fun k q => by rw [I0 k] at q; cases q) (by rw [f4.2.1 9 (by decide)]; exact m2) f3
      obtain ⟨xe, T', T2', w1, w2, w3, w4, w5, w6, w7⟩ := RES
      refine ⟨xe, yf, _, T', T2', G2, ?_, cls, w2, w3, w4, w5, w6, w7⟩
      rw [ref0, fX6_join_J224, ix_nI hs (by decide), r3s, hg2, enc_n, if_pos m1_lt, w1]
    | some r2 =>
      have hb2 : Bd (some r2) := by rw [← hg2]; exact b2
      have f6 : Fr2 [0] JC t s x (ob_a x' 3 t (nI r2)) := f5.tr (Fr2.a _ _ _ (by decide) (Or.inr (Or.inl (inT1 (by decide) (by decide)))))
      have hm2 : RepM (ob_a x' 3 t (nI r2)) t (gL G2) (gR G2) (gU G2) (gr G2) (gI G2) := by
        obtain ⟨c1, c2, c3, c4, c5⟩ := hm
        refine ⟨fun k hk => ?_, fun k hk => ?_, fun k hk => ?_, fun k hk => ?_, ?_⟩
        · rw [sl_n _ _ _ _ (by decide)]; exact c1 k hk
        · rw [sl_n _ _ _ _ (by decide)]; exact c2 k hk
        · rw [sl_n _ _ _ _ (by decide)]; exact c3 k hk
        · rw [sl_n _ _ _ _ (by decide)]; exact c4 k hk
        · rw [ar_a, upd_at, if_pos rfl, hg2]; rfl
      have RES := jn_end (x3 := ob_a x' 3 t (nI r2)) (yf := yf) (y2f := ob_i y21 5 (-1)) (Gf := G2) (κ := κ) hts ht hs h h2 κ1 κ2 κ5 f6 (by rw [ar_n _ _ _ (by decide), f4.2.1 8 (by decide)]) (by show x'.1 0 = 0; rw [f4.1 0 (by simp)]; exact h0) h2.1.1 h2.1.2.1 h2.1.2.2.1 (by rw [ar_n _ _ _ (by decide), f4.2.1 9 (by decide)]; exact g3) hm2 hIe (fun k q => by rw [I0 k] at q; cases q) (by rw [ar_n _ _ _ (by decide), f4.2.1 9 (by decide)]; exact m2) (fun k hk => by rw [ar_n _ _ _ (by decide)]; exact f3 k hk)
      obtain ⟨xe, T', T2', w1, w2, w3, w4, w5, w6, w7⟩ := RES
      refine ⟨xe, yf, _, T', T2', G2, ?_, cls, w2, w3, w4, w5, w6, w7⟩
      rw [ref0, fX6_join_J224, ix_nI hs (by decide), r3s, hg2, if_neg (fun e => by rw [enc_lt0 hb2] at e; cases e), ix_nI ht (by decide), r3t, if_neg (by decide), ix_nI hs (by decide), ix_nI ht (by decide), px_let, r3s, hg2, enc_s, w1]
  | some r =>
    have hg2 : gr G2 = none := by
      rcases hne with q | q
      · rw [hg] at q; cases q
      · exact q
    have I0 := WF.no h2.1.1 hg2
    obtain ⟨g, -, q2, q3, q4, q5⟩ := sim_great h.1.1 h.1.2.2.2.1 h.1.2.2.2.2 ht hg
    have hg64 := h.1.k64 q3
    obtain ⟨x', f1, f2, f3, f4⟩ := ref_move (v3 := nI g) hts ht hs h64 h.1.2.2.2.2 h2.1.2.2.2.2
    have f5 : Fr2 [0] JC t s x x' := f4.mono (by simp) (by decide)
    have hIe : gI G = jOr (gI G) (gI G2) := by funext k; unfold jOr; rw [I0 k]; cases gI G k <;> rfl
    have hb : Bd (some r) := by rw [← hg]; exact WF.brt h.1.1
    have g3 : RepS y1 (gL G) (gR G) (gU G) (gs G) (gr G) (x.2 9 t) := m3.congr (fun k _ => jb_f (I0 k)) (fun k _ => jb_f (I0 k)) (fun k _ => jb_f (I0 k)) (fun k _ => jb_f (I0 k)) rfl rfl
    have hm : RepM x' t (gL G) (gR G) (gU G) (gr G) (gI G) := by
      obtain ⟨c1, c2, c3, c4, c5⟩ := f2
      have ii : ∀ k, gI G k = true → jOr (gI G) (gI G2) k = true := fun k hk => jOr_i.mpr (Or.inl hk)
      refine ⟨fun k hk => by rw [hIe]; exact c1 k hk, fun k hk => ?_, fun k hk => ?_, fun k hk => ?_, c5⟩
      · rw [c2 k (ii k hk), jb_f (I0 k)]
      · rw [c3 k (ii k hk), jb_f (I0 k)]
      · rw [c4 k (ii k hk), jb_f (I0 k)]
    have cls : fX4_takeOver T y y2 = some (y1, ob_i y21 5 (-1)) := by
      rw [fX4_takeOver, px_let, px_let, m1, Option.bind_some, px_let, e5, hg, if_neg (fun e => by rw [enc_m1 hb] at e; cases e), e25, hg2, enc_n, if_pos rfl, fX4_takeOver_J75, if_pos rfl]
    have c0 : cnt (gI G2) 0 64 = 0 := cnt_zero (fun j _ _ q => by rw [I0 j] at q; cases q)
    have ref0 : fX6_join_J76 (nI t) (nI s) x = fX6_join_J224 (nI t) (nI s) (nI g) x' := by
      rw [fX6_join_J76, q2, Option.bind_some, if_neg (nI_pos (by omega)), ix_nI ht (by decide)]
      by_cases w : x.2 2 t = 5
      · rw [if_pos w, f1]
      · rw [if_neg w, ix_nI hs (by decide), x8s, c0, if_pos (by decide), f1]
    have r3s : x'.2 3 s = enc (gr G2) := by rw [f4.2.1 3 (by decide)]; exact x3s
    have RES := jn_end (x3 := x') (yf := y1) (y2f := ob_i y21 5 (-1)) (Gf := G) (κ := κ) hts ht hs h h2 κ1 κ2 κ5 f5 (by rw [f4.2.1 8 (by decide)]) (by rw [f4.1 0 (by simp)]; exact h0) h.1.1 h.1.2.1 h.1.2.2.1 (by rw [f4.2.1 9 (by decide)]; exact g3) hm hIe (fun k _ => I0 k) (by rw [f4.2.1 9 (by decide)]; exact m2) f3
    obtain ⟨xe, T', T2', w1, w2, w3, w4, w5, w6, w7⟩ := RES
    refine ⟨xe, y1, _, T', T2', G, ?_, cls, w2, w3, w4, w5, w6, w7⟩
    rw [ref0, fX6_join_J224, ix_nI hs (by decide), r3s, hg2, enc_n, if_pos m1_lt, w1]
end J3
