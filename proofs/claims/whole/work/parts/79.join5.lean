section J5
variable {t s : Nat} {x y y2 T T2 z z2 : Ob} {G G2 : Gh} {tn tn2 : Int32}
set_option maxHeartbeats 2000000 in
/-- JOIN of two of another kind -/
theorem jn_turns (hts : t ≠ s) (ht : t < 8) (hs : s < 8) (h : TR t x T y z G) (h2 : TR s x T2 y2 z2 G2) (hk : T.1 0 = T2.1 0) (h0 : x.1 0 = 0) (hord : ∀ i j, gI G i = true → gI G2 j = true → i < j) {r r2 : Nat} (hg : gr G = some r) (hg2 : gr G2 = some r2) (hk5 : ¬ T.1 0 = 5) :
    ∃ (x' yf y2f T' T2' : Ob) (Gf : Gh), fX6_join_J76 (nI t) (nI s) x = some (1, x') ∧ fX4_takeOver T y y2 = some (yf, y2f) ∧ fX4_beginMost T yf = some T' ∧ fX4_beginMost T2 y2f = some T2' ∧ TR t x' T' yf z Gf ∧ TR s x' T2' y2f z2 gE ∧ Fr2 [0] JC t s x x' ∧ x'.1 0 = 0 := by
  obtain ⟨y21, y1, m1, m2, m3⟩ := cls_move h h2
  obtain ⟨κ, κ5, κ1⟩ := h.2.2.2.2.2.2.1
  have κ2 : T2.1 0 = nI κ := by rw [← hk]; exact κ1
  have e5 : y.1 5 = enc (gr G) := h.1.2.2.2.1.2.2.2.2.1
  have e25 : y2.1 5 = enc (gr G2) := h2.1.2.2.2.1.2.2.2.2.1
  have x3s : x.2 3 s = enc (gr G2) := h2.1.2.2.2.2.2.2.2.2
  have x8s : x.2 8 s = nI (cnt (gI G2) 0 64) := h2.2.2.2.2.1
  have h64 : ∀ k, gI G2 k = true → k < 64 := fun k hk => h2.1.k64 hk
  have hd : ∀ k, gI G k = true → gI G2 k = false := fun k hk => by
    cases q : gI G2 k with
    | false => rfl
    | true => exact absurd (hord k k hk q) (Nat.lt_irrefl k)
  have hd2 : ∀ k, gI G2 k = true → gI G k = false := fun k hk => by
    cases q : gI G k with
    | false => rfl
    | true => exact absurd (hord k k q hk) (Nat.lt_irrefl k)
  have hb : Bd (some r) := by rw [← hg]; exact WF.brt h.1.1
  have hb2 : Bd (some r2) := by rw [← hg2]; exact WF.brt h2.1.1
  have hIr2 := (h2.1.1.2.2.2.2.2.2.2.1 r2 hg2)
  have c1 : 1 ≤ cnt (gI G2) 0 64 := by
    have q := GS.rt h2.1.1 h2.1.2.2.1
    rw [hg2] at q
    have q2 : gs G2 r2 = cnt (gI G2) 0 64 := q
    have := (h2.1.2.2.1 r2).1 hIr2.1
    omega
  have c2 := cnt_le (gI G2) 0 64
  let G0 : Gh := (mL G G2, mR G G2, mU G G2, gr G, gI G, glo G, ghi G, mS G G2)
  have mm := m_1 hd
  have W0 : GW G0 := WF.congr h.1.1 (fun k hk => (mm k hk).1) (fun k hk => (mm k hk).2.1) (fun k hk => (mm k hk).2.2.1)
  have RM0 : RepM x t (gL G0) (gR G0) (gU G0) (gr G0) (gI G0) := by
    obtain ⟨b1, b2, b3, b4, b5⟩ := h.1.2.2.2.2
    exact ⟨b1, fun k hk => (b2 k hk).trans (congrArg enc (mm k hk).1.symm), fun k hk => (b3 k hk).trans (congrArg enc (mm k hk).2.1.symm), fun k hk => (b4 k hk).trans (congrArg enc (mm k hk).2.2.1.symm), b5⟩
  have S0 : Sm t x y1 G0 := by
    refine ⟨W0, fun k => ?_, fun k => ?_, fun k => ?_, ?_, m3, RM0⟩
    · show Bd (ifb _ _ _ k)
      cases w : gI G2 k with
      | true => rw [jb_t w]; exact WF.bL h2.1.1 h2.1.2.1 k
      | false => rw [jb_f w]; exact WF.bL h.1.1 h.1.2.1 k
    · show Bd (ifb _ _ _ k)
      cases w : gI G2 k with
      | true => rw [jb_t w]; exact WF.bR h2.1.1 h2.1.2.1 k
      | false => rw [jb_f w]; exact WF.bR h.1.1 h.1.2.1 k
    · show Bd (ifb _ _ _ k)
      cases w : gI G2 k with
      | true => rw [jb_t w]; exact WF.bU h2.1.1 h2.1.2.1 k
      | false => rw [jb_f w]; exact WF.bU h.1.1 h.1.2.1 k
    · show ∀ k, gI G k = true → mS G G2 k = 1 + szo (mS G G2) (mL G G2 k) + szo (mS G G2) (mR G G2 k)
      exact sz_on (G := G) h.1.1 h.1.2.2.1 (fun k hk => (mm k hk).1) (fun k hk => (mm k hk).2.1) (fun k hk => (mm k hk).2.2.2)
  obtain ⟨g, u1, u2, u3, u4, u5⟩ := sim_great (G := G0) W0 m3 RM0 ht hg
  have hIg : gI G g = true := u3
  have hg64 : g < 64 := h.1.k64 hIg
  obtain ⟨x1, ya, G', a1, a2, a3, a4, a5, a6, a7⟩ := S0.raise ht u3
  have a4' : gI G' = gI G := a4
  obtain ⟨W', bL', bR', bU', sz', rs', rm'⟩ := a3
  have hg' : gr G' = some g := W'.2.2.2.2.2.1 g (by rw [a4']; exact hIg) a5
  have hR' : gR G' g = none := by
    cases q : gR G' g with
    | none => rfl
    | some c =>
      obtain ⟨v1, v2, v3, v4⟩ := W'.2.2.1 g c (by rw [a4']; exact hIg) q
      have := (W'.1 c v1)
      have := u5 c (by show gI G c = true; rw [← a4']; exact v1)
      omega
  have as2 : ∀ k, gI G2 k = true → gL G' k = gL G2 k ∧ gR G' k = gR G2 k ∧ gU G' k = gU G2 k ∧ gs G' k = gs G2 k := by
    intro k hk
    obtain ⟨v1, v2, v3, v4⟩ := a6 k (hd2 k hk)
    have w := m_2 (G := G) k hk
    exact ⟨v1.trans w.1, v2.trans w.2.1, v3.trans w.2.2.1, v4.trans w.2.2.2⟩
  have as0 : ∀ j, jOr (gI G) (gI G2) j = false → gL G' j = none ∧ gR G' j = none ∧ gU G' j = none ∧ gs G' j = 0 := by
    intro j hj
    obtain ⟨v1, v2, v3, v4⟩ := a6 j (jOr_f.mp hj).1
    have w := m_0 (G2 := G2) h.1.2.1 h.1.2.2.1 j hj
    exact ⟨v1.trans w.1, v2.trans w.2.1, v3.trans w.2.2.1, v4.trans w.2.2.2⟩
  have hord' : ∀ i j, gI G' i = true → gI G2 j = true → i < j := by rw [a4']; exact hord
  have hMP : MP (gL G') (gR G') (gU G') 0 64 (some g) (some r2) (gI G') (gI G2) := mp_of W' h2.1.1 hord' hg' hg2 (fun k _ => ⟨rfl, rfl, rfl⟩) (fun k hk => ⟨(as2 k hk).1, (as2 k hk).2.1, (as2 k hk).2.2.1⟩)
  rw [a4'] at hMP
  have hU : gU G' g = none ∧ gU G' r2 = none := ⟨a5, (as2 r2 hIr2.1).2.2.1.trans hIr2.2.1⟩
  have hz0 : ∀ j, jOr (gI G) (gI G2) j = true → gs G' j = 1 + szo (gs G') (gL G' j) + szo (gs G') (gR G' j) := by
    intro j hj
    rcases jOr_i.mp hj with q | q
    · exact sz' j (by rw [a4']; exact q)
    · exact sz_on h2.1.1 h2.1.2.2.1 (fun k hk => (as2 k hk).1) (fun k hk => (as2 k hk).2.1) (fun k hk => (as2 k hk).2.2.2) j q
  have hr264 := hb2 r2 rfl
  have hgr : g < r2 := hord g r2 hIg hIr2.1
  have hm : msq (fun _ _ => true) (gL G') (gR G') 65 (some g) (some r2) = g :: r2 :: [] := by
    rw [msq_2, if_pos rfl, hR']; rfl
  obtain ⟨yb, b1, b2, b3⟩ := rs_hang (b := some g) rs' hr264 (Bd_s hg64)
  obtain ⟨o1, o2⟩ := hg_gt (gL G') (gR G') (a := r2) (e := g) (by omega)
  have q1 : ovL (g :: r2 :: []) (gL G') = gL G' := by rw [ovL_c, if_neg (by omega), ovL_1]
  have q2 : ovR (g :: r2 :: []) (gR G') = va_up (gR G') g (some r2) := by rw [ovR_c, if_neg (by omega), ovR_1]
  have q3 : ovU (g :: r2 :: []) (gU G') = va_up (gU G') r2 (some g) := by rw [ovU_c, ovU_1]
  rw [o1, o2, hg', if_neg (by simp)] at b2
  obtain ⟨Gf, yf, d1, d2, d3, d4, d5, d6, d7, d8, d9, d10⟩ := merge_fin (y := yb) (tn := x1.2 9 t) hMP hU as0 hz0 hm (by rw [q1, q2, q3]; exact b2)
  -- the reference
  have h2' := h2.1.fr2 a7 (Ne.symm hts)
  obtain ⟨x2, f1, f2, f3, f4⟩ := ref_move (v3 := nI g) hts ht hs h64 rm' h2'.2.2.2.2
  have n1 : ifb (gI G2) (gL G2) (gL G') = gL G' := by
    funext k
    cases w : gI G2 k with
    | true => rw [jb_t w]; exact (as2 k w).1.symm
    | false => rw [jb_f w]
  have n2 : ifb (gI G2) (gR G2) (gR G') = gR G' := by
    funext k
    cases w : gI G2 k with
    | true => rw [jb_t w]; exact (as2 k w).2.1.symm
    | false => rw [jb_f w]
  have n3 : ifb (gI G2) (gU G2) (gU G') = gU G' := by
    funext k
    cases w : gI G2 k with
    | true => rw [jb_t w]; exact (as2 k w).2.2.1.symm
    | false => rw [jb_f w]
  rw [n1, n2, n3, a4', hg'] at f2
  obtain ⟨x3, p1, p2, p3, p4, p5, p6⟩ := rm_hangsR (x := x2) (a := some r2) (b := g) ht hb2 hg64
  have v3t : x2.2 3 t = nI g := f2.2.2.2.2
  have v3s : x2.2 3 s = nI r2 := by rw [f4.2.1 3 (by decide), a7.2.2 3 s (by decide) (inT_ne1 (Ne.symm hts) (by decide) (by decide)), x3s, hg2]; rfl
  have v2t : x2.2 2 t = T.1 0 := by rw [f4.2.1 2 (by decide), a7.2.1 2 (by decide)]; exact h.2.1
  have hmf : RepM x3 t (gL Gf) (gR Gf) (gU Gf) (gr Gf) (gI Gf) := by
    obtain ⟨b1, b2, b3, b4, b5⟩ := f2
    rw [d4, d5, d6, d7, d8, q1, q2, q3]
    refine ⟨fun k hk => ?_, fun k hk => ?_, fun k hk => ?_, fun k hk => ?_, ?_⟩
    · rw [p5]; exact b1 k hk
    · rw [p4]; exact b2 k hk
    · rw [p2, upd_at, vup_at]
      by_cases e : k = g
      · rw [if_pos e, if_pos e]
      · rw [if_neg e, if_neg e]; exact b3 k hk
    · rw [p3, vup_at]
      show upd _ r2 (nI g) k = _
      rw [upd_at]
      by_cases e : k = r2
      · rw [if_pos e, if_pos e]; rfl
      · rw [if_neg e, if_neg e]; exact b4 k hk
    · rw [p6.2.1 3 (by decide)]; exact b5
  have fr1 : Fr2 [0] JC t s x x3 := (((a7.two s).mono (by simp) (by decide)).tr (f4.mono (by simp) (by decide))).tr ((p6.two s).mono (by simp) (by decide))
  have k9 : x3.2 9 = x1.2 9 := by rw [p6.2.1 9 (by decide), f4.2.1 9 (by decide)]
  have RES := jn_end (x3 := x3) (yf := yf) (y2f := ob_i y21 5 (-1)) (Gf := Gf) (κ := κ) hts ht hs h h2 κ1 κ2 κ5 fr1 (by rw [p6.2.1 8 (by decide), f4.2.1 8 (by decide), a7.2.1 8 (by decide)]) (by rw [p6.1 0 (by simp), f4.1 0 (by simp), a7.1 0 (by simp)]; exact h0) d1 d2 d3 (by rw [k9]; exact d10) hmf d4 hd (by rw [k9, a7.2.2 9 s (by decide) (inT_ne1 (Ne.symm hts) (by decide) (by decide))]; exact m2) (fun k hk => by rw [p6.2.1 7 (by decide)]; exact f3 k hk)
  obtain ⟨xe, T', T2', w1, w2, w3, w4, w5, w6, w7⟩ := RES
  refine ⟨xe, yf, _, T', T2', Gf, ?_, ?_, w2, w3, w4, w5, w6, w7⟩
  · rw [fX6_join_J76, u2, Option.bind_some, if_neg (nI_pos (by omega)), ix_nI ht (by decide), if_neg (by rw [h.2.1]; exact hk5), ix_nI hs (by decide), x8s, if_neg (nI_nle c1 (by omega)), a1, Option.bind_some, f1, fX6_join_J224, ix_nI hs (by decide), v3s, if_neg (nI_pos (by omega)), ix_nI ht (by decide), v3t, if_pos (nI_pos' (by omega)), ix_nI ht (by decide), if_neg (by rw [v2t]; exact hk5), ix_nI hs (by decide), v3s]
    rw [enc_s] at p1
    rw [p1, Option.bind_some, w1]
  · rw [enc_s] at b1
    have d9' : fX3_resizeUpFrom (nI g) yb = some yf := d9
    rw [fX4_takeOver, px_let, px_let, m1, Option.bind_some, px_let, e5, hg, if_neg (fun e => by rw [enc_m1 hb] at e; cases e), e25, hg2, if_neg (fun e => by rw [enc_m1 hb2] at e; cases e), if_neg hk5, fX4_takeOver_J75, if_neg (fun e => by rw [enc_m1 hb2] at e; cases e), enc_s, enc_s, u1, Option.bind_some, a2, Option.bind_some, b1, Option.bind_some, d9', Option.bind_some]
theorem cnt_pos (hw : GW G) (hs : GS G) : (gr G = none ∧ cnt (gI G) 0 64 = 0) ∨ ∃ r, gr G = some r ∧ 1 ≤ cnt (gI G) 0 64 := by
  have q := GS.rt hw hs
  cases h : gr G with
  | none => rw [h] at q; exact Or.inl ⟨rfl, q.symm⟩
  | some r =>
    rw [h] at q
    have q2 : gs G r = cnt (gI G) 0 64 := q
    have := (hs r).1 (hw.2.2.2.2.2.2.2.1 r h).1
    exact Or.inr ⟨r, rfl, by omega⟩
/-- JOIN -/
theorem sim_join {n : Nat} (hn : n ≤ 8) (h1 : x.1 1 = nI n) (ht : t < n) (hs : s < n) (hts : t ≠ s) (h : TR t x T y z G) (h2 : TR s x T2 y2 z2 G2) :
    ∃ (v : Int32) (x' T' yf T2' y2f : Ob) (Gf Gf2 : Gh), fX6_join (nI t) (nI s) x = some (v, x') ∧ fX5_join_TT (nI t) (nI s) T y T2 y2 = some (v, T', yf, T2', y2f) ∧ TR t x' T' yf z Gf ∧ TR s x' T2' y2f z2 Gf2 ∧ Fr2 [0] JC t s x x' ∧ x'.1 0 = 0 := by
  have ht8 : t < 8 := by omega
  have hs8 : s < 8 := by omega
  have z1 : TR t (ob_i x 0 0) T y z G := h.loc (fun _ _ _ _ => rfl)
  have z2' : TR s (ob_i x 0 0) T2 y2 z2 G2 := h2.loc (fun _ _ _ _ => rfl)
  have f0 : Fr2 [0] JC t s x (ob_i x 0 0) := Fr2.i _ _ _ _ _ (by decide)
  have e0 : (ob_i x 0 0).1 0 = 0 := rfl
  have h1' : (ob_i x 0 0).1 1 = nI n := h1
  have st : fX6_join (nI t) (nI s) x = (if x.2 2 t = x.2 2 s then ix (nI t) 8 (fun j48 => (if ((ob_i x 0 0).2 8 j48) ≤ 0 then fX6_join_J76 (nI t) (nI s) (ob_i x 0 0) else ix (nI s) 8 (fun j57 => (if ((ob_i x 0 0).2 8 j57) ≤ 0 then fX6_join_J76 (nI t) (nI s) (ob_i x 0 0) else Option.bind (fX6_greatest (nI t) (ob_i x 0 0)) (fun q63 => Option.bind (fX6_smallest (nI s) (ob_i x 0 0)) (fun q68 => (if q63 < q68 then fX6_join_J76 (nI t) (nI s) (ob_i x 0 0) else some ((0), ob_i x 0 0))))))) ) else some ((0), ob_i x 0 0)) := by
    rw [fX6_join, px_let, isTree_1 hn h1' ht, Option.bind_some, if_neg (by decide), isTree_1 hn h1' hs, Option.bind_some, if_neg (by decide), if_neg (fun e => hts ((nI_eq (by omega) (by omega)).mp e)), ix_nI ht8 (by decide), ix_nI hs8 (by decide)]
    rfl
  by_cases hk : T.1 0 = T2.1 0
  · rw [if_pos (by rw [h.2.1, h2.2.1, hk]), ix_nI ht8 (by decide)] at st
    have e5 : y.1 5 = enc (gr G) := h.1.2.2.2.1.2.2.2.2.1
    have e25 : y2.1 5 = enc (gr G2) := h2.1.2.2.2.1.2.2.2.2.1
    have x8t : (ob_i x 0 0).2 8 t = nI (cnt (gI G) 0 64) := h.2.2.2.2.1
    have x8s : (ob_i x 0 0).2 8 s = nI (cnt (gI G2) 0 64) := h2.2.2.2.2.1
    have l1 := cnt_le (gI G) 0 64
    have l2 := cnt_le (gI G2) 0 64
    -- what both do when the order is right
    have fin : (∃ (x' yf y2f T' T2' : Ob) (Gf : Gh), fX6_join_J76 (nI t) (nI s) (ob_i x 0 0) = some (1, x') ∧ fX4_takeOver T y y2 = some (yf, y2f) ∧ fX4_beginMost T yf = some T' ∧ fX4_beginMost T2 y2f = some T2' ∧ TR t x' T' yf z Gf ∧ TR s x' T2' y2f z2 gE ∧ Fr2 [0] JC t s (ob_i x 0 0) x' ∧ x'.1 0 = 0) →
        fX6_join (nI t) (nI s) x = fX6_join_J76 (nI t) (nI s) (ob_i x 0 0) → fX3_isBelow y y2 = some 1 → ∃ (v : Int32) (x' T' yf T2' y2f : Ob) (Gf Gf2 : Gh), fX6_join (nI t) (nI s) x = some (v, x') ∧ fX5_join_TT (nI t) (nI s) T y T2 y2 = some (v, T', yf, T2', y2f) ∧ TR t x' T' yf z Gf ∧ TR s x' T2' y2f z2 Gf2 ∧ Fr2 [0] JC t s x x' ∧ x'.1 0 = 0 := by
      intro q e1 e2
      obtain ⟨x', yf, y2f, T', T2', Gf, a1, a2, a3, a4, a5, a6, a7, a8⟩ := q
      refine ⟨1, x', T', yf, T2', y2f, Gf, gE, by rw [e1, a1], ?_, a5, a6, f0.tr a7, a8⟩
      rw [fX5_join_TT, if_pos hk, e2, Option.bind_some, if_neg (by decide), a2, Option.bind_some, a3, Option.bind_some, a4, Option.bind_some]
    rcases cnt_pos h.1.1 h.1.2.2.1 with ⟨g1, c1⟩ | ⟨r, g1, c1⟩
    · refine fin (jn_one hts ht8 hs8 z1 z2' hk e0 (Or.inl g1)) ?_ ?_
      · rw [st, x8t, c1, if_pos (by decide)]
      · rw [fX3_isBelow, e5, g1, enc_n, if_pos rfl]
    · have b1 : Bd (some r) := by rw [← g1]; exact WF.brt h.1.1
      rw [x8t, if_neg (nI_nle c1 (by omega)), ix_nI hs8 (by decide)] at st
      rcases cnt_pos h2.1.1 h2.1.2.2.1 with ⟨g2, c2⟩ | ⟨r2, g2, c2⟩
      · refine fin (jn_one hts ht8 hs8 z1 z2' hk e0 (Or.inr g2)) ?_ ?_
        · rw [st, x8s, c2, if_pos (by decide)]
        · rw [fX3_isBelow, e5, g1, if_neg (fun e => by rw [enc_m1 b1] at e; cases e), e25, g2, enc_n, if_pos rfl]
      · have b2 : Bd (some r2) := by rw [← g2]; exact WF.brt h2.1.1
        obtain ⟨g, u1, u2, u3, u4, u5⟩ := sim_great z1.1.1 z1.1.2.2.2.1 z1.1.2.2.2.2 ht8 g1
        obtain ⟨l, v1, v2, v3, v4⟩ := sim_least z2'.1.1 z2'.1.2.2.2.1 z2'.1.2.2.2.2 hs8 g2
        have hg64 := h.1.k64 u3
        have hl64 := h2.1.k64 v3
        rw [x8s, if_neg (nI_nle c2 (by omega)), u2, Option.bind_some, v2, Option.bind_some] at st
        have bel : fX3_isBelow y y2 = if nI l ≤ nI g then some 0 else some 1 := by
          rw [fX3_isBelow, e5, g1, if_neg (fun e => by rw [enc_m1 b1] at e; cases e), e25, g2, if_neg (fun e => by rw [enc_m1 b2] at e; cases e), enc_s, enc_s, u1, Option.bind_some, v1, Option.bind_some]
        by_cases q : g < l
        · rw [if_pos (nI_lt q (by omega))] at st
          rw [if_neg (nI_ge q (by omega))] at bel
          have hord : ∀ i j, gI G i = true → gI G2 j = true → i < j := fun i j hi hj => by have := u5 i hi; have := v4 j hj; omega
          refine fin ?_ st bel
          by_cases k5 : T.1 0 = 5
          · exact jn_heap hts ht8 hs8 z1 z2' hk e0 hord g1 g2 k5
          · exact jn_turns hts ht8 hs8 z1 z2' hk e0 hord g1 g2 k5
        · rw [if_neg (nI_nlt (by omega) (by omega))] at st
          rw [if_pos (nI_le (by omega) (by omega))] at bel
          refine ⟨0, ob_i x 0 0, T, y, T2, y2, G, G2, st, ?_, z1, z2', f0, e0⟩
          rw [fX5_join_TT, if_pos hk, bel, Option.bind_some, if_pos rfl]
  · rw [if_neg (by rw [h.2.1, h2.2.1]; exact hk)] at st
    refine ⟨0, ob_i x 0 0, T, y, T2, y2, G, G2, st, ?_, z1, z2', f0, e0⟩
    rw [fX5_join_TT, if_neg hk]
end J5
