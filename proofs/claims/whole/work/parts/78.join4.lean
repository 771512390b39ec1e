section J4
variable {t s : Nat} {x y y2 T T2 z z2 : Ob} {G G2 : Gh} {tn tn2 : Int32}
theorem szo_cong {f g : Nat → Nat} {o : Option Nat} (h : ∀ c, o = some c → f c = g c) : szo f o = szo g o := by
  cases o with
  | none => rfl
  | some c => exact h c rfl
theorem sz_on {L R : Nat → Option Nat} {sz : Nat → Nat} (hw : GW G) (hs : GS G) (hL : ∀ k, gI G k = true → L k = gL G k) (hR : ∀ k, gI G k = true → R k = gR G k) (hz : ∀ k, gI G k = true → sz k = gs G k) : ∀ j, gI G j = true → sz j = 1 + szo sz (L j) + szo sz (R j) := by
  intro j hj
  rw [hz j hj, hL j hj, hR j hj, (hs j).1 hj, szo_cong (f := sz) (g := gs G) (fun c hc => hz c (hw.2.1 j c hj hc).1), szo_cong (f := sz) (g := gs G) (fun c hc => hz c (hw.2.2.1 j c hj hc).1)]
theorem mp_of {L R U : Nat → Option Nat} (hw : GW G) (hw2 : GW G2) (hord : ∀ i j, gI G i = true → gI G2 j = true → i < j) {r r2 : Nat} (hg : gr G = some r) (hg2 : gr G2 = some r2)
    (h1 : ∀ k, gI G k = true → L k = gL G k ∧ R k = gR G k ∧ U k = gU G k) (h2 : ∀ k, gI G2 k = true → L k = gL G2 k ∧ R k = gR G2 k ∧ U k = gU G2 k) : MP L R U 0 64 (some r) (some r2) (gI G) (gI G2) := by
  refine ⟨⟨glo G, ghi G, ?_⟩, ⟨glo G2, ghi G2, ?_⟩, hord, Or.inl (by simp)⟩
  · have := WF.part hw; rw [hg] at this
    exact PW.congr this (fun k hk => (h1 k hk).1) (fun k hk => (h1 k hk).2.1) (fun k hk _ => (h1 k hk).2.2) (fun _ => rfl)
  · have := WF.part hw2; rw [hg2] at this
    exact PW.congr this (fun k hk => (h2 k hk).1) (fun k hk => (h2 k hk).2.1) (fun k hk _ => (h2 k hk).2.2) (fun _ => rfl)
theorem m_1 (hd : ∀ k, gI G k = true → gI G2 k = false) : ∀ k, gI G k = true → mL G G2 k = gL G k ∧ mR G G2 k = gR G k ∧ mU G G2 k = gU G k ∧ mS G G2 k = gs G k := fun k hk => ⟨jb_f (hd k hk), jb_f (hd k hk), jb_f (hd k hk), jb_f (hd k hk)⟩
theorem m_2 : ∀ k, gI G2 k = true → mL G G2 k = gL G2 k ∧ mR G G2 k = gR G2 k ∧ mU G G2 k = gU G2 k ∧ mS G G2 k = gs G2 k := fun k hk => ⟨jb_t hk, jb_t hk, jb_t hk, jb_t hk⟩
theorem jOr_f {J1 J2 : Nat → Bool} {j : Nat} : jOr J1 J2 j = false ↔ J1 j = false ∧ J2 j = false := by unfold jOr; simp
theorem m_0 (hn : GN G) (hs : GS G) : ∀ j, jOr (gI G) (gI G2) j = false → mL G G2 j = none ∧ mR G G2 j = none ∧ mU G G2 j = none ∧ mS G G2 j = 0 := by
  intro j hj
  obtain ⟨q1, q2⟩ := jOr_f.mp hj
  obtain ⟨n1, n2, n3⟩ := hn j q1
  exact ⟨(jb_f q2).trans n1, (jb_f q2).trans n2, (jb_f q2).trans n3, (jb_f q2).trans ((hs j).2 q1)⟩
/-- the class's merge from its first step on -/
theorem rs_mergeTop {L R U : Nat → Option Nat} {sz : Nat → Nat} {rt : Option Nat} {I1 I2 : Nat → Bool} {a b : Nat} (hr : RepS y L R U sz rt tn) (h : MP L R U 0 64 (some a) (some b) I1 I2) (bL : ∀ k, Bd (L k)) (bR : ∀ k, Bd (R k)) (hU : U a = none ∧ U b = none) :
    ∃ (c d : Nat) (l : List Nat) (y' : Ob), msq chW L R 65 (some a) (some b) = c :: d :: l ∧ fX4_mergeByWeight (nI a) (nI b) y = Option.bind (fX3_resizeUpFrom (nI (pen (c :: d :: l))) y') (fun q => some q) ∧ RepS y' (ovL (c :: d :: l) L) (ovR (c :: d :: l) R) (ovU (c :: d :: l) U) sz (some c) tn := by
  have hI1 := h.top1 rfl
  have hI2 := h.top2 rfl
  have ha : a < 64 := (h.bd (Or.inl hI1)).2
  have hb : b < 64 := (h.bd (Or.inr hI2)).2
  have hab : a < b := h.2.2.1 a b hI1 hI2
  have g0 : ¬ (128 : Int32) ≤ 0 := by decide
  by_cases q : wt a ≤ wt b
  · obtain ⟨y1, a1, a2⟩ := rs_hangRoot (o := some b) hr (Bd_s hb) (fun r e => by cases e; exact hU.2)
    have a3 := rs_left a2 (Bd_s hb)
    obtain ⟨m1, -, -, -, -⟩ := h.right
    have j2 : I1 b = false := by
      cases w : I1 b with
      | false => rfl
      | true => exact absurd (h.2.2.1 b b w hI2) (Nat.lt_irrefl _)
    have j3 : jLt I2 b b = false := by
      cases w : jLt I2 b b with
      | false => rfl
      | true => exact absurd (jLt_i.mp w).2 (Nat.lt_irrefl _)
    obtain ⟨c, l, y', b1, b2, b3⟩ := rs_merge 64 0 b 4999 1 b (some a) (L b) I1 (jLt I2 b) L R U y1 a2 m1 (by omega) (by omega) (by omega) (by omega) hb j2 j3
    refine ⟨b, c, l, y', ?_, ?_, b3⟩
    · rw [msq_2, if_neg (fun e => by rw [chW_t] at e; omega), b1]
    · rw [← b2, fX4_mergeByWeight, fu_s, fX4_mergeByWeight_L11, if_neg g0, if_neg (nI_ne_m1 (by omega)), if_neg (nI_ne_m1 (by omega)), weight5 ha, Option.bind_some, weight5 hb, Option.bind_some, if_pos (nI_le q (by have := wt_lt b; omega))]
      rw [enc_s] at a1 a3
      rw [a1, Option.bind_some, a3, Option.bind_some]
      rfl
  · obtain ⟨y1, a1, a2⟩ := rs_hangRoot (o := some a) hr (Bd_s ha) (fun r e => by cases e; exact hU.1)
    have a3 := rs_right a2 (Bd_s ha)
    obtain ⟨m1, -, -, -, -⟩ := h.left
    have j2 : I2 a = false := by
      cases w : I2 a with
      | false => rfl
      | true => exact absurd (h.2.2.1 a a hI1 w) (Nat.lt_irrefl _)
    have j3 : jGt I1 a a = false := by
      cases w : jGt I1 a a with
      | false => rfl
      | true => exact absurd (jGt_i.mp w).2 (Nat.lt_irrefl _)
    obtain ⟨c, l, y', b1, b2, b3⟩ := rs_merge 64 (a + 1) 64 4999 1 a (R a) (some b) (jGt I1 a) I2 L R U y1 a2 m1 (by omega) (by omega) (by omega) (by omega) ha j3 j2
    refine ⟨a, c, l, y', ?_, ?_, b3⟩
    · rw [msq_2, if_pos (by rw [chW_t]; omega), b1]
    · rw [← b2, fX4_mergeByWeight, fu_s, fX4_mergeByWeight_L11, if_neg g0, if_neg (nI_ne_m1 (by omega)), if_neg (nI_ne_m1 (by omega)), weight5 ha, Option.bind_some, weight5 hb, Option.bind_some, if_neg (nI_ge (by omega) (by have := wt_lt a; omega))]
      rw [enc_s] at a1 a3
      rw [a1, Option.bind_some, a3, Option.bind_some]
      rfl
set_option maxHeartbeats 2000000 in
/-- JOIN of two of kind HEAP -/
theorem jn_heap (hts : t ≠ s) (ht : t < 8) (hs : s < 8) (h : TR t x T y z G) (h2 : TR s x T2 y2 z2 G2) (hk : T.1 0 = T2.1 0) (h0 : x.1 0 = 0) (hord : ∀ i j, gI G i = true → gI G2 j = true → i < j) {r r2 : Nat} (hg : gr G = some r) (hg2 : gr G2 = some r2) (hk5 : T.1 0 = 5) :
    ∃ (x' yf y2f T' T2' : Ob) (Gf : Gh), fX6_join_J76 (nI t) (nI s) x = some (1, x') ∧ fX4_takeOver T y y2 = some (yf, y2f) ∧ fX4_beginMost T yf = some T' ∧ fX4_beginMost T2 y2f = some T2' ∧ TR t x' T' yf z Gf ∧ TR s x' T2' y2f z2 gE ∧ Fr2 [0] JC t s x x' ∧ x'.1 0 = 0 := by
  obtain ⟨y21, y1, m1, m2, m3⟩ := cls_move h h2
  obtain ⟨κ, κ5, κ1⟩ := h.2.2.2.2.2.2.1
  have κ2 : T2.1 0 = nI κ := by rw [← hk]; exact κ1
  have e5 : y.1 5 = enc (gr G) := h.1.2.2.2.1.2.2.2.2.1
  have e25 : y2.1 5 = enc (gr G2) := h2.1.2.2.2.1.2.2.2.2.1
  have x3t : x.2 3 t = enc (gr G) := h.1.2.2.2.2.2.2.2.2
  have x3s : x.2 3 s = enc (gr G2) := h2.1.2.2.2.2.2.2.2.2
  have h64 : ∀ k, gI G2 k = true → k < 64 := fun k hk => h2.1.k64 hk
  have hd : ∀ k, gI G k = true → gI G2 k = false := fun k hk => by
    cases q : gI G2 k with
    | false => rfl
    | true => exact absurd (hord k k hk q) (Nat.lt_irrefl k)
  have hb : Bd (some r) := by rw [← hg]; exact WF.brt h.1.1
  have hb2 : Bd (some r2) := by rw [← hg2]; exact WF.brt h2.1.1
  have bL : ∀ k, Bd (mL G G2 k) := fun k => by
    cases w : gI G2 k with
    | true => rw [(m_2 k w).1]; exact WF.bL h2.1.1 h2.1.2.1 k
    | false => show Bd (ifb _ _ _ k); rw [jb_f w]; exact WF.bL h.1.1 h.1.2.1 k
  have bR : ∀ k, Bd (mR G G2 k) := fun k => by
    cases w : gI G2 k with
    | true => rw [(m_2 k w).2.1]; exact WF.bR h2.1.1 h2.1.2.1 k
    | false => show Bd (ifb _ _ _ k); rw [jb_f w]; exact WF.bR h.1.1 h.1.2.1 k
  have hIr := (h.1.1.2.2.2.2.2.2.2.1 r hg)
  have hIr2 := (h2.1.1.2.2.2.2.2.2.2.1 r2 hg2)
  have hMP : MP (mL G G2) (mR G G2) (mU G G2) 0 64 (some r) (some r2) (gI G) (gI G2) := mp_of h.1.1 h2.1.1 hord hg hg2 (fun k hk => ⟨(m_1 hd k hk).1, (m_1 hd k hk).2.1, (m_1 hd k hk).2.2.1⟩) (fun k hk => ⟨(m_2 k hk).1, (m_2 k hk).2.1, (m_2 k hk).2.2.1⟩)
  have hU : mU G G2 r = none ∧ mU G G2 r2 = none := ⟨(m_1 hd r hIr.1).2.2.1.trans hIr.2.1, (m_2 r2 hIr2.1).2.2.1.trans hIr2.2.1⟩
  obtain ⟨c, d, l, yq, c1, c2, c3⟩ := rs_mergeTop m3 hMP bL bR hU
  have hz0 : ∀ j, jOr (gI G) (gI G2) j = true → mS G G2 j = 1 + szo (mS G G2) (mL G G2 j) + szo (mS G G2) (mR G G2 j) := by
    intro j hj
    rcases jOr_i.mp hj with q | q
    · exact sz_on h.1.1 h.1.2.2.1 (fun k hk => (m_1 hd k hk).1) (fun k hk => (m_1 hd k hk).2.1) (fun k hk => (m_1 hd k hk).2.2.2) j q
    · exact sz_on h2.1.1 h2.1.2.2.1 (fun k hk => (m_2 k hk).1) (fun k hk => (m_2 k hk).2.1) (fun k hk => (m_2 k hk).2.2.2) j q
  obtain ⟨Gf, yf, d1, d2, d3, d4, d5, d6, d7, d8, d9, d10⟩ := merge_fin hMP hU (m_0 h.1.2.1 h.1.2.2.1) hz0 c1 c3
  obtain ⟨g, -, q2, q3, q4, q5⟩ := sim_great h.1.1 h.1.2.2.2.1 h.1.2.2.2.2 ht hg
  have hg64 := h.1.k64 q3
  obtain ⟨x1, f1, f2, f3, f4⟩ := ref_move (v3 := nI g) hts ht hs h64 h.1.2.2.2.2 h2.1.2.2.2.2
  obtain ⟨c', l', x2, p1, p2, p3, p4⟩ := rm_heaps ht 65 0 64 RD (some r) (some r2) (gI G) (gI G2) (mL G G2) (mR G G2) (mU G G2) x1 f2 hMP (by omega) (by omega) (by decide) (fun j hj => jOr_i.mpr hj)
  rw [c1] at p1
  cases p1
  have hIc : gI Gf c = true := (d1.2.2.2.2.2.2.2.1 c d8).1
  have hUc : gU Gf c = none := (d1.2.2.2.2.2.2.2.1 c d8).2.1
  have hc64 : c < 64 := (d1.1 c hIc).1
  have v3t : x1.2 3 t = nI r := by rw [f4.2.1 3 (by decide), x3t, hg]; rfl
  have v3s : x1.2 3 s = nI r2 := by rw [f4.2.1 3 (by decide), x3s, hg2]; rfl
  have v2t : x1.2 2 t = 5 := by rw [f4.2.1 2 (by decide), h.2.1, hk5]
  have hm : RepM (ob_a (ob_a x2 3 t (nI c)) 4 (64 * t + c) (-1)) t (gL Gf) (gR Gf) (gU Gf) (gr Gf) (gI Gf) := by
    obtain ⟨b1, b2, b3, b4, b5⟩ := p3
    rw [d4, d5, d6, d7, d8]
    refine ⟨fun k hk => ?_, fun k hk => ?_, fun k hk => ?_, fun k hk => ?_, ?_⟩
    · rw [sl_n _ _ _ _ (by decide), sl_n _ _ _ _ (by decide)]; exact b1 k hk
    · rw [sl_n _ _ _ _ (by decide), sl_n _ _ _ _ (by decide)]; exact b2 k hk
    · rw [sl_n _ _ _ _ (by decide), sl_n _ _ _ _ (by decide)]; exact b3 k hk
    · rw [sl_a, sl_n _ _ _ _ (by decide), upd_at]
      by_cases e : k = c
      · rw [if_pos e, e, ← d7, hUc]; rfl
      · rw [if_neg e]; exact b4 k hk
    · rw [ar_n _ _ _ (by decide), ar_a, upd_at, if_pos rfl]; rfl
  have fr1 : Fr2 [0] JC t s x (ob_a (ob_a x2 3 t (nI c)) 4 (64 * t + c) (-1)) := (((f4.mono (by simp) (by decide)).tr ((p4.two s).mono (by simp) (by decide))).tr (Fr2.a _ _ _ (by decide) (Or.inr (Or.inl (inT1 (by decide) (by decide)))))).tr (Fr2.a _ _ _ (by decide) (Or.inr (Or.inl (inT4 (by decide) hc64))))
  have k7 : ∀ e, e ≠ 3 → e ∉ [4, 5, 6] → (ob_a (ob_a x2 3 t (nI c)) 4 (64 * t + c) (-1)).2 e = x1.2 e := by
    intro e e1 e2
    have e3 : e ≠ 4 := fun q => e2 (by rw [q]; decide)
    rw [ar_n _ _ _ e3, ar_n _ _ _ e1, p4.2.1 e e2]
  have RES := jn_end (x3 := ob_a (ob_a x2 3 t (nI c)) 4 (64 * t + c) (-1)) (yf := yf) (y2f := ob_i y21 5 (-1)) (Gf := Gf) (κ := κ) hts ht hs h h2 κ1 κ2 κ5 fr1 (by rw [k7 8 (by decide) (by decide), f4.2.1 8 (by decide)]) (by show x2.1 0 = 0; rw [p4.1 0 (by simp), f4.1 0 (by simp)]; exact h0) d1 d2 d3 (by rw [k7 9 (by decide) (by decide), f4.2.1 9 (by decide)]; exact d10) hm d4 hd (by rw [k7 9 (by decide) (by decide), f4.2.1 9 (by decide)]; exact m2) (fun k hk => by rw [k7 7 (by decide) (by decide)]; exact f3 k hk)
  obtain ⟨xe, T', T2', w1, w2, w3, w4, w5, w6, w7⟩ := RES
  refine ⟨xe, yf, _, T', T2', Gf, ?_, ?_, w2, w3, w4, w5, w6, w7⟩
  · rw [fX6_join_J76, q2, Option.bind_some, if_neg (nI_pos (by omega)), ix_nI ht (by decide), if_pos (by rw [h.2.1, hk5]), f1, fX6_join_J224, ix_nI hs (by decide), v3s, if_neg (nI_pos (by have := hb2 r2 rfl; omega)), ix_nI ht (by decide), v3t, if_pos (nI_pos' (by have := hb r rfl; omega)), ix_nI ht (by decide), if_pos v2t, ix_nI ht (by decide), ix_nI hs (by decide), v3t, v3s]
    rw [enc_s, enc_s] at p2
    rw [p2, Option.bind_some, ix_nI ht (by decide), px_let, ix_nI ht (by decide)]
    show ix ((64) * nI t + (ob_a x2 3 t (nI c)).2 3 t) 512 _ = _
    rw [ar_a, upd_at, if_pos rfl, ix6 ht hc64, px_let, w1]
  · rw [fX4_takeOver, px_let, px_let, m1, Option.bind_some, px_let, e5, hg, if_neg (fun e => by rw [enc_m1 hb] at e; cases e), e25, hg2, if_neg (fun e => by rw [enc_m1 hb2] at e; cases e), if_pos hk5, enc_s, enc_s, c2, d9]; rfl
end J4
