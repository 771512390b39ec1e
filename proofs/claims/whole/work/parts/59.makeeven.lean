section ME
variable {t : Nat} {x y : Ob} {G : Gh}
set_option maxHeartbeats 4000000 in
/-- MADE EVEN, on both sides -/
theorem sim_makeEven (h : Sim t x y G) (ht : t < 8) {k : Nat} (hk : gI G k = true) : ∃ (x' y' : Ob) (G' : Gh), fX6_makesEven (nI t) (nI k) x = some x' ∧ fX3_makeEven (nI k) y = some y' ∧ Sim t x' y' G' ∧ gI G' = gI G ∧ Fr [15] [3, 4, 5, 6, 11, 14] t x x' ∧ (gU G k = none → x'.2 11 t = x.2 8 t) ∧ (gU G k ≠ none → x'.2 11 = x.2 11) := by
  obtain ⟨hw, hn, hs, hr, hm⟩ := id h
  have bk := hw.1 k hk
  have k64 := bk.1
  have f0 : Fr [15] [3, 4, 5, 6, 11, 14] t x (ob_i x 15 0) := Fr.i _ _ _ _ (by decide)
  -- sorted
  obtain ⟨x1, a1, a2, a3, a4⟩ := rm_sorts (A0 := glo G k) (B0 := ghi G k) hw ht bk.2.2.2 RD (glo G k) (ghi G k) (some k) (ob_i x 15 0) (Nat.le_refl _) (by omega) (Nat.le_refl _) (by show _ < 70; omega) hm (fun e => by cases e) (fun j e => by cases e; exact ⟨hk, rfl, rfl⟩) (by rw [Nat.sub_self]; rfl) (fun j q1 q2 q3 => by omega)
  obtain ⟨l, l1, l2, l3, l4⟩ := rs_least hw hr hk
  obtain ⟨g, g1, g2, g3, g4⟩ := rs_great hw hr hk
  have bl := hw.1 l l2
  have bg := hw.1 g g2
  have hl : ∀ j, gI G j = true → (l ≤ j ↔ glo G k ≤ j) := fun j hj => by
    have := hw.2.2.2.1 l j l2 l4 hj
    omega
  have hg : ∀ j, gI G j = true → (j ≤ g ↔ j < ghi G k) := fun j hj => by
    have := hw.2.2.2.2.1 g j g2 g4 hj
    omega
  obtain ⟨y1, c1, c2, c3⟩ := rs_order (v2 := enc (gU G k)) hw hs bk.2.2.2 hl hg bl.1 bg.1 64 0 FU y (by omega) (by decide) hr (fun j _ _ _ q => by omega)
  have hm1 : RepM x1 t (gL G) (gR G) (gU G) (gr G) (gI G) := by
    obtain ⟨b1, b2, b3, b4, b5⟩ := hm
    refine ⟨?_, ?_, ?_, ?_, by rw [a2.2.1 3 (by decide)]; exact b5⟩
    · intro k hk; show x1.2 7 _ = _; rw [a2.2.1 7 (by decide)]; exact b1 k hk
    · intro k hk; show x1.2 5 _ = _; rw [a2.2.1 5 (by decide)]; exact b2 k hk
    · intro k hk; show x1.2 6 _ = _; rw [a2.2.1 6 (by decide)]; exact b3 k hk
    · intro k hk; show x1.2 4 _ = _; rw [a2.2.1 4 (by decide)]; exact b4 k hk
  have hc64 : cnt (gI G) (glo G k) (ghi G k - glo G k) ≤ 64 := by have := cnt_le (gI G) (glo G k) (ghi G k - glo G k); omega
  obtain ⟨o, x2, y2, L2, R2, U2, s2, lo2, hi2, d1, d2, d3, d4, d5, d6, d7, d8, d9, d10, d11, d12⟩ := sim_even (I := gI G) (rt := gr G) (tn := x.2 9 t) ht (A0 := glo G k) (B0 := ghi G k) bk.2.2.2 7 0 (glo G k) (ghi G k) 0 (cnt (gI G) (glo G k) (ghi G k - glo G k)) RD RD x1 y1 (gL G) (gR G) (gU G) (gs G) rfl (Nat.le_refl _) (by omega) (Nat.le_refl _) (by rw [Nat.sub_self]; rfl) rfl (by omega) (by decide) (by decide) hm1 c2 (WF.bL hw hn) (WF.bR hw hn) a4 c3
  have eJ : iJ (gI G) (glo G k) (ghi G k) = gJ G k := rfl
  rw [eJ] at d9 d10 d11
  have hkJ : gJ G k k = true := (gJ_iff G k k).mpr ⟨hk, bk.2.1, bk.2.2.1⟩
  obtain ⟨k', rfl⟩ : ∃ k', o = some k' := by
    cases o with
    | none => have := d9.2.2.2.2.2.2.2 rfl k; rw [hkJ] at this; cases this
    | some k' => exact ⟨k', rfl⟩
  obtain ⟨pk1, pk2, pk3⟩ := d9.2.2.2.2.2.2.1 k' rfl
  obtain ⟨hIk', kl', kh'⟩ := (gJ_iff G k k').mp pk1
  have k64' := (hw.1 k' hIk').1
  have bU : Bd (gU G k) := WF.bU hw hn k
  have nJ : ∀ u, gU G k = some u → gJ G k u = false ∧ gI G u = true ∧ (k < u ↔ k' < u) ∧ (u < k ↔ u < k') ∧ u < 64 := by
    intro u hu
    obtain ⟨hIu, hu64, -, hsd⟩ := WF.side hw hk hu
    refine ⟨?_, hIu, by omega, by omega, hu64⟩
    cases q : gJ G k u with
    | false => rfl
    | true => obtain ⟨q1, q2, q3⟩ := (gJ_iff G k u).mp q; omega
  have notJ : ∀ j, gI G j = false → gJ G k j = false := fun j hj => by
    cases q : gJ G k j with
    | false => rfl
    | true => have := ((gJ_iff G k j).mp q).1; rw [hj] at this; cases this
  -- the class hangs it
  obtain ⟨y3, e1, e2, e3⟩ := rs_hang d4 k64' bU
  -- the new tree
  have hL3 : ∀ j, gJ G k j = true → hgL L2 k' (gU G k) j = L2 j := fun j hj => by
    rw [hgL, if_neg (fun q => by have := (nJ j q.1).1; rw [hj] at this; cases this)]
  have hR3 : ∀ j, gJ G k j = true → hgR R2 k' (gU G k) j = R2 j := fun j hj => by
    rw [hgR, if_neg (fun q => by have := (nJ j q.1).1; rw [hj] at this; cases this)]
  have nne : ∀ j, gJ G k j = false → j ≠ k' := fun j hj e => by rw [e, pk1] at hj; cases hj
  have hL4 : ∀ j, gJ G k j = false → hgL L2 k' (gU G k) j = if gU G k = some j ∧ k < j then some k' else gL G j := fun j hj => by
    rw [hgL, (d10 j hj).1]
    by_cases q : gU G k = some j ∧ k < j
    · rw [if_pos q, if_pos ⟨q.1, ((nJ j q.1).2.2.1).mp q.2⟩]
    · rw [if_neg q, if_neg (fun w => q ⟨w.1, ((nJ j w.1).2.2.1).mpr w.2⟩)]
  have hR4 : ∀ j, gJ G k j = false → hgR R2 k' (gU G k) j = if gU G k = some j ∧ j < k then some k' else gR G j := fun j hj => by
    rw [hgR, (d10 j hj).2.1]
    by_cases q : gU G k = some j ∧ j < k
    · rw [if_pos q, if_pos ⟨q.1, by have := (nJ j q.1).2.2.2.1; omega⟩]
    · rw [if_neg q, if_neg (fun w => q ⟨w.1, by have h1 := (nJ j w.1).2.2; have := nne j hj; omega⟩)]
  have hU4 : ∀ j, gJ G k j = false → va_up U2 k' (gU G k) j = gU G j := fun j hj => by
    rw [vu_ne (nne j hj), (d10 j hj).2.2.1]
  have hWF := hw.repl hk (k' := k') (L' := hgL L2 k' (gU G k)) (R' := hgR R2 k' (gU G k)) (U' := va_up U2 k' (gU G k)) (lo' := lo2) (hi' := hi2) (PW.congr d9 hL3 hR3 (fun j hj hne => vu_ne (fun e => hne (by rw [e]))) (fun _ => rfl)) (fun j _ q => hL4 j q) (fun j _ q => hR4 j q) (fun j _ q => hU4 j q) vu_eq
  have hNI : NI (hgL L2 k' (gU G k)) (hgR R2 k' (gU G k)) (va_up U2 k' (gU G k)) (gI G) := by
    intro j hj
    have q := notJ j hj
    obtain ⟨n1, n2, n3⟩ := hn j hj
    refine ⟨?_, ?_, ?_⟩
    · rw [hL4 j q, if_neg (fun w => by have := (nJ j w.1).2.1; rw [hj] at this; cases this)]; exact n1
    · rw [hR4 j q, if_neg (fun w => by have := (nJ j w.1).2.1; rw [hj] at this; cases this)]; exact n2
    · rw [hU4 j q]; exact n3
  have szk : s2 k' = gs G k := by
    have : szo s2 (some k') = s2 k' := rfl
    rw [← this, d12, sz_eq hw hs, ccz, if_pos hk]
  have hSZ : SZ (hgL L2 k' (gU G k)) (hgR R2 k' (gU G k)) (gI G) s2 := by
    intro j
    refine ⟨fun hj => ?_, fun hj => ?_⟩
    · by_cases q : gJ G k j = true
      · rw [hL3 j q, hR3 j q]; exact d11 j q
      · have q : gJ G k j = false := by cases w : gJ G k j with | false => rfl | true => exact absurd w q
        rw [(d10 j q).2.2.2, (hs j).1 hj, hL4 j q, hR4 j q]
        -- a child that stays
        have keep : ∀ c, gU G c = some j → gI G c = true → c ≠ k → s2 c = gs G c := by
          intro c hc hIc hne
          have cJ : gJ G k c = false := by
            cases w : gJ G k c with
            | false => rfl
            | true =>
              obtain ⟨w1, w2, w3⟩ := (gJ_iff G k c).mp w
              have o := hw.anc hIc hc ⟨hk, w2, w3⟩ (Ne.symm hne)
              have : gJ G k j = true := (gJ_iff G k j).mpr ⟨hj, o.2.1, o.2.2⟩
              rw [q] at this; cases this
          exact (d10 c cJ).2.2.2
        have eL : szo s2 (if gU G k = some j ∧ k < j then some k' else gL G j) = szo (gs G) (gL G j) := by
          by_cases w : gU G k = some j ∧ k < j
          · rw [if_pos w]
            obtain ⟨-, -, -, hsd⟩ := WF.side hw hk w.1
            have : gL G j = some k := by
              rcases hsd with z | z
              · exact z.2.1
              · omega
            rw [this]; exact szk
          · rw [if_neg w]
            cases hc : gL G j with
            | none => rfl
            | some c =>
              obtain ⟨z1, z2, z3, z4⟩ := hw.2.1 j c hj hc
              have := hw.1 c z1
              exact keep c z2 z1 (fun e => w ⟨by rw [← e]; exact z2, by omega⟩)
        have eR : szo s2 (if gU G k = some j ∧ j < k then some k' else gR G j) = szo (gs G) (gR G j) := by
          by_cases w : gU G k = some j ∧ j < k
          · rw [if_pos w]
            obtain ⟨-, -, -, hsd⟩ := WF.side hw hk w.1
            have : gR G j = some k := by
              rcases hsd with z | z
              · omega
              · exact z.2.1
            rw [this]; exact szk
          · rw [if_neg w]
            cases hc : gR G j with
            | none => rfl
            | some c =>
              obtain ⟨z1, z2, z3, z4⟩ := hw.2.2.1 j c hj hc
              have := hw.1 c z1
              exact keep c z2 z1 (fun e => w ⟨by rw [← e]; exact z2, by omega⟩)
        rw [eL, eR]
    · rw [(d10 j (notJ j hj)).2.2.2]; exact (hs j).2 hj
  -- the reference hangs it
  have hX : ∃ x3, fX6_makesEven (nI t) (nI k) x = some x3 ∧ RepM x3 t (hgL L2 k' (gU G k)) (hgR R2 k' (gU G k)) (va_up U2 k' (gU G k)) (if gU G k = none then some k' else gr G) (gI G) ∧ Fr [15] [3, 4, 5, 6, 11, 14] t x2 x3 ∧ (gU G k = none → x3.2 11 t = x2.2 8 t) ∧ (gU G k ≠ none → x3.2 11 = x2.2 11) := by
    have J36 : ∀ s0 : Int32, fX6_makesEven_J36 (nI t) (nI k) (enc (gU G k)) s0 x = (if 0 ≤ enc (gU G k) then (if s0 = 0 then ix ((64) * nI t + enc (gU G k)) 512 (fun j136 => px_let (ob_a (ob_a x2 4 (64 * t + k') (enc (gU G k))) 6 j136 (nI k')) (fun x_136 => some x_136)) else ix ((64) * nI t + enc (gU G k)) 512 (fun j120 => px_let (ob_a (ob_a x2 4 (64 * t + k') (enc (gU G k))) 5 j120 (nI k')) (fun x_120 => some x_120))) else ix (nI t) 8 (fun j87 => px_let (ob_a (ob_a x2 4 (64 * t + k') (enc (gU G k))) 3 j87 (nI k')) (fun x_87 => ix (nI t) 8 (fun j98 => ix (nI t) 8 (fun j99 => px_let (ob_a x_87 11 j99 (x_87.2 8 j98)) (fun x_99 => some x_99)))))) := by
      intro s0
      have a1' : fX6_sorts RD (nI t) (nI k) (ob_i x 15 0) = some x1 := a1
      have d1' : fX6_even RD (nI t) 0 (x1.1 15 - 1) x1 = some (nI k', x2) := by rw [a3]; exact d1
      rw [fX6_makesEven_J36, px_let, a1', Option.bind_some, d1', Option.bind_some, px_let, ix6 ht k64', px_let]
    have eU : x.2 4 (64 * t + k) = enc (gU G k) := h.above hk
    have f4 : Fr [15] [3, 4, 5, 6, 11, 14] t x2 (ob_a x2 4 (64 * t + k') (enc (gU G k))) := Fr.a _ _ _ (by decide) (inT4 (by decide) k64')
    have s4 : sl (ob_a x2 4 (64 * t + k') (enc (gU G k))) 4 t = upd (sl x2 4 t) k' (enc (gU G k)) := sl_a _ _ _ _ _
    have rU : ∀ j, gI G j = true → upd (sl x2 4 t) k' (enc (gU G k)) j = enc (va_up U2 k' (gU G k) j) := fun j hj => by
      rw [upd_at, vup_at]
      by_cases e : j = k'
      · rw [if_pos e, if_pos e]
      · rw [if_neg e, if_neg e]; exact d3.2.2.2.1 j hj
    cases hU : gU G k with
    | none =>
      rw [hU] at J36 f4 s4 rU eU
      refine ⟨ob_a (ob_a (ob_a x2 4 (64 * t + k') (enc none)) 3 t (nI k')) 11 t (x2.2 8 t), ?_, ⟨?_, ?_, ?_, ?_, ?_⟩, ?_, ?_, ?_⟩
      · rw [fX6_makesEven, ix6 ht k64, px_let, eU, enc_n, if_pos m1_lt, fX6_makesEven_J35, ← enc_n, J36, enc_n, if_neg (by decide), ix_nI ht (by decide), px_let, ix_nI ht (by decide), ix_nI ht (by decide), px_let, ar_n _ _ _ (by decide), ar_n _ _ _ (by decide)]
      · intro j hj; rw [sl_n _ _ _ _ (by decide), sl_n _ _ _ _ (by decide), sl_n _ _ _ _ (by decide)]; exact d3.1 j hj
      · intro j hj; rw [sl_n _ _ _ _ (by decide), sl_n _ _ _ _ (by decide), sl_n _ _ _ _ (by decide), hgL, if_neg (by simp)]; exact d3.2.1 j hj
      · intro j hj; rw [sl_n _ _ _ _ (by decide), sl_n _ _ _ _ (by decide), sl_n _ _ _ _ (by decide), hgR, if_neg (by simp)]; exact d3.2.2.1 j hj
      · intro j hj; rw [sl_n _ _ _ _ (by decide), sl_n _ _ _ _ (by decide), s4]; exact rU j hj
      · rw [ar_n _ _ _ (by decide), ar_a, upd_at, if_pos rfl, if_pos rfl]; rfl
      · exact (f4.tr (Fr.a _ _ _ (by decide) (inT1 (by decide) (by decide)))).tr (Fr.a _ _ _ (by decide) (inT1 (by decide) (by decide)))
      · intro _; rw [ar_a, upd_at, if_pos rfl]
      · intro q; exact absurd rfl q
    | some u =>
      rw [hU] at J36 f4 s4 rU eU
      obtain ⟨n1, n2, n3, n4, n5⟩ := nJ u hU
      have hps : enc (some u) = nI u := rfl
      have eLu : x.2 5 (64 * t + u) = enc (gL G u) := h.left6 n2
      obtain ⟨-, -, -, hsd⟩ := WF.side hw hk hU
      by_cases q : k < u
      · have hLu : gL G u = some k := by
          rcases hsd with z | z
          · exact z.2.1
          · omega
        refine ⟨ob_a (ob_a x2 4 (64 * t + k') (enc (some u))) 5 (64 * t + u) (nI k'), ?_, ⟨?_, ?_, ?_, ?_, ?_⟩, ?_, ?_, ?_⟩
        · rw [fX6_makesEven, ix6 ht k64, px_let, eU, hps, if_neg (nI_pos (by omega)), ix6 ht n5, eLu, hLu, enc_s, if_pos rfl, ← hps, J36, hps, if_pos (nI_pos' (by omega)), if_neg (by decide), ix6 ht n5, px_let]
        · intro j hj; rw [sl_n _ _ _ _ (by decide), sl_n _ _ _ _ (by decide)]; exact d3.1 j hj
        · intro j hj
          rw [sl_a, sl_n _ _ _ _ (by decide), upd_at, hgL]
          by_cases e : j = u
          · rw [if_pos e, if_pos ⟨by rw [e], by omega⟩]; rfl
          · rw [if_neg e, if_neg (fun w => e (Option.some.inj w.1).symm)]; exact d3.2.1 j hj
        · intro j hj
          rw [sl_n _ _ _ _ (by decide), sl_n _ _ _ _ (by decide), hgR, if_neg (fun w => by obtain ⟨w1, w2⟩ := w; cases w1; omega)]; exact d3.2.2.1 j hj
        · intro j hj; rw [sl_n _ _ _ _ (by decide), s4]; exact rU j hj
        · rw [ar_n _ _ _ (by decide), ar_n _ _ _ (by decide), if_neg (by simp)]; exact d3.2.2.2.2
        · exact f4.tr (Fr.a _ _ _ (by decide) (inT4 (by decide) n5))
        · intro w; cases w
        · intro _; rw [ar_n _ _ _ (by decide), ar_n _ _ _ (by decide)]
      · have hLne : gL G u ≠ some k := fun e => by have := (hw.2.1 u k n2 e).2.2.2; omega
        have hbl : Bd (gL G u) := WF.bL hw hn u
        refine ⟨ob_a (ob_a x2 4 (64 * t + k') (enc (some u))) 6 (64 * t + u) (nI k'), ?_, ⟨?_, ?_, ?_, ?_, ?_⟩, ?_, ?_, ?_⟩
        · rw [fX6_makesEven, ix6 ht k64, px_let, eU, hps, if_neg (nI_pos (by omega)), ix6 ht n5, eLu, ← enc_s k, if_neg (fun e => hLne ((enc_eq hbl (Bd_s k64)).mp e)), fX6_makesEven_J35, enc_s k, ← hps, J36, hps, if_pos (nI_pos' (by omega)), if_pos rfl, ix6 ht n5, px_let]
        · intro j hj; rw [sl_n _ _ _ _ (by decide), sl_n _ _ _ _ (by decide)]; exact d3.1 j hj
        · intro j hj
          rw [sl_n _ _ _ _ (by decide), sl_n _ _ _ _ (by decide), hgL, if_neg (fun w => by obtain ⟨w1, w2⟩ := w; cases w1; omega)]; exact d3.2.1 j hj
        · intro j hj
          rw [sl_a, sl_n _ _ _ _ (by decide), upd_at, hgR]
          by_cases e : j = u
          · rw [if_pos e, if_pos ⟨by rw [e], by omega⟩]; rfl
          · rw [if_neg e, if_neg (fun w => e (Option.some.inj w.1).symm)]; exact d3.2.2.1 j hj
        · intro j hj; rw [sl_n _ _ _ _ (by decide), s4]; exact rU j hj
        · rw [ar_n _ _ _ (by decide), ar_n _ _ _ (by decide), if_neg (by simp)]; exact d3.2.2.2.2
        · exact f4.tr (Fr.a _ _ _ (by decide) (inT4 (by decide) n5))
        · intro w; cases w
        · intro _; rw [ar_n _ _ _ (by decide), ar_n _ _ _ (by decide)]
  obtain ⟨x3, h1, h2, h3, h4, h5⟩ := hX
  have fr2 : Fr [15] [3, 4, 5, 6, 11, 14] t x x2 := (f0.tr (a2.mono (fun _ q => q) (by decide))).tr (d7.mono (by decide) (by decide))
  have e2c : ∀ c, c ∉ [4, 5, 6, 14] → x2.2 c = x.2 c := by
    intro c hc
    simp at hc
    rw [d7.2.1 c (by simp; omega), a2.2.1 c (by simp; omega)]; rfl
  refine ⟨x3, y3, (hgL L2 k' (gU G k), hgR R2 k' (gU G k), va_up U2 k' (gU G k), (if gU G k = none then some k' else gr G), gI G, (fun j => if gJ G k j = true then lo2 j else glo G j), (fun j => if gJ G k j = true then hi2 j else ghi G j), s2), h1, ?_, ⟨hWF, hNI, hSZ, ?_, h2⟩, rfl, fr2.tr h3, ?_, ?_⟩
  · have z0 : nI (cnt (gI G) (glo G k) (min 0 (ghi G k) - glo G k)) = 0 := by rw [show min 0 (ghi G k) - glo G k = 0 by omega]; rfl
    rw [z0] at c1
    have d2' : fX3_evenOf RD 0 (nI (cnt (gI G) (glo G k) (ghi G k - glo G k)) - 1) 0 y1 = some (nI k', y2) := d2
    have c1' : fX3_makeEven_L31 FU (enc (gU G k)) (nI l) (nI g) 0 0 y = fX3_makeEven_J80 (enc (gU G k)) (nI (cnt (gI G) (glo G k) (ghi G k - glo G k))) y1 := c1
    rw [fX3_makeEven, if_neg (nI_ne_m1 (by omega)), h.upOf hk, Option.bind_some, l1, Option.bind_some, g1, Option.bind_some, c1', fX3_makeEven_J80, d2', Option.bind_some, e1]; rfl
  · have : x3.2 9 t = x.2 9 t := by rw [h3.2.1 9 (by decide), e2c 9 (by decide)]
    rw [this]; exact e2
  · intro q; rw [h4 q, e2c 8 (by decide)]
  · intro q; rw [h5 q, e2c 11 (by decide)]
end ME
