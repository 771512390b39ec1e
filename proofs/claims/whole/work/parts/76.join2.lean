section J2
variable {t s : Nat} {x y y2 T T2 z z2 : Ob} {G G2 : Gh} {tn tn2 : Int32}
/-- the empty tree -/
def gE : Gh := ((fun _ => none), (fun _ => none), (fun _ => none), none, (fun _ => false), (fun _ => 0), (fun _ => 0), (fun _ => 0))
theorem gE_w : GW gE := by
  refine ⟨?_, ?_, ?_, ?_, ?_, ?_, ?_, ?_, fun _ _ => rfl⟩
  · intro k h; cases h
  · intro k c h; cases h
  · intro k c h; cases h
  · intro k j h; cases h
  · intro k j h; cases h
  · intro k h; cases h
  · intro k u h; cases h
  · intro r h; cases h
theorem gE_n : GN gE := fun k _ => ⟨rfl, rfl, rfl⟩
theorem gE_s : GS gE := fun k => ⟨fun h => (by cases h), fun _ => rfl⟩
theorem cnt_f : cnt (fun _ => false) 0 64 = 0 := cnt_zero (fun j _ _ h => by cases h)
theorem cnt_or {I J : Nat → Bool} (h : ∀ k, I k = true → J k = false) : ∀ n, cnt (jOr I J) 0 n = cnt I 0 n + cnt J 0 n := by
  intro n
  induction n with
  | zero => rfl
  | succ n ih =>
    rw [cnt_s0, cnt_s0, cnt_s0, ih]
    unfold jOr
    cases q : I n with
    | true => rw [h n q]; simp; omega
    | false =>
      cases w : J n with
      | true => simp; omega
      | false => simp
/-- two trees hung together along a chain -/
theorem merge_fin {L R U : Nat → Option Nat} {sz : Nat → Nat} {I1 I2 : Nat → Bool} {ch : Nat → Nat → Bool} {a b c d : Nat} {l : List Nat} (h : MP L R U 0 64 (some a) (some b) I1 I2) (hU : U a = none ∧ U b = none)
    (hn : ∀ j, jOr I1 I2 j = false → L j = none ∧ R j = none ∧ U j = none ∧ sz j = 0) (h0 : ∀ j, jOr I1 I2 j = true → sz j = 1 + szo sz (L j) + szo sz (R j)) (hm : msq ch L R 65 (some a) (some b) = c :: d :: l)
    (hr : RepS y (ovL (c :: d :: l) L) (ovR (c :: d :: l) R) (ovU (c :: d :: l) U) sz (some c) tn) : ∃ (G : Gh) (y' : Ob), GW G ∧ GN G ∧ GS G ∧ gI G = jOr I1 I2 ∧ gL G = ovL (c :: d :: l) L ∧ gR G = ovR (c :: d :: l) R ∧ gU G = ovU (c :: d :: l) U ∧ gr G = some c ∧ fX3_resizeUpFrom (nI (pen (c :: d :: l))) y = some y' ∧ RepS y' (gL G) (gR G) (gU G) (gs G) (gr G) tn := by
  obtain ⟨c', l', lo, hi, e1, e2, e3⟩ := msq_ok (ch := ch) 65 0 64 _ _ _ _ h (by omega)
  rw [hm] at e1
  cases e1
  have mem : ∀ j, j ∈ c :: d :: l → jOr I1 I2 j = true := fun j hj => jOr_i.mpr (msq_mem 65 0 64 _ _ _ _ h j (by rw [hm]; exact hj))
  have hc : c = a ∨ c = b := by
    rw [msq_2] at hm
    by_cases q : ch a b = true
    · rw [if_pos q] at hm; exact Or.inl (List.cons.inj hm).1.symm
    · rw [if_neg q] at hm; exact Or.inr (List.cons.inj hm).1.symm
  have hUc : ovU (c :: d :: l) U c = none := by
    rw [ovU_ne _ c c (List.nodup_cons.mp e2).1]
    rcases hc with q | q
    · rw [q]; exact hU.1
    · rw [q]; exact hU.2
  have W : WF (ovL (c :: d :: l) L) (ovR (c :: d :: l) R) (ovU (c :: d :: l) U) (some c) (jOr I1 I2) lo hi := PW.whole e3 (fun r hr => by cases hr; exact hUc)
  have hNm : ∀ j, jOr I1 I2 j = false → j ∉ c :: d :: l := fun j hj q => by rw [mem j q] at hj; cases hj
  let G : Gh := (ovL (c :: d :: l) L, ovR (c :: d :: l) R, ovU (c :: d :: l) U, some c, jOr I1 I2, lo, hi, ccz (jOr I1 I2) lo hi)
  have hG : GW G := W
  have hN : GN G := by
    intro j hj
    have hj : jOr I1 I2 j = false := hj
    have q := hNm j hj
    obtain ⟨n1, n2, n3, -⟩ := hn j hj
    exact ⟨(ovL_ne _ j q).trans n1, (ovR_ne _ j q).trans n2, (ovU_ne _ c j (fun w => q (List.mem_cons_of_mem _ w))).trans n3⟩
  have hS : GS G := sz_ccz W
  have hlk : lnk (gU G) (c :: d :: l) := ovU_lnk _ c e2
  have hp : gI G (pen (c :: d :: l)) = true := mem _ (dl_sub _ _ (pen_in l c d))
  obtain ⟨y', f1, f2, f3⟩ := rs_rsz (tn := tn) (sz := sz) hG hN hS hp hr (fun j hj => by
    cases q : gI G j with
    | true => exact chain_sz (L := L) (R := R) (sz := sz) hG hS hUc hlk mem (fun _ _ => rfl) (fun _ _ => rfl) h0 j q hj
    | false => rw [(hn j q).2.2.2, (hS j).2 q])
  exact ⟨G, y', hG, hN, hS, rfl, rfl, rfl, rfl, rfl, f1, f2⟩
/-- the links of both trees in one Shape -/
def mL (G G2 : Gh) : Nat → Option Nat := ifb (gI G2) (gL G2) (gL G)
def mR (G G2 : Gh) : Nat → Option Nat := ifb (gI G2) (gR G2) (gR G)
def mU (G G2 : Gh) : Nat → Option Nat := ifb (gI G2) (gU G2) (gU G)
def mS (G G2 : Gh) : Nat → Nat := ifb (gI G2) (gs G2) (gs G)
/-- what join changes in the reference -/
abbrev JC : List Nat := [3, 4, 5, 6, 7, 8, 9, 11]
/-- the end of the reference's JOIN -/
theorem jn_end {x x3 : Ob} {yf y2f : Ob} {Gf : Gh} {κ : Nat} (hts : t ≠ s) (ht : t < 8) (hs : s < 8) (h : TR t x T y z G) (h2 : TR s x T2 y2 z2 G2) (hκ : T.1 0 = nI κ) (hκ2 : T2.1 0 = nI κ) (hκ5 : κ ≤ 5) (hf : Fr2 [0] JC t s x x3) (h8 : x3.2 8 = x.2 8) (h0 : x3.1 0 = 0)
    (hw : GW Gf) (hn : GN Gf) (hS : GS Gf) (hr : RepS yf (gL Gf) (gR Gf) (gU Gf) (gs Gf) (gr Gf) (x3.2 9 t)) (hm : RepM x3 t (gL Gf) (gR Gf) (gU Gf) (gr Gf) (gI Gf)) (hI : gI Gf = jOr (gI G) (gI G2)) (hd : ∀ k, gI G k = true → gI G2 k = false)
    (hr2 : RepS y2f (fun _ => none) (fun _ => none) (fun _ => none) (fun _ => 0) none (x3.2 9 s)) (h7 : ∀ k, k < 64 → x3.2 7 (64 * s + k) = 0) :
    ∃ (x' T' T2' : Ob), fX6_join_J322 (nI t) (nI s) x3 = some (1, x') ∧ fX4_beginMost T yf = some T' ∧ fX4_beginMost T2 y2f = some T2' ∧ TR t x' T' yf z Gf ∧ TR s x' T2' y2f z2 gE ∧ Fr2 [0] JC t s x x' ∧ x'.1 0 = 0 := by
  obtain ⟨a1, a2, a3, a4, a5, a6, a7⟩ := h
  obtain ⟨b1, b2, b3, b4, b5, b6, b7⟩ := h2
  have k2 : ∀ d i, d ∉ JC → x3.2 d i = x.2 d i := fun d i hd => by rw [hf.2.1 d hd]
  have c1 : x3.2 8 t = nI (cnt (gI G) 0 64) := by rw [h8]; exact a5
  have c2 : x3.2 8 s = nI (cnt (gI G2) 0 64) := by rw [h8]; exact b5
  have cc : nI (cnt (gI G) 0 64) + nI (cnt (gI G2) 0 64) = nI (cnt (gI Gf) 0 64) := by rw [nI_add, hI, cnt_or hd]
  have kt : x3.2 2 t = nI κ := by rw [k2 2 t (by decide), a2, hκ]
  have unf : fX6_join_J322 (nI t) (nI s) x3 = some (1, ob_a (ob_a (ob_a (ob_a (ob_a x3 8 t (nI (cnt (gI Gf) 0 64))) 8 s 0) 3 s (-1)) 11 t (if nI κ = 4 then nI (cnt (gI Gf) 0 64) else 0)) 11 s 0) := by
    have r2 : ∀ v, (ob_a (ob_a (ob_a x3 8 t v) 8 s 0) 3 s (-1)).2 2 t = nI κ := fun v => by rw [ga, if_neg (by omega), ga, if_neg (by omega), ga, if_neg (by omega)]; exact kt
    have r8 : ∀ v, (ob_a (ob_a (ob_a x3 8 t v) 8 s 0) 3 s (-1)).2 8 t = v := fun v => by rw [ga, if_neg (by omega), ga, if_neg (by omega), ga, if_pos ⟨rfl, rfl⟩]
    rw [fX6_join_J322, ix_nI ht (by decide), ix_nI hs (by decide), ix_nI ht (by decide), px_let, c1, c2, cc, ix_nI hs (by decide), px_let, ix_nI hs (by decide), px_let, ix_nI ht (by decide), r2]
    by_cases w : nI κ = 4
    · rw [if_pos w, ix_nI ht (by decide), r8, fX6_join_J376, ix_nI ht (by decide), px_let, ix_nI hs (by decide), px_let, if_pos w]
    · rw [if_neg w, fX6_join_J376, ix_nI ht (by decide), px_let, ix_nI hs (by decide), px_let, if_neg w]
  have g : ∀ d i, (ob_a (ob_a (ob_a (ob_a (ob_a x3 8 t (nI (cnt (gI Gf) 0 64))) 8 s 0) 3 s (-1)) 11 t (if nI κ = 4 then nI (cnt (gI Gf) 0 64) else 0)) 11 s 0).2 d i = if d = 11 ∧ i = s then 0 else if d = 11 ∧ i = t then (if nI κ = 4 then nI (cnt (gI Gf) 0 64) else 0) else if d = 3 ∧ i = s then -1 else if d = 8 ∧ i = s then 0 else if d = 8 ∧ i = t then nI (cnt (gI Gf) 0 64) else x3.2 d i := by
    intro d i; simp only [ga]
  have fr : Fr2 [0] JC t s x3 (ob_a (ob_a (ob_a (ob_a (ob_a x3 8 t (nI (cnt (gI Gf) 0 64))) 8 s 0) 3 s (-1)) 11 t (if nI κ = 4 then nI (cnt (gI Gf) 0 64) else 0)) 11 s 0) := by
    have p : ∀ c, ¬ (4 ≤ c ∧ c ≤ 7) → c ≠ 13 → (14 ≤ c ∨ inT c t t ∨ inT c s t) := fun c h1 h2 => Or.inr (Or.inl (inT1 h1 h2))
    have q : ∀ c, ¬ (4 ≤ c ∧ c ≤ 7) → c ≠ 13 → (14 ≤ c ∨ inT c t s ∨ inT c s s) := fun c h1 h2 => Or.inr (Or.inr (inT1 h1 h2))
    exact ((((Fr2.a _ _ _ (by decide) (p 8 (by decide) (by decide))).tr (Fr2.a _ _ _ (by decide) (q 8 (by decide) (by decide)))).tr (Fr2.a _ _ _ (by decide) (q 3 (by decide) (by decide)))).tr (Fr2.a _ _ _ (by decide) (p 11 (by decide) (by decide)))).tr (Fr2.a _ _ _ (by decide) (q 11 (by decide) (by decide)))
  have i0 : (ob_a (ob_a (ob_a (ob_a (ob_a x3 8 t (nI (cnt (gI Gf) 0 64))) 8 s 0) 3 s (-1)) 11 t (if nI κ = 4 then nI (cnt (gI Gf) 0 64) else 0)) 11 s 0).1 0 = 0 := h0
  generalize ob_a (ob_a (ob_a (ob_a (ob_a x3 8 t (nI (cnt (gI Gf) 0 64))) 8 s 0) 3 s (-1)) 11 t (if nI κ = 4 then nI (cnt (gI Gf) 0 64) else 0)) 11 s 0 = x9 at *
  have rd : ∀ d i, d ∉ JC → x9.2 d i = x.2 d i := fun d i hd => by rw [fr.2.1 d hd, k2 d i hd]
  have r3 : ∀ d i, d ∉ [3, 8, 11] → x9.2 d i = x3.2 d i := fun d i hd => by
    simp at hd
    rw [g, if_neg (by omega), if_neg (by omega), if_neg (by omega), if_neg (by omega), if_neg (by omega)]
  have S1 : Sim t x9 yf Gf := by
    refine ⟨hw, hn, hS, by rw [r3 9 t (by decide)]; exact hr, ⟨?_, ?_, ?_, ?_, ?_⟩⟩
    · intro k hk; show x9.2 7 _ = _; rw [r3 7 _ (by decide)]; exact hm.1 k hk
    · intro k hk; show x9.2 5 _ = _; rw [r3 5 _ (by decide)]; exact hm.2.1 k hk
    · intro k hk; show x9.2 6 _ = _; rw [r3 6 _ (by decide)]; exact hm.2.2.1 k hk
    · intro k hk; show x9.2 4 _ = _; rw [r3 4 _ (by decide)]; exact hm.2.2.2.1 k hk
    · rw [g, if_neg (by omega), if_neg (by omega), if_neg (by omega), if_neg (by omega), if_neg (by omega)]; exact hm.2.2.2.2
  have S2 : Sim s x9 y2f gE := by
    refine ⟨gE_w, gE_n, gE_s, by rw [r3 9 s (by decide)]; exact hr2, ⟨?_, ?_, ?_, ?_, ?_⟩⟩
    · intro k hk; show x9.2 7 _ = _; rw [r3 7 _ (by decide), h7 k hk]; rfl
    · intro k hk; cases hk
    · intro k hk; cases hk
    · intro k hk; cases hk
    · rw [g, if_neg (by omega), if_neg (by omega), if_pos ⟨rfl, rfl⟩]; rfl
  have B1 := sim_begin S1 κ hκ5 hκ
  have B2 := sim_begin S2 κ hκ5 hκ2
  have e0 : (if nI κ = 4 then nI (cnt (gI gE) 0 64) else 0) = 0 := by
    have : cnt (gI gE) 0 64 = 0 := cnt_f
    rw [this]; by_cases w : nI κ = 4
    · rw [if_pos w]; rfl
    · rw [if_neg w]
  rw [e0] at B2
  have row : ∀ {r : Nat} {zz : Ob}, RowR r x zz → RowR r x9 zz := by
    intro r zz h
    obtain ⟨m, z1, z2, z3, z4⟩ := h
    exact ⟨m, z1, z2, by rw [rd 12 r (by decide)]; exact z3, fun i hi => by obtain ⟨k, v1, v2, v3⟩ := z4 i hi; exact ⟨k, v1, v2, by rw [rd 13 _ (by decide)]; exact v3⟩⟩
  refine ⟨x9, _, _, unf, B1, B2, ⟨S1, ?_, ?_, ?_, ?_, row a6, ⟨κ, hκ5, hκ⟩, ?_, ?_⟩, ⟨S2, ?_, ?_, ?_, ?_, row b6, ⟨κ, hκ5, hκ2⟩, ⟨0, by omega, rfl⟩, fun _ => rfl⟩, hf.tr fr, i0⟩
  · rw [rd 2 t (by decide)]; exact a2
  · rw [rd 10 t (by decide)]; exact a3
  · rw [g, if_neg (by omega), if_pos ⟨rfl, rfl⟩]; rfl
  · rw [g, if_neg (by omega), if_neg (by omega), if_neg (by omega), if_neg (by omega), if_pos ⟨rfl, rfl⟩]
  · by_cases w : nI κ = 4
    · exact ⟨_, cnt_le (gI Gf) 0 64, by show (if nI κ = 4 then nI (cnt (gI Gf) 0 64) else 0) = _; rw [if_pos w]⟩
    · exact ⟨0, by omega, by show (if nI κ = 4 then nI (cnt (gI Gf) 0 64) else 0) = _; rw [if_neg w]; rfl⟩
  · intro q
    show (if nI κ = 4 then nI (cnt (gI Gf) 0 64) else 0) = 0
    rw [if_neg (fun w => q (by show T.1 0 = 4; rw [hκ, w]))]
  · rw [rd 2 s (by decide)]; exact b2
  · rw [rd 10 s (by decide)]; exact b3
  · rw [g, if_pos ⟨rfl, rfl⟩]; rfl
  · rw [g, if_neg (by omega), if_neg (by omega), if_neg (by omega), if_pos ⟨rfl, rfl⟩]
    show (0 : Int32) = nI (cnt (gI gE) 0 64)
    rw [show cnt (gI gE) 0 64 = 0 from cnt_f]; rfl
end J2
