section SK
variable {t : Nat} {x x' y T : Ob} {G : Gh}
theorem rm_sizeL (hw : GW G) (hs : GS G) (hr : RepM x t (gL G) (gR G) (gU G) (gr G) (gI G)) (ht : t < 8) : ∀ (d a : Nat), gI G a = true → wid G a < d → fX6_sizeOf d (nI t) (nI a) x = some (nI (gs G a)) := by
  intro d
  induction d with
  | zero => intro a _ h; omega
  | succ d ih =>
    intro a ha h
    have w1 := hw.w1 ha
    have b := hw.1 a ha
    have sub : ∀ o : Option Nat, (∀ c, o = some c → gI G c = true ∧ wid G c < wid G a) → fX6_sizeOf d (nI t) (enc o) x = some (nI (szo (gs G) o)) := by
      intro o ho
      cases o with
      | none =>
        obtain ⟨d, rfl⟩ := Nat.exists_eq_succ_of_ne_zero (by omega : d ≠ 0)
        rw [enc_n, fX6_sizeOf, if_neg (by decide)]; rfl
      | some c => obtain ⟨c1, c2⟩ := ho c rfl; exact ih c c1 (by omega)
    have e5 : x.2 5 (64 * t + a) = enc (gL G a) := hr.2.1 a ha
    have e6 : x.2 6 (64 * t + a) = enc (gR G a) := hr.2.2.1 a ha
    rw [fX6_sizeOf, if_pos (nI_pos' (by omega)), ix6 ht b.1, e5, sub (gL G a) (fun c hc => by
      obtain ⟨c1, -, c3, c4⟩ := hw.2.1 a c ha hc
      have := hw.1 c c1
      exact ⟨c1, by unfold wid; omega⟩), Option.bind_some, ix6 ht b.1, e6, sub (gR G a) (fun c hc => by
      obtain ⟨c1, -, c3, c4⟩ := hw.2.2.1 a c ha hc
      have := hw.1 c c1
      exact ⟨c1, by unfold wid; omega⟩), Option.bind_some, (hs a).1 ha]
    show some (nI 1 + nI _ + nI _) = _
    rw [nI_add, nI_add]
theorem Sim.size6 (h : Sim t x y G) (ht : t < 8) {a : Nat} (ha : gI G a = true) : fX6_sizeOf RD (nI t) (nI a) x = some (nI (gs G a)) := rm_sizeL h.1 h.2.2.1 h.2.2.2.2 ht RD a ha (by have := h.1.w1 ha; show wid G a < 70; omega)
theorem Sim.size3 (h : Sim t x y G) {a : Nat} (ha : a < 64) : fX3_sizeOf (nI a) y = some (nI (gs G a)) := by
  have := rs_size h.2.2.2.1 (Bd_s ha); rw [enc_s] at this; exact this
theorem Sim.left3 (h : Sim t x y G) {a : Nat} (ha : a < 64) : fX3_leftOf (nI a) y = some (enc (gL G a)) := by
  have := rs_left h.2.2.2.1 (Bd_s ha); rw [enc_s, Option.bind_some] at this; exact this
theorem Sim.right3 (h : Sim t x y G) {a : Nat} (ha : a < 64) : fX3_rightOf (nI a) y = some (enc (gR G a)) := by
  have := rs_right h.2.2.2.1 (Bd_s ha); rw [enc_s, Option.bind_some] at this; exact this
theorem Sim.left6 (h : Sim t x y G) {k : Nat} (hk : gI G k = true) : x.2 5 (64 * t + k) = enc (gL G k) := h.2.2.2.2.2.1 k hk
theorem Sim.right6 (h : Sim t x y G) {k : Nat} (hk : gI G k = true) : x.2 6 (64 * t + k) = enc (gR G k) := h.2.2.2.2.2.2.1 k hk
/-- which of the two that hang on a key is turned in REMOVE -/
theorem sim_heir (h : Sim t x y G) (ht : t < 8) (hT : x.2 2 t = T.1 0) {k : Nat} (hk : gI G k = true) : (gL G k = none ∧ gR G k = none ∧ fX6_heir (nI t) (nI k) x = some (-1)) ∨ ∃ c, (gL G k = some c ∨ gR G k = some c) ∧ fX6_heir (nI t) (nI k) x = some (nI c) ∧ fX4_childToTurn (nI k) T y = some (nI c) := by
  have hk64 := h.k64 hk
  cases hL : gL G k with
  | none =>
    cases hR : gR G k with
    | none =>
      refine Or.inl ⟨rfl, rfl, ?_⟩
      rw [fX6_heir, ix6 ht hk64, px_let, h.left6 hk, hL, ix6 ht hk64, px_let, h.right6 hk, hR, enc_n, if_pos m1_lt, fX6_heir_J34, if_neg (by decide)]
    | some r =>
      have hr64 : r < 64 := h.k64 (h.1.2.2.1 k r hk hR).1
      refine Or.inr ⟨r, Or.inr rfl, ?_, ?_⟩
      · rw [fX6_heir, ix6 ht hk64, px_let, h.left6 hk, hL, ix6 ht hk64, px_let, h.right6 hk, hR, enc_n, if_pos m1_lt, fX6_heir_J34, if_neg (by decide)]; rfl
      · rw [fX4_childToTurn, h.left3 hk64, Option.bind_some, h.right3 hk64, Option.bind_some, hL, hR, enc_s, if_neg (nI_ne_m1 (by omega)), enc_n, if_pos rfl]
  | some l =>
    have hl64 : l < 64 := h.k64 (h.1.2.1 k l hk hL).1
    have hIl := (h.1.2.1 k l hk hL).1
    cases hR : gR G k with
    | none =>
      refine Or.inr ⟨l, Or.inl rfl, ?_, ?_⟩
      · rw [fX6_heir, ix6 ht hk64, px_let, h.left6 hk, hL, ix6 ht hk64, px_let, h.right6 hk, hR, enc_n, enc_s, if_neg (nI_pos (by omega)), if_neg (by decide), fX6_heir_J34, if_pos (nI_pos' (by omega))]
      · rw [fX4_childToTurn, h.left3 hk64, Option.bind_some, h.right3 hk64, Option.bind_some, hL, hR, enc_n, if_pos rfl]; rfl
    | some r =>
      have hIr := (h.1.2.2.1 k r hk hR).1
      have hr64 : r < 64 := h.k64 hIr
      have pre6 : fX6_heir (nI t) (nI k) x = (if T.1 0 = 5 then Option.bind (fX6_weight (nI l)) (fun q56 => Option.bind (fX6_weight (nI r)) (fun q61 => (if q56 ≤ q61 then fX6_heir_J96 (nI l) (nI r) 0 x else fX6_heir_J96 (nI l) (nI r) 1 x))) else Option.bind (fX6_sizeOf RD (nI t) (nI l) x) (fun q78 => Option.bind (fX6_sizeOf RD (nI t) (nI r) x) (fun q85 => (if q78 < q85 then fX6_heir_J96 (nI l) (nI r) 0 x else fX6_heir_J96 (nI l) (nI r) 1 x)))) := by
        rw [fX6_heir, ix6 ht hk64, px_let, h.left6 hk, hL, ix6 ht hk64, px_let, h.right6 hk, hR, enc_s, enc_s, if_neg (nI_pos (by omega)), if_pos (nI_pos' (by omega)), ix_nI ht (by decide), hT]
      have pre3 : fX4_childToTurn (nI k) T y = (if T.1 0 = 5 then Option.bind (fX5_weight (nI l)) (fun q41 => Option.bind (fX5_weight (nI r)) (fun q45 => (if q41 ≤ q45 then some (nI r) else some (nI l)))) else Option.bind (fX3_sizeOf (nI l) y) (fun q62 => Option.bind (fX3_sizeOf (nI r) y) (fun q70 => (if q62 < q70 then some (nI r) else some (nI l))))) := by
        rw [fX4_childToTurn, h.left3 hk64, Option.bind_some, h.right3 hk64, Option.bind_some, hL, hR, enc_s, enc_s, if_neg (nI_ne_m1 (by omega)), if_neg (nI_ne_m1 (by omega))]
      have wl := wt_lt l
      have wr := wt_lt r
      have sl1 := h.sz l
      have sr1 := h.sz r
      by_cases k5 : T.1 0 = 5
      · rw [pre6, pre3, if_pos k5, if_pos k5, weight6 hl64, weight6 hr64, weight5 hl64, weight5 hr64, Option.bind_some, Option.bind_some, Option.bind_some, Option.bind_some]
        by_cases q : wt l ≤ wt r
        · exact Or.inr ⟨r, Or.inr rfl, by rw [if_pos (nI_le q (by omega)), fX6_heir_J96, if_pos rfl], by rw [if_pos (nI_le q (by omega))]⟩
        · exact Or.inr ⟨l, Or.inl rfl, by rw [if_neg (nI_ge (by omega) (by omega)), fX6_heir_J96, if_neg (by decide)], by rw [if_neg (nI_ge (by omega) (by omega))]⟩
      · rw [pre6, pre3, if_neg k5, if_neg k5, h.size6 ht hIl, h.size6 ht hIr, h.size3 hl64, h.size3 hr64, Option.bind_some, Option.bind_some, Option.bind_some, Option.bind_some]
        by_cases q : gs G l < gs G r
        · exact Or.inr ⟨r, Or.inr rfl, by rw [if_pos (nI_lt q (by omega)), fX6_heir_J96, if_pos rfl], by rw [if_pos (nI_lt q (by omega))]⟩
        · exact Or.inr ⟨l, Or.inl rfl, by rw [if_neg (nI_nlt (by omega) (by omega)), fX6_heir_J96, if_neg (by decide)], by rw [if_neg (nI_nlt (by omega) (by omega))]⟩
theorem sim_sink (ht : t < 8) {k : Nat} {v4 : Int32} : ∀ (m : Nat) (x y : Ob) (G : Gh), Sim t x y G → x.2 2 t = T.1 0 → gI G k = true → wid G k ≤ m → ∀ n1 n2 st : Nat, m < n1 → m < n2 → st + m ≤ 64 →
    ∃ h x' y' G', fX6_heir (nI t) (nI k) x = some h ∧ fX6_remove_L78 n1 (nI t) (nI k) v4 h x = fX6_remove_J101 (nI t) (nI k) v4 x' ∧ fX4_sink_L2 n2 (nI k) (nI st) T y = some y' ∧ Sim t x' y' G' ∧ gI G' = gI G ∧ gL G' k = none ∧ gR G' k = none ∧ Fr [] TC t x x' ∧ y'.2 4 = y.2 4 := by
  intro m
  induction m with
  | zero => intro x y G h _ hk hw; have := h.1.w1 hk; omega
  | succ m ih =>
    intro x y G h hT hk hwd n1 n2 st h1 h2 h3
    obtain ⟨n1, rfl⟩ := Nat.exists_eq_succ_of_ne_zero (by omega : n1 ≠ 0)
    obtain ⟨n2, rfl⟩ := Nat.exists_eq_succ_of_ne_zero (by omega : n2 ≠ 0)
    have hk64 := h.k64 hk
    have s1 := (h.2.2.1 k).1 hk
    have s2 := h.sz k
    rcases sim_heir h ht hT hk with ⟨e1, e2, e3⟩ | ⟨c, hc, e3, e4⟩
    · rw [e1, e2] at s1
      have s1 : gs G k = 1 := s1
      refine ⟨-1, x, y, G, e3, ?_, ?_, h, rfl, e1, e2, Fr.rf _ _ _ _, rfl⟩
      · rw [fX6_remove_L78, if_pos m1_lt]
      · rw [fX4_sink_L2]
        by_cases q : (64 : Int32) ≤ nI st
        · rw [if_pos q]
        · rw [if_neg q, h.size3 hk64, Option.bind_some, s1, if_pos (by decide)]
    · have hUc : gI G c = true ∧ gU G c = some k := by
        rcases hc with q | q
        · exact ⟨(h.1.2.1 k c hk q).1, (h.1.2.1 k c hk q).2.1⟩
        · exact ⟨(h.1.2.2.1 k c hk q).1, (h.1.2.2.1 k c hk q).2.1⟩
      have hc64 := h.k64 hUc.1
      obtain ⟨x1, y1, a1, a2, a3, a4, a5⟩ := h.turn ht hUc.1 hUc.2
      have hck : c ≠ k := fun e => by
        have := h.1.wide hUc.1 hUc.2; rw [e] at this; omega
      have wk : wid (gturn G c k) k < wid G k := by
        have bk := h.1.1 k hk
        have bc := h.1.1 c hUc.1
        obtain ⟨-, -, -, hside⟩ := WF.side h.1 hUc.1 hUc.2
        show thi (ghi G) c k k - tlo (glo G) c k k < ghi G k - glo G k
        rw [thi, tlo, if_neg hck.symm, if_neg hck.symm]
        rcases hside with q | q
        · rw [if_neg (fun z => z.2 q.1), if_pos ⟨rfl, q.1⟩]; omega
        · rw [if_pos ⟨rfl, by omega⟩, if_neg (fun z => by omega)]; omega
      have hsz : 1 < gs G k := by
        have sc := (h.2.2.1 c).1 hUc.1
        rcases hc with q | q
        · rw [q] at s1
          have : gs G k = 1 + gs G c + szo (gs G) (gR G k) := s1
          omega
        · rw [q] at s1
          have : gs G k = 1 + szo (gs G) (gL G k) + gs G c := s1
          omega
      have wk64 := h.1.w1 hk
      have st63 : st < 64 := by have := GW.w1 a3.1 (a := k) hk; omega
      obtain ⟨h', x', y', G', b1, b2, b3, b4, b5, b6, b7, b8, b9⟩ := ih x1 y1 (gturn G c k) a3 (by rw [a4.2.1 2 (by decide)]; exact hT) hk (by omega) n1 n2 (st + 1) (by omega) (by omega) (by omega)
      refine ⟨nI c, x', y', G', e3, ?_, ?_, b4, b5, b6, b7, a4.tr b8, b9.trans a5⟩
      · rw [fX6_remove_L78, if_neg (nI_pos (by omega)), a1, Option.bind_some, b1, Option.bind_some, b2]
      · rw [fX4_sink_L2, if_neg (st64 st63), h.size3 hk64, Option.bind_some, if_neg (show ¬ nI (gs G k) ≤ 1 from nI_ge (b := gs G k) (a := 1) hsz (by omega)), e4, Option.bind_some, a2, Option.bind_some, px_let, nI_1, b3]
end SK
