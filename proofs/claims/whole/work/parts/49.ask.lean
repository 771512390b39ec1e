section AK
variable {t : Nat} {x x' y : Ob} {G : Gh}
theorem Sim.fr (h : Sim t x y G) {is cs : List Nat} {s : Nat} (hf : Fr is cs s x x') (h3 : 3 ∉ cs) (h4 : 4 ∉ cs) (h5 : 5 ∉ cs) (h6 : 6 ∉ cs) (h7 : 7 ∉ cs) (h9 : 9 ∉ cs) : Sim t x' y G := by
  obtain ⟨a1, a2, a3, a4, b1, b2, b3, b4, b5⟩ := h
  refine ⟨a1, a2, a3, by rw [hf.2.1 9 h9]; exact a4, ?_, ?_, ?_, ?_, by rw [hf.2.1 3 h3]; exact b5⟩
  · intro k hk; show x'.2 7 _ = _; rw [hf.2.1 7 h7]; exact b1 k hk
  · intro k hk; show x'.2 5 _ = _; rw [hf.2.1 5 h5]; exact b2 k hk
  · intro k hk; show x'.2 6 _ = _; rw [hf.2.1 6 h6]; exact b3 k hk
  · intro k hk; show x'.2 4 _ = _; rw [hf.2.1 4 h4]; exact b4 k hk
theorem inT_ne {c t s k : Nat} (h : t ≠ s) (hc : 4 ≤ c ∧ c ≤ 7) (hk : k < 64) : ¬ inT c s (64 * t + k) := by
  unfold inT; rw [if_pos hc]; omega
theorem inT_ne1 {c t s : Nat} (h : t ≠ s) (hc : ¬ (4 ≤ c ∧ c ≤ 7)) (h13 : c ≠ 13) : ¬ inT c s t := by
  unfold inT; rw [if_neg hc, if_neg h13]; exact h
theorem inT_ne13 {t s i : Nat} (h : t ≠ s) (hi : i < 100) : ¬ inT 13 s (100 * t + i) := by
  unfold inT; rw [if_neg (by decide), if_pos rfl]; omega
theorem Sim.fr2 (h : Sim t x y G) {is cs : List Nat} {s : Nat} (hf : Fr is cs s x x') (hne : t ≠ s) : Sim t x' y G := by
  obtain ⟨a1, a2, a3, a4, b1, b2, b3, b4, b5⟩ := h
  refine ⟨a1, a2, a3, by rw [hf.2.2 9 t (by decide) (inT_ne1 hne (by decide) (by decide))]; exact a4, ?_, ?_, ?_, ?_, by rw [hf.2.2 3 t (by decide) (inT_ne1 hne (by decide) (by decide))]; exact b5⟩
  · intro k hk; show x'.2 7 _ = _; rw [hf.2.2 7 _ (by decide) (inT_ne hne (by decide) hk)]; exact b1 k hk
  · intro k hk; show x'.2 5 _ = _; rw [hf.2.2 5 _ (by decide) (inT_ne hne (by decide) (a1.1 k hk).1)]; exact b2 k hk
  · intro k hk; show x'.2 6 _ = _; rw [hf.2.2 6 _ (by decide) (inT_ne hne (by decide) (a1.1 k hk).1)]; exact b3 k hk
  · intro k hk; show x'.2 4 _ = _; rw [hf.2.2 4 _ (by decide) (inT_ne hne (by decide) (a1.1 k hk).1)]; exact b4 k hk
/-- the row of a tree's asks, on both sides -/
def RowR (t : Nat) (x z : Ob) : Prop := ∃ r : Nat, r ≤ 100 ∧ z.1 1 = nI r ∧ x.2 12 t = nI r ∧ ∀ i, i < r → ∃ k, k < 64 ∧ z.2 0 i = nI k ∧ x.2 13 (100 * t + i) = nI k
/-- ALL of tree t, on both sides: T, y, z are the class's Tree, Shape and Row -/
def TR (t : Nat) (x T y z : Ob) (G : Gh) : Prop := Sim t x y G ∧ x.2 2 t = T.1 0 ∧ x.2 10 t = T.1 3 ∧ x.2 11 t = T.1 4 ∧ x.2 8 t = nI (cnt (gI G) 0 64) ∧ RowR t x z ∧ (∃ κ : Nat, κ ≤ 5 ∧ T.1 0 = nI κ) ∧ (∃ m : Nat, m ≤ 64 ∧ T.1 4 = nI m) ∧ (T.1 0 ≠ 4 → T.1 4 = 0)
theorem RowR.fr2 {z : Ob} (h : RowR t x z) {is cs : List Nat} {s : Nat} (hf : Fr is cs s x x') (hne : t ≠ s) : RowR t x' z := by
  obtain ⟨r, h1, h2, h3, h4⟩ := h
  refine ⟨r, h1, h2, by rw [hf.2.2 12 t (by decide) (inT_ne1 hne (by decide) (by decide))]; exact h3, fun i hi => ?_⟩
  obtain ⟨k, a1, a2, a3⟩ := h4 i hi
  exact ⟨k, a1, a2, by rw [hf.2.2 13 _ (by decide) (inT_ne13 hne (by omega))]; exact a3⟩
theorem TR.fr2 {T z : Ob} (h : TR t x T y z G) {is cs : List Nat} {s : Nat} (hf : Fr is cs s x x') (hne : t ≠ s) : TR t x' T y z G := by
  obtain ⟨a1, a2, a3, a4, a5, a6, a7⟩ := h
  have e : ∀ c, c < 14 → ¬ (4 ≤ c ∧ c ≤ 7) → c ≠ 13 → x'.2 c t = x.2 c t := fun c h1 h2 h3 => hf.2.2 c t h1 (inT_ne1 hne h2 h3)
  exact ⟨a1.fr2 hf hne, by rw [e 2 (by decide) (by decide) (by decide)]; exact a2, by rw [e 10 (by decide) (by decide) (by decide)]; exact a3, by rw [e 11 (by decide) (by decide) (by decide)]; exact a4, by rw [e 8 (by decide) (by decide) (by decide)]; exact a5, a6.fr2 hf hne, a7⟩
theorem Sim.sz (h : Sim t x y G) (k : Nat) : gs G k ≤ 64 := GS.le h.1 h.2.2.1 k
theorem i100 {t i : Nat} : (100 : Int32) * nI t + nI i = nI (100 * t + i) := by
  show nI 100 * nI t + nI i = _
  rw [pk_mul, nI_add]
theorem isTree_1 {n : Nat} (hn : n ≤ 8) (h1 : x.1 1 = nI n) (ht : t < n) : fX6_isTree (nI t) x = some 1 := by
  rw [fX6_isTree, if_neg (nI_pos (by omega)), h1, if_neg (nI_ge ht (by omega))]
theorem isKey6_1 {k : Nat} (hk : k < 64) : fX6_isKey (nI k) = some 1 := by
  rw [fX6_isKey, if_neg (nI_pos (by omega)), if_neg (st64 hk)]
/-- the row is written, on both sides -/
theorem row_write {z : Ob} (ht : t < 8) (h : RowR t x z) {k : Nat} (hk : k < 64) : ∃ z', fX2_write (nI k) z = some z' ∧
    ((100 ≤ x.2 12 t ∧ RowR t x z') ∨ (¬ (100 : Int32) ≤ x.2 12 t ∧ ∃ r : Nat, r < 100 ∧ x.2 12 t = nI r ∧ RowR t (ob_a (ob_a x 13 (100 * t + r) (nI k)) 12 t (nI (r + 1))) z')) := by
  obtain ⟨r, h1, h2, h3, h4⟩ := h
  by_cases q : r < 100
  · refine ⟨ob_i (ob_f z 0 (upd (z.2 0) r (nI k))) 1 (nI (r + 1)), ?_, Or.inr ⟨?_, r, q, h3, r + 1, by omega, rfl, ?_, ?_⟩⟩
    · rw [fX2_write, h2, if_neg (nI_ge q (by decide)), put_in q (by decide), Option.bind_some, px_let, px_let]
      show some (ob_i _ 1 (z.1 1 + 1)) = _
      rw [h2, nI_1]
    · rw [h3]; exact nI_ge (b := 100) q (by decide)
    · rw [ar_a, upd_at, if_pos rfl]
    · intro i hi
      rw [ar_n _ _ _ (by decide), ar_a]
      by_cases e : i = r
      · refine ⟨k, hk, ?_, ?_⟩
        · show upd (z.2 0) r (nI k) i = _
          rw [upd_at, if_pos e]
        · rw [upd_at, if_pos (by rw [e])]
      · obtain ⟨j, b1, b2, b3⟩ := h4 i (by omega)
        refine ⟨j, b1, ?_, ?_⟩
        · show upd (z.2 0) r (nI k) i = _
          rw [upd_at, if_neg e]; exact b2
        · rw [upd_at, if_neg (by omega)]; exact b3
  · refine ⟨z, ?_, Or.inl ⟨?_, r, h1, h2, h3, h4⟩⟩
    · rw [fX2_write, h2, if_pos (nI_le (by omega) (by omega))]
    · rw [h3]; exact nI_le (a := 100) (by omega) (by omega)
abbrev KC : List Nat := [3, 4, 5, 6, 9, 10, 12, 13]
set_option maxHeartbeats 1000000 in
theorem sim_ask {T z : Ob} {n : Nat} (hn : n ≤ 8) (h1 : x.1 1 = nI n) (ht : t < n) (h : TR t x T y z G) {k : Nat} (hk : k < 64) : ∃ (r : Int32) (x' T' y' z' : Ob) (G' : Gh), fX6_ask (nI t) (nI k) x = some (r, x') ∧ fX4_seek (nI k) T y z = some (r, T', y', z') ∧ TR t x' T' y' z' G' ∧ Fr [0, 16, 17] KC t x x' ∧ x'.1 0 = 0 := by
  have ht8 : t < 8 := by omega
  obtain ⟨a1, a2, a3, a4, a5, a6, a7⟩ := h
  have f0 : Fr [0, 16, 17] KC t x (ob_i x 0 0) := Fr.i _ _ _ _ (by decide)
  have s0 : Sim t (ob_i x 0 0) y G := a1.fr (cs := []) (is := [0]) (s := t) (Fr.i _ _ _ _ (by decide)) (by decide) (by decide) (by decide) (by decide) (by decide) (by decide)
  obtain ⟨l, x1, g1, g2, g3, g4, g5, g6, g7, g8⟩ := s0.goes ht8 a1.sz hk
  have s1 : Sim t x1 y G := s0.fr g6 (by decide) (by decide) (by decide) (by decide) (by decide) (by decide)
  have e0 : x1.1 0 = 0 := by rw [g6.1 0 (by decide)]; rfl
  have e12 : x1.2 12 = x.2 12 := g6.2.1 12 (by decide)
  have e13 : x1.2 13 = x.2 13 := g6.2.1 13 (by decide)
  have e10 : x1.2 10 t = T.1 3 := by rw [g6.2.1 10 (by decide)]; exact a3
  -- the costs
  have f2 : Fr [0, 16, 17] KC t x1 (ob_a x1 10 t (x1.2 10 t + x1.1 16)) := Fr.a _ _ _ (by decide) (inT1 (by decide) (by decide))
  have s2 : Sim t (ob_a x1 10 t (x1.2 10 t + x1.1 16)) y G := s1.fr (cs := [10]) (is := []) (s := t) (Fr.a _ _ _ (by decide) (inT1 (by decide) (by decide))) (by decide) (by decide) (by decide) (by decide) (by decide) (by decide)
  have u10 : (ob_a x1 10 t (x1.2 10 t + x1.1 16)).2 10 t = T.1 3 + nI (dep G l) := by rw [ar_a, upd_at, if_pos rfl, e10, g4]
  have u12 : (ob_a x1 10 t (x1.2 10 t + x1.1 16)).2 12 = x.2 12 := by rw [ar_n _ _ _ (by decide), e12]
  have u13 : (ob_a x1 10 t (x1.2 10 t + x1.1 16)).2 13 = x.2 13 := by rw [ar_n _ _ _ (by decide), e13]
  have u16 : (ob_a x1 10 t (x1.2 10 t + x1.1 16)).1 = x1.1 := rfl
  have uc : ∀ c, c ≠ 10 → (ob_a x1 10 t (x1.2 10 t + x1.1 16)).2 c = x.2 c := fun c hc => by rw [ar_n _ _ _ hc, g6.2.1 c (by simp)]; rfl
  have f02 := (f0.tr (g6.mono (by decide) (by decide))).tr f2
  have unf : fX6_ask (nI t) (nI k) x = (if (100 : Int32) ≤ x.2 12 t then fX6_ask_J91 (nI t) (if l = some k then 1 else 0) (ob_a x1 10 t (x1.2 10 t + x1.1 16)) else ix ((100) * nI t + x.2 12 t) 800 (fun j80 => px_let (ob_a (ob_a x1 10 t (x1.2 10 t + x1.1 16)) 13 j80 (nI k)) (fun x_80 => ix (nI t) 8 (fun j87 => ix (nI t) 8 (fun j90 => px_let (ob_a x_80 12 j90 (x_80.2 12 j87 + 1)) (fun x_90 => fX6_ask_J91 (nI t) (if l = some k then 1 else 0) x_90)))))) := by
    rw [fX6_ask, isTree_1 hn h1 ht, Option.bind_some, if_neg (by decide), isKey6_1 hk, Option.bind_some, if_neg (by decide), fX6_ask_J21, px_let, if_pos (by show (0 : Int32) ≤ 0; decide), g1, Option.bind_some, px_let, ix_nI ht8 (by decide), ix_nI ht8 (by decide), px_let, ix_nI ht8 (by decide)]
    simp only [u12]
    by_cases q : (100 : Int32) ≤ x.2 12 t
    · rw [if_pos q, if_pos q]
    · rw [if_neg q, if_neg q, ix_nI ht8 (by decide)]
  generalize ob_a x1 10 t (x1.2 10 t + x1.1 16) = x2 at f2 s2 u10 u12 u13 u16 uc f02 unf
  have r2 : RowR t x2 z := by
    obtain ⟨r, b1, b2, b3, b4⟩ := a6
    exact ⟨r, b1, b2, by rw [u12]; exact b3, by rw [u13]; exact b4⟩
  obtain ⟨z', w1, w2⟩ := row_write ht8 r2 hk
  -- behind the row: x3
  have step3 : ∃ x3, fX6_ask (nI t) (nI k) x = fX6_ask_J91 (nI t) (if l = some k then 1 else 0) x3 ∧ RowR t x3 z' ∧ Fr [0, 16, 17] KC t x2 x3 ∧ x3.1 = x2.1 ∧ x3.2 10 = x2.2 10 ∧ (∀ c, c ∉ [12, 13] → x3.2 c = x2.2 c) := by
    rcases w2 with ⟨q, w3⟩ | ⟨q, r, hr, e, w3⟩
    · exact ⟨x2, by rw [unf, if_pos (by rw [← u12]; exact q)], w3, Fr.rf _ _ _ _, rfl, rfl, fun _ _ => rfl⟩
    · refine ⟨_, ?_, w3, (Fr.a _ _ _ (by decide) (by unfold inT; rw [if_neg (by decide), if_pos rfl]; omega)).tr (Fr.a _ _ _ (by decide) (inT1 (by decide) (by decide))), rfl, ?_, ?_⟩
      · have e' : x.2 12 t = nI r := by rw [← u12]; exact e
        rw [unf, if_neg (by rw [← u12]; exact q), e', i100, ix_nI (by omega) (by decide), px_let, ix_nI ht8 (by decide), ix_nI ht8 (by decide), px_let, ar_n _ _ _ (by decide), e, nI_1]
      · rw [ar_n _ _ _ (by decide), ar_n _ _ _ (by decide)]
      · intro c hc
        have h12 : c ≠ 12 := fun e => hc (by rw [e]; decide)
        have h13 : c ≠ 13 := fun e => hc (by rw [e]; decide)
        rw [ar_n _ _ _ h12, ar_n _ _ _ h13]
  obtain ⟨x3, v1, v2, v3, v4, v5, v6⟩ := step3
  have s3 : Sim t x3 y G := by
    refine s2.fr (cs := [12, 13]) (is := []) (s := t) ⟨fun i _ => by rw [v4], v6, v3.2.2⟩ (by decide) (by decide) (by decide) (by decide) (by decide) (by decide)
  have w16 : x3.1 16 = nI (dep G l) := by rw [v4, u16, g4]
  have w17 : x3.1 17 = enc l := by rw [v4, u16, g5]
  have w0 : x3.1 0 = 0 := by rw [v4, u16, e0]
  have e2 : ∀ c, c ∉ [10, 12, 13] → x3.2 c = x.2 c := by
    intro c hc
    have q : c ∉ [12, 13] := fun h => hc (by simp at h ⊢; omega)
    have q10 : c ≠ 10 := fun e => hc (by rw [e]; decide)
    rw [v6 c q, uc c q10]
  have fr3 : Fr [0, 16, 17] KC t x x3 := f02.tr v3
  have hT0 : (ob_i T 3 (T.1 3 + nI (dep G l))).1 0 = T.1 0 := rfl
  have hT3 : (ob_i T 3 (T.1 3 + nI (dep G l))).1 3 = T.1 3 + nI (dep G l) := rfl
  have hT4 : (ob_i T 3 (T.1 3 + nI (dep G l))).1 4 = T.1 4 := rfl
  have fin : ∀ (x4 y' : Ob) (G' : Gh), Sim t x4 y' G' → gI G' = gI G → Fr [] TC t x3 x4 → TR t x4 (ob_i T 3 (T.1 3 + nI (dep G l))) y' z' G' ∧ Fr [0, 16, 17] KC t x x4 ∧ x4.1 0 = 0 := by
    intro x4 y' G' b1 b2 b3
    refine ⟨⟨b1, ?_, ?_, ?_, ?_, ?_, ?_⟩, fr3.tr (b3.mono (by decide) (by decide)), by rw [b3.1 0 (by decide)]; exact w0⟩
    · rw [hT0, b3.2.1 2 (by decide), e2 2 (by decide)]; exact a2
    · rw [hT3, b3.2.1 10 (by decide), v5]; exact u10
    · rw [hT4, b3.2.1 11 (by decide), e2 11 (by decide)]; exact a4
    · rw [b2, b3.2.1 8 (by decide), e2 8 (by decide)]; exact a5
    · obtain ⟨r, c1, c2, c3, c4⟩ := v2
      exact ⟨r, c1, c2, by rw [b3.2.1 12 (by decide)]; exact c3, by rw [b3.2.1 13 (by decide)]; exact c4⟩
    · rw [hT0, hT4]; exact a7
  cases l with
  | none =>
    obtain ⟨c1, c2, c3⟩ := fin x3 y G s3 rfl (Fr.rf _ _ _ _)
    refine ⟨-nI (dep G none), x3, _, y, z', G, ?_, ?_, c1, c2, c3⟩
    · rw [v1, fX6_ask_J91, w17, enc_n, if_pos m1_lt, fX6_ask_J107, if_pos (by rw [if_neg (by simp)]), w16]
    · rw [fX4_seek, g2, Option.bind_some, g3, Option.bind_some, px_let, w1, Option.bind_some, enc_n, fX4_act, if_pos rfl, Option.bind_some, if_neg (fun e => nI_ne_m1 (by omega) e.symm)]
  | some a =>
    have hIa : gI G a = true := (g8 a rfl).1.1
    have ha64 : a < 64 := s3.k64 hIa
    obtain ⟨x4, y', G', b1, b2, b3, b4, b5, b6⟩ := s3.act ht8 (T := ob_i T 3 (T.1 3 + nI (dep G (some a)))) (by rw [hT0, e2 2 (by decide)]; exact a2) hIa
    obtain ⟨c1, c2, c3⟩ := fin x4 y' G' b3 b4 b5
    have w16' : x4.1 16 = nI (dep G (some a)) := by rw [b5.1 16 (by decide)]; exact w16
    by_cases q : a = k
    · refine ⟨nI (dep G (some a)), x4, _, y', z', G', ?_, ?_, c1, c2, c3⟩
      · rw [v1, fX6_ask_J91, w17, enc_s, if_neg (nI_pos (by omega)), b1, Option.bind_some, fX6_ask_J107, if_neg (by rw [if_pos (by rw [q])]; decide), w16']
      · rw [fX4_seek, g2, Option.bind_some, g3, Option.bind_some, px_let, w1, Option.bind_some, enc_s, b2, Option.bind_some, if_pos (by rw [q])]
    · refine ⟨-nI (dep G (some a)), x4, _, y', z', G', ?_, ?_, c1, c2, c3⟩
      · rw [v1, fX6_ask_J91, w17, enc_s, if_neg (nI_pos (by omega)), b1, Option.bind_some, fX6_ask_J107, if_pos (by rw [if_neg (fun e => q (Option.some.inj e))]), w16']
      · rw [fX4_seek, g2, Option.bind_some, g3, Option.bind_some, px_let, w1, Option.bind_some, enc_s, b2, Option.bind_some, if_neg (fun e => q ((nI_eq (by omega) (by omega)).mp e))]
end AK
