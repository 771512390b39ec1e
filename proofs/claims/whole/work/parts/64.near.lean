section NE
variable {t : Nat} {x y : Ob} {G : Gh} {c : Nat}
/-- the new upper one of a key, of both trees -/
def cU (G : Gh) (c : Nat) : Nat → Option Nat := fun a => if a < c then cU1 G c a else cU2 G c a
theorem cU_no {a : Nat} (h : gI G a = false) : cU G c a = none := by
  have e1 : cU1 G c a = none := by rw [cU1, if_neg (fun q => by rw [h] at q; cases q.1)]
  have e2 : cU2 G c a = none := by rw [cU2, if_neg (fun q => by rw [h] at q; cases q.1)]
  rw [cU, e1, e2]
  by_cases q : a < c
  · rw [if_pos q]
  · rw [if_neg q]
theorem rm_near1 (hw : GW G) (hr : RepM x t (gL G) (gR G) (gU G) (gr G) (gI G)) (ht : t < 8) (hc : c < 64) {k : Nat} (hk : gI G k = true) (hkc : k < c) : ∀ (m a n : Nat), gI G a = true → glo G a = glo G k → k < ghi G a → (a = k ∨ (c ≤ a ∧ c ≤ ghi G k)) → 64 ≤ m + wid G a → m < n → fX6_nearest_L13 n (nI t) (nI k) (nI c) (enc (gU G a)) x = some (enc (cU1 G c k)) := by
  have bk := hw.1 k hk
  intro m
  induction m with
  | zero =>
    intro a n ha h1 h2 h3 h4 h5
    obtain ⟨n, rfl⟩ := Nat.exists_eq_succ_of_ne_zero (by omega : n ≠ 0)
    cases hU : gU G a with
    | some u => obtain ⟨hIu, hwd⟩ := hw.wide ha hU; have := hw.1 u hIu; unfold wid at *; omega
    | none =>
      have r := hw.2.2.2.2.2.2.2.1 a (hw.2.2.2.2.2.1 a ha hU)
      have q : c ≤ ghi G k := by
        rcases h3 with z | z
        · rw [← z]; omega
        · exact z.2
      rw [fX6_nearest_L13, enc_n, if_pos m1_lt, cU1_p hk hkc q, if_pos (by omega)]; rfl
  | succ m ih =>
    intro a n ha h1 h2 h3 h4 h5
    obtain ⟨n, rfl⟩ := Nat.exists_eq_succ_of_ne_zero (by omega : n ≠ 0)
    cases hU : gU G a with
    | none =>
      have r := hw.2.2.2.2.2.2.2.1 a (hw.2.2.2.2.2.1 a ha hU)
      have q : c ≤ ghi G k := by
        rcases h3 with z | z
        · rw [← z]; omega
        · exact z.2
      rw [fX6_nearest_L13, enc_n, if_pos m1_lt, cU1_p hk hkc q, if_pos (by omega)]; rfl
    | some u =>
      obtain ⟨hIu, hwd⟩ := hw.wide ha hU
      obtain ⟨-, hu64, -, s⟩ := WF.side hw ha hU
      have ba := hw.1 a ha
      have kc : ¬ nI c ≤ nI k := nI_ge hkc (by omega)
      by_cases q : u < c
      · -- the nearest
        have e : cU1 G c k = some u := by
          by_cases w : c ≤ ghi G k
          · rw [cU1_p hk hkc w]
            rcases s with s | s
            · rcases h3 with z | z
              · rw [z] at s; omega
              · omega
            · rw [if_neg (by omega)]; congr 1; omega
          · rw [cU1_n hk hkc w]
            rcases h3 with z | z
            · rw [← z]; exact hU
            · omega
        rw [fX6_nearest_L13, enc_s, if_neg (nI_pos (by omega)), if_neg (nI_ge q (by omega)), fX6_nearest_J29, if_neg kc, fX6_nearest_J39, if_pos rfl, e]; rfl
      · have hlt : a < u := by
          rcases s with s | s
          · exact s.1
          · omega
        rw [fX6_nearest_L13, enc_s, if_neg (nI_pos (by omega)), if_pos (nI_le (by omega) (by omega)), fX6_nearest_J29, if_neg kc, fX6_nearest_J39, if_neg (by decide), ix6 ht hu64, px_let, show x.2 4 (64 * t + u) = enc (gU G u) from hr.2.2.2.1 u hIu]
        have bu := hw.1 u hIu
        refine ih u n hIu (by omega) (by omega) (Or.inr ⟨by omega, ?_⟩) (by unfold wid at *; omega) (by omega)
        rcases h3 with z | z
        · rw [← z]; omega
        · exact z.2
theorem rm_near2 (hw : GW G) (hr : RepM x t (gL G) (gR G) (gU G) (gr G) (gI G)) (ht : t < 8) (hc : c < 64) {k : Nat} (hk : gI G k = true) (hkc : c ≤ k) : ∀ (m a n : Nat), gI G a = true → ghi G a = ghi G k → glo G a ≤ k → (a = k ∨ (a < c ∧ glo G k ≤ c)) → 64 ≤ m + wid G a → m < n → fX6_nearest_L13 n (nI t) (nI k) (nI c) (enc (gU G a)) x = some (enc (cU2 G c k)) := by
  have bk := hw.1 k hk
  intro m
  induction m with
  | zero =>
    intro a n ha h1 h2 h3 h4 h5
    obtain ⟨n, rfl⟩ := Nat.exists_eq_succ_of_ne_zero (by omega : n ≠ 0)
    cases hU : gU G a with
    | some u => obtain ⟨hIu, hwd⟩ := hw.wide ha hU; have := hw.1 u hIu; unfold wid at *; omega
    | none =>
      have r := hw.2.2.2.2.2.2.2.1 a (hw.2.2.2.2.2.1 a ha hU)
      have q : glo G k ≤ c := by
        rcases h3 with z | z
        · rw [← z]; omega
        · exact z.2
      rw [fX6_nearest_L13, enc_n, if_pos m1_lt, cU2_p hk hkc q, if_pos (by omega)]; rfl
  | succ m ih =>
    intro a n ha h1 h2 h3 h4 h5
    obtain ⟨n, rfl⟩ := Nat.exists_eq_succ_of_ne_zero (by omega : n ≠ 0)
    cases hU : gU G a with
    | none =>
      have r := hw.2.2.2.2.2.2.2.1 a (hw.2.2.2.2.2.1 a ha hU)
      have q : glo G k ≤ c := by
        rcases h3 with z | z
        · rw [← z]; omega
        · exact z.2
      rw [fX6_nearest_L13, enc_n, if_pos m1_lt, cU2_p hk hkc q, if_pos (by omega)]; rfl
    | some u =>
      obtain ⟨hIu, hwd⟩ := hw.wide ha hU
      obtain ⟨-, hu64, -, s⟩ := WF.side hw ha hU
      have ba := hw.1 a ha
      have kc : nI c ≤ nI k := nI_le hkc (by omega)
      by_cases q : c ≤ u
      · have e : cU2 G c k = some u := by
          by_cases w : glo G k ≤ c
          · rw [cU2_p hk hkc w]
            rcases s with s | s
            · rw [if_neg (by omega)]; congr 1; omega
            · rcases h3 with z | z
              · rw [z] at s; omega
              · omega
          · rw [cU2_n hk hkc w]
            rcases h3 with z | z
            · rw [← z]; exact hU
            · omega
        rw [fX6_nearest_L13, enc_s, if_neg (nI_pos (by omega)), if_pos (nI_le q (by omega)), fX6_nearest_J29, if_pos kc, fX6_nearest_J39, if_pos rfl, e]; rfl
      · have hlt : u < a := by
          rcases s with s | s
          · omega
          · exact s.1
        rw [fX6_nearest_L13, enc_s, if_neg (nI_pos (by omega)), if_neg (nI_ge (by omega) (by omega)), fX6_nearest_J29, if_pos kc, fX6_nearest_J39, if_neg (by decide), ix6 ht hu64, px_let, show x.2 4 (64 * t + u) = enc (gU G u) from hr.2.2.2.1 u hIu]
        have bu := hw.1 u hIu
        refine ih u n hIu (by omega) (by omega) (Or.inr ⟨by omega, ?_⟩) (by unfold wid at *; omega) (by omega)
        rcases h3 with z | z
        · rw [← z]; omega
        · exact z.2
theorem rm_near (hw : GW G) (hr : RepM x t (gL G) (gR G) (gU G) (gr G) (gI G)) (ht : t < 8) (hc : c < 64) {k : Nat} (hk : gI G k = true) : fX6_nearest (nI t) (nI k) (nI c) x = some (enc (cU G c k)) := by
  have bk := hw.1 k hk
  have w1 := hw.w1 hk
  rw [fX6_nearest, ix6 ht bk.1, px_let, show x.2 4 (64 * t + k) = enc (gU G k) from hr.2.2.2.1 k hk, cU]
  by_cases q : k < c
  · rw [if_pos q]; exact rm_near1 hw hr ht hc hk q 64 k FU hk rfl bk.2.2.1 (Or.inl rfl) (by omega) (by decide)
  · rw [if_neg q]; exact rm_near2 hw hr ht hc hk (by omega) 64 k FU hk rfl bk.2.1 (Or.inl rfl) (by omega) (by decide)
/-- only the places of the trees t and s have changed -/
def Fr2 (is cs : List Nat) (t s : Nat) (x x' : Ob) : Prop := (∀ i, i ∉ is → x'.1 i = x.1 i) ∧ (∀ c, c ∉ cs → x'.2 c = x.2 c) ∧ (∀ c i, c < 14 → ¬ inT c t i → ¬ inT c s i → x'.2 c i = x.2 c i)
theorem Fr2.rf (is cs : List Nat) (t s : Nat) (x : Ob) : Fr2 is cs t s x x := ⟨fun _ _ => rfl, fun _ _ => rfl, fun _ _ _ _ _ => rfl⟩
theorem Fr2.tr {is cs : List Nat} {t s : Nat} {x y z : Ob} (h1 : Fr2 is cs t s x y) (h2 : Fr2 is cs t s y z) : Fr2 is cs t s x z := ⟨fun i h => (h2.1 i h).trans (h1.1 i h), fun c h => (h2.2.1 c h).trans (h1.2.1 c h), fun c i h h' h'' => (h2.2.2 c i h h' h'').trans (h1.2.2 c i h h' h'')⟩
theorem Fr2.mono {is cs is' cs' : List Nat} {t s : Nat} {x y : Ob} (h : Fr2 is cs t s x y) (h1 : ∀ i, i ∈ is → i ∈ is') (h2 : ∀ i, i ∈ cs → i ∈ cs') : Fr2 is' cs' t s x y := ⟨fun i q => h.1 i (fun z => q (h1 i z)), fun c q => h.2.1 c (fun z => q (h2 c z)), h.2.2⟩
theorem ga (x : Ob) (c i : Nat) (v : Int32) (d j : Nat) : (ob_a x c i v).2 d j = if d = c ∧ j = i then v else x.2 d j := by
  show va_up x.2 c _ d j = _
  rw [vup_at]
  by_cases e : d = c
  · subst e; rw [if_pos rfl, upd_at]
    by_cases e2 : j = i
    · rw [if_pos e2, if_pos ⟨rfl, e2⟩]
    · rw [if_neg e2, if_neg (fun q => e2 q.2)]
  · rw [if_neg e, if_neg (fun q => e q.1)]
theorem Fr2.a {cs : List Nat} (is : List Nat) {c t s i : Nat} (x : Ob) (v : Int32) (hc : c ∈ cs) (hi : 14 ≤ c ∨ inT c t i ∨ inT c s i) : Fr2 is cs t s x (ob_a x c i v) := by
  refine ⟨fun _ _ => rfl, fun d hd => ?_, fun d j hd h1 h2 => ?_⟩
  · show va_up x.2 c _ d = x.2 d
    rw [vup_at, if_neg (fun e : d = c => hd (by rw [e]; exact hc))]
  · rw [ga, if_neg]
    rintro ⟨rfl, rfl⟩
    rcases hi with q | q | q
    · omega
    · exact h1 q
    · exact h2 q
theorem Fr2.i {is : List Nat} (cs : List Nat) (t s : Nat) {k : Nat} (x : Ob) (v : Int32) (hk : k ∈ is) : Fr2 is cs t s x (ob_i x k v) := by
  refine ⟨fun j hj => ?_, fun _ _ => rfl, fun _ _ _ _ _ => rfl⟩
  show va_up x.1 k v j = x.1 j
  rw [vup_at, if_neg (fun e : j = k => hj (by rw [e]; exact hk))]
theorem Fr.two {is cs : List Nat} {t : Nat} {x x' : Ob} (h : Fr is cs t x x') (s : Nat) : Fr2 is cs t s x x' := ⟨h.1, h.2.1, fun c i hc h1 _ => h.2.2 c i hc h1⟩
theorem inT_dis {c t r i : Nat} (h1 : inT c t i) (h2 : inT c r i) : t = r := by
  unfold inT at h1 h2
  by_cases q : 4 ≤ c ∧ c ≤ 7
  · rw [if_pos q] at h1 h2; omega
  · rw [if_neg q] at h1 h2
    by_cases w : c = 13
    · rw [if_pos w] at h1 h2; omega
    · rw [if_neg w] at h1 h2; omega
/-- what is told of a tree lies in its places -/
theorem TR.loc {r : Nat} {x x' T y z : Ob} {G : Gh} (h : TR r x T y z G) (hl : ∀ c i, c < 14 → inT c r i → x'.2 c i = x.2 c i) : TR r x' T y z G := by
  obtain ⟨⟨g1, g2, g3, g4, b1, b2, b3, b4, b5⟩, a2, a3, a4, a5, ⟨m, m1, m2, m3, m4⟩, a7⟩ := h
  have e1 : ∀ c, c < 14 → ¬ (4 ≤ c ∧ c ≤ 7) → c ≠ 13 → x'.2 c r = x.2 c r := fun c h1 h2 h3 => hl c r h1 (inT1 h2 h3)
  have e4 : ∀ c k, 4 ≤ c ∧ c ≤ 7 → k < 64 → x'.2 c (64 * r + k) = x.2 c (64 * r + k) := fun c k h1 h2 => hl c _ (by omega) (inT4 h1 h2)
  refine ⟨⟨g1, g2, g3, by rw [e1 9 (by decide) (by decide) (by decide)]; exact g4, ?_, ?_, ?_, ?_, by rw [e1 3 (by decide) (by decide) (by decide)]; exact b5⟩, by rw [e1 2 (by decide) (by decide) (by decide)]; exact a2, by rw [e1 10 (by decide) (by decide) (by decide)]; exact a3, by rw [e1 11 (by decide) (by decide) (by decide)]; exact a4, by rw [e1 8 (by decide) (by decide) (by decide)]; exact a5, ⟨m, m1, m2, by rw [e1 12 (by decide) (by decide) (by decide)]; exact m3, fun i hi => ?_⟩, a7⟩
  · intro k hk; show x'.2 7 _ = _; rw [e4 7 k (by decide) hk]; exact b1 k hk
  · intro k hk; show x'.2 5 _ = _; rw [e4 5 k (by decide) (g1.1 k hk).1]; exact b2 k hk
  · intro k hk; show x'.2 6 _ = _; rw [e4 6 k (by decide) (g1.1 k hk).1]; exact b3 k hk
  · intro k hk; show x'.2 4 _ = _; rw [e4 4 k (by decide) (g1.1 k hk).1]; exact b4 k hk
  · obtain ⟨k, k1, k2, k3⟩ := m4 i hi
    refine ⟨k, k1, k2, ?_⟩
    rw [hl 13 _ (by decide) (by unfold inT; rw [if_neg (by decide), if_pos rfl]; omega)]; exact k3
theorem TR.fr3 {r t s : Nat} {x x' T y z : Ob} {G : Gh} {is cs : List Nat} (h : TR r x T y z G) (hf : Fr2 is cs t s x x') (h1 : r ≠ t) (h2 : r ≠ s) : TR r x' T y z G :=
  h.loc (fun c i hc hi => hf.2.2 c i hc (fun q => h1 (inT_dis hi q)) (fun q => h2 (inT_dis hi q)))
end NE
