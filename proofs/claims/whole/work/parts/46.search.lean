theorem fu_s : FU = 4999 + 1 := rfl
/-- how many keys lie on the way up from a link -/
def dpf (U : Nat → Option Nat) : Nat → Option Nat → Nat
  | 0, _ => 0
  | n + 1, o => match o with
    | none => 0
    | some a => 1 + dpf U n (U a)
theorem dpf_s (U : Nat → Option Nat) (n a : Nat) : dpf U (n + 1) (some a) = 1 + dpf U n (U a) := rfl
theorem dpf_n (U : Nat → Option Nat) (n : Nat) : dpf U n none = 0 := by cases n <;> rfl
def dep (G : Gh) (o : Option Nat) : Nat := dpf (gU G) (64 + 1) o
theorem dep_n (G : Gh) : dep G none = 0 := dpf_n _ _
theorem dep_s (G : Gh) (a : Nat) : dep G (some a) = 1 + dpf (gU G) 64 (gU G a) := dpf_s _ _ _
def wid (G : Gh) (a : Nat) : Nat := ghi G a - glo G a
section DP
variable {t : Nat} {x y : Ob} {G : Gh} {tn : Int32}
theorem GW.w1 (h : GW G) {a : Nat} (ha : gI G a = true) : 1 ≤ wid G a ∧ wid G a ≤ 64 := by
  have := h.1 a ha; unfold wid; omega
theorem dpf_stab (h : GW G) : ∀ (n m a : Nat), gI G a = true → 64 < n + wid G a → 64 < m + wid G a → dpf (gU G) n (some a) = dpf (gU G) m (some a) := by
  intro n
  induction n with
  | zero => intro m a ha h1 h2; have := h.w1 ha; omega
  | succ n ih =>
    intro m a ha h1 h2
    cases m with
    | zero => have := h.w1 ha; omega
    | succ m =>
      rw [dpf_s, dpf_s]
      cases hU : gU G a with
      | none => rw [dpf_n, dpf_n]
      | some u =>
        obtain ⟨hIu, hw⟩ := h.wide ha hU
        have hw : wid G a < wid G u := hw
        rw [ih m u hIu (by omega) (by omega)]
theorem dep_up (h : GW G) {a u : Nat} (ha : gI G a = true) (hu : gU G a = some u) : dep G (some a) = 1 + dep G (some u) := by
  obtain ⟨hIu, hw⟩ := h.wide ha hu
  have hw : wid G a < wid G u := hw
  have := h.w1 ha
  rw [dep_s, hu, dpf_stab h 64 (64 + 1) u hIu (by omega) (by omega), dep]
theorem dep_root (h : GW G) {a : Nat} (hu : gU G a = none) : dep G (some a) = 1 := by
  rw [dep_s, hu, dpf_n]
theorem dep_le (h : GW G) : ∀ (m a : Nat), gI G a = true → 65 ≤ m + wid G a → dep G (some a) ≤ m := by
  intro m
  induction m with
  | zero => intro a ha h1; have := h.w1 ha; omega
  | succ m ih =>
    intro a ha h1
    cases hU : gU G a with
    | none => rw [dep_root h hU]; omega
    | some u =>
      obtain ⟨hIu, hw⟩ := h.wide ha hU
      have hw : wid G a < wid G u := hw
      rw [dep_up h ha hU]
      have := ih u hIu (by omega)
      omega
theorem dep_64 (h : GW G) {a : Nat} (ha : gI G a = true) : dep G (some a) ≤ 64 := dep_le h 64 a ha (by have := h.w1 ha; omega)
/-- the class's depthOf -/
theorem rs_depL (hw : GW G) (hn : GN G) (h : RepS y (gL G) (gR G) (gU G) (gs G) (gr G) tn) : ∀ (m a d n : Nat), gI G a = true → 65 ≤ m + wid G a → m < n → d < wid G a → fX3_depthOf_L16 n (nI d) (nI a) y = some (nI (d + dep G (some a))) := by
  intro m
  induction m with
  | zero => intro a d n ha h1; have := hw.w1 ha; omega
  | succ m ih =>
    intro a d n ha h1 h2 h3
    obtain ⟨n, rfl⟩ := Nat.exists_eq_succ_of_ne_zero (by omega : n ≠ 0)
    have ha64 : a < 64 := (hw.1 a ha).1
    have w1 := hw.w1 ha
    have e1 : fX3_upOf (nI a) y = some (enc (gU G a)) := by
      have := rs_up h (Bd_s ha64); rw [enc_s, Option.bind_some] at this; exact this
    rw [fX3_depthOf_L16, if_neg (st64 (by omega)), if_neg (nI_ne_m1 (by omega)), px_let, nI_1, e1, Option.bind_some]
    cases hU : gU G a with
    | none =>
      obtain ⟨n, rfl⟩ := Nat.exists_eq_succ_of_ne_zero (by omega : n ≠ 0)
      rw [enc_n, fX3_depthOf_L16, dep_root hw hU]
      by_cases q : (64 : Int32) ≤ nI (d + 1)
      · rw [if_pos q]
      · rw [if_neg q, if_pos rfl]
    | some u =>
      obtain ⟨hIu, hwd⟩ := hw.wide ha hU
      have hwd : wid G a < wid G u := hwd
      rw [enc_s, ih u (d + 1) n hIu (by omega) (by omega) (by omega), dep_up hw ha hU]
      congr 2; omega
theorem rs_dep (hw : GW G) (hn : GN G) (hs : GS G) (h : RepS y (gL G) (gR G) (gU G) (gs G) (gr G) tn) {a : Nat} (ha : gI G a = true) (hsz : ∀ k, gs G k ≤ 64) : fX3_depthOf (nI a) y = some (nI (dep G (some a))) := by
  have ha64 : a < 64 := (hw.1 a ha).1
  have w1 := hw.w1 ha
  have e1 : fX3_sizeOf (nI a) y = some (nI (gs G a)) := by
    have := rs_size h (Bd_s ha64); rw [enc_s] at this; exact this
  have s1 := (hs a).1 ha
  have s2 := hsz a
  have e2 : fX3_holds (nI a) y = some 1 := by
    rw [fX3_holds, e1, Option.bind_some, if_neg (nI_nle (by omega) (by omega))]
  rw [fX3_depthOf, e2, Option.bind_some, if_neg (by decide), fX3_depthOf_J15]
  have := rs_depL hw hn h 64 a 0 FU ha (by omega) (by decide) (by omega)
  rw [Nat.zero_add] at this
  exact this
theorem rs_dep0 {L R U : Nat → Option Nat} {sz : Nat → Nat} {rt : Option Nat} (h : RepS y L R U sz rt tn) : fX3_depthOf (-1) y = some 0 := by
  have e1 : fX3_sizeOf (-1) y = some (nI 0) := rs_size h Bd_n
  have e2 : fX3_holds (-1) y = some 0 := by
    rw [fX3_holds, e1, Option.bind_some, if_pos (by decide)]
  rw [fX3_depthOf, e2, Option.bind_some, if_pos rfl, fX3_depthOf_J15]
  rw [fu_s, fX3_depthOf_L16, if_neg (by decide), if_pos rfl]
/-- the reference's depthOf -/
theorem rm_depL (hw : GW G) (h : RepM x t (gL G) (gR G) (gU G) (gr G) (gI G)) (ht : t < 8) : ∀ (m a d n : Nat), gI G a = true → 65 ≤ m + wid G a → m < n → fX6_depthOf_L15 n (nI t) (nI d) (nI a) x = some (nI (d + dep G (some a))) := by
  intro m
  induction m with
  | zero => intro a d n ha h1; have := hw.w1 ha; omega
  | succ m ih =>
    intro a d n ha h1 h2
    obtain ⟨n, rfl⟩ := Nat.exists_eq_succ_of_ne_zero (by omega : n ≠ 0)
    have ha64 : a < 64 := (hw.1 a ha).1
    have w1 := hw.w1 ha
    have e1 : x.2 4 (64 * t + a) = enc (gU G a) := h.2.2.2.1 a ha
    rw [fX6_depthOf_L15, if_neg (nI_pos (by omega)), px_let, nI_1, ix6 ht ha64, px_let, e1]
    cases hU : gU G a with
    | none =>
      obtain ⟨n, rfl⟩ := Nat.exists_eq_succ_of_ne_zero (by omega : n ≠ 0)
      rw [enc_n, fX6_depthOf_L15, if_pos m1_lt, dep_root hw hU]
    | some u =>
      obtain ⟨hIu, hwd⟩ := hw.wide ha hU
      have hwd : wid G a < wid G u := hwd
      rw [enc_s, ih u (d + 1) n hIu (by omega) (by omega), dep_up hw ha hU]
      congr 2; omega
theorem rm_dep (hw : GW G) (h : RepM x t (gL G) (gR G) (gU G) (gr G) (gI G)) (ht : t < 8) {a : Nat} (ha : gI G a = true) : fX6_depthOf (nI t) (nI a) x = some (nI (dep G (some a))) := by
  have ha64 : a < 64 := (hw.1 a ha).1
  have e1 : x.2 4 (64 * t + a) = enc (gU G a) := h.2.2.2.1 a ha
  rw [fX6_depthOf, ix6 ht ha64, px_let, e1]
  cases hU : gU G a with
  | none =>
    rw [enc_n, fu_s, fX6_depthOf_L15, if_pos m1_lt, dep_root hw hU]; rfl
  | some u =>
    obtain ⟨hIu, hwd⟩ := hw.wide ha hU
    have w1 := hw.w1 hIu
    have := rm_depL hw h ht 64 u 1 FU hIu (by omega) (by decide)
    rw [enc_s, dep_up hw ha hU]; exact this
/-- where a search of k stands: at a key that is in, with k in its interval -/
def onWay (G : Gh) (k a : Nat) : Prop := gI G a = true ∧ glo G a ≤ k ∧ k < ghi G a
/-- where it ends -/
def lastAt (G : Gh) (k l : Nat) : Prop := onWay G k l ∧ (l = k ∨ (k < l ∧ gL G l = none) ∨ (l < k ∧ gR G l = none))
theorem GW.root (h : GW G) {r : Nat} (hr : gr G = some r) {k : Nat} (hk : k < 64) : onWay G k r := by
  have a := h.2.2.2.2.2.2.2.1 r hr
  exact ⟨a.1, by rw [a.2.2.1]; omega, by rw [a.2.2.2]; exact hk⟩
set_option maxHeartbeats 1000000 in
theorem sim_goes {k : Nat} (hk : k < 64) (ht : t < 8) (hw : GW G) (hn : GN G) (hs : RepS y (gL G) (gR G) (gU G) (gs G) (gr G) tn) : ∀ (m a : Nat) (x : Ob) (c st n1 n2 : Nat), RepM x t (gL G) (gR G) (gU G) (gr G) (gI G) → onWay G k a → wid G a ≤ m → m + 1 < n1 → m < n2 → st + wid G a ≤ 64 → dep G (some a) = c + 1 → x.1 16 = nI c →
    ∃ (l : Nat) (x' : Ob), fX6_goes_L17 n1 (nI t) (nI k) (nI a) x = some (if l = k then 1 else 0, x') ∧ fX3_lastOnWay_L7 n2 (nI k) (nI a) (nI st) y = some (nI l) ∧ lastAt G k l ∧ x'.1 16 = nI (dep G (some l)) ∧ x'.1 17 = nI l ∧ Fr [16, 17] [] t x x' := by
  intro m
  induction m with
  | zero => intro a x c st n1 n2 hr ho h1; have := hw.w1 ho.1; omega
  | succ m ih =>
    intro a x c st n1 n2 hr ho h1 h2 h3 h4 h5 h6
    obtain ⟨n1, rfl⟩ := Nat.exists_eq_succ_of_ne_zero (by omega : n1 ≠ 0)
    obtain ⟨n2, rfl⟩ := Nat.exists_eq_succ_of_ne_zero (by omega : n2 ≠ 0)
    obtain ⟨ha, ho1, ho2⟩ := id ho
    have w1 := hw.w1 ha
    have ha64 : a < 64 := (hw.1 a ha).1
    have frx : Fr [16, 17] [] t x (ob_i (ob_i x 16 (x.1 16 + 1)) 17 (nI a)) := (Fr.i _ _ _ _ (by decide)).tr (Fr.i _ _ _ _ (by decide))
    have e16 : (ob_i (ob_i x 16 (x.1 16 + 1)) 17 (nI a)).1 16 = nI (c + 1) := by
      show va_up (va_up x.1 16 (x.1 16 + 1)) 17 (nI a) 16 = _
      rw [vup_at, if_neg (by decide), vup_at, if_pos rfl, h6, nI_1]
    have e17 : (ob_i (ob_i x 16 (x.1 16 + 1)) 17 (nI a)).1 17 = nI a := by
      show va_up (va_up x.1 16 (x.1 16 + 1)) 17 (nI a) 17 = _
      rw [vup_at, if_pos rfl]
    have hr' : RepM (ob_i (ob_i x 16 (x.1 16 + 1)) 17 (nI a)) t (gL G) (gR G) (gU G) (gr G) (gI G) := hr
    have eR : (ob_i (ob_i x 16 (x.1 16 + 1)) 17 (nI a)).2 6 (64 * t + a) = enc (gR G a) := hr.2.2.1 a ha
    have eL : (ob_i (ob_i x 16 (x.1 16 + 1)) 17 (nI a)).2 5 (64 * t + a) = enc (gL G a) := hr.2.1 a ha
    generalize hx1 : ob_i (ob_i x 16 (x.1 16 + 1)) 17 (nI a) = x1 at frx e16 e17 hr' eR eL
    have unf : fX6_goes_L17 (n1 + 1) (nI t) (nI k) (nI a) x = (if nI a = nI k then fX6_goes_J75 (fX6_goes_L17 n1) (nI t) (nI k) (-1) x1 else if nI a ≤ nI k then ix ((64) * nI t + nI a) 512 (fun j74 => fX6_goes_J75 (fX6_goes_L17 n1) (nI t) (nI k) (x1.2 6 j74) x1) else ix ((64) * nI t + nI a) 512 (fun j60 => fX6_goes_J75 (fX6_goes_L17 n1) (nI t) (nI k) (x1.2 5 j60) x1)) := by
      rw [fX6_goes_L17, if_neg (nI_pos (by omega)), px_let, px_let, hx1]
    have stop : ∀ n, 0 < n → fX6_goes_L17 n (nI t) (nI k) (-1) x1 = some (if a = k then 1 else 0, x1) := by
      intro n hn
      obtain ⟨n, rfl⟩ := Nat.exists_eq_succ_of_ne_zero (by omega : n ≠ 0)
      rw [fX6_goes_L17, if_pos m1_lt, fX6_goes_J79, e17]
      by_cases q : a = k
      · rw [if_pos (by rw [q]), if_pos q]
      · rw [if_neg (fun e => q ((nI_eq (by omega) (by omega)).mp e)), if_neg q]
    by_cases q : a = k
    · refine ⟨a, x1, ?_, ?_, ⟨ho, Or.inl q⟩, by rw [e16, h5], e17, frx⟩
      · rw [unf, if_pos (by rw [q]), fX6_goes_J75, stop n1 (by omega)]
      · rw [fX3_lastOnWay_L7, if_neg (st64 (by omega)), if_pos (by rw [q])]
    · have qn : ¬ nI a = nI k := fun e => q ((nI_eq (by omega) (by omega)).mp e)
      by_cases hlt : a < k
      · have eRy : fX3_rightOf (nI a) y = some (enc (gR G a)) := by
          have := rs_right hs (Bd_s ha64); rw [enc_s, Option.bind_some] at this; exact this
        cases hR : gR G a with
        | none =>
          refine ⟨a, x1, ?_, ?_, ⟨ho, Or.inr (Or.inr ⟨hlt, hR⟩)⟩, by rw [e16, h5], e17, frx⟩
          · rw [unf, if_neg qn, if_pos (nI_le (by omega) (by omega)), ix6 ht ha64, eR, hR, enc_n, fX6_goes_J75, stop n1 (by omega)]
          · rw [fX3_lastOnWay_L7, if_neg (st64 (by omega)), if_neg qn, if_pos (nI_le (by omega) (by omega)), eRy, Option.bind_some, hR, enc_n, fX3_lastOnWay_J36, if_pos rfl]
        | some b =>
          obtain ⟨hIb, hUb, hlb, hhb⟩ := hw.2.2.1 a b ha hR
          have hb64 : b < 64 := (hw.1 b hIb).1
          have hob : onWay G k b := ⟨hIb, by rw [hlb]; omega, by rw [hhb]; exact ho2⟩
          have hwb : wid G b < wid G a := by have := hw.1 b hIb; have := hw.1 a ha; unfold wid; omega
          obtain ⟨l, x', f1, f2, f3, f4, f5, f6⟩ := ih b x1 (c + 1) (st + 1) n1 n2 hr' hob (by omega) (by omega) (by omega) (by omega) (by rw [dep_up hw hIb hUb, h5]; omega) e16
          refine ⟨l, x', ?_, ?_, f3, f4, f5, frx.tr f6⟩
          · rw [unf, if_neg qn, if_pos (nI_le (by omega) (by omega)), ix6 ht ha64, eR, hR, enc_s, fX6_goes_J75, f1]
          · rw [fX3_lastOnWay_L7, if_neg (st64 (by omega)), if_neg qn, if_pos (nI_le (by omega) (by omega)), eRy, Option.bind_some, hR, enc_s, fX3_lastOnWay_J36, if_neg (nI_ne_m1 (by omega)), px_let, nI_1, f2]
      · have eLy : fX3_leftOf (nI a) y = some (enc (gL G a)) := by
          have := rs_left hs (Bd_s ha64); rw [enc_s, Option.bind_some] at this; exact this
        have hnl : ¬ nI a ≤ nI k := nI_ge (by omega) (by omega)
        cases hL : gL G a with
        | none =>
          refine ⟨a, x1, ?_, ?_, ⟨ho, Or.inr (Or.inl ⟨by omega, hL⟩)⟩, by rw [e16, h5], e17, frx⟩
          · rw [unf, if_neg qn, if_neg hnl, ix6 ht ha64, eL, hL, enc_n, fX6_goes_J75, stop n1 (by omega)]
          · rw [fX3_lastOnWay_L7, if_neg (st64 (by omega)), if_neg qn, if_neg hnl, eLy, Option.bind_some, hL, enc_n, fX3_lastOnWay_J36, if_pos rfl]
        | some b =>
          obtain ⟨hIb, hUb, hlb, hhb⟩ := hw.2.1 a b ha hL
          have hb64 : b < 64 := (hw.1 b hIb).1
          have hob : onWay G k b := ⟨hIb, by rw [hlb]; exact ho1, by rw [hhb]; omega⟩
          have hwb : wid G b < wid G a := by have := hw.1 b hIb; have := hw.1 a ha; unfold wid; omega
          obtain ⟨l, x', f1, f2, f3, f4, f5, f6⟩ := ih b x1 (c + 1) (st + 1) n1 n2 hr' hob (by omega) (by omega) (by omega) (by omega) (by rw [dep_up hw hIb hUb, h5]; omega) e16
          refine ⟨l, x', ?_, ?_, f3, f4, f5, frx.tr f6⟩
          · rw [unf, if_neg qn, if_neg hnl, ix6 ht ha64, eL, hL, enc_s, fX6_goes_J75, f1]
          · rw [fX3_lastOnWay_L7, if_neg (st64 (by omega)), if_neg qn, if_neg hnl, eLy, Option.bind_some, hL, enc_s, fX3_lastOnWay_J36, if_neg (nI_ne_m1 (by omega)), px_let, nI_1, f2]
/-- TO GO for a key, both ways -/
theorem Sim.goes (h : Sim t x y G) (ht : t < 8) (hsz : ∀ k, gs G k ≤ 64) {k : Nat} (hk : k < 64) : ∃ (l : Option Nat) (x' : Ob), fX6_goes (nI t) (nI k) x = some (if l = some k then 1 else 0, x') ∧ fX3_lastOnWay (nI k) y = some (enc l) ∧ fX3_depthOf (enc l) y = some (nI (dep G l)) ∧ x'.1 16 = nI (dep G l) ∧ x'.1 17 = enc l ∧ Fr [16, 17] [] t x x' ∧ (l = none → gr G = none) ∧ (∀ a, l = some a → lastAt G k a) := by
  obtain ⟨hw, hn, hs, hr, hm⟩ := h
  have fr0 : Fr [16, 17] [] t x (ob_i (ob_i x 16 0) 17 (-1)) := (Fr.i _ _ _ _ (by decide)).tr (Fr.i _ _ _ _ (by decide))
  have hm' : RepM (ob_i (ob_i x 16 0) 17 (-1)) t (gL G) (gR G) (gU G) (gr G) (gI G) := hm
  have e16 : (ob_i (ob_i x 16 0) 17 (-1)).1 16 = nI 0 := rfl
  have e17 : (ob_i (ob_i x 16 0) 17 (-1)).1 17 = -1 := rfl
  have e3 : (ob_i (ob_i x 16 0) 17 (-1)).2 3 t = enc (gr G) := hm.2.2.2.2
  have e5 : y.1 5 = enc (gr G) := hr.2.2.2.2.1
  have unf : fX6_goes (nI t) (nI k) x = fX6_goes_L17 FU (nI t) (nI k) ((ob_i (ob_i x 16 0) 17 (-1)).2 3 t) (ob_i (ob_i x 16 0) 17 (-1)) := by
    rw [fX6_goes, px_let, px_let, ix_nI ht (by decide), px_let]
  generalize ob_i (ob_i x 16 0) 17 (-1) = x1 at fr0 hm' e16 e17 e3 unf
  cases hg : gr G with
  | none =>
    refine ⟨none, x1, ?_, ?_, by rw [dep_n]; exact rs_dep0 hr, by rw [e16, dep_n], by rw [e17]; rfl, fr0, (fun _ => rfl), (fun a e => by cases e)⟩
    · rw [unf, e3, hg, enc_n]
      rw [fu_s, fX6_goes_L17, if_pos m1_lt, fX6_goes_J79, e17, if_neg (fun e => nI_ne_m1 (by omega) e.symm), if_neg (by simp)]
    · have eR : fX3_rightOf (-1) y = some (-1) := rs_right hr Bd_n
      rw [fX3_lastOnWay, px_let, e5, hg, enc_n]
      rw [fu_s, fX3_lastOnWay_L7, if_neg (by decide), if_neg (fun e => nI_ne_m1 (by omega) e.symm), if_pos (by rw [Int32.le_iff_toInt_le, nI_toInt (by omega)]; show (-1 : Int) ≤ _; omega), eR, Option.bind_some, fX3_lastOnWay_J36, if_pos rfl]
  | some r =>
    have ho := hw.root hg hk
    have hd : dep G (some r) = 0 + 1 := dep_root hw (hw.2.2.2.2.2.2.2.1 r hg).2.1
    have w1 := hw.w1 ho.1
    obtain ⟨l, x', f1, f2, f3, f4, f5, f6⟩ := sim_goes hk ht hw hn hr 64 r x1 0 0 FU FU hm' ho (by omega) (by decide) (by decide) (by omega) hd e16
    refine ⟨some l, x', ?_, ?_, ?_, f4, f5, fr0.tr f6, (fun e => by cases e), (fun a e => by cases e; exact f3)⟩
    · rw [unf, e3, hg, enc_s, f1]
      by_cases q : l = k
      · rw [if_pos q, if_pos (by rw [q])]
      · rw [if_neg q, if_neg (fun e => q (Option.some.inj e))]
    · rw [fX3_lastOnWay, px_let, e5, hg, enc_s]; exact f2
    · exact rs_dep hw hn hs hr f3.1.1 hsz
end DP
