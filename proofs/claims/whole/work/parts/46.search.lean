theorem fu_s : FU = 4999 + 1 := rfl
/-- how many keys lie on the way up from a link -/
def dpf (U : Nat → Option Nat) : Nat → Option Nat → Nat
  | 0, _ => 0
  | n + 1, o => match o with
    | none => 0
    | some a => 1 + dpf U n (U a)
theorem dpf_s (U : Nat → Option Nat) (n a : Nat) : dpf U (n + 1) (some a) = 1 + dpf U n (U a) := rfl
theorem dpf_n (U : Nat → Option Nat) (n : Nat) : dpf U n none = 0 := by cases n <;> rfl
def dep (G : Gh) (o : Option Nat) : Nat := dpf (gU G) (64 + 1) o
theorem dep_n (G : Gh) : dep G none = 0 := dpf_n _ _
theorem dep_s (G : Gh) (a : Nat) : dep G (some a) = 1 + dpf (gU G) 64 (gU G a) := dpf_s _ _ _
def wid (G : Gh) (a : Nat) : Nat := ghi G a - glo G a
section DP
variable {t : Nat} {x y : Ob} {G : Gh} {tn : Int32}
theorem GW.w1 (h : GW G) {a : Nat} (ha : gI G a = true) : 1 ≤ wid G a ∧ wid G a ≤ 64 := by
  have := h.1 a ha; unfold wid; omega
theorem dpf_stab (h : GW G) : ∀ (n m a : Nat), gI G a = true → 64 < n + wid G a → 64 < m + wid G a → dpf (gU G) n (some a) = dpf (gU G) m (some a) := by
  intro n
  induction n with
  | zero => intro m a ha h1 h2; have := h.w1 ha; omega
  | succ n ih =>
    intro m a ha h1 h2
    cases m with
    | zero => have := h.w1 ha; omega
    | succ m =>
      rw [dpf_s, dpf_s]
      cases hU : gU G a with
      | none => rw [dpf_n, dpf_n]
      | some u =>
        obtain ⟨hIu, hw⟩ := h.wide ha hU
        have hw : wid G a < wid G u := hw
        rw [ih m u hIu (by omega) (by omega)]
theorem dep_up (h : GW G) {a u : Nat} (ha : gI G a = true) (hu : gU G a = some u) : dep G (some a) = 1 + dep G (some u) := by
  obtain ⟨hIu, hw⟩ := h.wide ha hu
  have hw : wid G a < wid G u := hw
  have := h.w1 ha
  rw [dep_s, hu, dpf_stab h 64 (64 + 1) u hIu (by omega) (by omega), dep]
theorem dep_root (h : GW G) {a : Nat} (hu : gU G a = none) : dep G (some a) = 1 := by
  rw [dep_s, hu, dpf_n]
theorem dep_le (h : GW G) : ∀ (m a : Nat), gI G a = true → 65 ≤ m + wid G a → dep G (some a) ≤ m := by
  intro m
  induction m with
  | zero => intro a ha h1; have := h.w1 ha; omega
  | succ m ih =>
    intro a ha h1
    cases hU : gU G a with
    | none => rw [dep_root h hU]; omega
    | some u =>
      obtain ⟨hIu, hw⟩ := h.wide ha hU
      have hw : wid G a < wid G u := hw
      rw [dep_up h ha hU]
      have := ih u hIu (by omega)
      omega
theorem dep_64 (h : GW G) {a : Nat} (ha : gI G a = true) : dep G (some a) ≤ 64 := dep_le h 64 a ha (by have := h.w1 ha; omega)
/-- the class's depthOf -/
theorem rs_depL (hw : GW G) (hn : GN G) (h : RepS y (gL G) (gR G) (gU G) (gs G) (gr G) tn) : ∀ (m a d n : Nat), gI G a = true → 65 ≤ m + wid G a → m < n → d < wid G a → fX3_depthOf_L16 n (nI d) (nI a) y = some (nI (d + dep G (some a))) := by
  intro m
  induction m with
  | zero => intro a d n ha h1; have := hw.w1 ha; omega
  | succ m ih =>
    intro a d n ha h1 h2 h3
    obtain ⟨n, rfl⟩ := Nat.exists_eq_succ_of_ne_zero (by omega : n ≠ 0)
    have ha64 : a < 64 := (hw.1 a ha).1
    have w1 := hw.w1 ha
    have e1 : fX3_upOf (nI a) y = some (enc (gU G a)) := by
      have := rs_up h (Bd_s ha64); rw [enc_s, Option.bind_some] at this; exact this
    rw [fX3_depthOf_L16, if_neg (st64 (by omega)), if_neg (nI_ne_m1 (by omega)), px_let, nI_1, e1, Option.bind_some]
    cases hU : gU G a with
    | none =>
      obtain ⟨n, rfl⟩ := Nat.exists_eq_succ_of_ne_zero (by omega : n ≠ 0)
      rw [enc_n, fX3_depthOf_L16, dep_root hw hU]
      by_cases q : (64 : Int32) ≤ nI (d + 1)
      · rw [if_pos q]
      · rw [if_neg q, if_pos rfl]
    | some u =>
      obtain ⟨hIu, hwd⟩ := hw.wide ha hU
      have hwd : wid G a < wid G u := hwd
      rw [enc_s, ih u (d + 1) n hIu (by omega) (by omega) (by omega), dep_up hw ha hU]
      congr 2; omega
theorem rs_dep (hw : GW G) (hn : GN G) (hs : GS G) (h : RepS y (gL G) (gR G) (gU G) (gs G) (gr G) tn) {a : Nat} (ha : gI G a = true) (hsz : ∀ k, gs G k ≤ 64) : fX3_depthOf (nI a) y = some (nI (dep G (some a))) := by
  have ha64 : a < 64 := (hw.1 a ha).1
  have w1 := hw.w1 ha
  have e1 : fX3_sizeOf (nI a) y = some (nI (gs G a)) := by
    have := rs_size h (Bd_s ha64); rw [enc_s] at this; exact this
  have s1 := (hs a).1 ha
  have s2 := hsz a
  have e2 : fX3_holds (nI a) y = some 1 := by
    rw [fX3_holds, e1, Option.bind_some, if_neg (nI_nle (by omega) (by omega))]
  rw [fX3_depthOf, e2, Option.bind_some, if_neg (by decide), fX3_depthOf_J15]
  have := rs_depL hw hn h 64 a 0 FU ha (by omega) (by decide) (by omega)
  rw [Nat.zero_add] at this
  exact this
theorem rs_dep0 {L R U : Nat → Option Nat} {sz : Nat → Nat} {rt : Option Nat} (h : RepS y L R U sz rt tn) : fX3_depthOf (-1) y = some 0 := by
  have e1 : fX3_sizeOf (-1) y = some (nI 0) := rs_size h Bd_n
  have e2 : fX3_holds (-1) y = some 0 := by
    rw [fX3_holds, e1, Option.bind_some, if_pos (by decide)]
  rw [fX3_depthOf, e2, Option.bind_some, if_pos rfl, fX3_depthOf_J15]
  rw [fu_s, fX3_depthOf_L16, if_neg (by decide), if_pos rfl]
/-- the reference's depthOf -/
theorem rm_depL (hw : GW G) (h : RepM x t (gL G) (gR G) (gU G) (gr G) (gI G)) (ht : t < 8) : ∀ (m a d n : Nat), gI G a = true → 65 ≤ m + wid G a → m < n → fX6_depthOf_L15 n (nI t) (nI d) (nI a) x = some (nI (d + dep G (some a))) := by
  intro m
  induction m with
  | zero => intro a d n ha h1; have := hw.w1 ha; omega
  | succ m ih =>
    intro a d n ha h1 h2
    obtain ⟨n, rfl⟩ := Nat.exists_eq_succ_of_ne_zero (by omega : n ≠ 0)
    have ha64 : a < 64 := (hw.1 a ha).1
    have w1 := hw.w1 ha
    have e1 : x.2 4 (64 * t + a) = enc (gU G a) := h.2.2.2.1 a ha
    rw [fX6_depthOf_L15, if_neg (nI_pos (by omega)), px_let, nI_1, ix6 ht ha64, px_let, e1]
    cases hU : gU G a with
    | none =>
      obtain ⟨n, rfl⟩ := Nat.exists_eq_succ_of_ne_zero (by omega : n ≠ 0)
      rw [enc_n, fX6_depthOf_L15, if_pos m1_lt, dep_root hw hU]
    | some u =>
      obtain ⟨hIu, hwd⟩ := hw.wide ha hU
      have hwd : wid G a < wid G u := hwd
      rw [enc_s, ih u (d + 1) n hIu (by omega) (by omega), dep_up hw ha hU]
      congr 2; omega
theorem rm_dep (hw : GW G) (h : RepM x t (gL G) (gR G) (gU G) (gr G) (gI G)) (ht : t < 8) {a : Nat} (ha : gI G a = true) : fX6_depthOf (nI t) (nI a) x = some (nI (dep G (some a))) := by
  have ha64 : a < 64 := (hw.1 a ha).1
  have e1 : x.2 4 (64 * t + a) = enc (gU G a) := h.2.2.2.1 a ha
  rw [fX6_depthOf, ix6 ht ha64, px_let, e1]
  cases hU : gU G a with
  | none =>
    rw [enc_n, fu_s, fX6_depthOf_L15, if_pos m1_lt, dep_root hw hU]; rfl
  | some u =>
    obtain ⟨hIu, hwd⟩ := hw.wide ha hU
    have w1 := hw.w1 hIu
    have := rm_depL hw h ht 64 u 1 FU hIu (by omega) (by decide)
    rw [enc_s, dep_up hw ha hU]; exact this
/-- where a search of k stands: at a key that is in, with k in its interval -/
def onWay (G : Gh) (k a : Nat) : Prop := gI G a = true ∧ glo G a ≤ k ∧ k < ghi G a
/-- where it ends -/
def lastAt (G : Gh) (k l : Nat) : Prop := onWay G k l ∧ (l = k ∨ (k < l ∧ gL G l = none) ∨ (l < k ∧ gR G l = none))
theorem GW.root (h : GW G) {r : Nat} (hr : gr G = some r) {k : Nat} (hk : k < 64) : onWay G k r := by
  have a := h.2.2.2.2.2.2.2.1 r hr
  exact ⟨a.1, by rw [a.2.2.1]; omega, by rw [a.2.2.2]; exact hk⟩
end DP
