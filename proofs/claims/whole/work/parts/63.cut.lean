/-! SPLIT: what comes of a tree cut at c, in closed form -/
def cI1 (G : Gh) (c : Nat) : Nat → Bool := fun a => gI G a && decide (a < c)
def cI2 (G : Gh) (c : Nat) : Nat → Bool := fun a => gI G a && decide (c ≤ a)
def cU1 (G : Gh) (c : Nat) : Nat → Option Nat := fun a => if gI G a = true ∧ a < c then (if c ≤ ghi G a then (if glo G a = 0 then none else some (glo G a - 1)) else gU G a) else none
def cU2 (G : Gh) (c : Nat) : Nat → Option Nat := fun a => if gI G a = true ∧ c ≤ a then (if glo G a ≤ c then (if ghi G a = 64 then none else some (ghi G a)) else gU G a) else none
def ch1 (G : Gh) (c : Nat) : Nat → Nat := fun a => if c ≤ ghi G a then 64 else ghi G a
def cl2 (G : Gh) (c : Nat) : Nat → Nat := fun a => if glo G a ≤ c then 0 else glo G a
def gcut1 (G : Gh) (c : Nat) : Gh := (chL (cI1 G c) (cU1 G c), chR (cI1 G c) (cU1 G c), cU1 G c, rtO (cI1 G c) (cU1 G c), cI1 G c, glo G, ch1 G c, ccz (cI1 G c) (glo G) (ch1 G c))
def gcut2 (G : Gh) (c : Nat) : Gh := (chL (cI2 G c) (cU2 G c), chR (cI2 G c) (cU2 G c), cU2 G c, rtO (cI2 G c) (cU2 G c), cI2 G c, cl2 G c, ghi G, ccz (cI2 G c) (cl2 G c) (ghi G))
section CT2
variable {G : Gh} {c : Nat}
theorem cI1_i {a : Nat} : cI1 G c a = true ↔ gI G a = true ∧ a < c := by unfold cI1; simp
theorem cI2_i {a : Nat} : cI2 G c a = true ↔ gI G a = true ∧ c ≤ a := by unfold cI2; simp
theorem cU1_p {a : Nat} (ha : gI G a = true) (h : a < c) (h2 : c ≤ ghi G a) : cU1 G c a = if glo G a = 0 then none else some (glo G a - 1) := by rw [cU1, if_pos ⟨ha, h⟩, if_pos h2]
theorem cU1_n {a : Nat} (ha : gI G a = true) (h : a < c) (h2 : ¬ c ≤ ghi G a) : cU1 G c a = gU G a := by rw [cU1, if_pos ⟨ha, h⟩, if_neg h2]
theorem cU2_p {a : Nat} (ha : gI G a = true) (h : c ≤ a) (h2 : glo G a ≤ c) : cU2 G c a = if ghi G a = 64 then none else some (ghi G a) := by rw [cU2, if_pos ⟨ha, h⟩, if_pos h2]
theorem cU2_n {a : Nat} (ha : gI G a = true) (h : c ≤ a) (h2 : ¬ glo G a ≤ c) : cU2 G c a = gU G a := by rw [cU2, if_pos ⟨ha, h⟩, if_neg h2]
theorem GW.dnL (hw : GW G) {e j : Nat} (hj : gI G j = true) (j1 : e ≤ j) (j2 : j < c) : ∀ (m b : Nat), gI G b = true → glo G b = e → c ≤ ghi G b → wid G b ≤ m → ∃ d, gI G d = true ∧ d < c ∧ glo G d = e ∧ c ≤ ghi G d := by
  intro m
  induction m with
  | zero => intro b hb h1 h2 h3; have := hw.w1 hb; omega
  | succ m ih =>
    intro b hb h1 h2 h3
    by_cases q : b < c
    · exact ⟨b, hb, q, h1, h2⟩
    · cases hL : gL G b with
      | none => exact absurd ⟨by omega, by omega⟩ (hw.2.2.2.1 b j hb hL hj)
      | some b' =>
        obtain ⟨q1, q2, q3, q4⟩ := hw.2.1 b b' hb hL
        have := hw.1 b' q1; have := hw.1 b hb
        exact ih b' q1 (by omega) (by omega) (by unfold wid at *; omega)
theorem GW.dnH (hw : GW G) {e j : Nat} (hj : gI G j = true) (j1 : c ≤ j) (j2 : j < e) : ∀ (m b : Nat), gI G b = true → ghi G b = e → glo G b ≤ c → wid G b ≤ m → ∃ d, gI G d = true ∧ c ≤ d ∧ ghi G d = e ∧ glo G d ≤ c := by
  intro m
  induction m with
  | zero => intro b hb h1 h2 h3; have := hw.w1 hb; omega
  | succ m ih =>
    intro b hb h1 h2 h3
    by_cases q : c ≤ b
    · exact ⟨b, hb, q, h1, h2⟩
    · cases hR : gR G b with
      | none => exact absurd ⟨by omega, by omega⟩ (hw.2.2.2.2.1 b j hb hR hj)
      | some b' =>
        obtain ⟨q1, q2, q3, q4⟩ := hw.2.2.1 b b' hb hR
        have := hw.1 b' q1; have := hw.1 b hb
        exact ih b' q1 (by omega) (by omega) (by unfold wid at *; omega)
theorem GW.rtI (hw : GW G) {j : Nat} (hj : gI G j = true) : ∃ r, gr G = some r ∧ gI G r = true ∧ glo G r = 0 ∧ ghi G r = 64 := by
  cases h : gr G with
  | none => have := hw.2.2.2.2.2.2.2.2 h j; rw [hj] at this; cases this
  | some r => have := hw.2.2.2.2.2.2.2.1 r h; exact ⟨r, rfl, this.1, this.2.2.1, this.2.2.2⟩
theorem c1_par (hw : GW G) (hc : c < 64) {k u : Nat} (hk : cI1 G c k = true) (hu : cU1 G c k = some u) : cI1 G c u = true ∧ ((k < u ∧ glo G k = glo G u ∧ ch1 G c k = u) ∨ (u < k ∧ glo G k = u + 1 ∧ ch1 G c k = ch1 G c u)) := by
  obtain ⟨a1, a2⟩ := cI1_i.mp hk
  have bk := hw.1 k a1
  by_cases q : c ≤ ghi G k
  · rw [cU1_p a1 a2 q] at hu
    by_cases z : glo G k = 0
    · rw [if_pos z] at hu; cases hu
    · rw [if_neg z] at hu
      obtain ⟨e, e1, e2, e3⟩ := hw.loK 64 k a1 (by have := hw.w1 a1; omega) (by omega)
      have : u = e := by have := Option.some.inj hu; omega
      subst this
      refine ⟨cI1_i.mpr ⟨e2, by omega⟩, Or.inr ⟨by omega, by omega, ?_⟩⟩
      rw [ch1, ch1, if_pos q, if_pos (by omega)]
  · rw [cU1_n a1 a2 q] at hu
    obtain ⟨hIu, -, -, s⟩ := WF.side hw a1 hu
    rcases s with s | s
    · refine ⟨cI1_i.mpr ⟨hIu, by omega⟩, Or.inl ⟨s.1, s.2.2.1, ?_⟩⟩
      rw [ch1, if_neg q]; omega
    · refine ⟨cI1_i.mpr ⟨hIu, by omega⟩, Or.inr ⟨s.1, s.2.2.1, ?_⟩⟩
      rw [ch1, ch1, if_neg q, if_neg (by omega)]; omega
theorem c2_par (hw : GW G) (hc : c < 64) {k u : Nat} (hk : cI2 G c k = true) (hu : cU2 G c k = some u) : cI2 G c u = true ∧ ((k < u ∧ cl2 G c k = cl2 G c u ∧ ghi G k = u) ∨ (u < k ∧ cl2 G c k = u + 1 ∧ ghi G k = ghi G u)) := by
  obtain ⟨a1, a2⟩ := cI2_i.mp hk
  have bk := hw.1 k a1
  by_cases q : glo G k ≤ c
  · rw [cU2_p a1 a2 q] at hu
    by_cases z : ghi G k = 64
    · rw [if_pos z] at hu; cases hu
    · rw [if_neg z] at hu
      obtain ⟨e2, e3⟩ := hw.hiK 64 k a1 (by have := hw.w1 a1; omega) (by omega)
      have : u = ghi G k := (Option.some.inj hu).symm
      subst this
      refine ⟨cI2_i.mpr ⟨e2, by omega⟩, Or.inl ⟨by omega, ?_, rfl⟩⟩
      rw [cl2, cl2, if_pos q, if_pos (by omega)]
  · rw [cU2_n a1 a2 q] at hu
    obtain ⟨hIu, -, -, s⟩ := WF.side hw a1 hu
    rcases s with s | s
    · refine ⟨cI2_i.mpr ⟨hIu, by omega⟩, Or.inl ⟨s.1, ?_, s.2.2.2⟩⟩
      rw [cl2, cl2, if_neg q, if_neg (by omega)]; omega
    · refine ⟨cI2_i.mpr ⟨hIu, by omega⟩, Or.inr ⟨s.1, ?_, s.2.2.2⟩⟩
      rw [cl2, if_neg q]; omega
theorem GW.cut1 (hw : GW G) (hc : c < 64) : GW (gcut1 G c) := by
  refine WF.ofU (I := cI1 G c) (U := cU1 G c) (lo := glo G) (hi := ch1 G c) ?_ (fun k u hk hu => c1_par hw hc hk hu) ?_ ?_ ?_ ?_ ?_
  · intro k hk
    obtain ⟨a1, a2⟩ := cI1_i.mp hk
    have := hw.1 k a1
    refine ⟨this.1, this.2.1, ?_, ?_⟩
    · rw [ch1]; by_cases q : c ≤ ghi G k
      · rw [if_pos q]; omega
      · rw [if_neg q]; omega
    · rw [ch1]; by_cases q : c ≤ ghi G k
      · rw [if_pos q]; omega
      · rw [if_neg q]; omega
  · intro k hk hu
    obtain ⟨a1, a2⟩ := cI1_i.mp hk
    by_cases q : c ≤ ghi G k
    · rw [cU1_p a1 a2 q] at hu
      by_cases z : glo G k = 0
      · exact ⟨z, by rw [ch1, if_pos q]⟩
      · rw [if_neg z] at hu; cases hu
    · rw [cU1_n a1 a2 q] at hu
      have := hw.2.2.2.2.2.2.2.1 k (hw.2.2.2.2.2.1 k a1 hu); omega
  · intro a b ha hb h1 h2
    obtain ⟨a1, a2⟩ := cI1_i.mp ha
    obtain ⟨b1, b2⟩ := cI1_i.mp hb
    have ba := hw.1 a a1
    have bb := hw.1 b b1
    refine hw.uniq a1 b1 h1 ?_ ?_
    · rw [ch1, ch1] at h2
      by_cases q : c ≤ ghi G a
      · by_cases w : c ≤ ghi G b
        · omega
        · rw [if_pos q, if_neg w] at h2; omega
      · by_cases w : c ≤ ghi G b
        · rw [if_neg q, if_pos w] at h2; omega
        · rw [if_neg q, if_neg w] at h2; omega
    · rw [ch1, ch1] at h2
      by_cases q : c ≤ ghi G a
      · by_cases w : c ≤ ghi G b
        · omega
        · rw [if_pos q, if_neg w] at h2; omega
      · by_cases w : c ≤ ghi G b
        · rw [if_neg q, if_pos w] at h2; omega
        · rw [if_neg q, if_neg w] at h2; omega
  · intro k j hk hj j1 j2
    obtain ⟨a1, a2⟩ := cI1_i.mp hk
    obtain ⟨b1, b2⟩ := cI1_i.mp hj
    cases hL : gL G k with
    | none => exact absurd ⟨j1, j2⟩ (hw.2.2.2.1 k j a1 hL b1)
    | some d =>
      obtain ⟨q1, q2, q3, q4⟩ := hw.2.1 k d a1 hL
      have := hw.1 d q1
      exact ⟨d, cI1_i.mpr ⟨q1, by omega⟩, by rw [cU1_n q1 (by omega) (by omega)]; exact q2, by omega⟩
  · intro k j hk hj j1 j2
    obtain ⟨a1, a2⟩ := cI1_i.mp hk
    obtain ⟨b1, b2⟩ := cI1_i.mp hj
    by_cases q : c ≤ ghi G k
    · cases hR : gR G k with
      | none => exact absurd ⟨j1, by omega⟩ (hw.2.2.2.2.1 k j a1 hR b1)
      | some d =>
        obtain ⟨q1, q2, q3, q4⟩ := hw.2.2.1 k d a1 hR
        obtain ⟨r, r1, r2, r3, r4⟩ := hw.dnL (c := c) (e := k + 1) b1 (by omega) b2 64 d q1 q3 (by omega) (hw.w1 q1).2
        have := hw.1 r r1
        exact ⟨r, cI1_i.mpr ⟨r1, r2⟩, by rw [cU1_p r1 r2 r4, if_neg (by omega)]; congr 1; omega, by omega⟩
    · have h2 : ch1 G c k = ghi G k := by rw [ch1, if_neg q]
      rw [h2] at j2
      cases hR : gR G k with
      | none => exact absurd ⟨j1, by omega⟩ (hw.2.2.2.2.1 k j a1 hR b1)
      | some d =>
        obtain ⟨q1, q2, q3, q4⟩ := hw.2.2.1 k d a1 hR
        have := hw.1 d q1
        exact ⟨d, cI1_i.mpr ⟨q1, by omega⟩, by rw [cU1_n q1 (by omega) (by omega)]; exact q2, by omega⟩
  · intro j hj
    obtain ⟨b1, b2⟩ := cI1_i.mp hj
    obtain ⟨r, r0, r1, r2, r3⟩ := hw.rtI b1
    obtain ⟨d, d1, d2, d3, d4⟩ := hw.dnL (c := c) (e := 0) b1 (by omega) b2 64 r r1 r2 (by omega) (hw.w1 r1).2
    exact ⟨d, cI1_i.mpr ⟨d1, d2⟩, by rw [cU1_p d1 d2 d4, if_pos d3]⟩
theorem GW.cut2 (hw : GW G) (hc : c < 64) : GW (gcut2 G c) := by
  refine WF.ofU (I := cI2 G c) (U := cU2 G c) (lo := cl2 G c) (hi := ghi G) ?_ (fun k u hk hu => c2_par hw hc hk hu) ?_ ?_ ?_ ?_ ?_
  · intro k hk
    obtain ⟨a1, a2⟩ := cI2_i.mp hk
    have := hw.1 k a1
    refine ⟨this.1, ?_, this.2.2⟩
    rw [cl2]; by_cases q : glo G k ≤ c
    · rw [if_pos q]; omega
    · rw [if_neg q]; omega
  · intro k hk hu
    obtain ⟨a1, a2⟩ := cI2_i.mp hk
    by_cases q : glo G k ≤ c
    · rw [cU2_p a1 a2 q] at hu
      by_cases z : ghi G k = 64
      · exact ⟨by rw [cl2, if_pos q], z⟩
      · rw [if_neg z] at hu; cases hu
    · rw [cU2_n a1 a2 q] at hu
      have := hw.2.2.2.2.2.2.2.1 k (hw.2.2.2.2.2.1 k a1 hu); omega
  · intro a b ha hb h1 h2
    obtain ⟨a1, a2⟩ := cI2_i.mp ha
    obtain ⟨b1, b2⟩ := cI2_i.mp hb
    have ba := hw.1 a a1
    have bb := hw.1 b b1
    refine hw.uniqH a1 b1 h2 ?_ ?_
    · rw [cl2, cl2] at h1
      by_cases q : glo G a ≤ c
      · by_cases w : glo G b ≤ c
        · omega
        · rw [if_pos q, if_neg w] at h1; omega
      · by_cases w : glo G b ≤ c
        · rw [if_neg q, if_pos w] at h1; omega
        · rw [if_neg q, if_neg w] at h1; omega
    · rw [cl2, cl2] at h1
      by_cases q : glo G a ≤ c
      · by_cases w : glo G b ≤ c
        · omega
        · rw [if_pos q, if_neg w] at h1; omega
      · by_cases w : glo G b ≤ c
        · rw [if_neg q, if_pos w] at h1; omega
        · rw [if_neg q, if_neg w] at h1; omega
  · intro k j hk hj j1 j2
    obtain ⟨a1, a2⟩ := cI2_i.mp hk
    obtain ⟨b1, b2⟩ := cI2_i.mp hj
    by_cases q : glo G k ≤ c
    · cases hL : gL G k with
      | none => exact absurd ⟨by omega, j2⟩ (hw.2.2.2.1 k j a1 hL b1)
      | some d =>
        obtain ⟨q1, q2, q3, q4⟩ := hw.2.1 k d a1 hL
        obtain ⟨r, r1, r2, r3, r4⟩ := hw.dnH (c := c) (e := k) b1 b2 (by omega) 64 d q1 q4 (by omega) (hw.w1 q1).2
        have := hw.1 r r1
        have := hw.1 k a1
        exact ⟨r, cI2_i.mpr ⟨r1, r2⟩, by rw [cU2_p r1 r2 r4, if_neg (by omega)]; congr 1, by omega⟩
    · have h2 : cl2 G c k = glo G k := by rw [cl2, if_neg q]
      rw [h2] at j1
      cases hL : gL G k with
      | none => exact absurd ⟨j1, j2⟩ (hw.2.2.2.1 k j a1 hL b1)
      | some d =>
        obtain ⟨q1, q2, q3, q4⟩ := hw.2.1 k d a1 hL
        have := hw.1 d q1
        exact ⟨d, cI2_i.mpr ⟨q1, by omega⟩, by rw [cU2_n q1 (by omega) (by omega)]; exact q2, by omega⟩
  · intro k j hk hj j1 j2
    obtain ⟨a1, a2⟩ := cI2_i.mp hk
    obtain ⟨b1, b2⟩ := cI2_i.mp hj
    cases hR : gR G k with
    | none => exact absurd ⟨j1, j2⟩ (hw.2.2.2.2.1 k j a1 hR b1)
    | some d =>
      obtain ⟨q1, q2, q3, q4⟩ := hw.2.2.1 k d a1 hR
      have := hw.1 d q1
      exact ⟨d, cI2_i.mpr ⟨q1, by omega⟩, by rw [cU2_n q1 (by omega) (by omega)]; exact q2, by omega⟩
  · intro j hj
    obtain ⟨b1, b2⟩ := cI2_i.mp hj
    obtain ⟨r, r0, r1, r2, r3⟩ := hw.rtI b1
    have := hw.1 j b1
    obtain ⟨d, d1, d2, d3, d4⟩ := hw.dnH (c := c) (e := 64) b1 b2 this.1 64 r r1 r3 (by omega) (hw.w1 r1).2
    exact ⟨d, cI2_i.mpr ⟨d1, d2⟩, by rw [cU2_p d1 d2 d4, if_pos d3]⟩
theorem GN.cut1 (hw : GW G) (hc : c < 64) : GN (gcut1 G c) := by
  refine NI.ofU (I := cI1 G c) (U := cU1 G c) (fun k hk => ?_) (fun k u hk hu => (c1_par hw hc hk hu).1)
  show cU1 G c k = none
  rw [cU1, if_neg]
  intro q; rw [cI1_i.mpr q] at hk; cases hk
theorem GN.cut2 (hw : GW G) (hc : c < 64) : GN (gcut2 G c) := by
  refine NI.ofU (I := cI2 G c) (U := cU2 G c) (fun k hk => ?_) (fun k u hk hu => (c2_par hw hc hk hu).1)
  show cU2 G c k = none
  rw [cU2, if_neg]
  intro q; rw [cI2_i.mpr q] at hk; cases hk
theorem GS.cut1 (hw : GW G) (hc : c < 64) : GS (gcut1 G c) := sz_ccz (hw.cut1 hc)
theorem GS.cut2 (hw : GW G) (hc : c < 64) : GS (gcut2 G c) := sz_ccz (hw.cut2 hc)
end CT2
