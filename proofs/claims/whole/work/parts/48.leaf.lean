/-- a leaf k more, hung on l -/
def aL (L : Nat → Option Nat) (k : Nat) (l : Option Nat) : Nat → Option Nat := fun j => if j = k then none else if l = some j ∧ k < j then some k else L j
def aR (R : Nat → Option Nat) (k : Nat) (l : Option Nat) : Nat → Option Nat := fun j => if j = k then none else if l = some j ∧ ¬ k < j then some k else R j
def aU (U : Nat → Option Nat) (k : Nat) (l : Option Nat) : Nat → Option Nat := fun j => if j = k then l else U j
def aI (I : Nat → Bool) (k : Nat) : Nat → Bool := fun j => if j = k then true else I j
def alo (lo : Nat → Nat) (k : Nat) (l : Option Nat) : Nat → Nat := fun j => if j = k then (match l with | none => 0 | some a => if k < a then lo a else a + 1) else lo j
def ahi (hi : Nat → Nat) (k : Nat) (l : Option Nat) : Nat → Nat := fun j => if j = k then (match l with | none => 64 | some a => if k < a then a else hi a) else hi j
def gadd (G : Gh) (k : Nat) (l : Option Nat) : Gh := (aL (gL G) k l, aR (gR G) k l, aU (gU G) k l, (if l = none then some k else gr G), aI (gI G) k, alo (glo G) k l, ahi (ghi G) k l, ccz (aI (gI G) k) (alo (glo G) k l) (ahi (ghi G) k l))
section LF
variable {t : Nat} {x y : Ob} {G : Gh} {tn : Int32}
set_option maxHeartbeats 4000000 in
theorem GW.add (hw : GW G) {k : Nat} {l : Option Nat} (hk : k < 64) (hI : gI G k = false) (hl0 : l = none → gr G = none) (hl : ∀ a, l = some a → lastAt G k a) : GW (gadd G k l) := by
  have u4 : ∀ a j, l = some a → gI G j = true → gL G j = none → glo G j ≤ k → k < j → j = a := fun a j e h1 h2 h3 h4 => by
    have := hw.1 j h1
    exact hw.last1 (hl a e) ⟨h1, h3, by omega⟩ (Or.inl ⟨h4, h2⟩)
  have u5 : ∀ a j, l = some a → gI G j = true → gR G j = none → j < k → k < ghi G j → j = a := fun a j e h1 h2 h3 h4 => by
    have := hw.1 j h1
    exact hw.last1 (hl a e) ⟨h1, by omega, h4⟩ (Or.inr (Or.inl ⟨h3, h2⟩))
  unfold GW at hw ⊢
  cases l with
  | none =>
    have hr := hl0 rfl
    have hno := hw.2.2.2.2.2.2.2.2 hr
    refine ⟨?_, ?_, ?_, ?_, ?_, ?_, ?_, ?_, ?_⟩
    all_goals simp only [gadd, gL, gR, gU, gr, gI, glo, ghi, aL, aR, aU, aI, alo, ahi] at *
    all_goals grind
  | some a =>
    obtain ⟨⟨o1, o2, o3⟩, o4⟩ := hl a rfl
    have hak : a ≠ k := fun e => by rw [e, hI] at o1; cases o1
    have v4 := u4 a
    have v5 := u5 a
    clear u4 u5 hl hl0
    obtain ⟨h1, h2, h3, h4, h5, h6, h7, h8, h9⟩ := hw
    have ha := h1 a o1
    refine ⟨?_, ?_, ?_, ?_, ?_, ?_, ?_, ?_, ?_⟩
    all_goals simp only [gadd, gL, gR, gU, gr, gI, glo, ghi, aL, aR, aU, aI, alo, ahi] at *
    · clear h2 h3 h4 h5 h6 h7 h8 h9; grind
    · clear h4 h5 h6 h9; grind
    · clear h4 h5 h6 h9; grind
    · intro m j hm hL hj hh
      have p4 := h4 a j o1
      have p5 := h5 a j o1
      have q4 := h4 m j
      have w4 := v4 m trivial
      clear h2 h3 h4 h5 h6 h7 h8 h9 v4 v5
      by_cases em : m = k <;> by_cases ej : j = k <;> grind
    · intro m j hm hR hj hh
      have p4 := h4 a j o1
      have p5 := h5 a j o1
      have q5 := h5 m j
      have w5 := v5 m trivial
      clear h2 h3 h4 h5 h6 h7 h8 h9 v4 v5
      by_cases em : m = k <;> by_cases ej : j = k <;> grind
    · clear h2 h3 h4 h5; grind
    · clear h4 h5 h6 h9; grind
    · clear h4 h5 h9; grind
    · intro hn j
      rw [if_neg (by simp)] at hn
      have := h9 hn a
      rw [o1] at this; cases this
theorem GN.add (hw : GW G) (hn : GN G) {k : Nat} {l : Option Nat} (hl : ∀ a, l = some a → lastAt G k a) : GN (gadd G k l) := by
  intro j hj
  have hjk : j ≠ k := fun e => by
    have : aI (gI G) k j = false := hj
    rw [aI, if_pos e] at this; cases this
  have hj' : gI G j = false := by
    have : aI (gI G) k j = false := hj
    rw [aI, if_neg hjk] at this; exact this
  have hlj : l ≠ some j := fun e => by rw [(hl j e).1.1] at hj'; cases hj'
  obtain ⟨a1, a2, a3⟩ := hn j hj'
  refine ⟨?_, ?_, ?_⟩
  · show aL (gL G) k l j = none
    rw [aL, if_neg hjk, if_neg (fun q => hlj q.1)]; exact a1
  · show aR (gR G) k l j = none
    rw [aR, if_neg hjk, if_neg (fun q => hlj q.1)]; exact a2
  · show aU (gU G) k l j = none
    rw [aU, if_neg hjk]; exact a3
theorem GS.add {k : Nat} {l : Option Nat} (h : GW (gadd G k l)) : GS (gadd G k l) := sz_ccz h
/-- the class hangs a new key -/
theorem rs_hangNew (hw : GW G) (hn : GN G) (hs : GS G) (hr : RepS y (gL G) (gR G) (gU G) (gs G) (gr G) tn) {k : Nat} {l : Option Nat} (hk : k < 64) (hI : gI G k = false) (hl0 : l = none → gr G = none) (hl : ∀ a, l = some a → lastAt G k a) : ∃ y', fX3_hangNew (nI k) (enc l) y = some y' ∧ RepS y' (gL (gadd G k l)) (gR (gadd G k l)) (gU (gadd G k l)) (gs (gadd G k l)) (gr (gadd G k l)) tn ∧ y'.2 4 = y.2 4 := by
  have hw2 := hw.add hk hI hl0 hl
  have hn2 := GN.add hw hn hl
  have bl : Bd l := fun a e => (hw.1 a (hl a e).1.1).1
  obtain ⟨y1, f1, r1, o1⟩ := rs_hang hr hk bl
  have hlk : l ≠ some k := fun e => by have := (hl k e).1.1; rw [hI] at this; cases this
  have r1' : RepS y1 (gL (gadd G k l)) (gR (gadd G k l)) (gU (gadd G k l)) (gs G) (gr (gadd G k l)) tn := by
    refine RepS.congr r1 (fun j hj => ?_) (fun j hj => ?_) (fun j hj => rfl) (fun j hj => rfl) rfl rfl
    · show hgL (gL G) k l j = aL (gL G) k l j
      rw [hgL, aL]
      by_cases e : j = k
      · subst e; rw [if_neg (fun q => hlk q.1), if_pos rfl]; exact (hn j hI).1
      · rw [if_neg e]
    · show hgR (gR G) k l j = aR (gR G) k l j
      rw [hgR, aR]
      by_cases e : j = k
      · subst e; rw [if_neg (fun q => hlk q.1), if_pos rfl]; exact (hn j hI).2.1
      · rw [if_neg e]
  have hIk : gI (gadd G k l) k = true := by show aI (gI G) k k = true; rw [aI, if_pos rfl]
  obtain ⟨y2, f2, r2, o2⟩ := rs_rsz hw2 hn2 (GS.add hw2) hIk r1' (fun j hj => by
    have hjk : j ≠ k := fun e => by
      subst e
      have := hw2.1 j hIk
      exact hj ⟨hIk, this.2.1, this.2.2.1⟩
    show gs G j = ccz (aI (gI G) k) (alo (glo G) k l) (ahi (ghi G) k l) j
    rw [sz_eq hw hs, ccz, ccz]
    have e1 : aI (gI G) k j = gI G j := by rw [aI, if_neg hjk]
    have e2 : alo (glo G) k l j = glo G j := by simp only [alo, if_neg hjk]
    have e3 : ahi (ghi G) k l j = ghi G j := by simp only [ahi, if_neg hjk]
    rw [e1, e2, e3]
    by_cases q : gI G j = true
    · rw [if_pos q, if_pos q]
      have hb := hw.1 j q
      refine cnt_cong (fun i h1 h2 => ?_)
      rw [aI, if_neg (fun e => hj ⟨by show aI (gI G) k j = true; rw [e1]; exact q, by show alo (glo G) k l j ≤ k; rw [e2]; omega, by show k < ahi (ghi G) k l j; rw [e3]; omega⟩)]
    · rw [if_neg q, if_neg q])
  refine ⟨y2, ?_, r2, o2.trans o1⟩
  rw [fX3_hangNew, f1, Option.bind_some, f2]; rfl
end LF
