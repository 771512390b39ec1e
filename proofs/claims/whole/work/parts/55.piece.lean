/-- a piece of a tree: the keys J, all that hang at o, in the interval [A, B) -/
def PW (L R U : Nat → Option Nat) (J : Nat → Bool) (A B : Nat) (o : Option Nat) (lo hi : Nat → Nat) : Prop :=
  (∀ k, J k = true → A ≤ lo k ∧ lo k ≤ k ∧ k < hi k ∧ hi k ≤ B) ∧
  (∀ k c, J k = true → L k = some c → J c = true ∧ U c = some k ∧ lo c = lo k ∧ hi c = k) ∧
  (∀ k c, J k = true → R k = some c → J c = true ∧ U c = some k ∧ lo c = k + 1 ∧ hi c = hi k) ∧
  (∀ k j, J k = true → L k = none → J j = true → ¬ (lo k ≤ j ∧ j < k)) ∧
  (∀ k j, J k = true → R k = none → J j = true → ¬ (k < j ∧ j < hi k)) ∧
  (∀ k, J k = true → o ≠ some k → ∃ u, U k = some u ∧ J u = true ∧ (L u = some k ∨ R u = some k)) ∧
  (∀ r, o = some r → J r = true ∧ lo r = A ∧ hi r = B) ∧
  (o = none → ∀ j, J j = false)
section PC
variable {L R U L' R' U' : Nat → Option Nat} {J J' J1 J2 : Nat → Bool} {A B : Nat} {o : Option Nat} {lo hi lo1 hi1 lo2 hi2 : Nat → Nat}
theorem PW.congr (h : PW L R U J A B o lo hi) (h1 : ∀ k, J k = true → L' k = L k) (h2 : ∀ k, J k = true → R' k = R k) (h3 : ∀ k, J k = true → o ≠ some k → U' k = U k) (h4 : ∀ k, J' k = J k) : PW L' R' U' J' A B o lo hi := by
  obtain ⟨a1, a2, a3, a4, a5, a6, a7, a8⟩ := h
  have e : J' = J := funext h4
  subst e
  refine ⟨a1, ?_, ?_, ?_, ?_, ?_, a7, a8⟩
  · intro k c hk hc
    rw [h1 k hk] at hc
    obtain ⟨b1, b2, b3, b4⟩ := a2 k c hk hc
    refine ⟨b1, ?_, b3, b4⟩
    rw [h3 c b1, b2]
    intro e
    have q := a7 c e
    have := a1 k hk; have := a1 c b1; omega
  · intro k c hk hc
    rw [h2 k hk] at hc
    obtain ⟨b1, b2, b3, b4⟩ := a3 k c hk hc
    refine ⟨b1, ?_, b3, b4⟩
    rw [h3 c b1, b2]
    intro e
    have q := a7 c e
    have := a1 k hk; have := a1 c b1; omega
  · intro k j hk hl; rw [h1 k hk] at hl; exact a4 k j hk hl
  · intro k j hk hl; rw [h2 k hk] at hl; exact a5 k j hk hl
  · intro k hk ho
    obtain ⟨u, b1, b2, b3⟩ := a6 k hk ho
    exact ⟨u, by rw [h3 k hk ho]; exact b1, b2, by rw [h1 u b2, h2 u b2]; exact b3⟩
set_option maxHeartbeats 2000000 in
/-- two pieces and the key between them -/
theorem PW.node {k : Nat} {o1 o2 : Option Nat} (h1 : PW L R U J1 A k o1 lo1 hi1) (h2 : PW L R U J2 (k + 1) B o2 lo2 hi2) (hA : A ≤ k) (hB : k < B) (hL : L k = o1) (hR : R k = o2) (u1 : ∀ c, o1 = some c → U c = some k) (u2 : ∀ c, o2 = some c → U c = some k) :
    PW L R U (fun j => decide (j = k) || J1 j || J2 j) A B (some k) (fun j => if j = k then A else if J1 j = true then lo1 j else lo2 j) (fun j => if j = k then B else if J1 j = true then hi1 j else hi2 j) := by
  obtain ⟨a1, a2, a3, a4, a5, a6, a7, a8⟩ := h1
  obtain ⟨b1, b2, b3, b4, b5, b6, b7, b8⟩ := h2
  have d1 : ∀ j, J1 j = true → A ≤ j ∧ j < k ∧ J2 j = false := fun j hj => by
    have := a1 j hj
    refine ⟨by omega, by omega, ?_⟩
    cases q : J2 j with
    | false => rfl
    | true => have := b1 j q; omega
  have d2 : ∀ j, J2 j = true → k < j ∧ j < B ∧ J1 j = false := fun j hj => by
    have := b1 j hj
    refine ⟨by omega, by omega, ?_⟩
    cases q : J1 j with
    | false => rfl
    | true => have := a1 j q; omega
  have cs : ∀ j, (decide (j = k) || J1 j || J2 j) = true → j = k ∨ J1 j = true ∨ J2 j = true := fun j hj => by simpa [or_assoc] using hj
  have i1 : ∀ j, J1 j = true → (decide (j = k) || J1 j || J2 j) = true := fun j hj => by simp [hj]
  have i2 : ∀ j, J2 j = true → (decide (j = k) || J1 j || J2 j) = true := fun j hj => by simp [hj]
  have i0 : (decide (k = k) || J1 k || J2 k) = true := by simp
  have eo : ∀ {f g : Nat → Nat} {v : Nat}, (fun j => if j = k then v else if J1 j = true then f j else g j) k = v := fun {f g v} => by show (if k = k then v else _) = v; rw [if_pos rfl]
  have el : ∀ {f g : Nat → Nat} {v : Nat} (j : Nat), J1 j = true → (fun j => if j = k then v else if J1 j = true then f j else g j) j = f j := fun {f g v} j hj => by
    show (if j = k then v else if J1 j = true then f j else g j) = f j
    rw [if_neg (by have := d1 j hj; omega), if_pos hj]
  have er : ∀ {f g : Nat → Nat} {v : Nat} (j : Nat), J2 j = true → (fun j => if j = k then v else if J1 j = true then f j else g j) j = g j := fun {f g v} j hj => by
    show (if j = k then v else if J1 j = true then f j else g j) = g j
    rw [if_neg (by have := d2 j hj; omega), if_neg (by rw [(d2 j hj).2.2]; decide)]
  generalize hJ : (fun j => decide (j = k) || J1 j || J2 j) = J at *
  have cs : ∀ j, J j = true → j = k ∨ J1 j = true ∨ J2 j = true := fun j hj => cs j (by rw [← hJ] at hj; exact hj)
  have i1 : ∀ j, J1 j = true → J j = true := fun j hj => by rw [← hJ]; exact i1 j hj
  have i2 : ∀ j, J2 j = true → J j = true := fun j hj => by rw [← hJ]; exact i2 j hj
  have i0 : J k = true := by rw [← hJ]; exact i0
  clear hJ
  have eo1 := eo (f := lo1) (g := lo2) (v := A)
  have el1 := el (f := lo1) (g := lo2) (v := A)
  have er1 := er (f := lo1) (g := lo2) (v := A)
  have eo2 := eo (f := hi1) (g := hi2) (v := B)
  have el2 := el (f := hi1) (g := hi2) (v := B)
  have er2 := er (f := hi1) (g := hi2) (v := B)
  clear eo el er
  generalize (fun j => if j = k then A else if J1 j = true then lo1 j else lo2 j) = lo at *
  generalize (fun j => if j = k then B else if J1 j = true then hi1 j else hi2 j) = hi at *
  refine ⟨?_, ?_, ?_, ?_, ?_, ?_, ?_, ?_⟩
  · grind
  · intro j c hj hc
    rcases cs j hj with q | q | q
    · grind
    · have := a2 j c q hc; grind
    · have := b2 j c q hc; grind
  · intro j c hj hc
    rcases cs j hj with q | q | q
    · grind
    · have := a3 j c q hc; grind
    · have := b3 j c q hc; grind
  · intro j i hj hn hi'
    rcases cs j hj with q | q | q
    · subst q; rw [hL] at hn; have := a8 hn
      rcases cs i hi' with w | w | w
      · omega
      · rw [this i] at w; cases w
      · have := d2 i w; omega
    · rw [el1 j q]
      rcases cs i hi' with w | w | w
      · have := d1 j q; omega
      · exact a4 j i q hn w
      · have := d2 i w; have := d1 j q; omega
    · rw [er1 j q]
      have := b1 j q
      rcases cs i hi' with w | w | w
      · omega
      · have := d1 i w; omega
      · exact b4 j i q hn w
  · intro j i hj hn hi'
    rcases cs j hj with q | q | q
    · subst q; rw [hR] at hn; have := b8 hn
      rcases cs i hi' with w | w | w
      · omega
      · have := d1 i w; omega
      · rw [this i] at w; cases w
    · rw [el2 j q]
      have := a1 j q
      rcases cs i hi' with w | w | w
      · omega
      · exact a5 j i q hn w
      · have := d2 i w; omega
    · rw [er2 j q]
      rcases cs i hi' with w | w | w
      · have := d2 j q; omega
      · have := d1 i w; have := d2 j q; omega
      · exact b5 j i q hn w
  · intro j hj hne
    rcases cs j hj with q | q | q
    · exact absurd (by rw [q]) hne
    · by_cases e : o1 = some j
      · exact ⟨k, u1 j e, i0, Or.inl (by rw [hL, e])⟩
      · obtain ⟨u, c1, c2, c3⟩ := a6 j q e
        exact ⟨u, c1, i1 u c2, c3⟩
    · by_cases e : o2 = some j
      · exact ⟨k, u2 j e, i0, Or.inr (by rw [hR, e])⟩
      · obtain ⟨u, c1, c2, c3⟩ := b6 j q e
        exact ⟨u, c1, i2 u c2, c3⟩
  · intro r hr; cases hr; exact ⟨i0, eo1, eo2⟩
  · intro h; cases h
/-- a whole tree is a piece -/
theorem PW.whole {rt : Option Nat} {I : Nat → Bool} (h : PW L R U I 0 64 rt lo hi) (h0 : ∀ r, rt = some r → U r = none) : WF L R U rt I lo hi := by
  obtain ⟨a1, a2, a3, a4, a5, a6, a7, a8⟩ := h
  refine ⟨fun k hk => by have := a1 k hk; omega, a2, a3, a4, a5, ?_, ?_, ?_, a8⟩
  · intro k hk hu
    by_cases e : rt = some k
    · exact e
    · obtain ⟨u, b1, -, -⟩ := a6 k hk e; rw [hu] at b1; cases b1
  · intro k u hk hu
    have e : rt ≠ some k := fun e => by rw [h0 k e] at hu; cases hu
    obtain ⟨u', b1, b2, b3⟩ := a6 k hk e
    rw [hu] at b1; cases b1
    exact ⟨b2, b3⟩
  · intro r hr
    obtain ⟨b1, b2, b3⟩ := a7 r hr
    exact ⟨b1, h0 r hr, b2, b3⟩
theorem WF.part {rt : Option Nat} {I : Nat → Bool} (h : WF L R U rt I lo hi) : PW L R U I 0 64 rt lo hi := by
  obtain ⟨a1, a2, a3, a4, a5, a6, a7, a8, a9⟩ := h
  refine ⟨fun k hk => by have := a1 k hk; omega, a2, a3, a4, a5, ?_, ?_, a9⟩
  · intro k hk ho
    cases hU : U k with
    | none => exact absurd (a6 k hk hU) ho
    | some u => exact ⟨u, rfl, a7 k u hk hU⟩
  · intro r hr
    obtain ⟨b1, b2, b3, b4⟩ := a8 r hr
    exact ⟨b1, b3, b4⟩
end PC
section GX
variable {G : Gh}
/-- two keys, one in the other's interval -/
theorem GW.sub (hw : GW G) {a b : Nat} (hb : gI G b = true) (ho : onWay G b a) (hne : b ≠ a) : wid G b < wid G a ∧ (b < a → glo G a ≤ glo G b ∧ ghi G b ≤ a) ∧ (a < b → a + 1 ≤ glo G b ∧ ghi G b ≤ ghi G a) := by
  have bb := hw.1 b hb
  have ba := hw.1 a ho.1
  have ob : onWay G b b := ⟨hb, bb.2.1, bb.2.2.1⟩
  have hlt : wid G b < wid G a := by
    obtain ⟨n1, e1⟩ := pth_of hw 64 a ho (by omega)
    obtain ⟨n2, e2⟩ := pth_of hw 64 b ob (by omega)
    have s2 : pth G b (n2 + 1) = none := by rw [pth_s e2, if_neg (by omega), if_neg (by omega)]
    rcases Nat.lt_trichotomy n1 n2 with z | z | z
    · exact pth_wid hw bb.1 (n2 - n1 - 1) n1 a b e1 (by rw [show n1 + (n2 - n1 - 1 + 1) = n2 by omega]; exact e2)
    · rw [z, e2] at e1; exact absurd (Option.some.inj e1) hne
    · have := pth_n s2 (n1 - n2 - 1)
      rw [show n2 + 1 + (n1 - n2 - 1) = n1 by omega, e1] at this; cases this
  have fin : ∀ c, onWay G b c → gU G c = some a → glo G c ≤ glo G b ∧ ghi G b ≤ ghi G c := by
    intro c oc hc
    rcases hw.next bb.1 oc hc ob hlt with e | e
    · rw [e]; exact ⟨Nat.le_refl _, Nat.le_refl _⟩
    · exact hw.nest bb.1 64 b c ob oc (by omega) (by have := hw.w1 oc.1; omega)
  refine ⟨hlt, fun q => ?_, fun q => ?_⟩
  · cases hL : gL G a with
    | none => exact absurd ⟨ho.2.1, q⟩ (hw.2.2.2.1 a b ho.1 hL hb)
    | some c =>
      obtain ⟨o1, o2, o3⟩ := hw.way ho (Or.inl ⟨q, hL⟩)
      obtain ⟨-, -, c3, c4⟩ := hw.2.1 a c ho.1 hL
      have := fin c o1 o2; omega
  · cases hR : gR G a with
    | none => exact absurd ⟨q, ho.2.2⟩ (hw.2.2.2.2.1 a b ho.1 hR hb)
    | some c =>
      obtain ⟨o1, o2, o3⟩ := hw.way ho (Or.inr ⟨q, hR⟩)
      obtain ⟨-, -, c3, c4⟩ := hw.2.2.1 a c ho.1 hR
      have := fin c o1 o2; omega
end GX
