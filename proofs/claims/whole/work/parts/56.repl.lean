section RP
variable {G : Gh}
/-- the keys in the interval of k -/
def gJ (G : Gh) (k : Nat) : Nat → Bool := fun j => gI G j && decide (glo G k ≤ j) && decide (j < ghi G k)
theorem gJ_iff (G : Gh) (k j : Nat) : gJ G k j = true ↔ gI G j = true ∧ glo G k ≤ j ∧ j < ghi G k := by
  unfold gJ; simp [and_assoc]
set_option maxHeartbeats 2000000 in
/-- the piece at k is hung otherwise -/
theorem GW.repl (hw : GW G) {k k' : Nat} (hk : gI G k = true) {L' R' U' : Nat → Option Nat} {lo' hi' : Nat → Nat} (hp : PW L' R' U' (gJ G k) (glo G k) (ghi G k) (some k') lo' hi')
    (hL : ∀ j, gI G j = true → gJ G k j = false → L' j = if gU G k = some j ∧ k < j then some k' else gL G j)
    (hR : ∀ j, gI G j = true → gJ G k j = false → R' j = if gU G k = some j ∧ j < k then some k' else gR G j)
    (hU : ∀ j, gI G j = true → gJ G k j = false → U' j = gU G j) (hUk : U' k' = gU G k) :
    WF L' R' U' (if gU G k = none then some k' else gr G) (gI G) (fun j => if gJ G k j = true then lo' j else glo G j) (fun j => if gJ G k j = true then hi' j else ghi G j) := by
  have bk := hw.1 k hk
  have hkJ : gJ G k k = true := (gJ_iff G k k).mpr ⟨hk, bk.2.1, bk.2.2.1⟩
  -- who hangs on whom
  have f1 : ∀ c u, gJ G k c = true → c ≠ k → gU G c = some u → gJ G k u = true := by
    intro c u hc hne hu
    obtain ⟨q1, q2, q3⟩ := (gJ_iff G k c).mp hc
    have o := hw.anc q1 hu ⟨hk, q2, q3⟩ (Ne.symm hne)
    exact (gJ_iff G k u).mpr ⟨(WF.side hw q1 hu).1, o.2.1, o.2.2⟩
  have fs : ∀ u, gJ G k u = true → glo G k ≤ glo G u ∧ ghi G u ≤ ghi G k := by
    intro u hu
    obtain ⟨q1, q2, q3⟩ := (gJ_iff G k u).mp hu
    by_cases e : u = k
    · rw [e]; exact ⟨Nat.le_refl _, Nat.le_refl _⟩
    · have := hw.sub q1 ⟨hk, q2, q3⟩ e; omega
  have f2 : ∀ j u, gI G j = true → gJ G k j = false → gU G j = some u → gJ G k u = false := by
    intro j u hj hn hu
    cases q : gJ G k u with
    | false => rfl
    | true =>
      have s := fs u q
      obtain ⟨-, -, -, hs⟩ := WF.side hw hj hu
      have bj := hw.1 j hj
      have bu := hw.1 u ((gJ_iff G k u).mp q).1
      have : gJ G k j = true := (gJ_iff G k j).mpr ⟨hj, by omega, by omega⟩
      rw [hn] at this; cases this
  have fk : ∀ u, gU G k = some u → gJ G k u = false ∧ gI G u = true := by
    intro u hu
    obtain ⟨hIu, -, -, hs⟩ := WF.side hw hk hu
    refine ⟨?_, hIu⟩
    cases q : gJ G k u with
    | false => rfl
    | true =>
      obtain ⟨q1, q2, q3⟩ := (gJ_iff G k u).mp q
      omega
  obtain ⟨p1, p2, p3, p4, p5, p6, p7, p8⟩ := hp
  obtain ⟨pk1, pk2, pk3⟩ := p7 k' rfl
  have inI : ∀ j, gJ G k j = true → gI G j = true := fun j hj => ((gJ_iff G k j).mp hj).1
  have cases2 : ∀ j, gI G j = true → gJ G k j = true ∨ gJ G k j = false := fun j _ => by cases gJ G k j <;> simp
  have toJ : ∀ j, gI G j = true → glo G k ≤ j → j < ghi G k → gJ G k j = true := fun j h1 h2 h3 => (gJ_iff G k j).mpr ⟨h1, h2, h3⟩
  have wside : ∀ u, gU G k = some u → (k < u ∧ gL G u = some k ∧ glo G k = glo G u ∧ ghi G k = u) ∨ (u < k ∧ gR G u = some k ∧ glo G k = u + 1 ∧ ghi G k = ghi G u) := fun u hu => (WF.side hw hk hu).2.2.2
  obtain ⟨h1, h2, h3, h4, h5, h6, h7, h8, h9⟩ := hw
  refine ⟨?_, ?_, ?_, ?_, ?_, ?_, ?_, ?_, ?_⟩
  · intro j hj
    rcases cases2 j hj with q | q
    · have := p1 j q; have := h1 j hj; simp only [q, if_true]; omega
    · have := h1 j hj; simp only [q]; simpa using this
  · intro j c hj hc
    rcases cases2 j hj with q | q
    · obtain ⟨a1, a2, a3, a4⟩ := p2 j c q hc
      simp only [q, a1, if_true]; exact ⟨inI c a1, a2, a3, a4⟩
    · rw [hL j hj q] at hc
      by_cases e : gU G k = some j ∧ k < j
      · rw [if_pos e] at hc; cases hc
        have w := wside j e.1
        simp only [q, pk1, if_true]
        refine ⟨inI _ pk1, by rw [hUk, e.1], ?_, ?_⟩
        · rw [pk2]; simp; omega
        · rw [pk3]; omega
      · rw [if_neg e] at hc
        obtain ⟨a1, a2, a3, a4⟩ := h2 j c hj hc
        have cJ : gJ G k c = false := by
          rcases cases2 c a1 with w | w
          · by_cases ck : c = k
            · subst ck; exact absurd ⟨a2, by omega⟩ e
            · have := f1 c j w ck a2; rw [q] at this; cases this
          · exact w
        simp only [q, cJ]
        refine ⟨a1, by rw [hU c a1 cJ]; exact a2, by simpa using a3, by simpa using a4⟩
  · intro j c hj hc
    rcases cases2 j hj with q | q
    · obtain ⟨a1, a2, a3, a4⟩ := p3 j c q hc
      simp only [q, a1, if_true]; exact ⟨inI c a1, a2, a3, a4⟩
    · rw [hR j hj q] at hc
      by_cases e : gU G k = some j ∧ j < k
      · rw [if_pos e] at hc; cases hc
        have w := wside j e.1
        simp only [q, pk1, if_true]
        refine ⟨inI _ pk1, by rw [hUk, e.1], ?_, ?_⟩
        · rw [pk2]; omega
        · rw [pk3]; simp; omega
      · rw [if_neg e] at hc
        obtain ⟨a1, a2, a3, a4⟩ := h3 j c hj hc
        have cJ : gJ G k c = false := by
          rcases cases2 c a1 with w | w
          · by_cases ck : c = k
            · subst ck; have := h1 c hk; exact absurd ⟨a2, by omega⟩ e
            · have := f1 c j w ck a2; rw [q] at this; cases this
          · exact w
        simp only [q, cJ]
        refine ⟨a1, by rw [hU c a1 cJ]; exact a2, by simpa using a3, by simpa using a4⟩
  · intro j i hj hn hi
    rcases cases2 j hj with q | q
    · simp only [q, if_true]
      have := p1 j q
      intro w
      exact p4 j i q hn (toJ i hi (by omega) (by have := p1 j q; have := (gJ_iff G k j).mp q; omega)) w
    · rw [hL j hj q] at hn
      by_cases e : gU G k = some j ∧ k < j
      · rw [if_pos e] at hn; cases hn
      · rw [if_neg e] at hn; simp only [q]; simpa using h4 j i hj hn hi
  · intro j i hj hn hi
    rcases cases2 j hj with q | q
    · simp only [q, if_true]
      have := p1 j q
      intro w
      exact p5 j i q hn (toJ i hi (by have := (gJ_iff G k j).mp q; omega) (by omega)) w
    · rw [hR j hj q] at hn
      by_cases e : gU G k = some j ∧ j < k
      · rw [if_pos e] at hn; cases hn
      · rw [if_neg e] at hn; simp only [q]; simpa using h5 j i hj hn hi
  · intro j hj hn
    rcases cases2 j hj with q | q
    · by_cases e : some k' = some j
      · cases e; rw [hUk] at hn; rw [if_pos hn]
      · obtain ⟨u, a1, -, -⟩ := p6 j q e; rw [hn] at a1; cases a1
    · rw [hU j hj q] at hn
      have r := h6 j hj hn
      have : gU G k ≠ none := fun e => by
        have r2 := h6 k hk e
        rw [r] at r2; cases r2; rw [q] at hkJ; cases hkJ
      rw [if_neg this]; exact r
  · intro j u hj hu
    rcases cases2 j hj with q | q
    · by_cases e : some k' = some j
      · cases e
        rw [hUk] at hu
        obtain ⟨w1, w2⟩ := fk u hu
        refine ⟨w2, ?_⟩
        rcases wside u hu with w | w
        · left; rw [hL u w2 w1, if_pos ⟨hu, w.1⟩]
        · right; rw [hR u w2 w1, if_pos ⟨hu, w.1⟩]
      · obtain ⟨u', a1, a2, a3⟩ := p6 j q e
        rw [hu] at a1; cases a1
        exact ⟨inI u a2, a3⟩
    · rw [hU j hj q] at hu
      obtain ⟨a1, a2⟩ := h7 j u hj hu
      have w := f2 j u hj q hu
      refine ⟨a1, ?_⟩
      have b1 := h1 j hj
      rcases a2 with a2 | a2
      · left
        rw [hL u a1 w, if_neg]
        · exact a2
        · rintro ⟨e1, e2⟩
          rcases wside u e1 with z | z
          · rw [z.2.1] at a2; cases a2; rw [q] at hkJ; cases hkJ
          · omega
      · right
        rw [hR u a1 w, if_neg]
        · exact a2
        · rintro ⟨e1, e2⟩
          rcases wside u e1 with z | z
          · omega
          · rw [z.2.1] at a2; cases a2; rw [q] at hkJ; cases hkJ
  · intro r hr
    by_cases e : gU G k = none
    · rw [if_pos e] at hr; cases hr
      have r2 := h8 k (h6 k hk e)
      simp only [pk1, if_true]
      exact ⟨inI _ pk1, by rw [hUk]; exact e, by rw [pk2]; exact r2.2.2.1, by rw [pk3]; exact r2.2.2.2⟩
    · rw [if_neg e] at hr
      obtain ⟨a1, a2, a3, a4⟩ := h8 r hr
      have q : gJ G k r = false := by
        rcases cases2 r a1 with w | w
        · have rk : r ≠ k := fun z => e (by rw [← z]; exact a2)
          have s := fs r w
          have bk2 := h1 k hk
          cases hUk2 : gU G k with
          | none => exact absurd hUk2 e
          | some u =>
            rcases wside u hUk2 with z | z
            · have := h1 u (fk u hUk2).2; omega
            · have := h1 u (fk u hUk2).2; omega
        · exact w
      simp only [q]
      refine ⟨a1, by rw [hU r a1 q]; exact a2, by simpa using a3, by simpa using a4⟩
  · intro hn
    by_cases e : gU G k = none
    · rw [if_pos e] at hn; cases hn
    · rw [if_neg e] at hn; exact h9 hn
end RP
/-- where the p-th key of an interval is -/
theorem cnt_nth (I : Nat → Bool) (A : Nat) : ∀ n p, p < cnt I A n → ∃ k, A ≤ k ∧ k < A + n ∧ I k = true ∧ cnt I A (k - A) = p := by
  intro n
  induction n with
  | zero => intro p hp; exact absurd hp (Nat.not_lt_zero p)
  | succ n ih =>
    intro p hp
    rw [cnt_s] at hp
    by_cases q : p < cnt I A n
    · obtain ⟨k, h1, h2, h3, h4⟩ := ih p q; exact ⟨k, h1, by omega, h3, h4⟩
    · by_cases e : I (A + n) = true
      · rw [if_pos e] at hp
        exact ⟨A + n, by omega, by omega, e, by rw [show A + n - A = n by omega]; omega⟩
      · rw [if_neg e] at hp; omega
theorem cnt_mono (I : Nat → Bool) (A : Nat) {m n : Nat} (h : m ≤ n) : cnt I A m ≤ cnt I A n := by
  rw [show n = m + (n - m) by omega, cnt_split]; omega
theorem cnt_in (I : Nat → Bool) (A : Nat) {k : Nat} (h1 : A ≤ k) (hk : I k = true) : cnt I A (k + 1 - A) = cnt I A (k - A) + 1 := by
  rw [show k + 1 - A = k - A + 1 by omega, cnt_s, show A + (k - A) = k by omega, if_pos hk]
