section PX
variable {L R U : Nat → Option Nat} {J : Nat → Bool} {A B : Nat} {o : Option Nat} {lo hi : Nat → Nat}
def jLt (J : Nat → Bool) (k : Nat) : Nat → Bool := fun j => J j && decide (j < k)
def jGt (J : Nat → Bool) (k : Nat) : Nat → Bool := fun j => J j && decide (k < j)
theorem jLt_i {k j : Nat} : jLt J k j = true ↔ J j = true ∧ j < k := by unfold jLt; simp
theorem jGt_i {k j : Nat} : jGt J k j = true ↔ J j = true ∧ k < j := by unfold jGt; simp
/-- the two sides of the top of a piece: a key of the piece but the top lies on one side, with its interval -/
theorem PW.sides {k : Nat} (h : PW L R U J A B (some k) lo hi) : ∀ (m j : Nat), J j = true → B - A ≤ m + (hi j - lo j) → j ≠ k → (j < k ∧ A ≤ lo j ∧ hi j ≤ k) ∨ (k < j ∧ k + 1 ≤ lo j ∧ hi j ≤ B) := by
  obtain ⟨a1, a2, a3, a4, a5, a6, a7, a8⟩ := h
  obtain ⟨k1, k2, k3⟩ := a7 k rfl
  intro m
  induction m with
  | zero =>
    intro j hj h1 hne
    obtain ⟨u, u1, u2, u3⟩ := a6 j hj (fun e => hne (Option.some.inj e).symm)
    have bj := a1 j hj
    have bu := a1 u u2
    rcases u3 with q | q
    · have := a2 u j u2 q; omega
    · have := a3 u j u2 q; omega
  | succ m ih =>
    intro j hj h1 hne
    obtain ⟨u, u1, u2, u3⟩ := a6 j hj (fun e => hne (Option.some.inj e).symm)
    have bj := a1 j hj
    have bu := a1 u u2
    by_cases e : u = k
    · subst e
      rcases u3 with q | q
      · have := a2 u j u2 q; omega
      · have := a3 u j u2 q; omega
    · rcases u3 with q | q
      · have := a2 u j u2 q
        have := ih u u2 (by omega) e
        omega
      · have := a3 u j u2 q
        have := ih u u2 (by omega) e
        omega
theorem PW.split {k : Nat} (h : PW L R U J A B (some k) lo hi) : J k = true ∧ A ≤ k ∧ k < B ∧ PW L R U (jLt J k) A k (L k) lo hi ∧ PW L R U (jGt J k) (k + 1) B (R k) lo hi := by
  have sd : ∀ j, J j = true → j ≠ k → (j < k ∧ A ≤ lo j ∧ hi j ≤ k) ∨ (k < j ∧ k + 1 ≤ lo j ∧ hi j ≤ B) := fun j hj hne => h.sides (B - A) j hj (by omega) hne
  obtain ⟨a1, a2, a3, a4, a5, a6, a7, a8⟩ := h
  obtain ⟨k1, k2, k3⟩ := a7 k rfl
  have bk := a1 k k1
  refine ⟨k1, by omega, by omega, ⟨?_, ?_, ?_, ?_, ?_, ?_, ?_, ?_⟩, ⟨?_, ?_, ?_, ?_, ?_, ?_, ?_, ?_⟩⟩
  · intro j hj
    obtain ⟨q1, q2⟩ := jLt_i.mp hj
    have := sd j q1 (by omega); have := a1 j q1; omega
  · intro j c hj hc
    obtain ⟨q1, q2⟩ := jLt_i.mp hj
    obtain ⟨w1, w2, w3, w4⟩ := a2 j c q1 hc
    have := a1 c w1
    exact ⟨jLt_i.mpr ⟨w1, by omega⟩, w2, w3, w4⟩
  · intro j c hj hc
    obtain ⟨q1, q2⟩ := jLt_i.mp hj
    obtain ⟨w1, w2, w3, w4⟩ := a3 j c q1 hc
    have := a1 c w1
    have := sd j q1 (by omega)
    exact ⟨jLt_i.mpr ⟨w1, by omega⟩, w2, w3, w4⟩
  · intro j i hj hn hi'
    exact a4 j i (jLt_i.mp hj).1 hn (jLt_i.mp hi').1
  · intro j i hj hn hi'
    exact a5 j i (jLt_i.mp hj).1 hn (jLt_i.mp hi').1
  · intro j hj hne
    obtain ⟨q1, q2⟩ := jLt_i.mp hj
    obtain ⟨u, u1, u2, u3⟩ := a6 j q1 (fun e => by have := Option.some.inj e; omega)
    have bu := a1 u u2
    refine ⟨u, u1, jLt_i.mpr ⟨u2, ?_⟩, u3⟩
    by_cases e : u = k
    · subst e
      rcases u3 with z | z
      · exact absurd z hne
      · have := a3 u j u2 z; have := a1 j q1; omega
    · have := sd u u2 e
      have s1 := a1 j q1
      rcases u3 with z | z
      · have := a2 u j u2 z; omega
      · have := a3 u j u2 z; omega
  · intro r hr
    obtain ⟨w1, w2, w3, w4⟩ := a2 k r k1 hr
    have := a1 r w1
    exact ⟨jLt_i.mpr ⟨w1, by omega⟩, by omega, w4⟩
  · intro hn j
    cases q : jLt J k j with
    | false => rfl
    | true =>
      obtain ⟨q1, q2⟩ := jLt_i.mp q
      have := sd j q1 (by omega); have := a1 j q1
      exact absurd ⟨by omega, q2⟩ (a4 k j k1 hn q1)
  · intro j hj
    obtain ⟨q1, q2⟩ := jGt_i.mp hj
    have := sd j q1 (by omega); have := a1 j q1; omega
  · intro j c hj hc
    obtain ⟨q1, q2⟩ := jGt_i.mp hj
    obtain ⟨w1, w2, w3, w4⟩ := a2 j c q1 hc
    have := a1 c w1
    have := sd j q1 (by omega)
    exact ⟨jGt_i.mpr ⟨w1, by omega⟩, w2, w3, w4⟩
  · intro j c hj hc
    obtain ⟨q1, q2⟩ := jGt_i.mp hj
    obtain ⟨w1, w2, w3, w4⟩ := a3 j c q1 hc
    have := a1 c w1
    exact ⟨jGt_i.mpr ⟨w1, by omega⟩, w2, w3, w4⟩
  · intro j i hj hn hi'
    exact a4 j i (jGt_i.mp hj).1 hn (jGt_i.mp hi').1
  · intro j i hj hn hi'
    exact a5 j i (jGt_i.mp hj).1 hn (jGt_i.mp hi').1
  · intro j hj hne
    obtain ⟨q1, q2⟩ := jGt_i.mp hj
    obtain ⟨u, u1, u2, u3⟩ := a6 j q1 (fun e => by have := Option.some.inj e; omega)
    have bu := a1 u u2
    refine ⟨u, u1, jGt_i.mpr ⟨u2, ?_⟩, u3⟩
    by_cases e : u = k
    · subst e
      rcases u3 with z | z
      · have := a2 u j u2 z; have := a1 j q1; omega
      · exact absurd z hne
    · have := sd u u2 e
      have s1 := a1 j q1
      rcases u3 with z | z
      · have := a2 u j u2 z; omega
      · have := a3 u j u2 z; omega
  · intro r hr
    obtain ⟨w1, w2, w3, w4⟩ := a3 k r k1 hr
    have := a1 r w1
    exact ⟨jGt_i.mpr ⟨w1, by omega⟩, by omega, by omega⟩
  · intro hn j
    cases q : jGt J k j with
    | false => rfl
    | true =>
      obtain ⟨q1, q2⟩ := jGt_i.mp q
      have := sd j q1 (by omega); have := a1 j q1
      exact absurd ⟨q2, by omega⟩ (a5 k j k1 hn q1)
/-- an interval may be narrowed to where the keys are -/
theorem PW.narrow {A' B' : Nat} (h : PW L R U J A B o lo hi) (hA : A ≤ A') (hB : B' ≤ B) (hk : ∀ k, J k = true → A' ≤ k ∧ k < B') : PW L R U J A' B' o (fun k => max (lo k) A') (fun k => min (hi k) B') := by
  obtain ⟨a1, a2, a3, a4, a5, a6, a7, a8⟩ := h
  refine ⟨?_, ?_, ?_, ?_, ?_, a6, ?_, a8⟩
  · intro k q; have := a1 k q; have := hk k q
    show A' ≤ max (lo k) A' ∧ max (lo k) A' ≤ k ∧ k < min (hi k) B' ∧ min (hi k) B' ≤ B'
    omega
  · intro k c q hc
    obtain ⟨w1, w2, w3, w4⟩ := a2 k c q hc
    have := hk k q
    refine ⟨w1, w2, ?_, ?_⟩
    · show max (lo c) A' = max (lo k) A'; omega
    · show min (hi c) B' = k; omega
  · intro k c q hc
    obtain ⟨w1, w2, w3, w4⟩ := a3 k c q hc
    have := hk k q
    refine ⟨w1, w2, ?_, ?_⟩
    · show max (lo c) A' = k + 1; omega
    · show min (hi c) B' = min (hi k) B'; omega
  · intro k j q hn hj w
    have w : max (lo k) A' ≤ j ∧ j < k := w
    exact a4 k j q hn hj (by omega)
  · intro k j q hn hj w
    have w : k < j ∧ j < min (hi k) B' := w
    exact a5 k j q hn hj (by omega)
  · intro r hr
    obtain ⟨w1, w2, w3⟩ := a7 r hr
    refine ⟨w1, ?_, ?_⟩
    · show max (lo r) A' = A'; omega
    · show min (hi r) B' = B'; omega
end PX
/-! JOIN: a chain of keys, each hung on the one ahead of it -/
def ovU : List Nat → (Nat → Option Nat) → (Nat → Option Nat)
  | c :: d :: l, U => va_up (ovU (d :: l) U) d (some c)
  | _, U => U
def ovL : List Nat → (Nat → Option Nat) → (Nat → Option Nat)
  | c :: d :: l, L => if d < c then va_up (ovL (d :: l) L) c (some d) else ovL (d :: l) L
  | _, L => L
def ovR : List Nat → (Nat → Option Nat) → (Nat → Option Nat)
  | c :: d :: l, R => if d < c then ovR (d :: l) R else va_up (ovR (d :: l) R) c (some d)
  | _, R => R
theorem ovU_c (c d : Nat) (l : List Nat) (U : Nat → Option Nat) : ovU (c :: d :: l) U = va_up (ovU (d :: l) U) d (some c) := rfl
theorem ovL_c (c d : Nat) (l : List Nat) (U : Nat → Option Nat) : ovL (c :: d :: l) U = if d < c then va_up (ovL (d :: l) U) c (some d) else ovL (d :: l) U := rfl
theorem ovR_c (c d : Nat) (l : List Nat) (U : Nat → Option Nat) : ovR (c :: d :: l) U = if d < c then ovR (d :: l) U else va_up (ovR (d :: l) U) c (some d) := rfl
theorem ovU_1 (c : Nat) (U : Nat → Option Nat) : ovU [c] U = U := rfl
theorem ovL_1 (c : Nat) (U : Nat → Option Nat) : ovL [c] U = U := rfl
theorem ovR_1 (c : Nat) (U : Nat → Option Nat) : ovR [c] U = U := rfl
section OV
variable {L R U : Nat → Option Nat}
theorem ovU_ne : ∀ (l : List Nat) (c j : Nat), j ∉ l → ovU (c :: l) U j = U j := by
  intro l
  induction l with
  | nil => intro c j h; rfl
  | cons d l ih =>
    intro c j h
    rw [ovU_c, vu_ne (fun e => h (by rw [e]; exact List.mem_cons_self)), ih d j (fun q => h (List.mem_cons_of_mem _ q))]
theorem ovL_ne : ∀ (l : List Nat) (j : Nat), j ∉ l → ovL l L j = L j := by
  intro l
  induction l with
  | nil => intro j h; rfl
  | cons c l ih =>
    intro j h
    cases l with
    | nil => rfl
    | cons d l =>
      rw [ovL_c]
      have e := ih j (fun q => h (List.mem_cons_of_mem _ q))
      by_cases q : d < c
      · rw [if_pos q, vu_ne (fun e => h (by rw [e]; exact List.mem_cons_self)), e]
      · rw [if_neg q, e]
theorem ovR_ne : ∀ (l : List Nat) (j : Nat), j ∉ l → ovR l R j = R j := by
  intro l
  induction l with
  | nil => intro j h; rfl
  | cons c l ih =>
    intro j h
    cases l with
    | nil => rfl
    | cons d l =>
      rw [ovR_c]
      have e := ih j (fun q => h (List.mem_cons_of_mem _ q))
      by_cases q : d < c
      · rw [if_pos q, e]
      · rw [if_neg q, vu_ne (fun e => h (by rw [e]; exact List.mem_cons_self)), e]
theorem vu_vu {α : Type} (f : Nat → α) {a b : Nat} (v w : α) (h : a ≠ b) : va_up (va_up f a v) b w = va_up (va_up f b w) a v := by
  funext j
  rw [vup_at, vup_at, vup_at, vup_at]
  by_cases e : j = a
  · subst e; rw [if_neg h, if_pos rfl, if_pos rfl]
  · rw [if_neg e, if_neg e]
/-- what is written aside of the chain stays -/
theorem ovU_cm (x : Nat) (v : Option Nat) : ∀ (l : List Nat) (c : Nat), x ∉ l → ovU (c :: l) (va_up U x v) = va_up (ovU (c :: l) U) x v := by
  intro l
  induction l with
  | nil => intro c h; rfl
  | cons d l ih =>
    intro c h
    have hne : x ≠ d := fun e => h (by rw [e]; exact List.mem_cons_self)
    rw [ovU_c, ovU_c, ih d (fun q => h (List.mem_cons_of_mem _ q)), vu_vu _ _ _ hne]
theorem ovL_cm (x : Nat) (v : Option Nat) : ∀ (l : List Nat), x ∉ l → ovL l (va_up L x v) = va_up (ovL l L) x v := by
  intro l
  induction l with
  | nil => intro h; rfl
  | cons c l ih =>
    intro h
    cases l with
    | nil => rfl
    | cons d l =>
      have hne : x ≠ c := fun e => h (by rw [e]; exact List.mem_cons_self)
      have e := ih (fun q => h (List.mem_cons_of_mem _ q))
      rw [ovL_c, ovL_c, e]
      by_cases q : d < c
      · rw [if_pos q, if_pos q, vu_vu _ _ _ hne]
      · rw [if_neg q, if_neg q]
theorem ovR_cm (x : Nat) (v : Option Nat) : ∀ (l : List Nat), x ∉ l → ovR l (va_up R x v) = va_up (ovR l R) x v := by
  intro l
  induction l with
  | nil => intro h; rfl
  | cons c l ih =>
    intro h
    cases l with
    | nil => rfl
    | cons d l =>
      have hne : x ≠ c := fun e => h (by rw [e]; exact List.mem_cons_self)
      have e := ih (fun q => h (List.mem_cons_of_mem _ q))
      rw [ovR_c, ovR_c, e]
      by_cases q : d < c
      · rw [if_pos q, if_pos q]
      · rw [if_neg q, if_neg q, vu_vu _ _ _ hne]
end OV
/-- which keys are gone through when two trees are joined: ch says that of both tops the first one's comes -/
def msq (ch : Nat → Nat → Bool) (L R : Nat → Option Nat) : Nat → Option Nat → Option Nat → List Nat
  | 0, _, _ => []
  | _ + 1, none, none => []
  | _ + 1, some a, none => [a]
  | _ + 1, none, some b => [b]
  | n + 1, some a, some b => if ch a b = true then a :: msq ch L R n (R a) (some b) else b :: msq ch L R n (some a) (L b)
def jOr (J1 J2 : Nat → Bool) : Nat → Bool := fun j => J1 j || J2 j
theorem jOr_i {J1 J2 : Nat → Bool} {j : Nat} : jOr J1 J2 j = true ↔ J1 j = true ∨ J2 j = true := by unfold jOr; simp
