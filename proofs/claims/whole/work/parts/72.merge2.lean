section MS
variable {L R U L' R' : Nat → Option Nat} {ch : Nat → Nat → Bool}
theorem msq_2 (ch : Nat → Nat → Bool) (L R : Nat → Option Nat) (n a b : Nat) : msq ch L R (n + 1) (some a) (some b) = if ch a b = true then a :: msq ch L R n (R a) (some b) else b :: msq ch L R n (some a) (L b) := rfl
/-- the conditions under which two pieces are joined -/
def MP (L R U : Nat → Option Nat) (A B : Nat) (o1 o2 : Option Nat) (J1 J2 : Nat → Bool) : Prop :=
  (∃ lo hi, PW L R U J1 A B o1 lo hi) ∧ (∃ lo hi, PW L R U J2 A B o2 lo hi) ∧ (∀ i j, J1 i = true → J2 j = true → i < j) ∧ (o1 ≠ none ∨ o2 ≠ none)
theorem MP.left {A B a b : Nat} {J1 J2 : Nat → Bool} (h : MP L R U A B (some a) (some b) J1 J2) : MP L R U (a + 1) B (R a) (some b) (jGt J1 a) J2 ∧ A ≤ a ∧ a < B ∧ J1 a = true ∧ ∃ lo hi, PW L R U (jLt J1 a) A a (L a) lo hi := by
  obtain ⟨⟨lo1, hi1, h1⟩, ⟨lo2, hi2, h2⟩, h3, -⟩ := h
  obtain ⟨s1, s2, s3, s4, s5⟩ := h1.split
  refine ⟨⟨⟨lo1, hi1, s5⟩, ⟨_, _, h2.narrow (A' := a + 1) (B' := B) (by omega) (Nat.le_refl _) (fun k hk => ?_)⟩, fun i j hi hj => h3 i j (jGt_i.mp hi).1 hj, Or.inr (by simp)⟩, s2, s3, s1, ⟨lo1, hi1, s4⟩⟩
  have := h3 a k s1 hk; have := h2.1 k hk; omega
theorem MP.right {A B a b : Nat} {J1 J2 : Nat → Bool} (h : MP L R U A B (some a) (some b) J1 J2) : MP L R U A b (some a) (L b) J1 (jLt J2 b) ∧ A ≤ b ∧ b < B ∧ J2 b = true ∧ ∃ lo hi, PW L R U (jGt J2 b) (b + 1) B (R b) lo hi := by
  obtain ⟨⟨lo1, hi1, h1⟩, ⟨lo2, hi2, h2⟩, h3, -⟩ := h
  obtain ⟨s1, s2, s3, s4, s5⟩ := h2.split
  refine ⟨⟨⟨_, _, h1.narrow (A' := A) (B' := b) (Nat.le_refl _) (by omega) (fun k hk => ?_)⟩, ⟨lo2, hi2, s4⟩, fun i j hi hj => h3 i j hi (jLt_i.mp hj).1, Or.inl (by simp)⟩, s2, s3, s1, ⟨lo2, hi2, s5⟩⟩
  have := h3 k b hk s1; have := h1.1 k hk; omega
theorem MP.top1 {A B : Nat} {o1 o2 : Option Nat} {J1 J2 : Nat → Bool} (h : MP L R U A B o1 o2 J1 J2) {a : Nat} (ha : o1 = some a) : J1 a = true := by
  obtain ⟨⟨lo1, hi1, h1⟩, -⟩ := h; exact (h1.2.2.2.2.2.2.1 a ha).1
theorem MP.top2 {A B : Nat} {o1 o2 : Option Nat} {J1 J2 : Nat → Bool} (h : MP L R U A B o1 o2 J1 J2) {a : Nat} (ha : o2 = some a) : J2 a = true := by
  obtain ⟨-, ⟨lo1, hi1, h1⟩, -⟩ := h; exact (h1.2.2.2.2.2.2.1 a ha).1
theorem MP.bd {A B : Nat} {o1 o2 : Option Nat} {J1 J2 : Nat → Bool} (h : MP L R U A B o1 o2 J1 J2) {j : Nat} (hj : J1 j = true ∨ J2 j = true) : A ≤ j ∧ j < B := by
  obtain ⟨⟨lo1, hi1, h1⟩, ⟨lo2, hi2, h2⟩, -⟩ := h
  rcases hj with q | q
  · have := h1.1 j q; omega
  · have := h2.1 j q; omega
theorem MP.congr {U' : Nat → Option Nat} {A B : Nat} {o1 o2 : Option Nat} {J1 J2 : Nat → Bool} (h : MP L R U A B o1 o2 J1 J2) (h1 : ∀ k, J1 k = true ∨ J2 k = true → L' k = L k) (h2 : ∀ k, J1 k = true ∨ J2 k = true → R' k = R k) (h3 : ∀ k, J1 k = true ∨ J2 k = true → U' k = U k) : MP L' R' U' A B o1 o2 J1 J2 := by
  obtain ⟨⟨lo1, hi1, p1⟩, ⟨lo2, hi2, p2⟩, h4, h5⟩ := h
  exact ⟨⟨lo1, hi1, PW.congr p1 (fun k hk => h1 k (Or.inl hk)) (fun k hk => h2 k (Or.inl hk)) (fun k hk _ => h3 k (Or.inl hk)) (fun _ => rfl)⟩, ⟨lo2, hi2, PW.congr p2 (fun k hk => h1 k (Or.inr hk)) (fun k hk => h2 k (Or.inr hk)) (fun k hk _ => h3 k (Or.inr hk)) (fun _ => rfl)⟩, h4, h5⟩
/-- the keys that are gone through are keys of the two -/
theorem msq_mem : ∀ (n A B : Nat) (o1 o2 : Option Nat) (J1 J2 : Nat → Bool), MP L R U A B o1 o2 J1 J2 → ∀ j, j ∈ msq ch L R n o1 o2 → J1 j = true ∨ J2 j = true := by
  intro n
  induction n with
  | zero => intro A B o1 o2 J1 J2 h j hj; cases hj
  | succ n ih =>
    intro A B o1 o2 J1 J2 h j hj
    cases o1 with
    | none =>
      cases o2 with
      | none => cases hj
      | some b => have : j = b := List.mem_singleton.mp hj; rw [this]; exact Or.inr (h.top2 rfl)
    | some a =>
      cases o2 with
      | none => have : j = a := List.mem_singleton.mp hj; rw [this]; exact Or.inl (h.top1 rfl)
      | some b =>
        rw [msq_2] at hj
        by_cases q : ch a b = true
        · rw [if_pos q] at hj
          obtain ⟨m1, m2, m3, m4, m5⟩ := h.left
          rcases List.mem_cons.mp hj with e | e
          · rw [e]; exact Or.inl m4
          · rcases ih _ _ _ _ _ _ m1 j e with w | w
            · exact Or.inl (jGt_i.mp w).1
            · exact Or.inr w
        · rw [if_neg q] at hj
          obtain ⟨m1, m2, m3, m4, m5⟩ := h.right
          rcases List.mem_cons.mp hj with e | e
          · rw [e]; exact Or.inr m4
          · rcases ih _ _ _ _ _ _ m1 j e with w | w
            · exact Or.inl w
            · exact Or.inr (jLt_i.mp w).1
theorem msq_congr : ∀ (n A B : Nat) (o1 o2 : Option Nat) (J1 J2 : Nat → Bool), MP L R U A B o1 o2 J1 J2 → (∀ k, J1 k = true ∨ J2 k = true → L' k = L k) → (∀ k, J1 k = true ∨ J2 k = true → R' k = R k) → msq ch L' R' n o1 o2 = msq ch L R n o1 o2 := by
  intro n
  induction n with
  | zero => intro A B o1 o2 J1 J2 h h1 h2; rfl
  | succ n ih =>
    intro A B o1 o2 J1 J2 h h1 h2
    cases o1 with
    | none =>
      cases o2 with
      | none => rfl
      | some b => rfl
    | some a =>
      cases o2 with
      | none => rfl
      | some b =>
        rw [msq_2, msq_2]
        by_cases q : ch a b = true
        · obtain ⟨m1, m2, m3, m4, m5⟩ := h.left
          rw [if_pos q, if_pos q, h2 a (Or.inl m4), ih _ _ _ _ _ _ m1 (fun k hk => h1 k (by rcases hk with w | w; exact Or.inl (jGt_i.mp w).1; exact Or.inr w)) (fun k hk => h2 k (by rcases hk with w | w; exact Or.inl (jGt_i.mp w).1; exact Or.inr w))]
        · obtain ⟨m1, m2, m3, m4, m5⟩ := h.right
          rw [if_neg q, if_neg q, h1 b (Or.inr m4), ih _ _ _ _ _ _ m1 (fun k hk => h1 k (by rcases hk with w | w; exact Or.inl w; exact Or.inr (jLt_i.mp w).1)) (fun k hk => h2 k (by rcases hk with w | w; exact Or.inl w; exact Or.inr (jLt_i.mp w).1))]
set_option maxHeartbeats 2000000 in
/-- the two joined are a piece -/
theorem msq_ok : ∀ (n A B : Nat) (o1 o2 : Option Nat) (J1 J2 : Nat → Bool), MP L R U A B o1 o2 J1 J2 → B - A < n → ∃ (c : Nat) (l : List Nat) (lo hi : Nat → Nat), msq ch L R n o1 o2 = c :: l ∧ (c :: l).Nodup ∧ PW (ovL (c :: l) L) (ovR (c :: l) R) (ovU (c :: l) U) (jOr J1 J2) A B (some c) lo hi := by
  intro n
  induction n with
  | zero => intro A B o1 o2 J1 J2 h h1; omega
  | succ n ih =>
    intro A B o1 o2 J1 J2 h h1
    have one : ∀ c, ([c] : List Nat).Nodup := fun c => by simp
    cases o1 with
    | none =>
      obtain ⟨⟨lo1, hi1, p1⟩, ⟨lo2, hi2, p2⟩, h3, h4⟩ := h
      have z := p1.2.2.2.2.2.2.2 rfl
      cases o2 with
      | none => rcases h4 with q | q <;> exact absurd rfl q
      | some b =>
        refine ⟨b, [], lo2, hi2, rfl, one b, PW.congr p2 (fun _ _ => rfl) (fun _ _ => rfl) (fun _ _ _ => rfl) (fun k => ?_)⟩
        unfold jOr; rw [z k, Bool.false_or]
    | some a =>
      cases o2 with
      | none =>
        obtain ⟨⟨lo1, hi1, p1⟩, ⟨lo2, hi2, p2⟩, h3, h4⟩ := h
        have z := p2.2.2.2.2.2.2.2 rfl
        refine ⟨a, [], lo1, hi1, rfl, one a, PW.congr p1 (fun _ _ => rfl) (fun _ _ => rfl) (fun _ _ _ => rfl) (fun k => ?_)⟩
        unfold jOr; rw [z k, Bool.or_false]
      | some b =>
        have hab : a < b := h.2.2.1 a b (h.top1 rfl) (h.top2 rfl)
        by_cases q : ch a b = true
        · obtain ⟨m1, m2, m3, m4, lo0, hi0, p0⟩ := h.left
          obtain ⟨d, l, lo', hi', e1, e2, e3⟩ := ih _ _ _ _ _ _ m1 (by omega)
          have mem : ∀ j, j ∈ d :: l → a < j := fun j hj => by
            have := m1.bd (msq_mem n _ _ _ _ _ _ m1 j (by rw [e1]; exact hj)); omega
          have nin : a ∉ d :: l := fun q => by have := mem a q; omega
          have hda : ¬ d < a := by have := mem d List.mem_cons_self; omega
          refine ⟨a, d :: l, _, _, by rw [msq_2, if_pos q, e1], List.nodup_cons.mpr ⟨nin, e2⟩, PW.congr (PW.node (L := ovL (a :: d :: l) L) (R := ovR (a :: d :: l) R) (U := ovU (a :: d :: l) U) (k := a) (J1 := jLt J1 a) (J2 := jOr (jGt J1 a) J2) (o1 := L a) (o2 := some d) (PW.congr p0 ?_ ?_ ?_ (fun _ => rfl)) (PW.congr e3 ?_ ?_ ?_ (fun _ => rfl)) m2 m3 ?_ ?_ ?_ ?_) (fun _ _ => rfl) (fun _ _ => rfl) (fun _ _ _ => rfl) ?_⟩
          · intro j hj; exact ovL_ne _ j (fun w => by have := (jLt_i.mp hj).2; rcases List.mem_cons.mp w with z | z; omega; have := mem j z; omega)
          · intro j hj; exact ovR_ne _ j (fun w => by have := (jLt_i.mp hj).2; rcases List.mem_cons.mp w with z | z; omega; have := mem j z; omega)
          · intro j hj hne; exact ovU_ne _ a j (fun w => by have := (jLt_i.mp hj).2; have := mem j w; omega)
          · intro j hj; rw [ovL_c, if_neg hda]
          · intro j hj
            have : a < j := by
              rcases jOr_i.mp hj with w | w
              · exact (jGt_i.mp w).2
              · exact h.2.2.1 a j m4 w
            rw [ovR_c, if_neg hda, vu_ne (by omega)]
          · intro j hj hne; rw [ovU_c, vu_ne (fun e => hne (by rw [e]))]
          · rw [ovL_c, if_neg hda]; exact ovL_ne _ a nin
          · rw [ovR_c, if_neg hda, vu_eq]
          · intro c hc
            have : jLt J1 a c = true := (p0.2.2.2.2.2.2.1 c hc).1
            have hca := (jLt_i.mp this).2
            rw [ovU_ne _ a c (fun w => by have := mem c w; omega)]
            obtain ⟨⟨lo1, hi1, p1⟩, -⟩ := h
            exact (p1.2.1 a c m4 hc).2.1
          · intro c hc; cases hc; rw [ovU_c, vu_eq]
          · intro j
            unfold jOr jLt jGt
            cases hJ1 : J1 j with
            | false =>
              by_cases w : j = a
              · rw [w, m4] at hJ1; cases hJ1
              · simp [w]
            | true =>
              by_cases w : j = a
              · simp [w]
              · rcases Nat.lt_or_ge j a with z | z
                · simp [z]
                · simp [show a < j by omega]
        · obtain ⟨m1, m2, m3, m4, lo0, hi0, p0⟩ := h.right
          obtain ⟨d, l, lo', hi', e1, e2, e3⟩ := ih _ _ _ _ _ _ m1 (by omega)
          have mem : ∀ j, j ∈ d :: l → j < b := fun j hj => by
            have := m1.bd (msq_mem n _ _ _ _ _ _ m1 j (by rw [e1]; exact hj)); omega
          have nin : b ∉ d :: l := fun q => by have := mem b q; omega
          have hda : d < b := mem d List.mem_cons_self
          refine ⟨b, d :: l, _, _, by rw [msq_2, if_neg q, e1], List.nodup_cons.mpr ⟨nin, e2⟩, PW.congr (PW.node (L := ovL (b :: d :: l) L) (R := ovR (b :: d :: l) R) (U := ovU (b :: d :: l) U) (k := b) (J1 := jOr J1 (jLt J2 b)) (J2 := jGt J2 b) (o1 := some d) (o2 := R b) (PW.congr e3 ?_ ?_ ?_ (fun _ => rfl)) (PW.congr p0 ?_ ?_ ?_ (fun _ => rfl)) m2 m3 ?_ ?_ ?_ ?_) (fun _ _ => rfl) (fun _ _ => rfl) (fun _ _ _ => rfl) ?_⟩
          · intro j hj
            have : j < b := by
              rcases jOr_i.mp hj with w | w
              · exact h.2.2.1 j b w m4
              · exact (jLt_i.mp w).2
            rw [ovL_c, if_pos hda, vu_ne (by omega)]
          · intro j hj; rw [ovR_c, if_pos hda]
          · intro j hj hne; rw [ovU_c, vu_ne (fun e => hne (by rw [e]))]
          · intro j hj; exact ovL_ne _ j (fun w => by have := (jGt_i.mp hj).2; rcases List.mem_cons.mp w with z | z; omega; have := mem j z; omega)
          · intro j hj; exact ovR_ne _ j (fun w => by have := (jGt_i.mp hj).2; rcases List.mem_cons.mp w with z | z; omega; have := mem j z; omega)
          · intro j hj hne; exact ovU_ne _ b j (fun w => by have := (jGt_i.mp hj).2; have := mem j w; omega)
          · rw [ovL_c, if_pos hda, vu_eq]
          · rw [ovR_c, if_pos hda]; exact ovR_ne _ b nin
          · intro c hc; cases hc; rw [ovU_c, vu_eq]
          · intro c hc
            have : jGt J2 b c = true := (p0.2.2.2.2.2.2.1 c hc).1
            have hca := (jGt_i.mp this).2
            rw [ovU_ne _ b c (fun w => by have := mem c w; omega)]
            obtain ⟨-, ⟨lo1, hi1, p1⟩, -⟩ := h
            exact (p1.2.2.1 b c m4 hc).2.1
          · intro j
            unfold jOr jLt jGt
            cases hJ2 : J2 j with
            | false =>
              by_cases w : j = b
              · rw [w, m4] at hJ2; cases hJ2
              · simp [w]
            | true =>
              by_cases w : j = b
              · simp [w]
              · rcases Nat.lt_or_ge j b with z | z
                · simp [z]
                · simp [show b < j by omega]
/-- every key of the chain hangs on the one ahead -/
def lnk (U : Nat → Option Nat) : List Nat → Prop
  | c :: d :: l => U d = some c ∧ lnk U (d :: l)
  | _ => True
theorem lnk_congr {U U' : Nat → Option Nat} : ∀ (l : List Nat) (c : Nat), lnk U (c :: l) → (∀ j, j ∈ l → U' j = U j) → lnk U' (c :: l) := by
  intro l
  induction l with
  | nil => intro c h h1; exact True.intro
  | cons d l ih => intro c h h1; exact ⟨by rw [h1 d List.mem_cons_self]; exact h.1, ih d h.2 (fun j hj => h1 j (List.mem_cons_of_mem _ hj))⟩
theorem ovU_lnk : ∀ (l : List Nat) (c : Nat), (c :: l).Nodup → lnk (ovU (c :: l) U) (c :: l) := by
  intro l
  induction l with
  | nil => intro c h; exact True.intro
  | cons d l ih =>
    intro c h
    obtain ⟨h1, h2⟩ := List.nodup_cons.mp h
    obtain ⟨h3, h4⟩ := List.nodup_cons.mp h2
    refine ⟨by rw [ovU_c, vu_eq], lnk_congr l d (ih d h2) (fun j hj => ?_)⟩
    rw [ovU_c, vu_ne (fun e => h3 (by rw [← e]; exact hj))]
/-- the last but one -/
def pen : List Nat → Nat
  | [] => 0
  | [c] => c
  | [c, _] => c
  | _ :: d :: f :: l => pen (d :: f :: l)
end MS
