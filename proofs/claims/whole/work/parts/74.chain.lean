section CH
variable {G : Gh} {L R U : Nat → Option Nat} {sz : Nat → Nat}
theorem dl_c (c d : Nat) (l : List Nat) : (c :: d :: l).dropLast = c :: (d :: l).dropLast := rfl
theorem pen_3 (c d f : Nat) (l : List Nat) : pen (c :: d :: f :: l) = pen (d :: f :: l) := rfl
theorem chain_on (hw : GW G) : ∀ (l : List Nat) (c d : Nat), lnk (gU G) (c :: d :: l) → (∀ j, j ∈ c :: d :: l → gI G j = true) → ∀ j, j ∈ (c :: d :: l).dropLast → onWay G (pen (c :: d :: l)) j := by
  intro l
  induction l with
  | nil =>
    intro c d h1 h2 j hj
    have : j = c := List.mem_singleton.mp hj
    subst this
    have hc := h2 j List.mem_cons_self
    have := hw.1 j hc
    exact ⟨hc, this.2.1, this.2.2.1⟩
  | cons f l ih =>
    intro c d h1 h2 j hj
    rw [pen_3]
    have ih' := ih d f h1.2 (fun j hj => h2 j (List.mem_cons_of_mem _ hj))
    rw [dl_c] at hj
    rcases List.mem_cons.mp hj with e | e
    · subst e
      exact (hw.up (ih' d (by rw [dl_c]; exact List.mem_cons_self)) h1.1).1
    · exact ih' j e
theorem pen_in : ∀ (l : List Nat) (c d : Nat), pen (c :: d :: l) ∈ (c :: d :: l).dropLast := by
  intro l
  induction l with
  | nil => intro c d; exact List.mem_singleton.mpr rfl
  | cons f l ih => intro c d; rw [pen_3, dl_c]; exact List.mem_cons_of_mem _ (ih d f)
theorem dl_sub : ∀ (l : List Nat) (j : Nat), j ∈ l.dropLast → j ∈ l := fun l j h => List.dropLast_subset l h
theorem ovL_nd : ∀ (l : List Nat) (j : Nat), j ∉ l.dropLast → ovL l L j = L j := by
  intro l
  induction l with
  | nil => intro j h; rfl
  | cons c l ih =>
    intro j h
    cases l with
    | nil => rfl
    | cons d l =>
      rw [dl_c] at h
      have e := ih j (fun q => h (List.mem_cons_of_mem _ q))
      rw [ovL_c]
      by_cases q : d < c
      · rw [if_pos q, vu_ne (fun e => h (by rw [e]; exact List.mem_cons_self)), e]
      · rw [if_neg q, e]
theorem ovR_nd : ∀ (l : List Nat) (j : Nat), j ∉ l.dropLast → ovR l R j = R j := by
  intro l
  induction l with
  | nil => intro j h; rfl
  | cons c l ih =>
    intro j h
    cases l with
    | nil => rfl
    | cons d l =>
      rw [dl_c] at h
      have e := ih j (fun q => h (List.mem_cons_of_mem _ q))
      rw [ovR_c]
      by_cases q : d < c
      · rw [if_pos q, e]
      · rw [if_neg q, vu_ne (fun e => h (by rw [e]; exact List.mem_cons_self)), e]
theorem lnk_pre : ∀ (l : List Nat) (c : Nat), lnk U (c :: l) → ∀ j, j ∈ (c :: l).dropLast → j = c ∨ ∃ p, p ∈ (c :: l).dropLast ∧ U j = some p := by
  intro l
  induction l with
  | nil => intro c h j hj; cases hj
  | cons d l ih =>
    intro c h j hj
    rw [dl_c] at hj
    rcases List.mem_cons.mp hj with e | e
    · exact Or.inl e
    · right
      rcases ih d h.2 j e with w | ⟨p, w1, w2⟩
      · exact ⟨c, by rw [dl_c]; exact List.mem_cons_self, by rw [w]; exact h.1⟩
      · exact ⟨p, by rw [dl_c]; exact List.mem_cons_of_mem _ w1, w2⟩
/-- sizes off the chain are right -/
theorem chain_sz (hw : GW G) (hs : GS G) {c d : Nat} {l : List Nat} (hc : gU G c = none) (hl : lnk (gU G) (c :: d :: l)) (hI : ∀ j, j ∈ c :: d :: l → gI G j = true)
    (hL : ∀ j, gI G j = true → gL G j = ovL (c :: d :: l) L j) (hR : ∀ j, gI G j = true → gR G j = ovR (c :: d :: l) R j) (h0 : ∀ j, gI G j = true → sz j = 1 + szo sz (L j) + szo sz (R j)) : ∀ j, gI G j = true → ¬ onWay G (pen (c :: d :: l)) j → sz j = gs G j := by
  have key : ∀ (m j : Nat), gI G j = true → wid G j ≤ m → j ∉ (c :: d :: l).dropLast → sz j = gs G j := by
    intro m
    induction m with
    | zero => intro j hj h1; have := hw.w1 hj; omega
    | succ m ih =>
      intro j hj h1 h2
      have eL : gL G j = L j := by rw [hL j hj, ovL_nd _ j h2]
      have eR : gR G j = R j := by rw [hR j hj, ovR_nd _ j h2]
      have nch : ∀ b, gU G b = some j → b ∉ (c :: d :: l).dropLast := by
        intro b hb w
        rcases lnk_pre (d :: l) c hl b w with e | ⟨p, p1, p2⟩
        · rw [e, hc] at hb; cases hb
        · rw [hb] at p2; cases p2; exact h2 p1
      rw [h0 j hj, (hs j).1 hj, ← eL, ← eR]
      have a : szo sz (gL G j) = szo (gs G) (gL G j) := by
        cases q : gL G j with
        | none => rfl
        | some b =>
          obtain ⟨b1, b2, b3, b4⟩ := hw.2.1 j b hj q
          have := hw.1 b b1; have := hw.1 j hj
          exact ih b b1 (by unfold wid at *; omega) (nch b b2)
      have b : szo sz (gR G j) = szo (gs G) (gR G j) := by
        cases q : gR G j with
        | none => rfl
        | some b =>
          obtain ⟨b1, b2, b3, b4⟩ := hw.2.2.1 j b hj q
          have := hw.1 b b1; have := hw.1 j hj
          exact ih b b1 (by unfold wid at *; omega) (nch b b2)
      rw [a, b]
  intro j hj hn
  exact key 64 j hj (hw.w1 hj).2 (fun q => hn (chain_on hw l c d hl hI j q))
end CH
section HM
variable {t : Nat} {I : Nat → Bool} {rt : Option Nat} {tn : Int32}
/-- which of two tops is the root, by weight -/
def chW : Nat → Nat → Bool := fun a b => decide (wt b < wt a)
theorem chW_t {a b : Nat} : chW a b = true ↔ wt b < wt a := by unfold chW; simp
/-- the reference's heaps -/
theorem rm_heaps (ht : t < 8) : ∀ (n A B d : Nat) (o1 o2 : Option Nat) (J1 J2 : Nat → Bool) (L R U : Nat → Option Nat) (x : Ob), RepM x t L R U rt I → MP L R U A B o1 o2 J1 J2 → B ≤ 64 → B - A < n → n ≤ d → (∀ j, J1 j = true ∨ J2 j = true → I j = true) →
    ∃ (c : Nat) (l : List Nat) (x' : Ob), msq chW L R n o1 o2 = c :: l ∧ fX6_heaps d (nI t) (enc o1) (enc o2) x = some (nI c, x') ∧ RepM x' t (ovL (c :: l) L) (ovR (c :: l) R) (ovU (c :: l) U) rt I ∧ Fr [] [4, 5, 6] t x x' := by
  intro n
  induction n with
  | zero => intro A B d o1 o2 J1 J2 L R U x hr h hB h1; omega
  | succ n ih =>
    intro A B d o1 o2 J1 J2 L R U x hr h hB h1 h2 hJ
    obtain ⟨d, rfl⟩ := Nat.exists_eq_succ_of_ne_zero (by omega : d ≠ 0)
    have k64 : ∀ j, J1 j = true ∨ J2 j = true → j < 64 := fun j hj => by have := h.bd hj; omega
    cases o1 with
    | none =>
      cases o2 with
      | none => rcases h.2.2.2 with q | q <;> exact absurd rfl q
      | some b => exact ⟨b, [], x, rfl, by rw [fX6_heaps, enc_n, if_pos m1_lt, fX6_heaps_J8, if_neg (by decide)]; rfl, hr, Fr.rf _ _ _ _⟩
    | some a =>
      have a64 := k64 a (Or.inl (h.top1 rfl))
      cases o2 with
      | none => exact ⟨a, [], x, rfl, by rw [fX6_heaps, enc_s, if_neg (nI_pos (by omega)), enc_n, if_neg (by decide), fX6_heaps_J8, if_pos (nI_pos' (by omega))], hr, Fr.rf _ _ _ _⟩
      | some b =>
        have b64 := k64 b (Or.inr (h.top2 rfl))
        have wa := wt_lt a
        have wb := wt_lt b
        have hIa := hJ a (Or.inl (h.top1 rfl))
        have hIb := hJ b (Or.inr (h.top2 rfl))
        by_cases q : wt b < wt a
        · obtain ⟨m1, m2, m3, m4, m5⟩ := h.left
          obtain ⟨c, l, x1, e1, e2, e3, e4⟩ := ih _ _ d _ _ _ _ L R U x hr m1 hB (by omega) (by omega) (fun j hj => hJ j (by rcases hj with w | w; exact Or.inl (jGt_i.mp w).1; exact Or.inr w))
          have hc : a < c := by
            have := m1.bd (msq_mem n _ _ _ _ _ _ m1 c (by rw [e1]; exact List.mem_cons_self)); omega
          have c64 : c < 64 := by
            have := m1.bd (msq_mem n _ _ _ _ _ _ m1 c (by rw [e1]; exact List.mem_cons_self)); omega
          obtain ⟨x2, f1, f2, f3⟩ := rmh_R e3 ht (Bd_s c64) a64
          refine ⟨a, c :: l, x2, by rw [msq_2, if_pos (chW_t.mpr q), e1], ?_, ?_, e4.tr f3⟩
          · rw [fX6_heaps, enc_s, if_neg (nI_pos (by omega)), enc_s, if_pos (nI_pos' (by omega)), weight6 a64, Option.bind_some, weight6 b64, Option.bind_some, if_neg (nI_ge q (by omega)), ix6 ht a64, show x.2 6 (64 * t + a) = enc (R a) from hr.2.2.1 a hIa, ← enc_s b, e2, Option.bind_some, ← enc_s c, f1, Option.bind_some]
          · rw [ovL_c, ovR_c, ovU_c, if_neg (by omega), if_neg (by omega)]; exact f2
        · obtain ⟨m1, m2, m3, m4, m5⟩ := h.right
          obtain ⟨c, l, x1, e1, e2, e3, e4⟩ := ih _ _ d _ _ _ _ L R U x hr m1 (by omega) (by omega) (by omega) (fun j hj => hJ j (by rcases hj with w | w; exact Or.inl w; exact Or.inr (jLt_i.mp w).1))
          have hc : c < b := by
            have := m1.bd (msq_mem n _ _ _ _ _ _ m1 c (by rw [e1]; exact List.mem_cons_self)); omega
          obtain ⟨x2, f1, f2, f3⟩ := rmh_L e3 ht (Bd_s (show c < 64 by omega)) b64
          refine ⟨b, c :: l, x2, by rw [msq_2, if_neg (fun w => q (chW_t.mp w)), e1], ?_, ?_, e4.tr f3⟩
          · rw [fX6_heaps, enc_s, if_neg (nI_pos (by omega)), enc_s, if_pos (nI_pos' (by omega)), weight6 a64, Option.bind_some, weight6 b64, Option.bind_some, if_pos (nI_le (by omega) (by omega)), ix6 ht b64, show x.2 5 (64 * t + b) = enc (L b) from hr.2.1 b hIb, ← enc_s a, e2, Option.bind_some, ← enc_s c, f1, Option.bind_some]
          · rw [ovL_c, ovR_c, ovU_c, if_pos hc, if_pos hc]; exact f2
/-- a key hung on one that isn't of the two pieces -/
theorem hg_lt (L R : Nat → Option Nat) {a e : Nat} (h : a < e) : hgL L a (some e) = va_up L e (some a) ∧ hgR R a (some e) = R := by
  refine ⟨funext fun j => ?_, funext fun j => ?_⟩
  · rw [hgL, vup_at]
    by_cases q : j = e
    · subst q; rw [if_pos ⟨rfl, h⟩, if_pos rfl]
    · rw [if_neg (fun w => q (Option.some.inj w.1).symm), if_neg q]
  · rw [hgR, if_neg]
    rintro ⟨w1, w2⟩; cases w1; exact w2 h
theorem hg_gt (L R : Nat → Option Nat) {a e : Nat} (h : ¬ a < e) : hgL L a (some e) = L ∧ hgR R a (some e) = va_up R e (some a) := by
  refine ⟨funext fun j => ?_, funext fun j => ?_⟩
  · rw [hgL, if_neg]
    rintro ⟨w1, w2⟩; cases w1; exact h w2
  · rw [hgR, vup_at]
    by_cases q : j = e
    · subst q; rw [if_pos ⟨rfl, h⟩, if_pos rfl]
    · rw [if_neg (fun w => q (Option.some.inj w.1).symm), if_neg q]
/-- the class's merge, behind its first step -/
theorem rs_merge {sz : Nat → Nat} : ∀ (n A B f st e : Nat) (o1 o2 : Option Nat) (J1 J2 : Nat → Bool) (L R U : Nat → Option Nat) (y : Ob), RepS y L R U sz rt tn → MP L R U A B o1 o2 J1 J2 → B ≤ 64 → B - A < n → n ≤ f → st + n ≤ 128 → e < 64 → J1 e = false → J2 e = false →
    ∃ (c : Nat) (l : List Nat) (y' : Ob), msq chW L R n o1 o2 = c :: l ∧ fX4_mergeByWeight_L11 f (enc o1) (enc o2) (nI e) (nI st) y = Option.bind (fX3_resizeUpFrom (nI (pen (e :: c :: l))) y') (fun q => some q) ∧ RepS y' (ovL (e :: c :: l) L) (ovR (e :: c :: l) R) (ovU (e :: c :: l) U) sz rt tn := by
  intro n
  induction n with
  | zero => intro A B f st e o1 o2 J1 J2 L R U y hr h hB h1; omega
  | succ n ih =>
    intro A B f st e o1 o2 J1 J2 L R U y hr h hB h1 h2 h3 he he1 he2
    obtain ⟨f, rfl⟩ := Nat.exists_eq_succ_of_ne_zero (by omega : f ≠ 0)
    have k64 : ∀ j, J1 j = true ∨ J2 j = true → j < 64 := fun j hj => by have := h.bd hj; omega
    have s128 : ¬ (128 : Int32) ≤ nI st := nI_ge (b := 128) (by omega) (by decide)
    have nie : nI e = enc (some e) := rfl
    -- one is left: it is hung, and that is the end
    have last : ∀ c, c < 64 → c ≠ e → ∃ y', fX4_mergeByWeight_J114 (nI e) (nI c) y = Option.bind (fX3_resizeUpFrom (nI e) y') (fun q => some q) ∧ RepS y' (ovL [e, c] L) (ovR [e, c] R) (ovU [e, c] U) sz rt tn := by
      intro c hc hne
      obtain ⟨y1, f1, f2, f3⟩ := rs_hang hr hc (Bd_s he)
      refine ⟨y1, by rw [fX4_mergeByWeight_J114, nie, f1, Option.bind_some], ?_⟩
      rw [ovL_c, ovR_c, ovU_c, ovL_1, ovR_1, ovU_1]
      by_cases q : c < e
      · rw [if_pos q, if_pos q, ← (hg_lt L R q).1]
        rw [(hg_lt L R q).2] at f2; exact f2
      · rw [if_neg q, if_neg q, ← (hg_gt L R q).2]
        rw [(hg_gt L R q).1] at f2; exact f2
    cases o1 with
    | none =>
      cases o2 with
      | none => rcases h.2.2.2 with q | q <;> exact absurd rfl q
      | some b =>
        have b64 := k64 b (Or.inr (h.top2 rfl))
        obtain ⟨y', g1, g2⟩ := last b b64 (fun q => by rw [← q, h.top2 rfl] at he2; cases he2)
        refine ⟨b, [], y', rfl, ?_, g2⟩
        rw [fX4_mergeByWeight_L11, if_neg s128, enc_n, if_pos rfl, fX4_mergeByWeight_J99, if_pos rfl, enc_s, g1]; rfl
    | some a =>
      have a64 := k64 a (Or.inl (h.top1 rfl))
      have ae : a ≠ e := fun q => by rw [← q, h.top1 rfl] at he1; cases he1
      cases o2 with
      | none =>
        obtain ⟨y', g1, g2⟩ := last a a64 ae
        refine ⟨a, [], y', rfl, ?_, g2⟩
        rw [fX4_mergeByWeight_L11, if_neg s128, enc_s, if_neg (nI_ne_m1 (by omega)), enc_n, if_pos rfl, fX4_mergeByWeight_J99, if_neg (nI_ne_m1 (by omega)), g1]; rfl
      | some b =>
        have b64 := k64 b (Or.inr (h.top2 rfl))
        have be : b ≠ e := fun q => by rw [← q, h.top2 rfl] at he2; cases he2
        have wa := wt_lt a
        have wb := wt_lt b
        by_cases q : wt b < wt a
        · obtain ⟨m1, m2, m3, m4, m5⟩ := h.left
          obtain ⟨y1, f1, f2, f3⟩ := rs_hang hr a64 (Bd_s he)
          rw [if_neg (show (some e : Option Nat) ≠ none by simp)] at f2
          -- in the pieces nothing has changed
          have inJ : ∀ k, jGt J1 a k = true ∨ J2 k = true → k ≠ e ∧ k ≠ a := fun k hk => by
            refine ⟨fun w => ?_, fun w => ?_⟩
            · rcases hk with z | z
              · rw [w] at z; have := (jGt_i.mp z).1; rw [he1] at this; cases this
              · rw [w, he2] at z; cases z
            · have := m1.bd hk; omega
          have cL : ∀ k, jGt J1 a k = true ∨ J2 k = true → hgL L a (some e) k = L k := fun k hk => by
            rw [hgL, if_neg (fun w => (inJ k hk).1 (Option.some.inj w.1).symm)]
          have cR : ∀ k, jGt J1 a k = true ∨ J2 k = true → hgR R a (some e) k = R k := fun k hk => by
            rw [hgR, if_neg (fun w => (inJ k hk).1 (Option.some.inj w.1).symm)]
          have cU' : ∀ k, jGt J1 a k = true ∨ J2 k = true → va_up U a (some e) k = U k := fun k hk => vu_ne (inJ k hk).2
          have eR : fX3_rightOf (nI a) y1 = some (enc (R a)) := by
            have := rs_right f2 (Bd_s a64)
            rw [enc_s, Option.bind_some, hgR, if_neg (fun w => ae (Option.some.inj w.1).symm)] at this; exact this
          obtain ⟨c, l, y', g1, g2, g3⟩ := ih _ _ f (st + 1) a _ _ _ _ _ _ _ y1 f2 (m1.congr cL cR cU') hB (by omega) (by omega) (by omega) a64 (by
            cases w : jGt J1 a a with
            | false => rfl
            | true => have := (jGt_i.mp w).2; omega) (by
            cases w : J2 a with
            | false => rfl
            | true => have := h.2.2.1 a a m4 w; omega)
          rw [msq_congr n _ _ _ _ _ _ m1 cL cR] at g1
          have memc : ∀ j, j ∈ c :: l → jGt J1 a j = true ∨ J2 j = true := fun j hj => msq_mem n _ _ _ _ _ _ m1 j (by rw [g1]; exact hj)
          have e1 : e ∉ a :: c :: l := fun w => by
            rcases List.mem_cons.mp w with z | z
            · exact ae z.symm
            · exact (inJ e (memc e z)).1 rfl
          have e2 : a ∉ c :: l := fun w => (inJ a (memc a w)).2 rfl
          refine ⟨a, c :: l, y', by rw [msq_2, if_pos (chW_t.mpr q), g1], ?_, ?_⟩
          · rw [fX4_mergeByWeight_L11, if_neg s128, enc_s, if_neg (nI_ne_m1 (by omega)), enc_s, if_neg (nI_ne_m1 (by omega)), weight5 a64, Option.bind_some, weight5 b64, Option.bind_some, if_neg (nI_ge q (by omega)), nie, f1, Option.bind_some, eR, Option.bind_some, fX4_mergeByWeight_J93, px_let, nI_1, ← enc_s b, g2, pen_3]
          · rw [ovU_cm a (some e) (c :: l) a e2] at g3
            rw [ovU_c]
            by_cases z : a < e
            · rw [(hg_lt L R z).1, (hg_lt L R z).2, ovL_cm e (some a) _ e1] at g3
              rw [ovL_c, ovR_c, if_pos z, if_pos z]; exact g3
            · rw [(hg_gt L R z).1, (hg_gt L R z).2, ovR_cm e (some a) _ e1] at g3
              rw [ovL_c, ovR_c, if_neg z, if_neg z]; exact g3
        · obtain ⟨m1, m2, m3, m4, m5⟩ := h.right
          obtain ⟨y1, f1, f2, f3⟩ := rs_hang hr b64 (Bd_s he)
          rw [if_neg (show (some e : Option Nat) ≠ none by simp)] at f2
          have inJ : ∀ k, J1 k = true ∨ jLt J2 b k = true → k ≠ e ∧ k ≠ b := fun k hk => by
            refine ⟨fun w => ?_, fun w => ?_⟩
            · rcases hk with z | z
              · rw [w, he1] at z; cases z
              · rw [w] at z; have := (jLt_i.mp z).1; rw [he2] at this; cases this
            · have := m1.bd hk; omega
          have cL : ∀ k, J1 k = true ∨ jLt J2 b k = true → hgL L b (some e) k = L k := fun k hk => by
            rw [hgL, if_neg (fun w => (inJ k hk).1 (Option.some.inj w.1).symm)]
          have cR : ∀ k, J1 k = true ∨ jLt J2 b k = true → hgR R b (some e) k = R k := fun k hk => by
            rw [hgR, if_neg (fun w => (inJ k hk).1 (Option.some.inj w.1).symm)]
          have cU' : ∀ k, J1 k = true ∨ jLt J2 b k = true → va_up U b (some e) k = U k := fun k hk => vu_ne (inJ k hk).2
          have eL : fX3_leftOf (nI b) y1 = some (enc (L b)) := by
            have := rs_left f2 (Bd_s b64)
            rw [enc_s, Option.bind_some, hgL, if_neg (fun w => be (Option.some.inj w.1).symm)] at this; exact this
          obtain ⟨c, l, y', g1, g2, g3⟩ := ih _ _ f (st + 1) b _ _ _ _ _ _ _ y1 f2 (m1.congr cL cR cU') (by omega) (by omega) (by omega) (by omega) b64 (by
            cases w : J1 b with
            | false => rfl
            | true => have := h.2.2.1 b b w m4; omega) (by
            cases w : jLt J2 b b with
            | false => rfl
            | true => have := (jLt_i.mp w).2; omega)
          rw [msq_congr n _ _ _ _ _ _ m1 cL cR] at g1
          have memc : ∀ j, j ∈ c :: l → J1 j = true ∨ jLt J2 b j = true := fun j hj => msq_mem n _ _ _ _ _ _ m1 j (by rw [g1]; exact hj)
          have e1 : e ∉ b :: c :: l := fun w => by
            rcases List.mem_cons.mp w with z | z
            · exact be z.symm
            · exact (inJ e (memc e z)).1 rfl
          have e2 : b ∉ c :: l := fun w => (inJ b (memc b w)).2 rfl
          refine ⟨b, c :: l, y', by rw [msq_2, if_neg (fun w => q (chW_t.mp w)), g1], ?_, ?_⟩
          · rw [fX4_mergeByWeight_L11, if_neg s128, enc_s, if_neg (nI_ne_m1 (by omega)), enc_s, if_neg (nI_ne_m1 (by omega)), weight5 a64, Option.bind_some, weight5 b64, Option.bind_some, if_pos (nI_le (by omega) (by omega)), nie, f1, Option.bind_some, eL, Option.bind_some, fX4_mergeByWeight_J93, px_let, nI_1, ← enc_s a, g2, pen_3]
          · rw [ovU_cm b (some e) (c :: l) b e2] at g3
            rw [ovU_c]
            by_cases z : b < e
            · rw [(hg_lt L R z).1, (hg_lt L R z).2, ovL_cm e (some b) _ e1] at g3
              rw [ovL_c, ovR_c, if_pos z, if_pos z]; exact g3
            · rw [(hg_gt L R z).1, (hg_gt L R z).2, ovR_cm e (some b) _ e1] at g3
              rw [ovL_c, ovR_c, if_neg z, if_neg z]; exact g3
end HM
