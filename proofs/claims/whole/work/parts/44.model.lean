/-- which places of the reference's arrays belong to tree t -/
def inT (c t i : Nat) : Prop := if 4 ≤ c ∧ c ≤ 7 then 64 * t ≤ i ∧ i < 64 * t + 64 else if c = 13 then 100 * t ≤ i ∧ i < 100 * t + 100 else i = t
/-- only the ints is and the arrays cs have changed, of the trees' arrays only the places of tree t -/
def Fr (is cs : List Nat) (t : Nat) (x x' : Ob) : Prop := (∀ i, i ∉ is → x'.1 i = x.1 i) ∧ (∀ c, c ∉ cs → x'.2 c = x.2 c) ∧ (∀ c i, c < 14 → ¬ inT c t i → x'.2 c i = x.2 c i)
theorem Fr.rf (is cs : List Nat) (t : Nat) (x : Ob) : Fr is cs t x x := ⟨fun _ _ => rfl, fun _ _ => rfl, fun _ _ _ _ => rfl⟩
theorem Fr.tr {is cs : List Nat} {t : Nat} {x y z : Ob} (h1 : Fr is cs t x y) (h2 : Fr is cs t y z) : Fr is cs t x z := ⟨fun i h => (h2.1 i h).trans (h1.1 i h), fun c h => (h2.2.1 c h).trans (h1.2.1 c h), fun c i h h' => (h2.2.2 c i h h').trans (h1.2.2 c i h h')⟩
theorem Fr.mono {is cs is' cs' : List Nat} {t : Nat} {x y : Ob} (h : Fr is cs t x y) (h1 : ∀ i, i ∈ is → i ∈ is') (h2 : ∀ i, i ∈ cs → i ∈ cs') : Fr is' cs' t x y := ⟨fun i q => h.1 i (fun z => q (h1 i z)), fun c q => h.2.1 c (fun z => q (h2 c z)), h.2.2⟩
theorem Fr.a {cs : List Nat} (is : List Nat) {c t i : Nat} (x : Ob) (v : Int32) (hc : c ∈ cs) (hi : inT c t i) : Fr is cs t x (ob_a x c i v) := by
  refine ⟨fun _ _ => rfl, fun d hd => ?_, fun d j _ hj => ?_⟩
  · show va_up x.2 c _ d = x.2 d
    rw [vup_at, if_neg (fun e : d = c => hd (by rw [e]; exact hc))]
  · show va_up x.2 c _ d j = x.2 d j
    rw [vup_at]
    by_cases e : d = c
    · subst e
      rw [if_pos rfl, upd_at, if_neg (fun e2 : j = i => hj (by rw [e2]; exact hi))]
    · rw [if_neg e]
theorem Fr.i {is : List Nat} (cs : List Nat) (t : Nat) {k : Nat} (x : Ob) (v : Int32) (hk : k ∈ is) : Fr is cs t x (ob_i x k v) := by
  refine ⟨fun j hj => ?_, fun _ _ => rfl, fun _ _ _ _ => rfl⟩
  show va_up x.1 k v j = x.1 j
  rw [vup_at, if_neg (fun e : j = k => hj (by rw [e]; exact hk))]
/-- the part of array c that is tree t's -/
def sl (x : Ob) (c t : Nat) : Nat → Int32 := fun k => x.2 c (64 * t + k)
theorem sl_a (x : Ob) (c t j : Nat) (v : Int32) : sl (ob_a x c (64 * t + j) v) c t = upd (sl x c t) j v := by
  funext k
  show va_up x.2 c _ c (64 * t + k) = _
  rw [vup_at, if_pos rfl, upd_at, upd_at]
  by_cases e : k = j
  · rw [if_pos (by rw [e]), if_pos e]
  · rw [if_neg (by omega), if_neg e]; rfl
theorem sl_n (x : Ob) {c d : Nat} (t i : Nat) (v : Int32) (h : c ≠ d) : sl (ob_a x d i v) c t = sl x c t := by
  funext k
  show va_up x.2 d _ c (64 * t + k) = _
  rw [vup_at, if_neg h]; rfl
theorem ar_a (x : Ob) (c i : Nat) (v : Int32) : (ob_a x c i v).2 c = upd (x.2 c) i v := by
  show va_up x.2 c _ c = _
  rw [vup_at, if_pos rfl]
theorem ar_n (x : Ob) {c d : Nat} (i : Nat) (v : Int32) (h : c ≠ d) : (ob_a x d i v).2 c = x.2 c := by
  show va_up x.2 d _ c = _
  rw [vup_at, if_neg h]
theorem i64 {t k : Nat} : (64 : Int32) * nI t + nI k = nI (64 * t + k) := by
  show nI 64 * nI t + nI k = _
  rw [pk_mul, nI_add]
theorem ix6 {β : Type} {t k : Nat} {K : Nat → Option β} (ht : t < 8) (hk : k < 64) : ix ((64) * nI t + nI k) 512 K = K (64 * t + k) := by
  rw [i64, ix_nI (by omega) (by decide)]
theorem inT4 {c t k : Nat} (h : 4 ≤ c ∧ c ≤ 7) (hk : k < 64) : inT c t (64 * t + k) := by
  unfold inT; rw [if_pos h]; omega
theorem inT1 {c t : Nat} (h : ¬ (4 ≤ c ∧ c ≤ 7)) (h2 : c ≠ 13) : inT c t t := by
  unfold inT; rw [if_neg h, if_neg h2]
def RepM (x : Ob) (t : Nat) (L R U : Nat → Option Nat) (rt : Option Nat) (I : Nat → Bool) : Prop :=
  (∀ k, k < 64 → sl x 7 t k = if I k = true then 1 else 0) ∧ (∀ k, I k = true → sl x 5 t k = enc (L k)) ∧ (∀ k, I k = true → sl x 6 t k = enc (R k)) ∧ (∀ k, I k = true → sl x 4 t k = enc (U k)) ∧ x.2 3 t = enc rt
section RM
variable {x : Ob} {t : Nat} {L R U : Nat → Option Nat} {rt : Option Nat} {I : Nat → Bool} {lo hi : Nat → Nat}
theorem rm_hangsL {a : Option Nat} {b : Nat} (ht : t < 8) (ha : Bd a) (hb : b < 64) : ∃ x', fX6_hangsLeft (nI t) (enc a) (nI b) x = some x' ∧ sl x' 5 t = upd (sl x 5 t) b (enc a) ∧ sl x' 4 t = op (sl x 4 t) a (nI b) ∧ sl x' 6 t = sl x 6 t ∧ sl x' 7 t = sl x 7 t ∧ Fr [] [4, 5] t x x' := by
  cases a with
  | none =>
    have e1 : fX6_hangsLeft (nI t) (enc none) (nI b) x = some (ob_a x 5 (64 * t + b) (enc none)) := by
      rw [fX6_hangsLeft, ix6 ht hb, px_let, enc_n, if_pos m1_lt]
    exact ⟨_, e1, sl_a _ _ _ _ _, sl_n _ _ _ _ (by decide), sl_n _ _ _ _ (by decide), sl_n _ _ _ _ (by decide), Fr.a _ _ _ (by decide) (inT4 (by decide) hb)⟩
  | some c =>
    have hc := ha c rfl
    have e1 : fX6_hangsLeft (nI t) (enc (some c)) (nI b) x = some (ob_a (ob_a x 5 (64 * t + b) (nI c)) 4 (64 * t + c) (nI b)) := by
      rw [fX6_hangsLeft, ix6 ht hb, px_let, enc_s, if_neg (nI_pos (by omega)), ix6 ht hc, px_let]
    refine ⟨_, e1, ?_, ?_, ?_, ?_, ?_⟩
    · rw [sl_n _ _ _ _ (by decide), sl_a]; rfl
    · rw [sl_a, sl_n _ _ _ _ (by decide)]; rfl
    · rw [sl_n _ _ _ _ (by decide), sl_n _ _ _ _ (by decide)]
    · rw [sl_n _ _ _ _ (by decide), sl_n _ _ _ _ (by decide)]
    · exact (Fr.a _ _ _ (by decide) (inT4 (by decide) hb)).tr (Fr.a _ _ _ (by decide) (inT4 (by decide) hc))
theorem rm_hangsR {a : Option Nat} {b : Nat} (ht : t < 8) (ha : Bd a) (hb : b < 64) : ∃ x', fX6_hangsRight (nI t) (enc a) (nI b) x = some x' ∧ sl x' 6 t = upd (sl x 6 t) b (enc a) ∧ sl x' 4 t = op (sl x 4 t) a (nI b) ∧ sl x' 5 t = sl x 5 t ∧ sl x' 7 t = sl x 7 t ∧ Fr [] [4, 6] t x x' := by
  cases a with
  | none =>
    have e1 : fX6_hangsRight (nI t) (enc none) (nI b) x = some (ob_a x 6 (64 * t + b) (enc none)) := by
      rw [fX6_hangsRight, ix6 ht hb, px_let, enc_n, if_pos m1_lt]
    exact ⟨_, e1, sl_a _ _ _ _ _, sl_n _ _ _ _ (by decide), sl_n _ _ _ _ (by decide), sl_n _ _ _ _ (by decide), Fr.a _ _ _ (by decide) (inT4 (by decide) hb)⟩
  | some c =>
    have hc := ha c rfl
    have e1 : fX6_hangsRight (nI t) (enc (some c)) (nI b) x = some (ob_a (ob_a x 6 (64 * t + b) (nI c)) 4 (64 * t + c) (nI b)) := by
      rw [fX6_hangsRight, ix6 ht hb, px_let, enc_s, if_neg (nI_pos (by omega)), ix6 ht hc, px_let]
    refine ⟨_, e1, ?_, ?_, ?_, ?_, ?_⟩
    · rw [sl_n _ _ _ _ (by decide), sl_a]; rfl
    · rw [sl_a, sl_n _ _ _ _ (by decide)]; rfl
    · rw [sl_n _ _ _ _ (by decide), sl_n _ _ _ _ (by decide)]
    · rw [sl_n _ _ _ _ (by decide), sl_n _ _ _ _ (by decide)]
    · exact (Fr.a _ _ _ (by decide) (inT4 (by decide) hb)).tr (Fr.a _ _ _ (by decide) (inT4 (by decide) hc))
theorem rm_tp_J {a : Option Nat} {g : Int32} (ht : t < 8) (ha : Bd a) : ∃ x', fX6_takesPlace_J73 (nI t) (enc a) g x = some x' ∧ sl x' 4 t = op (sl x 4 t) a g ∧ sl x' 5 t = sl x 5 t ∧ sl x' 6 t = sl x 6 t ∧ sl x' 7 t = sl x 7 t ∧ x'.2 3 = x.2 3 ∧ Fr [] [4] t x x' := by
  cases a with
  | none =>
    have e1 : fX6_takesPlace_J73 (nI t) (enc none) g x = some x := by rw [fX6_takesPlace_J73, enc_n, if_pos m1_lt]
    exact ⟨_, e1, rfl, rfl, rfl, rfl, rfl, Fr.rf _ _ _ _⟩
  | some c =>
    have hc := ha c rfl
    have e1 : fX6_takesPlace_J73 (nI t) (enc (some c)) g x = some (ob_a x 4 (64 * t + c) g) := by
      rw [fX6_takesPlace_J73, enc_s, if_neg (nI_pos (by omega)), ix6 ht hc, px_let]
    exact ⟨_, e1, sl_a _ _ _ _ _, sl_n _ _ _ _ (by decide), sl_n _ _ _ _ (by decide), sl_n _ _ _ _ (by decide), ar_n _ _ _ (by decide), Fr.a _ _ _ (by decide) (inT4 (by decide) hc)⟩
/-- takesPlace(u, a): a comes where u hung -/
theorem rm_tp (hw : WF L R U rt I lo hi) (hr : RepM x t L R U rt I) (ht : t < 8) {u : Nat} {a : Option Nat} (hu : I u = true) (ha : Bd a) : ∃ x', fX6_takesPlace (nI t) (nI u) (enc a) x = some x' ∧
    (∀ j, sl x' 5 t j = if U u = some j ∧ u < j then enc a else sl x 5 t j) ∧ (∀ j, sl x' 6 t j = if U u = some j ∧ j < u then enc a else sl x 6 t j) ∧ sl x' 4 t = op (sl x 4 t) a (enc (U u)) ∧ sl x' 7 t = sl x 7 t ∧ x'.2 3 t = (if U u = none then enc a else x.2 3 t) ∧ Fr [] [3, 4, 5, 6] t x x' := by
  have hu64 := (hw.1 u hu).1
  have eU : x.2 4 (64 * t + u) = enc (U u) := hr.2.2.2.1 u hu
  cases hg : U u with
  | none =>
    obtain ⟨x', f1, a1, a2, a3, a4, a5, a6⟩ := rm_tp_J (x := ob_a x 3 t (enc a)) (g := enc none) ht ha
    refine ⟨x', ?_, ?_, ?_, ?_, ?_, ?_, ?_⟩
    · rw [fX6_takesPlace, ix6 ht hu64, px_let, eU, hg, if_neg (by decide), ix_nI ht (by decide), px_let]; exact f1
    · intro j; rw [a2, if_neg (by simp), sl_n _ _ _ _ (by decide)]
    · intro j; rw [a3, if_neg (by simp), sl_n _ _ _ _ (by decide)]
    · rw [a1, sl_n _ _ _ _ (by decide)]
    · rw [a4, sl_n _ _ _ _ (by decide)]
    · rw [a5, ar_a, upd_at, if_pos rfl, if_pos rfl]
    · exact (Fr.a _ _ _ (by decide) (inT1 (by decide) (by decide))).tr (a6.mono (fun _ h => h) (by decide))
  | some p =>
    obtain ⟨hIp, hp64, -, hside⟩ := hw.side hu hg
    have eL : x.2 5 (64 * t + p) = enc (L p) := hr.2.1 p hIp
    have hps : enc (some p) = nI p := rfl
    by_cases hlt : u < p
    · have hL : L p = some u := by
        rcases hside with q | q
        · exact q.2.1
        · omega
      obtain ⟨x', f1, a1, a2, a3, a4, a5, a6⟩ := rm_tp_J (x := ob_a x 5 (64 * t + p) (enc a)) (g := nI p) ht ha
      refine ⟨x', ?_, ?_, ?_, ?_, ?_, ?_, ?_⟩
      · rw [fX6_takesPlace, ix6 ht hu64, px_let, eU, hg, hps, if_pos (nI_pos' (by omega)), ix6 ht hp64, eL, hL, enc_s, if_pos rfl, ix6 ht hp64, px_let]; exact f1
      · intro j
        rw [a2, sl_a, upd_at]
        by_cases e : j = p
        · rw [if_pos e, if_pos ⟨by rw [e], by omega⟩]
        · rw [if_neg e, if_neg (fun q => e (Option.some.inj q.1).symm)]
      · intro j; rw [a3, sl_n _ _ _ _ (by decide), if_neg (fun q => by obtain ⟨q1, q2⟩ := q; cases q1; omega)]
      · rw [a1, sl_n _ _ _ _ (by decide), hps]
      · rw [a4, sl_n _ _ _ _ (by decide)]
      · rw [a5, ar_n _ _ _ (by decide), if_neg (by simp)]
      · exact (Fr.a _ _ _ (by decide) (inT4 (by decide) hp64)).tr (a6.mono (fun _ h => h) (by decide))
    · have hR : R p = some u ∧ p < u := by
        rcases hside with q | q
        · omega
        · exact ⟨q.2.1, q.1⟩
      have hLne : L p ≠ some u := fun e => by have := (hw.2.1 p u hIp e).2.2.2; have := hw.1 u hu; omega
      have hbl : Bd (L p) := fun c hc => (hw.1 c (hw.2.1 p c hIp hc).1).1
      obtain ⟨x', f1, a1, a2, a3, a4, a5, a6⟩ := rm_tp_J (x := ob_a x 6 (64 * t + p) (enc a)) (g := nI p) ht ha
      refine ⟨x', ?_, ?_, ?_, ?_, ?_, ?_, ?_⟩
      · rw [fX6_takesPlace, ix6 ht hu64, px_let, eU, hg, hps, if_pos (nI_pos' (by omega)), ix6 ht hp64, eL, ← enc_s u, if_neg (fun e => hLne ((enc_eq hbl (Bd_s hu64)).mp e)), ix6 ht hp64, px_let]; exact f1
      · intro j; rw [a2, sl_n _ _ _ _ (by decide), if_neg (fun q => by obtain ⟨q1, q2⟩ := q; cases q1; exact hlt q2)]
      · intro j
        rw [a3, sl_a, upd_at]
        by_cases e : j = p
        · rw [if_pos e, if_pos ⟨by rw [e], by omega⟩]
        · rw [if_neg e, if_neg (fun q => e (Option.some.inj q.1).symm)]
      · rw [a1, sl_n _ _ _ _ (by decide), hps]
      · rw [a4, sl_n _ _ _ _ (by decide)]
      · rw [a5, ar_n _ _ _ (by decide), if_neg (by simp)]
      · exact (Fr.a _ _ _ (by decide) (inT4 (by decide) hp64)).tr (a6.mono (fun _ h => h) (by decide))
set_option maxHeartbeats 4000000 in
theorem rm_turn (hw : WF L R U rt I lo hi) (hr : RepM x t L R U rt I) (ht : t < 8) {k u : Nat} (hk : I k = true) (hu : U k = some u) :
    ∃ x', fX6_turn (nI t) (nI k) x = some x' ∧ RepM x' t (tL L k u (if k < u then R k else L k) (U u)) (tR R k u (if k < u then R k else L k) (U u)) (tU U k u (if k < u then R k else L k) (U u)) (if U u = none then some k else rt) I ∧ x'.2 9 t = x.2 9 t + 1 ∧ Fr [] [3, 4, 5, 6, 9] t x x' := by
  obtain ⟨hIu, hu64, hk64, hside⟩ := hw.side hk hu
  have hne : k ≠ u := by omega
  have hab := hw.above hk hu
  have eU : x.2 4 (64 * t + k) = enc (U k) := hr.2.2.2.1 k hk
  obtain ⟨x1, f1, a1, a2, a3, a4, a5, a6⟩ := rm_tp hw hr ht hIu (Bd_s hk64)
  rcases hside with ⟨hlt, hL, i1, i2⟩ | ⟨hlt, hR, i1, i2⟩
  · have bR : Bd (R k) := fun c hc => (hw.1 c (hw.2.2.1 k c hk hc).1).1
    have e6 : x1.2 6 (64 * t + k) = enc (R k) := by
      have := a2 k; rw [if_neg (fun q => (hab k q.1).2.1 rfl)] at this; exact this.trans (hr.2.2.1 k hk)
    obtain ⟨x2, f2, b1, b2, b3, b4, b5⟩ := rm_hangsL (x := x1) ht bR hu64
    obtain ⟨x3, f3, c1, c2, c3, c4, c5⟩ := rm_hangsR (x := x2) ht (Bd_s hu64) hk64
    have z9 : x3.2 9 = x.2 9 := by rw [c5.2.1 9 (by decide), b5.2.1 9 (by decide), a6.2.1 9 (by decide)]
    refine ⟨ob_a x3 9 t (x3.2 9 t + 1), ?_, ⟨?_, ?_, ?_, ?_, ?_⟩, ?_, ?_⟩
    · rw [fX6_turn, ix6 ht hk64, px_let, eU, hu, enc_s, ← enc_s k, f1, Option.bind_some, enc_s, if_neg (nI_ge hlt (by omega)), ix6 ht hk64, e6, f2, Option.bind_some, ← enc_s u, f3, Option.bind_some, fX6_turn_J75, ix_nI ht (by decide), ix_nI ht (by decide), px_let]
    · intro j hj; rw [sl_n _ _ _ _ (by decide), c4, b4, a4]; exact hr.1 j hj
    · intro j hj
      rw [sl_n _ _ _ _ (by decide), c3, b1, upd_at]
      simp only [tL, hlt, if_true]
      by_cases e : j = u
      · rw [if_pos e, if_pos e]
      · rw [if_neg e, if_neg e, a1]
        by_cases e2 : U u = some j ∧ u < j
        · rw [if_pos e2, if_pos e2]
        · rw [if_neg e2, if_neg e2]; exact hr.2.1 j hj
    · intro j hj
      rw [sl_n _ _ _ _ (by decide), c1, upd_at]
      simp only [tR, hlt, if_true]
      by_cases e : j = k
      · rw [if_pos e, if_pos e]
      · rw [if_neg e, if_neg e, b3, a2]
        by_cases e2 : U u = some j ∧ j < u
        · rw [if_pos e2, if_pos e2]
        · rw [if_neg e2, if_neg e2]; exact hr.2.2.1 j hj
    · intro j hj
      rw [sl_n _ _ _ _ (by decide), c2, b2, a3]
      show upd (op (upd (sl x 4 t) k (enc (U u))) (R k) (nI u)) u (nI k) j = _
      simp only [tU, hlt, if_true]
      rw [upd_at]
      by_cases eu : j = u
      · rw [if_pos eu, if_neg (by rw [eu]; exact Ne.symm hne), if_pos eu]; rfl
      · rw [if_neg eu]
        by_cases ek : j = k
        · subst ek
          rw [if_pos rfl]
          cases hb : R j with
          | none => show upd _ j _ j = _; rw [upd_at, if_pos rfl]
          | some c =>
            show upd (upd _ j _) c _ j = _
            rw [upd_at, if_neg, upd_at, if_pos rfl]
            intro e; have := (hw.2.2.1 j c hk hb).2.2.1; have := hw.1 c (hw.2.2.1 j c hk hb).1; omega
        · rw [if_neg ek, if_neg eu]
          cases hb : R k with
          | none => show upd _ k _ j = _; rw [upd_at, if_neg ek, if_neg (by simp)]; exact hr.2.2.2.1 j hj
          | some c =>
            show upd (upd _ k _) c _ j = _
            rw [upd_at]
            by_cases ec : j = c
            · rw [if_pos ec, if_pos (by rw [ec])]; rfl
            · rw [if_neg ec, if_neg (fun q => ec (Option.some.inj q).symm), upd_at, if_neg ek]; exact hr.2.2.2.1 j hj
    · rw [ar_n _ _ _ (by decide), c5.2.1 3 (by decide), b5.2.1 3 (by decide), a5]
      by_cases e : U u = none
      · rw [if_pos e, if_pos e]
      · rw [if_neg e, if_neg e]; exact hr.2.2.2.2
    · rw [ar_a, upd_at, if_pos rfl, z9]
    · exact (((a6.mono (fun _ h => h) (by decide)).tr (b5.mono (fun _ h => h) (by decide))).tr (c5.mono (fun _ h => h) (by decide))).tr (Fr.a _ _ _ (by decide) (inT1 (by decide) (by decide)))
  · have hnl : ¬ k < u := by omega
    have bL : Bd (L k) := fun c hc => (hw.1 c (hw.2.1 k c hk hc).1).1
    have e5 : x1.2 5 (64 * t + k) = enc (L k) := by
      have := a1 k; rw [if_neg (fun q => (hab k q.1).2.1 rfl)] at this; exact this.trans (hr.2.1 k hk)
    obtain ⟨x2, f2, b1, b2, b3, b4, b5⟩ := rm_hangsR (x := x1) ht bL hu64
    obtain ⟨x3, f3, c1, c2, c3, c4, c5⟩ := rm_hangsL (x := x2) ht (Bd_s hu64) hk64
    have z9 : x3.2 9 = x.2 9 := by rw [c5.2.1 9 (by decide), b5.2.1 9 (by decide), a6.2.1 9 (by decide)]
    refine ⟨ob_a x3 9 t (x3.2 9 t + 1), ?_, ⟨?_, ?_, ?_, ?_, ?_⟩, ?_, ?_⟩
    · rw [fX6_turn, ix6 ht hk64, px_let, eU, hu, enc_s, ← enc_s k, f1, Option.bind_some, enc_s, if_pos (nI_le (by omega) (by omega)), ix6 ht hk64, e5, f2, Option.bind_some, ← enc_s u, f3, Option.bind_some, fX6_turn_J75, ix_nI ht (by decide), ix_nI ht (by decide), px_let]
    · intro j hj; rw [sl_n _ _ _ _ (by decide), c4, b4, a4]; exact hr.1 j hj
    · intro j hj
      rw [sl_n _ _ _ _ (by decide), c1, upd_at]
      simp only [tL, hnl, if_false]
      by_cases e : j = k
      · rw [if_pos e, if_pos e]
      · rw [if_neg e, if_neg e, b3, a1]
        by_cases e2 : U u = some j ∧ u < j
        · rw [if_pos e2, if_pos e2]
        · rw [if_neg e2, if_neg e2]; exact hr.2.1 j hj
    · intro j hj
      rw [sl_n _ _ _ _ (by decide), c3, b1, upd_at]
      simp only [tR, hnl, if_false]
      by_cases e : j = u
      · rw [if_pos e, if_pos e]
      · rw [if_neg e, if_neg e, a2]
        by_cases e2 : U u = some j ∧ j < u
        · rw [if_pos e2, if_pos e2]
        · rw [if_neg e2, if_neg e2]; exact hr.2.2.1 j hj
    · intro j hj
      rw [sl_n _ _ _ _ (by decide), c2, b2, a3]
      show upd (op (upd (sl x 4 t) k (enc (U u))) (L k) (nI u)) u (nI k) j = _
      simp only [tU, hnl, if_false]
      rw [upd_at]
      by_cases eu : j = u
      · rw [if_pos eu, if_neg (by rw [eu]; exact Ne.symm hne), if_pos eu]; rfl
      · rw [if_neg eu]
        by_cases ek : j = k
        · subst ek
          rw [if_pos rfl]
          cases hb : L j with
          | none => show upd _ j _ j = _; rw [upd_at, if_pos rfl]
          | some c =>
            show upd (upd _ j _) c _ j = _
            rw [upd_at, if_neg, upd_at, if_pos rfl]
            intro e; have := (hw.2.1 j c hk hb).2.2.2; have := hw.1 c (hw.2.1 j c hk hb).1; omega
        · rw [if_neg ek, if_neg eu]
          cases hb : L k with
          | none => show upd _ k _ j = _; rw [upd_at, if_neg ek, if_neg (by simp)]; exact hr.2.2.2.1 j hj
          | some c =>
            show upd (upd _ k _) c _ j = _
            rw [upd_at]
            by_cases ec : j = c
            · rw [if_pos ec, if_pos (by rw [ec])]; rfl
            · rw [if_neg ec, if_neg (fun q => ec (Option.some.inj q).symm), upd_at, if_neg ek]; exact hr.2.2.2.1 j hj
    · rw [ar_n _ _ _ (by decide), c5.2.1 3 (by decide), b5.2.1 3 (by decide), a5]
      by_cases e : U u = none
      · rw [if_pos e, if_pos e]
      · rw [if_neg e, if_neg e]; exact hr.2.2.2.2
    · rw [ar_a, upd_at, if_pos rfl, z9]
    · exact (((a6.mono (fun _ h => h) (by decide)).tr (b5.mono (fun _ h => h) (by decide))).tr (c5.mono (fun _ h => h) (by decide))).tr (Fr.a _ _ _ (by decide) (inT1 (by decide) (by decide)))
end RM
