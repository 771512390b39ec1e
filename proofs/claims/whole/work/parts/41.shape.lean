/-- a link as an int: NONE is -1 -/
def enc (o : Option Nat) : Int32 := match o with
  | none => -1
  | some k => nI k
theorem enc_n : enc none = -1 := rfl
theorem enc_s (k : Nat) : enc (some k) = nI k := rfl
def Bd (o : Option Nat) : Prop := ∀ k, o = some k → k < 64
theorem Bd_n : Bd none := fun k h => by cases h
theorem Bd_s {k : Nat} (h : k < 64) : Bd (some k) := fun j e => by cases e; exact h
theorem m1_lt : (-1 : Int32) < 0 := by decide
theorem nI_ne_m1 {k : Nat} (h : k < 2 ^ 31) : ¬ nI k = -1 := fun e => nI_pos h (e ▸ m1_lt)
theorem enc_m1 {o : Option Nat} (h : Bd o) : enc o = -1 ↔ o = none := by
  cases o with
  | none => simp [enc]
  | some k => exact ⟨fun e => absurd e (nI_ne_m1 (by have := h k rfl; omega)), fun e => by cases e⟩
theorem enc_lt0 {o : Option Nat} (h : Bd o) : enc o < 0 ↔ o = none := by
  cases o with
  | none => simp [enc]
  | some k => exact ⟨fun e => absurd e (nI_pos (by have := h k rfl; omega)), fun e => by cases e⟩
theorem enc_ge0 {o : Option Nat} (h : Bd o) : 0 ≤ enc o ↔ ¬ o = none := by
  rw [← enc_lt0 h, Int32.not_lt]
theorem enc_eq {a b : Option Nat} (ha : Bd a) (hb : Bd b) : enc a = enc b ↔ a = b := by
  cases a with
  | none => rw [eq_comm, enc_n, enc_m1 hb, eq_comm]
  | some j =>
    cases b with
    | none => rw [enc_n, enc_m1 ha]
    | some k => rw [enc_s, enc_s, nI_eq (by have := ha j rfl; omega) (by have := hb k rfl; omega)]; simp
theorem ix_nI {β : Type} {k n : Nat} {K : Nat → Option β} (h : k < n) (hn : n < 2 ^ 31) : ix (nI k) n K = K k := by
  unfold ix
  rw [if_neg (nI_in h hn), nI_clamp (by omega)]
/-- a value of a row at a link -/
def og (f : Nat → Int32) (o : Option Nat) : Int32 := match o with
  | none => -1
  | some k => f k
/-- a row written at a link -/
def op (f : Nat → Int32) (o : Option Nat) (v : Int32) : Nat → Int32 := match o with
  | none => f
  | some k => upd f k v
def ou (f : Nat → Option Nat) (o : Option Nat) (v : Option Nat) : Nat → Option Nat := match o with
  | none => f
  | some k => va_up f k v
def szo (sz : Nat → Nat) (o : Option Nat) : Nat := match o with
  | none => 0
  | some k => sz k
theorem at_in {n k : Nat} {f : Nat → Int32} (h : k < n) (hn : n < 2 ^ 31) : fX5_at n (nI k) f = some (f k) := by
  rw [fX5_at, if_neg (nI_pos (by omega)), if_neg (nI_ge h hn), ix_nI h hn]
theorem at_m1 {n : Nat} {f : Nat → Int32} : fX5_at n (-1) f = some (-1) := by
  rw [fX5_at, if_pos m1_lt]
theorem at_enc {f : Nat → Int32} {o : Option Nat} (h : Bd o) : fX5_at 64 (enc o) f = some (og f o) := by
  cases o with
  | none => exact at_m1
  | some k => exact at_in (h k rfl) (by decide)
theorem put_in {n k : Nat} {f : Nat → Int32} {v : Int32} (h : k < n) (hn : n < 2 ^ 31) : fX5_put n (nI k) v f = some (upd f k v) := by
  rw [fX5_put, if_neg (nI_pos (by omega)), if_neg (nI_ge h hn), ix_nI h hn]; rfl
theorem put_m1 {n : Nat} {f : Nat → Int32} {v : Int32} : fX5_put n (-1) v f = some f := by
  rw [fX5_put, if_pos m1_lt]
theorem put_enc {f : Nat → Int32} {o : Option Nat} {v : Int32} (h : Bd o) : fX5_put 64 (enc o) v f = some (op f o v) := by
  cases o with
  | none => exact put_m1
  | some k => exact put_in (h k rfl) (by decide)
theorem upd_at (f : Nat → Int32) (k j : Nat) (v : Int32) : upd f k v j = if j = k then v else f j := rfl
theorem vup_at {α : Type} (f : Nat → α) (k j : Nat) (v : α) : va_up f k v j = if j = k then v else f j := rfl
/-- what a Shape holds, as links and numbers -/
def RepS (y : Ob) (L R U : Nat → Option Nat) (sz : Nat → Nat) (rt : Option Nat) (tn : Int32) : Prop :=
  (∀ k, k < 64 → y.2 0 k = enc (L k)) ∧ (∀ k, k < 64 → y.2 1 k = enc (R k)) ∧ (∀ k, k < 64 → y.2 2 k = enc (U k)) ∧ (∀ k, k < 64 → y.2 3 k = nI (sz k)) ∧ y.1 5 = enc rt ∧ y.1 6 = tn
theorem RepS.congr {y : Ob} {L R U L' R' U' : Nat → Option Nat} {sz sz' : Nat → Nat} {rt rt' : Option Nat} {tn tn' : Int32} (h : RepS y L R U sz rt tn) (h1 : ∀ k, k < 64 → L k = L' k) (h2 : ∀ k, k < 64 → R k = R' k) (h3 : ∀ k, k < 64 → U k = U' k) (h4 : ∀ k, k < 64 → sz k = sz' k) (h5 : rt = rt') (h6 : tn = tn') : RepS y L' R' U' sz' rt' tn' := by
  obtain ⟨a1, a2, a3, a4, a5, a6⟩ := h
  exact ⟨fun k hk => by rw [← h1 k hk]; exact a1 k hk, fun k hk => by rw [← h2 k hk]; exact a2 k hk, fun k hk => by rw [← h3 k hk]; exact a3 k hk, fun k hk => by rw [← h4 k hk]; exact a4 k hk, by rw [← h5]; exact a5, by rw [← h6]; exact a6⟩
section SH
variable {y : Ob} {L R U : Nat → Option Nat} {sz : Nat → Nat} {rt : Option Nat} {tn : Int32}
theorem og_enc {f : Nat → Int32} {g : Nat → Option Nat} (h : ∀ k, k < 64 → f k = enc (g k)) {o : Option Nat} (ho : Bd o) : og f o = enc (o.bind g) := by
  cases o with
  | none => rfl
  | some k => exact h k (ho k rfl)
theorem op_enc {f : Nat → Int32} {g : Nat → Option Nat} (h : ∀ k, k < 64 → f k = enc (g k)) (o v : Option Nat) : ∀ k, k < 64 → op f o (enc v) k = enc (ou g o v k) := by
  intro k hk
  cases o with
  | none => exact h k hk
  | some j =>
    show upd f j (enc v) k = enc (va_up g j v k)
    rw [upd_at, vup_at]
    by_cases e : k = j
    · rw [if_pos e, if_pos e]
    · rw [if_neg e, if_neg e]; exact h k hk
theorem rs_left (h : RepS y L R U sz rt tn) {o : Option Nat} (ho : Bd o) : fX3_leftOf (enc o) y = some (enc (o.bind L)) := by
  rw [fX3_leftOf, at_enc ho, Option.bind_some, og_enc h.1 ho]
theorem rs_right (h : RepS y L R U sz rt tn) {o : Option Nat} (ho : Bd o) : fX3_rightOf (enc o) y = some (enc (o.bind R)) := by
  rw [fX3_rightOf, at_enc ho, Option.bind_some, og_enc h.2.1 ho]
theorem rs_up (h : RepS y L R U sz rt tn) {o : Option Nat} (ho : Bd o) : fX3_upOf (enc o) y = some (enc (o.bind U)) := by
  rw [fX3_upOf, at_enc ho, Option.bind_some, og_enc h.2.2.1 ho]
theorem rs_size (h : RepS y L R U sz rt tn) {o : Option Nat} (ho : Bd o) : fX3_sizeOf (enc o) y = some (nI (szo sz o)) := by
  cases o with
  | none => rw [fX3_sizeOf, enc_n, if_pos m1_lt]; rfl
  | some k =>
    have hk := ho k rfl
    rw [fX3_sizeOf, enc_s, if_neg (nI_pos (by omega)), if_neg (nI_ge hk (by decide)), ix_nI hk (by decide), h.2.2.2.1 k hk]; rfl
theorem rs_hangL (h : RepS y L R U sz rt tn) {a b : Option Nat} (ha : Bd a) (hb : Bd b) : ∃ y', fX3_hangLeft (enc a) (enc b) y = some y' ∧ RepS y' (ou L b a) R (ou U a b) sz rt tn ∧ y'.2 4 = y.2 4 := by
  refine ⟨_, by rw [fX3_hangLeft, put_enc hb, Option.bind_some, px_let, put_enc ha, Option.bind_some, px_let], ⟨?_, ?_, ?_, ?_, ?_, ?_⟩, ?_⟩
  · exact op_enc h.1 b a
  · exact h.2.1
  · exact op_enc h.2.2.1 a b
  · exact h.2.2.2.1
  · exact h.2.2.2.2.1
  · exact h.2.2.2.2.2
  · rfl
theorem rs_hangR (h : RepS y L R U sz rt tn) {a b : Option Nat} (ha : Bd a) (hb : Bd b) : ∃ y', fX3_hangRight (enc a) (enc b) y = some y' ∧ RepS y' L (ou R b a) (ou U a b) sz rt tn ∧ y'.2 4 = y.2 4 := by
  refine ⟨_, by rw [fX3_hangRight, put_enc hb, Option.bind_some, px_let, put_enc ha, Option.bind_some, px_let], ⟨?_, ?_, ?_, ?_, ?_, ?_⟩, ?_⟩
  · exact h.1
  · exact op_enc h.2.1 b a
  · exact op_enc h.2.2.1 a b
  · exact h.2.2.2.1
  · exact h.2.2.2.2.1
  · exact h.2.2.2.2.2
  · rfl
/-- where hang puts a key: at the root, on the left, on the right -/
def hgL (L : Nat → Option Nat) (a : Nat) (b : Option Nat) : Nat → Option Nat := fun j => if b = some j ∧ a < j then some a else L j
def hgR (R : Nat → Option Nat) (a : Nat) (b : Option Nat) : Nat → Option Nat := fun j => if b = some j ∧ ¬ a < j then some a else R j
theorem rs_hang (h : RepS y L R U sz rt tn) {a : Nat} {b : Option Nat} (ha : a < 64) (hb : Bd b) : ∃ y', fX3_hang (nI a) (enc b) y = some y' ∧ RepS y' (hgL L a b) (hgR R a b) (va_up U a b) sz (if b = none then some a else rt) tn ∧ y'.2 4 = y.2 4 := by
  have hU := op_enc h.2.2.1 (some a) b
  cases b with
  | none =>
    refine ⟨_, by rw [fX3_hang, put_in ha (by decide), Option.bind_some, px_let, enc_n, if_pos rfl, px_let], ⟨?_, ?_, ?_, ?_, ?_, ?_⟩, ?_⟩
    · intro k hk; rw [hgL, if_neg (by simp)]; exact h.1 k hk
    · intro k hk; rw [hgR, if_neg (by simp)]; exact h.2.1 k hk
    · exact hU
    · exact h.2.2.2.1
    · rfl
    · exact h.2.2.2.2.2
    · rfl
  | some c =>
    have hc := hb c rfl
    by_cases hac : a < c
    · refine ⟨_, by rw [fX3_hang, put_in ha (by decide), Option.bind_some, px_let, if_neg (fun e => by rw [enc_m1 hb] at e; cases e), enc_s, if_neg (nI_ge hac (by omega)), put_in hc (by decide), Option.bind_some, px_let], ⟨?_, ?_, ?_, ?_, ?_, ?_⟩, ?_⟩
      · intro k hk
        show upd (y.2 0) c (nI a) k = enc (hgL L a (some c) k)
        rw [upd_at, hgL]
        by_cases e : k = c
        · subst e; rw [if_pos rfl, if_pos ⟨rfl, hac⟩]; rfl
        · rw [if_neg e, if_neg (fun q => e (Option.some.inj q.1).symm)]; exact h.1 k hk
      · intro k hk
        rw [hgR, if_neg (fun q => by obtain ⟨q1, q2⟩ := q; cases q1; exact q2 hac)]; exact h.2.1 k hk
      · exact hU
      · exact h.2.2.2.1
      · rw [if_neg (by simp)]; exact h.2.2.2.2.1
      · exact h.2.2.2.2.2
      · rfl
    · refine ⟨_, by rw [fX3_hang, put_in ha (by decide), Option.bind_some, px_let, if_neg (fun e => by rw [enc_m1 hb] at e; cases e), enc_s, if_pos (nI_le (by omega) (by omega)), put_in hc (by decide), Option.bind_some, px_let], ⟨?_, ?_, ?_, ?_, ?_, ?_⟩, ?_⟩
      · intro k hk
        rw [hgL, if_neg (fun q => by obtain ⟨q1, q2⟩ := q; cases q1; exact hac q2)]; exact h.1 k hk
      · intro k hk
        show upd (y.2 1) c (nI a) k = enc (hgR R a (some c) k)
        rw [upd_at, hgR]
        by_cases e : k = c
        · subst e; rw [if_pos rfl, if_pos ⟨rfl, hac⟩]; rfl
        · rw [if_neg e, if_neg (fun q => e (Option.some.inj q.1).symm)]; exact h.2.1 k hk
      · exact hU
      · exact h.2.2.2.1
      · rw [if_neg (by simp)]; exact h.2.2.2.2.1
      · exact h.2.2.2.2.2
      · rfl
theorem rs_resize (h : RepS y L R U sz rt tn) (hL : ∀ k, Bd (L k)) (hR : ∀ k, Bd (R k)) {k : Nat} (hk : k < 64) : ∃ y', fX3_resize (nI k) y = some y' ∧ RepS y' L R U (va_up sz k (1 + szo sz (L k) + szo sz (R k))) rt tn ∧ y'.2 4 = y.2 4 := by
  have e1 : fX3_resize (nI k) y = some (ob_f y 3 (upd (y.2 3) k (1 + nI (szo sz (L k)) + nI (szo sz (R k))))) := by
    rw [fX3_resize, at_in hk (by decide), Option.bind_some, h.1 k hk, rs_size h (hL k), Option.bind_some, at_in hk (by decide), Option.bind_some, h.2.1 k hk, rs_size h (hR k), Option.bind_some, put_in hk (by decide), Option.bind_some, px_let]
  refine ⟨_, e1, ⟨h.1, h.2.1, h.2.2.1, ?_, h.2.2.2.2⟩, rfl⟩
  intro j hj
  show upd (y.2 3) k _ j = _
  rw [upd_at, vup_at]
  by_cases e : j = k
  · rw [if_pos e, if_pos e]
    show (nI 1 + nI _) + nI _ = _
    rw [nI_add, nI_add]
  · rw [if_neg e, if_neg e]; exact h.2.2.2.1 j hj
end SH
