/-! THE PURE SIDE. A tree of keys below 64: links L, R, U, root rt, which keys are in (I), and for each key in it the interval [lo, hi) of keys that may hang on it -/
def WF (L R U : Nat → Option Nat) (rt : Option Nat) (I : Nat → Bool) (lo hi : Nat → Nat) : Prop :=
  (∀ k, I k = true → k < 64 ∧ lo k ≤ k ∧ k < hi k ∧ hi k ≤ 64) ∧
  (∀ k c, I k = true → L k = some c → I c = true ∧ U c = some k ∧ lo c = lo k ∧ hi c = k) ∧
  (∀ k c, I k = true → R k = some c → I c = true ∧ U c = some k ∧ lo c = k + 1 ∧ hi c = hi k) ∧
  (∀ k j, I k = true → L k = none → I j = true → ¬ (lo k ≤ j ∧ j < k)) ∧
  (∀ k j, I k = true → R k = none → I j = true → ¬ (k < j ∧ j < hi k)) ∧
  (∀ k, I k = true → U k = none → rt = some k) ∧
  (∀ k u, I k = true → U k = some u → I u = true ∧ (L u = some k ∨ R u = some k)) ∧
  (∀ r, rt = some r → I r = true ∧ U r = none ∧ lo r = 0 ∧ hi r = 64) ∧
  (rt = none → ∀ j, I j = false)
section TurnDefs
variable (L R U : Nat → Option Nat) (rt : Option Nat) (lo hi : Nat → Nat) (k u : Nat) (b g : Option Nat)
def tL : Nat → Option Nat := fun j => if k < u then (if j = u then b else if g = some j ∧ u < j then some k else L j) else (if j = k then some u else if g = some j ∧ u < j then some k else L j)
def tR : Nat → Option Nat := fun j => if k < u then (if j = k then some u else if g = some j ∧ j < u then some k else R j) else (if j = u then b else if g = some j ∧ j < u then some k else R j)
def tU : Nat → Option Nat := fun j => if j = k then g else if j = u then some k else if b = some j then some u else U j
def tlo : Nat → Nat := fun j => if j = k then lo u else if j = u ∧ k < u then k + 1 else lo j
def thi : Nat → Nat := fun j => if j = k then hi u else if j = u ∧ ¬ k < u then k else hi j
end TurnDefs
set_option maxHeartbeats 4000000 in
theorem WF.turn {L R U : Nat → Option Nat} {rt : Option Nat} {I : Nat → Bool} {lo hi : Nat → Nat} (h : WF L R U rt I lo hi) {k u : Nat} (hk : I k = true) (hu : U k = some u) :
    WF (tL L k u (if k < u then R k else L k) (U u)) (tR R k u (if k < u then R k else L k) (U u)) (tU U k u (if k < u then R k else L k) (U u)) (if U u = none then some k else rt) I (tlo lo k u) (thi hi k u) := by
  obtain ⟨h1, h2, h3, h4, h5, h6, h7, h8, h9⟩ := h
  obtain ⟨hIu, hs⟩ := h7 k u hk hu
  rcases hs with hs | hs
  · obtain ⟨-, -, e1, e2⟩ := h2 u k hIu hs
    have hlt : k < u := by have := h1 k hk; omega
    refine ⟨?_, ?_, ?_, ?_, ?_, ?_, ?_, ?_, ?_⟩ <;> (try simp only [tL, tR, tU, tlo, thi, hlt, if_true, and_true, not_true_eq_false, and_false, if_false])
    · grind
    · grind
    · grind
    · clear h2 h3 h6 h7 h8 h9; grind
    · clear h2 h3 h6 h7 h8 h9; grind
    · grind
    · grind
    · grind
    · intro hn j
      by_cases hg : U u = none
      · rw [if_pos hg] at hn; cases hn
      · rw [if_neg hg] at hn; exact h9 hn j
  · obtain ⟨-, -, e1, e2⟩ := h3 u k hIu hs
    have hlt : ¬ k < u := by have := h1 k hk; omega
    refine ⟨?_, ?_, ?_, ?_, ?_, ?_, ?_, ?_, ?_⟩ <;> (try simp only [tL, tR, tU, tlo, thi, hlt, if_true, and_true, not_true_eq_false, and_false, if_false, not_false_eq_true])
    · grind
    · grind
    · grind
    · clear h2 h3 h6 h7 h8 h9; grind
    · clear h2 h3 h6 h7 h8 h9; grind
    · grind
    · grind
    · grind
    · intro hn j
      by_cases hg : U u = none
      · rw [if_pos hg] at hn; cases hn
      · rw [if_neg hg] at hn; exact h9 hn j
